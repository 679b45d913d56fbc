abbrev xX11_luck : XX := (yX11_luck, cX11_luck, 7, (some .long), 4, 95, 0, 0)
theorem ck_X11_luck_94 : CKV xX11_luck 94 xX11_partyAt 1 := ⟨⟨tb_i 866 (by decide +kernel) (by decide +kernel), tb_i 139 (by decide +kernel) (by decide +kernel), tb_i 869 (by decide +kernel) (by decide +kernel), ⟨by decide +kernel, by decide +kernel, by decide +kernel⟩, by decide, by decide⟩, tb_i 868 (by decide +kernel) (by decide +kernel), tb_i 13 (by decide +kernel) (by decide +kernel)⟩
theorem ck_X11_luck_137 : CKV xX11_luck 137 xX11_cluesAt 1 := ⟨⟨tb_i 989 (by decide +kernel) (by decide +kernel), tb_i 139 (by decide +kernel) (by decide +kernel), tb_i 992 (by decide +kernel) (by decide +kernel), ⟨by decide +kernel, by decide +kernel, by decide +kernel⟩, by decide, by decide⟩, tb_i 991 (by decide +kernel) (by decide +kernel), tb_i 24 (by decide +kernel) (by decide +kernel)⟩
theorem ck_X11_luck_153 : CKV xX11_luck 153 xX2_weighs 3 := ⟨⟨tb_i 998 (by decide +kernel) (by decide +kernel), tb_i 148 (by decide +kernel) (by decide +kernel), tb_i 1001 (by decide +kernel) (by decide +kernel), ⟨by decide +kernel, by decide +kernel, by decide +kernel⟩, by decide, by decide⟩, tb_i 999 (by decide +kernel) (by decide +kernel), tb_i 1000 (by decide +kernel) (by decide +kernel)⟩
theorem ck_X11_luck_165 : CKS xX11_luck 165 xX11_fraction 3 := ⟨⟨tb_i 1009 (by decide +kernel) (by decide +kernel), tb_i 139 (by decide +kernel) (by decide +kernel), tb_i 1011 (by decide +kernel) (by decide +kernel), ⟨by decide +kernel, by decide +kernel, by decide +kernel⟩, by decide, by decide⟩, tb_i 1010 (by decide +kernel) (by decide +kernel)⟩
theorem ck_X11_luck_180 : CKV xX11_luck 180 xX2_beside 1 := ⟨⟨tb_i 1042 (by decide +kernel) (by decide +kernel), tb_i 148 (by decide +kernel) (by decide +kernel), tb_i 1028 (by decide +kernel) (by decide +kernel), ⟨by decide +kernel, by decide +kernel, by decide +kernel⟩, by decide, by decide⟩, tb_i 1026 (by decide +kernel) (by decide +kernel), tb_i 1027 (by decide +kernel) (by decide +kernel)⟩
def sX11_luck_b34 (a0 : Nat) (x1 : Int) (x2 : Int) (x3 : Int) (x4 : Int)   (M : MM) : Option (Int × MM) := (some (((-1), M)))
def sX11_luck_b0 (a0 : Nat) (x1 : Int) (x2 : Int) (x3 : Int) (x4 : Int)   (M : MM) : Option (Int × MM) := ((sX11_partyAt a0 x1 M).bind fun q_1 => (nM q_1 ((sX11_cluesAt a0 x2 M).bind fun q_3 => (nM q_3 (sX11_luck_b34 a0 x1 x2 x3 x4 M) fun m_4 => (sX11_luck_b34 a0 x1 x2 x3 x4 M))) fun m_2 => ((sX11_cluesAt a0 x2 M).bind fun q_5 => (nM q_5 (sX11_luck_b34 a0 x1 x2 x3 x4 M) fun m_6 => (if wI x3 < 0 then (sX11_luck_b34 a0 x1 x2 x3 x4 M) else (if wI x3 < 8 then ((sX2_weighs (gR a0 5) m_2 m_6 (-1) M).bind fun q_10 => (if wJ (q_10 (gR a0 5) 1) = 0 then (some (((-1), q_10))) else (if 0 ≤ wI x3 ∧ wI x3 < 8 then ((sX2_beside (gR a0 5) x3 q_10).bind fun q_17 => ((sX11_fraction ((q_10 (gR (gR a0 5) 0) (wI x3).toNat) + q_17) (q_10 (gR a0 5) 1) x4).bind fun q_19 => (some ((q_19, q_10))))) else none))) else (sX11_luck_b34 a0 x1 x2 x3 x4 M)))))))
def sX11_luck (a0 : Nat) (x1 : Int) (x2 : Int) (x3 : Int) (x4 : Int) (M : MM) : Option (Int × MM) := sX11_luck_b0 a0 x1 x2 x3 x4 M
set_option maxHeartbeats 4000000 in
set_option maxRecDepth 100000 in
theorem bX11_luck_b34 {G : GG} (a0 : Nat) (x1 : Int) (x2 : Int) (x3 : Int) (x4 : Int) (oa0 : OB L0 a0 11)  (M : MM) {res : (Int × MM)}  (h : sX11_luck_b34 a0 x1 x2 x3 x4 M = some res) : VV G xX11_luck (ZM G xX11_luck (some (.long (eJ res.1))) L0 res.2) L0 M 0 0 34 [] [] := by
  unfold sX11_luck_b34 at h
  refine r_ldc2 (pc := 34) (v := (-1)) kc_11_151 dX11_luck_34 ?_
  cases h
  exact r_lret (pc := 37) rfl (Nat.le_refl 0) (Nat.le_refl 0) dX11_luck_37
set_option maxHeartbeats 4000000 in
set_option maxRecDepth 100000 in
theorem bX11_luck_b0 {G : GG} (a0 : Nat) (x1 : Int) (x2 : Int) (x3 : Int) (x4 : Int) (oa0 : OB L0 a0 11)  (M : MM) {res : (Int × MM)}  (h : sX11_luck_b0 a0 x1 x2 x3 x4 M = some res) : VV G xX11_luck (ZM G xX11_luck (some (.long (eJ res.1))) L0 res.2) L0 M 0 0 0 [(0, .ref (gA G a0)), (1, .int (eI x1)), (2, .int (eI x2)), (3, .int (eI x3)), (4, .int (eI x4))] [] := by
  unfold sX11_luck_b0 at h
  refine r_aload_n (pc := 0) (i := 0) dX11_luck_0 rfl 0 rfl ?_
  refine r_iload_n (pc := 1) (i := 1) dX11_luck_1 rfl 1 rfl ?_
  obtain ⟨q_1, hq_1, h⟩ := ob h
  refine r_cV (pc := 2) (Y := xX11_partyAt) (As := [.int (eI x1)]) (rest := []) (v := (some (nV G q_1))) (st1 := [nV G q_1]) ck_X11_luck_94 (kX11_partyAt a0 x1 M oa0 hq_1) oa0 rfl rfl rfl rfl (Nat.le_of_ble_eq_true rfl) ⟨rfl, rfl⟩ rfl dX11_luck_2 ?_
  have oq_1 := nX11_partyAt _ _ _ oa0 hq_1
  rcases q_1 with _ | m_2
  · replace h := nM_z h
    refine r_stk (st' := [.null]) rfl ?_
    refine r_astoreN (pc := 5) (lv' := [(5, .null), (0, .ref (gA G a0)), (1, .int (eI x1)), (2, .int (eI x2)), (3, .int (eI x3)), (4, .int (eI x4))]) dX11_luck_5 (Nat.le_of_ble_eq_true rfl) rfl ?_
    refine r_aload_n (pc := 7) (i := 0) dX11_luck_7 rfl 1 rfl ?_
    refine r_iload_n (pc := 8) (i := 2) dX11_luck_8 rfl 3 rfl ?_
    obtain ⟨q_3, hq_3, h⟩ := ob h
    refine r_cV (pc := 9) (Y := xX11_cluesAt) (As := [.int (eI x2)]) (rest := []) (v := (some (nV G q_3))) (st1 := [nV G q_3]) ck_X11_luck_137 (kX11_cluesAt a0 x2 M oa0 hq_3) oa0 rfl rfl rfl rfl (Nat.le_of_ble_eq_true rfl) ⟨rfl, rfl⟩ rfl dX11_luck_9 ?_
    have oq_3 := nX11_cluesAt _ _ _ oa0 hq_3
    rcases q_3 with _ | m_4
    · replace h := nM_z h
      refine r_stk (st' := [.null]) rfl ?_
      refine r_astoreN (pc := 12) (lv' := [(6, .null), (5, .null), (0, .ref (gA G a0)), (1, .int (eI x1)), (2, .int (eI x2)), (3, .int (eI x3)), (4, .int (eI x4))]) dX11_luck_12 (Nat.le_of_ble_eq_true rfl) rfl ?_
      refine r_aloadN (pc := 14) dX11_luck_14 1 rfl ?_
      refine r_ifnullN (pc := 16) (tgt := 34) dX11_luck_16 (by decide) ?_
      refine r_sub (lv' := []) [] rfl ?_
      exact bX11_luck_b34 a0 x1 x2 x3 x4 oa0 _ h
    · replace h := nM_s h
      have om_4 := oq_3 _ rfl
      refine r_stk (st' := [.ref (gA G m_4)]) rfl ?_
      refine r_astore (pc := 12) (lv' := [(6, .ref (gA G m_4)), (5, .null), (0, .ref (gA G a0)), (1, .int (eI x1)), (2, .int (eI x2)), (3, .int (eI x3)), (4, .int (eI x4))]) dX11_luck_12 (Nat.le_of_ble_eq_true rfl) rfl ?_
      refine r_aloadN (pc := 14) dX11_luck_14 1 rfl ?_
      refine r_ifnullN (pc := 16) (tgt := 34) dX11_luck_16 (by decide) ?_
      refine r_sub (lv' := []) [] rfl ?_
      exact bX11_luck_b34 a0 x1 x2 x3 x4 oa0 _ h
  · replace h := nM_s h
    have om_2 := oq_1 _ rfl
    refine r_stk (st' := [.ref (gA G m_2)]) rfl ?_
    refine r_astore (pc := 5) (lv' := [(5, .ref (gA G m_2)), (0, .ref (gA G a0)), (1, .int (eI x1)), (2, .int (eI x2)), (3, .int (eI x3)), (4, .int (eI x4))]) dX11_luck_5 (Nat.le_of_ble_eq_true rfl) rfl ?_
    refine r_aload_n (pc := 7) (i := 0) dX11_luck_7 rfl 1 rfl ?_
    refine r_iload_n (pc := 8) (i := 2) dX11_luck_8 rfl 3 rfl ?_
    obtain ⟨q_5, hq_5, h⟩ := ob h
    refine r_cV (pc := 9) (Y := xX11_cluesAt) (As := [.int (eI x2)]) (rest := []) (v := (some (nV G q_5))) (st1 := [nV G q_5]) ck_X11_luck_137 (kX11_cluesAt a0 x2 M oa0 hq_5) oa0 rfl rfl rfl rfl (Nat.le_of_ble_eq_true rfl) ⟨rfl, rfl⟩ rfl dX11_luck_9 ?_
    have oq_5 := nX11_cluesAt _ _ _ oa0 hq_5
    rcases q_5 with _ | m_6
    · replace h := nM_z h
      refine r_stk (st' := [.null]) rfl ?_
      refine r_astoreN (pc := 12) (lv' := [(6, .null), (5, .ref (gA G m_2)), (0, .ref (gA G a0)), (1, .int (eI x1)), (2, .int (eI x2)), (3, .int (eI x3)), (4, .int (eI x4))]) dX11_luck_12 (Nat.le_of_ble_eq_true rfl) rfl ?_
      refine r_aload (pc := 14) dX11_luck_14 1 rfl ?_
      refine r_ifnullR (pc := 16) dX11_luck_16 ?_
      refine r_aloadN (pc := 19) dX11_luck_19 0 rfl ?_
      refine r_ifnullN (pc := 21) (tgt := 34) dX11_luck_21 (by decide) ?_
      refine r_sub (lv' := []) [] rfl ?_
      exact bX11_luck_b34 a0 x1 x2 x3 x4 oa0 _ h
    · replace h := nM_s h
      have om_6 := oq_5 _ rfl
      refine r_stk (st' := [.ref (gA G m_6)]) rfl ?_
      refine r_astore (pc := 12) (lv' := [(6, .ref (gA G m_6)), (5, .ref (gA G m_2)), (0, .ref (gA G a0)), (1, .int (eI x1)), (2, .int (eI x2)), (3, .int (eI x3)), (4, .int (eI x4))]) dX11_luck_12 (Nat.le_of_ble_eq_true rfl) rfl ?_
      refine r_aload (pc := 14) dX11_luck_14 1 rfl ?_
      refine r_ifnullR (pc := 16) dX11_luck_16 ?_
      refine r_aload (pc := 19) dX11_luck_19 0 rfl ?_
      refine r_ifnullR (pc := 21) dX11_luck_21 ?_
      refine r_iload_n (pc := 24) (i := 3) dX11_luck_24 rfl 5 rfl ?_
      refine r_if_lt (pc := 25) (tgt := 34) dX11_luck_25 (by decide) rfl (fun c_7 => ?_) (fun c_7 => ?_)
      · replace h := (if_pos c_7).symm.trans h
        refine r_sub (lv' := []) [] rfl ?_
        exact bX11_luck_b34 a0 x1 x2 x3 x4 oa0 _ h
      · replace h := (if_neg c_7).symm.trans h
        refine r_iload_n (pc := 28) (i := 3) dX11_luck_28 rfl 5 rfl ?_
        refine r_bipush (pc := 29) (v := 8) dX11_luck_29 (by decide +kernel) ?_
        refine r_icmp_lt (pc := 31) (tgt := 38) dX11_luck_31 (by decide) rfl wl_8 (fun c_8 => ?_) (fun c_8 => ?_)
        · replace h := (if_pos c_8).symm.trans h
          refine r_aload_n (pc := 38) (i := 0) dX11_luck_38 rfl 2 rfl ?_
          have o_9 := (wt_11_5 oa0).2
          refine r_getR (pc := 39) fg_11_41 rfl oa0 (wt_11_5 oa0).1 dX11_luck_39 ?_
          refine r_aload (pc := 42) dX11_luck_42 1 rfl ?_
          refine r_aload (pc := 44) dX11_luck_44 0 rfl ?_
          refine r_iconst (pc := 46) (v := (-1)) dX11_luck_46 (by decide +kernel) ?_
          obtain ⟨q_10, hq_10, h⟩ := ob h
          refine r_cV (pc := 47) (Y := xX2_weighs) (As := [.ref (gA G m_2), .ref (gA G m_6), .int (eI (-1))]) (rest := []) (v := none) (st1 := []) ck_X11_luck_153 (kX2_weighs (gR a0 5) m_2 m_6 (-1) M o_9 om_2 om_6 hq_10) o_9 rfl rfl rfl rfl (Nat.le_of_ble_eq_true rfl) ⟨rfl, rfl⟩ rfl dX11_luck_47 ?_
          refine r_aload_n (pc := 50) (i := 0) dX11_luck_50 rfl 2 rfl ?_
          have o_11 := (wt_11_5 oa0).2
          refine r_getR (pc := 51) fg_11_41 rfl oa0 (wt_11_5 oa0).1 dX11_luck_51 ?_
          refine r_getJ (pc := 54) fg_11_157 rfl o_11 dX11_luck_54 ?_
          refine r_lconst (pc := 57) (v := 0) dX11_luck_57 (by decide +kernel) ?_
          refine r_lcmp_ne (pc := 58) (tgt := 68) dX11_luck_58 dX11_luck_59 (by decide) rfl wj_0 (fun c_12 => ?_) (fun c_12 => ?_)
          · replace h := (if_neg c_12).symm.trans h
            refine r_aload_n (pc := 68) (i := 0) dX11_luck_68 rfl 2 rfl ?_
            have o_13 := (wt_11_5 oa0).2
            refine r_getR (pc := 69) fg_11_41 rfl oa0 (wt_11_5 oa0).1 dX11_luck_69 ?_
            have o_14 := (wt_2_0 o_13).2
            refine r_getR (pc := 72) fg_11_161 rfl o_13 (wt_2_0 o_13).1 dX11_luck_72 ?_
            refine r_iload_n (pc := 75) (i := 3) dX11_luck_75 rfl 5 rfl ?_
            obtain ⟨c_15, h⟩ := og h
            refine r_lald (pc := 76) o_14 rfl c_15 rfl dX11_luck_76 ?_
            refine r_aload_n (pc := 77) (i := 0) dX11_luck_77 rfl 2 rfl ?_
            have o_16 := (wt_11_5 oa0).2
            refine r_getR (pc := 78) fg_11_41 rfl oa0 (wt_11_5 oa0).1 dX11_luck_78 ?_
            refine r_iload_n (pc := 81) (i := 3) dX11_luck_81 rfl 5 rfl ?_
            obtain ⟨q_17, hq_17, h⟩ := ob h
            refine r_cV (pc := 82) (Y := xX2_beside) (As := [.int (eI x3)]) (rest := [.long (eJ (q_10 (gR (gR a0 5) 0) (wI x3).toNat))]) (v := (some (.long (eJ q_17)))) (st1 := [.long (eJ q_17), .long (eJ (q_10 (gR (gR a0 5) 0) (wI x3).toNat))]) ck_X11_luck_180 (kX2_beside (gR a0 5) x3 q_10 o_16 hq_17) o_16 rfl rfl rfl rfl (Nat.le_of_ble_eq_true rfl) ⟨rfl, rfl⟩ rfl dX11_luck_82 ?_
            refine r_ladd (pc := 85) dX11_luck_85 ?_
            refine r_aload_n (pc := 86) (i := 0) dX11_luck_86 rfl 2 rfl ?_
            have o_18 := (wt_11_5 oa0).2
            refine r_getR (pc := 87) fg_11_41 rfl oa0 (wt_11_5 oa0).1 dX11_luck_87 ?_
            refine r_getJ (pc := 90) fg_11_157 rfl o_18 dX11_luck_90 ?_
            refine r_iload (pc := 93) dX11_luck_93 6 rfl ?_
            obtain ⟨q_19, hq_19, h⟩ := ob h
            refine r_cS (pc := 95) (Y := xX11_fraction) (As := [.long (eJ ((q_10 (gR (gR a0 5) 0) (wI x3).toNat) + q_17)), .long (eJ (q_10 (gR a0 5) 1)), .int (eI x4)]) (rest := []) (v := (some (.long (eJ q_19)))) (st1 := [.long (eJ q_19)]) ck_X11_luck_165 (kX11_fraction ((q_10 (gR (gR a0 5) 0) (wI x3).toNat) + q_17) (q_10 (gR a0 5) 1) x4 q_10  hq_19) rfl rfl (Nat.le_of_ble_eq_true rfl) ⟨rfl, rfl⟩ rfl dX11_luck_95 ?_
            cases h
            exact r_lret (pc := 98) rfl (Nat.le_refl 0) (Nat.le_refl 0) dX11_luck_98
          · replace h := (if_pos c_12).symm.trans h
            refine r_ldc2 (pc := 62) (v := (-1)) kc_11_151 dX11_luck_62 ?_
            refine r_goto (pc := 65) (tgt := 98) dX11_luck_65 (by decide) ?_
            cases h
            exact r_lret (pc := 98) rfl (Nat.le_refl 0) (Nat.le_refl 0) dX11_luck_98
        · replace h := (if_neg c_8).symm.trans h
          refine r_sub (lv' := []) [] rfl ?_
          exact bX11_luck_b34 a0 x1 x2 x3 x4 oa0 _ h
theorem kX11_luck {G : GG} (a0 : Nat) (x1 : Int) (x2 : Int) (x3 : Int) (x4 : Int) (M : MM) {res : (Int × MM)} (oa0 : OB L0 a0 11) (h : sX11_luck a0 x1 x2 x3 x4 M = some res) : CO G xX11_luck [.ref (gA G a0), .int (eI x1), .int (eI x2), .int (eI x3), .int (eI x4)] L0 M (some (.long (eJ res.1))) L0 res.2 := CO_of (by decide +kernel) (Nat.le_of_ble_eq_true rfl) (bX11_luck_b0 a0 x1 x2 x3 x4 oa0 M h)
abbrev xX11_chance : XX := (yX11_chance, cX11_chance, 9, (some .long), 4, 106, 0, 0)
theorem ck_X11_chance_94 : CKV xX11_chance 94 xX11_partyAt 1 := ⟨⟨tb_i 866 (by decide +kernel) (by decide +kernel), tb_i 139 (by decide +kernel) (by decide +kernel), tb_i 869 (by decide +kernel) (by decide +kernel), ⟨by decide +kernel, by decide +kernel, by decide +kernel⟩, by decide, by decide⟩, tb_i 868 (by decide +kernel) (by decide +kernel), tb_i 13 (by decide +kernel) (by decide +kernel)⟩
theorem ck_X11_chance_165 : CKS xX11_chance 165 xX11_fraction 3 := ⟨⟨tb_i 1009 (by decide +kernel) (by decide +kernel), tb_i 139 (by decide +kernel) (by decide +kernel), tb_i 1011 (by decide +kernel) (by decide +kernel), ⟨by decide +kernel, by decide +kernel, by decide +kernel⟩, by decide, by decide⟩, tb_i 1010 (by decide +kernel) (by decide +kernel)⟩
theorem ck_X11_chance_184 : CKV xX11_chance 184 xX5_canBeTold 0 := ⟨⟨tb_i 1047 (by decide +kernel) (by decide +kernel), tb_i 141 (by decide +kernel) (by decide +kernel), tb_i 1050 (by decide +kernel) (by decide +kernel), ⟨by decide +kernel, by decide +kernel, by decide +kernel⟩, by decide, by decide⟩, tb_i 1048 (by decide +kernel) (by decide +kernel), tb_i 1049 (by decide +kernel) (by decide +kernel)⟩
theorem ck_X11_chance_188 : CKV xX11_chance 188 xX4_ordersBy 2 := ⟨⟨tb_i 1051 (by decide +kernel) (by decide +kernel), tb_i 149 (by decide +kernel) (by decide +kernel), tb_i 1054 (by decide +kernel) (by decide +kernel), ⟨by decide +kernel, by decide +kernel, by decide +kernel⟩, by decide, by decide⟩, tb_i 1052 (by decide +kernel) (by decide +kernel), tb_i 1053 (by decide +kernel) (by decide +kernel)⟩
theorem ck_X11_chance_192 : CKV xX11_chance 192 xX4_ofWhat 3 := ⟨⟨tb_i 1055 (by decide +kernel) (by decide +kernel), tb_i 149 (by decide +kernel) (by decide +kernel), tb_i 1058 (by decide +kernel) (by decide +kernel), ⟨by decide +kernel, by decide +kernel, by decide +kernel⟩, by decide, by decide⟩, tb_i 1056 (by decide +kernel) (by decide +kernel), tb_i 1057 (by decide +kernel) (by decide +kernel)⟩
theorem ck_X11_chance_196 : CKV xX11_chance 196 xX4_ofAll 1 := ⟨⟨tb_i 1086 (by decide +kernel) (by decide +kernel), tb_i 149 (by decide +kernel) (by decide +kernel), tb_i 1089 (by decide +kernel) (by decide +kernel), ⟨by decide +kernel, by decide +kernel, by decide +kernel⟩, by decide, by decide⟩, tb_i 1087 (by decide +kernel) (by decide +kernel), tb_i 1088 (by decide +kernel) (by decide +kernel)⟩
def sX11_chance_b31 (a0 : Nat) (x1 : Int) (x2 : Int) (x3 : Int) (x4 : Int) (x5 : Int)   (M : MM) : Option (Int × MM) := (some (((-1), M)))
def sX11_chance_b0 (a0 : Nat) (x1 : Int) (x2 : Int) (x3 : Int) (x4 : Int) (x5 : Int)   (M : MM) : Option (Int × MM) := ((sX11_partyAt a0 x1 M).bind fun q_1 => (nM q_1 (sX11_chance_b31 a0 x1 x2 x3 x4 x5 M) fun m_2 => (if wI (sX5_canBeTold m_2 M) = 0 then (sX11_chance_b31 a0 x1 x2 x3 x4 x5 M) else (if wI x3 < 1 then (sX11_chance_b31 a0 x1 x2 x3 x4 x5 M) else (if wI x3 ≤ 9 then ((sX4_ordersBy (gR a0 6) m_2 x2 M).bind fun q_7 => (if wI (q_7.1) = 0 then (some (((-1), q_7.2))) else ((sX4_ofWhat (gR a0 6) m_2 x3 x4 q_7.2).bind fun q_10 => (if 0 ≤ wJ (q_10.1) then ((sX4_ofAll (gR a0 6) m_2 q_10.2).bind fun q_13 => ((sX11_fraction (q_10.1) q_13 x5).bind fun q_14 => (some ((q_14, q_10.2))))) else (some (((-1), q_10.2))))))) else (sX11_chance_b31 a0 x1 x2 x3 x4 x5 M))))))
def sX11_chance (a0 : Nat) (x1 : Int) (x2 : Int) (x3 : Int) (x4 : Int) (x5 : Int) (M : MM) : Option (Int × MM) := sX11_chance_b0 a0 x1 x2 x3 x4 x5 M
set_option maxHeartbeats 4000000 in
set_option maxRecDepth 100000 in
theorem bX11_chance_b31 {G : GG} (a0 : Nat) (x1 : Int) (x2 : Int) (x3 : Int) (x4 : Int) (x5 : Int) (oa0 : OB L0 a0 11)  (M : MM) {res : (Int × MM)}  (h : sX11_chance_b31 a0 x1 x2 x3 x4 x5 M = some res) : VV G xX11_chance (ZM G xX11_chance (some (.long (eJ res.1))) L0 res.2) L0 M 0 0 31 [] [] := by
  unfold sX11_chance_b31 at h
  refine r_ldc2 (pc := 31) (v := (-1)) kc_11_151 dX11_chance_31 ?_
  cases h
  exact r_lret (pc := 34) rfl (Nat.le_refl 0) (Nat.le_refl 0) dX11_chance_34
set_option maxHeartbeats 4000000 in
set_option maxRecDepth 100000 in
theorem bX11_chance_b0 {G : GG} (a0 : Nat) (x1 : Int) (x2 : Int) (x3 : Int) (x4 : Int) (x5 : Int) (oa0 : OB L0 a0 11)  (M : MM) {res : (Int × MM)}  (h : sX11_chance_b0 a0 x1 x2 x3 x4 x5 M = some res) : VV G xX11_chance (ZM G xX11_chance (some (.long (eJ res.1))) L0 res.2) L0 M 0 0 0 [(0, .ref (gA G a0)), (1, .int (eI x1)), (2, .int (eI x2)), (3, .int (eI x3)), (4, .int (eI x4)), (5, .int (eI x5))] [] := by
  unfold sX11_chance_b0 at h
  refine r_aload_n (pc := 0) (i := 0) dX11_chance_0 rfl 0 rfl ?_
  refine r_iload_n (pc := 1) (i := 1) dX11_chance_1 rfl 1 rfl ?_
  obtain ⟨q_1, hq_1, h⟩ := ob h
  refine r_cV (pc := 2) (Y := xX11_partyAt) (As := [.int (eI x1)]) (rest := []) (v := (some (nV G q_1))) (st1 := [nV G q_1]) ck_X11_chance_94 (kX11_partyAt a0 x1 M oa0 hq_1) oa0 rfl rfl rfl rfl (Nat.le_of_ble_eq_true rfl) ⟨rfl, rfl⟩ rfl dX11_chance_2 ?_
  have oq_1 := nX11_partyAt _ _ _ oa0 hq_1
  rcases q_1 with _ | m_2
  · replace h := nM_z h
    refine r_stk (st' := [.null]) rfl ?_
    refine r_astoreN (pc := 5) (lv' := [(6, .null), (0, .ref (gA G a0)), (1, .int (eI x1)), (2, .int (eI x2)), (3, .int (eI x3)), (4, .int (eI x4)), (5, .int (eI x5))]) dX11_chance_5 (Nat.le_of_ble_eq_true rfl) rfl ?_
    refine r_aloadN (pc := 7) dX11_chance_7 0 rfl ?_
    refine r_ifnullN (pc := 9) (tgt := 31) dX11_chance_9 (by decide) ?_
    refine r_sub (lv' := []) [] rfl ?_
    exact bX11_chance_b31 a0 x1 x2 x3 x4 x5 oa0 _ h
  · replace h := nM_s h
    have om_2 := oq_1 _ rfl
    refine r_stk (st' := [.ref (gA G m_2)]) rfl ?_
    refine r_astore (pc := 5) (lv' := [(6, .ref (gA G m_2)), (0, .ref (gA G a0)), (1, .int (eI x1)), (2, .int (eI x2)), (3, .int (eI x3)), (4, .int (eI x4)), (5, .int (eI x5))]) dX11_chance_5 (Nat.le_of_ble_eq_true rfl) rfl ?_
    refine r_aload (pc := 7) dX11_chance_7 0 rfl ?_
    refine r_ifnullR (pc := 9) dX11_chance_9 ?_
    refine r_aload (pc := 12) dX11_chance_12 0 rfl ?_
    refine r_cV (pc := 14) (Y := xX5_canBeTold) (As := []) (rest := []) (v := (some (.int (eI (sX5_canBeTold m_2 M))))) (st1 := [.int (eI (sX5_canBeTold m_2 M))]) ck_X11_chance_184 (kX5_canBeTold m_2 M om_2) om_2 rfl rfl rfl rfl (Nat.le_of_ble_eq_true rfl) ⟨rfl, rfl⟩ rfl dX11_chance_14 ?_
    refine r_if_eq (pc := 17) (tgt := 31) dX11_chance_17 (by decide) rfl (fun c_3 => ?_) (fun c_3 => ?_)
    · replace h := (if_pos c_3).symm.trans h
      refine r_sub (lv' := []) [] rfl ?_
      exact bX11_chance_b31 a0 x1 x2 x3 x4 x5 oa0 _ h
    · replace h := (if_neg c_3).symm.trans h
      refine r_iload_n (pc := 20) (i := 3) dX11_chance_20 rfl 4 rfl ?_
      refine r_iconst (pc := 21) (v := 1) dX11_chance_21 (by decide +kernel) ?_
      refine r_icmp_lt (pc := 22) (tgt := 31) dX11_chance_22 (by decide) rfl wl_1 (fun c_4 => ?_) (fun c_4 => ?_)
      · replace h := (if_pos c_4).symm.trans h
        refine r_sub (lv' := []) [] rfl ?_
        exact bX11_chance_b31 a0 x1 x2 x3 x4 x5 oa0 _ h
      · replace h := (if_neg c_4).symm.trans h
        refine r_iload_n (pc := 25) (i := 3) dX11_chance_25 rfl 4 rfl ?_
        refine r_bipush (pc := 26) (v := 9) dX11_chance_26 (by decide +kernel) ?_
        refine r_icmp_le (pc := 28) (tgt := 35) dX11_chance_28 (by decide) rfl wl_9 (fun c_5 => ?_) (fun c_5 => ?_)
        · replace h := (if_pos c_5).symm.trans h
          refine r_aload_n (pc := 35) (i := 0) dX11_chance_35 rfl 1 rfl ?_
          have o_6 := (wt_11_6 oa0).2
          refine r_getR (pc := 36) fg_11_48 rfl oa0 (wt_11_6 oa0).1 dX11_chance_36 ?_
          refine r_aload (pc := 39) dX11_chance_39 0 rfl ?_
          refine r_iload_n (pc := 41) (i := 2) dX11_chance_41 rfl 3 rfl ?_
          obtain ⟨q_7, hq_7, h⟩ := ob h
          refine r_cV (pc := 42) (Y := xX4_ordersBy) (As := [.ref (gA G m_2), .int (eI x2)]) (rest := []) (v := (some (.int (eI (q_7.1))))) (st1 := [.int (eI (q_7.1))]) ck_X11_chance_188 (kX4_ordersBy (gR a0 6) m_2 x2 M o_6 om_2 hq_7) o_6 rfl rfl rfl rfl (Nat.le_of_ble_eq_true rfl) ⟨rfl, rfl⟩ rfl dX11_chance_42 ?_
          refine r_if_ne (pc := 45) (tgt := 52) dX11_chance_45 (by decide) rfl (fun c_8 => ?_) (fun c_8 => ?_)
          · replace h := (if_neg c_8).symm.trans h
            refine r_aload_n (pc := 52) (i := 0) dX11_chance_52 rfl 1 rfl ?_
            have o_9 := (wt_11_6 oa0).2
            refine r_getR (pc := 53) fg_11_48 rfl oa0 (wt_11_6 oa0).1 dX11_chance_53 ?_
            refine r_aload (pc := 56) dX11_chance_56 0 rfl ?_
            refine r_iload_n (pc := 58) (i := 3) dX11_chance_58 rfl 4 rfl ?_
            refine r_iload (pc := 59) dX11_chance_59 5 rfl ?_
            obtain ⟨q_10, hq_10, h⟩ := ob h
            refine r_cV (pc := 61) (Y := xX4_ofWhat) (As := [.ref (gA G m_2), .int (eI x3), .int (eI x4)]) (rest := []) (v := (some (.long (eJ (q_10.1))))) (st1 := [.long (eJ (q_10.1))]) ck_X11_chance_192 (kX4_ofWhat (gR a0 6) m_2 x3 x4 q_7.2 o_9 om_2 hq_10) o_9 rfl rfl rfl rfl (Nat.le_of_ble_eq_true rfl) ⟨rfl, rfl⟩ rfl dX11_chance_61 ?_
            refine r_lstore (pc := 64) (lv' := [(7, .long (eJ (q_10.1))), (6, .ref (gA G m_2)), (0, .ref (gA G a0)), (1, .int (eI x1)), (2, .int (eI x2)), (3, .int (eI x3)), (4, .int (eI x4)), (5, .int (eI x5))]) dX11_chance_64 (Nat.le_of_ble_eq_true rfl) rfl ?_
            refine r_lload (pc := 66) dX11_chance_66 0 rfl ?_
            refine r_lconst (pc := 68) (v := 0) dX11_chance_68 (by decide +kernel) ?_
            refine r_lcmp_ge (pc := 69) (tgt := 79) dX11_chance_69 dX11_chance_70 (by decide) rfl wj_0 (fun c_11 => ?_) (fun c_11 => ?_)
            · replace h := (if_pos c_11).symm.trans h
              refine r_lload (pc := 79) dX11_chance_79 0 rfl ?_
              refine r_aload_n (pc := 81) (i := 0) dX11_chance_81 rfl 2 rfl ?_
              have o_12 := (wt_11_6 oa0).2
              refine r_getR (pc := 82) fg_11_48 rfl oa0 (wt_11_6 oa0).1 dX11_chance_82 ?_
              refine r_aload (pc := 85) dX11_chance_85 1 rfl ?_
              obtain ⟨q_13, hq_13, h⟩ := ob h
              refine r_cV (pc := 87) (Y := xX4_ofAll) (As := [.ref (gA G m_2)]) (rest := [.long (eJ (q_10.1))]) (v := (some (.long (eJ q_13)))) (st1 := [.long (eJ q_13), .long (eJ (q_10.1))]) ck_X11_chance_196 (kX4_ofAll (gR a0 6) m_2 q_10.2 o_12 om_2 hq_13) o_12 rfl rfl rfl rfl (Nat.le_of_ble_eq_true rfl) ⟨rfl, rfl⟩ rfl dX11_chance_87 ?_
              refine r_iload (pc := 90) dX11_chance_90 7 rfl ?_
              obtain ⟨q_14, hq_14, h⟩ := ob h
              refine r_cS (pc := 92) (Y := xX11_fraction) (As := [.long (eJ (q_10.1)), .long (eJ q_13), .int (eI x5)]) (rest := []) (v := (some (.long (eJ q_14)))) (st1 := [.long (eJ q_14)]) ck_X11_chance_165 (kX11_fraction (q_10.1) q_13 x5 q_10.2  hq_14) rfl rfl (Nat.le_of_ble_eq_true rfl) ⟨rfl, rfl⟩ rfl dX11_chance_92 ?_
              cases h
              exact r_lret (pc := 95) rfl (Nat.le_refl 0) (Nat.le_refl 0) dX11_chance_95
            · replace h := (if_neg c_11).symm.trans h
              refine r_ldc2 (pc := 73) (v := (-1)) kc_11_151 dX11_chance_73 ?_
              refine r_goto (pc := 76) (tgt := 95) dX11_chance_76 (by decide) ?_
              cases h
              exact r_lret (pc := 95) rfl (Nat.le_refl 0) (Nat.le_refl 0) dX11_chance_95
          · replace h := (if_pos c_8).symm.trans h
            refine r_ldc2 (pc := 48) (v := (-1)) kc_11_151 dX11_chance_48 ?_
            cases h
            exact r_lret (pc := 51) rfl (Nat.le_refl 0) (Nat.le_refl 0) dX11_chance_51
        · replace h := (if_neg c_5).symm.trans h
          refine r_sub (lv' := []) [] rfl ?_
          exact bX11_chance_b31 a0 x1 x2 x3 x4 x5 oa0 _ h
theorem kX11_chance {G : GG} (a0 : Nat) (x1 : Int) (x2 : Int) (x3 : Int) (x4 : Int) (x5 : Int) (M : MM) {res : (Int × MM)} (oa0 : OB L0 a0 11) (h : sX11_chance a0 x1 x2 x3 x4 x5 M = some res) : CO G xX11_chance [.ref (gA G a0), .int (eI x1), .int (eI x2), .int (eI x3), .int (eI x4), .int (eI x5)] L0 M (some (.long (eJ res.1))) L0 res.2 := CO_of (by decide +kernel) (Nat.le_of_ble_eq_true rfl) (bX11_chance_b0 a0 x1 x2 x3 x4 x5 oa0 M h)
abbrev xX11_uncle : XX := (yX11_uncle, cX11_uncle, 4, (some .long), 5, 121, 0, 0)
theorem ck_X11_uncle_94 : CKV xX11_uncle 94 xX11_partyAt 1 := ⟨⟨tb_i 866 (by decide +kernel) (by decide +kernel), tb_i 139 (by decide +kernel) (by decide +kernel), tb_i 869 (by decide +kernel) (by decide +kernel), ⟨by decide +kernel, by decide +kernel, by decide +kernel⟩, by decide, by decide⟩, tb_i 868 (by decide +kernel) (by decide +kernel), tb_i 13 (by decide +kernel) (by decide +kernel)⟩
theorem ck_X11_uncle_165 : CKS xX11_uncle 165 xX11_fraction 3 := ⟨⟨tb_i 1009 (by decide +kernel) (by decide +kernel), tb_i 139 (by decide +kernel) (by decide +kernel), tb_i 1011 (by decide +kernel) (by decide +kernel), ⟨by decide +kernel, by decide +kernel, by decide +kernel⟩, by decide, by decide⟩, tb_i 1010 (by decide +kernel) (by decide +kernel)⟩
theorem ck_X11_uncle_184 : CKV xX11_uncle 184 xX5_canBeTold 0 := ⟨⟨tb_i 1047 (by decide +kernel) (by decide +kernel), tb_i 141 (by decide +kernel) (by decide +kernel), tb_i 1050 (by decide +kernel) (by decide +kernel), ⟨by decide +kernel, by decide +kernel, by decide +kernel⟩, by decide, by decide⟩, tb_i 1048 (by decide +kernel) (by decide +kernel), tb_i 1049 (by decide +kernel) (by decide +kernel)⟩
theorem ck_X11_uncle_196 : CKV xX11_uncle 196 xX4_ofAll 1 := ⟨⟨tb_i 1086 (by decide +kernel) (by decide +kernel), tb_i 149 (by decide +kernel) (by decide +kernel), tb_i 1089 (by decide +kernel) (by decide +kernel), ⟨by decide +kernel, by decide +kernel, by decide +kernel⟩, by decide, by decide⟩, tb_i 1087 (by decide +kernel) (by decide +kernel), tb_i 1088 (by decide +kernel) (by decide +kernel)⟩
theorem ck_X11_uncle_200 : CKV xX11_uncle 200 xX4_knowsAll 1 := ⟨⟨tb_i 1094 (by decide +kernel) (by decide +kernel), tb_i 149 (by decide +kernel) (by decide +kernel), tb_i 1097 (by decide +kernel) (by decide +kernel), ⟨by decide +kernel, by decide +kernel, by decide +kernel⟩, by decide, by decide⟩, tb_i 1095 (by decide +kernel) (by decide +kernel), tb_i 1096 (by decide +kernel) (by decide +kernel)⟩
theorem ck_X11_uncle_207 : CKV xX11_uncle 207 xX4_bestAt 2 := ⟨⟨tb_i 1120 (by decide +kernel) (by decide +kernel), tb_i 149 (by decide +kernel) (by decide +kernel), tb_i 1112 (by decide +kernel) (by decide +kernel), ⟨by decide +kernel, by decide +kernel, by decide +kernel⟩, by decide, by decide⟩, tb_i 1110 (by decide +kernel) (by decide +kernel), tb_i 1111 (by decide +kernel) (by decide +kernel)⟩
def sX11_uncle_b17 (a0 : Nat) (x1 : Int) (x2 : Int)   (M : MM) : Option (Int × MM) := (some (((-1), M)))
def sX11_uncle_b0 (a0 : Nat) (x1 : Int) (x2 : Int)   (M : MM) : Option (Int × MM) := ((sX11_partyAt a0 x1 M).bind fun q_1 => (nM q_1 (sX11_uncle_b17 a0 x1 x2 M) fun m_2 => (if wI (sX5_canBeTold m_2 M) = 0 then (sX11_uncle_b17 a0 x1 x2 M) else ((sX4_knowsAll (gR a0 6) m_2 M).bind fun q_5 => ((sX4_bestAt (gR a0 6) 0 (q_5 (gR m_2 2) 0) q_5).bind fun q_8 => ((sX4_ofAll (gR a0 6) m_2 q_5).bind fun q_10 => ((sX11_fraction q_8 q_10 x2).bind fun q_11 => (some ((q_11, q_5))))))))))
def sX11_uncle (a0 : Nat) (x1 : Int) (x2 : Int) (M : MM) : Option (Int × MM) := sX11_uncle_b0 a0 x1 x2 M
set_option maxHeartbeats 4000000 in
set_option maxRecDepth 100000 in
theorem bX11_uncle_b17 {G : GG} (a0 : Nat) (x1 : Int) (x2 : Int) (oa0 : OB L0 a0 11)  (M : MM) {res : (Int × MM)}  (h : sX11_uncle_b17 a0 x1 x2 M = some res) : VV G xX11_uncle (ZM G xX11_uncle (some (.long (eJ res.1))) L0 res.2) L0 M 0 0 17 [] [] := by
  unfold sX11_uncle_b17 at h
  refine r_ldc2 (pc := 17) (v := (-1)) kc_11_151 dX11_uncle_17 ?_
  cases h
  exact r_lret (pc := 20) rfl (Nat.le_refl 0) (Nat.le_refl 0) dX11_uncle_20
set_option maxHeartbeats 4000000 in
set_option maxRecDepth 100000 in
theorem bX11_uncle_b0 {G : GG} (a0 : Nat) (x1 : Int) (x2 : Int) (oa0 : OB L0 a0 11)  (M : MM) {res : (Int × MM)}  (h : sX11_uncle_b0 a0 x1 x2 M = some res) : VV G xX11_uncle (ZM G xX11_uncle (some (.long (eJ res.1))) L0 res.2) L0 M 0 0 0 [(0, .ref (gA G a0)), (1, .int (eI x1)), (2, .int (eI x2))] [] := by
  unfold sX11_uncle_b0 at h
  refine r_aload_n (pc := 0) (i := 0) dX11_uncle_0 rfl 0 rfl ?_
  refine r_iload_n (pc := 1) (i := 1) dX11_uncle_1 rfl 1 rfl ?_
  obtain ⟨q_1, hq_1, h⟩ := ob h
  refine r_cV (pc := 2) (Y := xX11_partyAt) (As := [.int (eI x1)]) (rest := []) (v := (some (nV G q_1))) (st1 := [nV G q_1]) ck_X11_uncle_94 (kX11_partyAt a0 x1 M oa0 hq_1) oa0 rfl rfl rfl rfl (Nat.le_of_ble_eq_true rfl) ⟨rfl, rfl⟩ rfl dX11_uncle_2 ?_
  have oq_1 := nX11_partyAt _ _ _ oa0 hq_1
  rcases q_1 with _ | m_2
  · replace h := nM_z h
    refine r_stk (st' := [.null]) rfl ?_
    refine r_astore_nN (pc := 5) (i := 3) (lv' := [(3, .null), (0, .ref (gA G a0)), (1, .int (eI x1)), (2, .int (eI x2))]) dX11_uncle_5 rfl (Nat.le_of_ble_eq_true rfl) rfl ?_
    refine r_aload_nN (pc := 6) (i := 3) dX11_uncle_6 rfl 0 rfl ?_
    refine r_ifnullN (pc := 7) (tgt := 17) dX11_uncle_7 (by decide) ?_
    refine r_sub (lv' := []) [] rfl ?_
    exact bX11_uncle_b17 a0 x1 x2 oa0 _ h
  · replace h := nM_s h
    have om_2 := oq_1 _ rfl
    refine r_stk (st' := [.ref (gA G m_2)]) rfl ?_
    refine r_astore_n (pc := 5) (i := 3) (lv' := [(3, .ref (gA G m_2)), (0, .ref (gA G a0)), (1, .int (eI x1)), (2, .int (eI x2))]) dX11_uncle_5 rfl (Nat.le_of_ble_eq_true rfl) rfl ?_
    refine r_aload_n (pc := 6) (i := 3) dX11_uncle_6 rfl 0 rfl ?_
    refine r_ifnullR (pc := 7) dX11_uncle_7 ?_
    refine r_aload_n (pc := 10) (i := 3) dX11_uncle_10 rfl 0 rfl ?_
    refine r_cV (pc := 11) (Y := xX5_canBeTold) (As := []) (rest := []) (v := (some (.int (eI (sX5_canBeTold m_2 M))))) (st1 := [.int (eI (sX5_canBeTold m_2 M))]) ck_X11_uncle_184 (kX5_canBeTold m_2 M om_2) om_2 rfl rfl rfl rfl (Nat.le_of_ble_eq_true rfl) ⟨rfl, rfl⟩ rfl dX11_uncle_11 ?_
    refine r_if_ne (pc := 14) (tgt := 21) dX11_uncle_14 (by decide) rfl (fun c_3 => ?_) (fun c_3 => ?_)
    · replace h := (if_neg c_3).symm.trans h
      refine r_aload_n (pc := 21) (i := 0) dX11_uncle_21 rfl 1 rfl ?_
      have o_4 := (wt_11_6 oa0).2
      refine r_getR (pc := 22) fg_11_48 rfl oa0 (wt_11_6 oa0).1 dX11_uncle_22 ?_
      refine r_aload_n (pc := 25) (i := 3) dX11_uncle_25 rfl 0 rfl ?_
      obtain ⟨q_5, hq_5, h⟩ := ob h
      refine r_cV (pc := 26) (Y := xX4_knowsAll) (As := [.ref (gA G m_2)]) (rest := []) (v := none) (st1 := []) ck_X11_uncle_200 (kX4_knowsAll (gR a0 6) m_2 M o_4 om_2 hq_5) o_4 rfl rfl rfl rfl (Nat.le_of_ble_eq_true rfl) ⟨rfl, rfl⟩ rfl dX11_uncle_26 ?_
      refine r_aload_n (pc := 29) (i := 0) dX11_uncle_29 rfl 1 rfl ?_
      have o_6 := (wt_11_6 oa0).2
      refine r_getR (pc := 30) fg_11_48 rfl oa0 (wt_11_6 oa0).1 dX11_uncle_30 ?_
      refine r_iconst (pc := 33) (v := 0) dX11_uncle_33 (by decide +kernel) ?_
      refine r_aload_n (pc := 34) (i := 3) dX11_uncle_34 rfl 0 rfl ?_
      have o_7 := (wt_5_2 om_2).2
      refine r_getR (pc := 35) fg_11_204 rfl om_2 (wt_5_2 om_2).1 dX11_uncle_35 ?_
      refine r_iconst (pc := 38) (v := 0) dX11_uncle_38 (by decide +kernel) ?_
      refine r_iald (pc := 39) o_7 wl_0 ⟨by decide, by decide⟩ rfl dX11_uncle_39 ?_
      obtain ⟨q_8, hq_8, h⟩ := ob h
      refine r_cV (pc := 40) (Y := xX4_bestAt) (As := [.int (eI 0), .int (eI (q_5 (gR m_2 2) 0))]) (rest := []) (v := (some (.long (eJ q_8)))) (st1 := [.long (eJ q_8)]) ck_X11_uncle_207 (kX4_bestAt (gR a0 6) 0 (q_5 (gR m_2 2) 0) q_5 o_6 hq_8) o_6 rfl rfl rfl rfl (Nat.le_of_ble_eq_true rfl) ⟨rfl, rfl⟩ rfl dX11_uncle_40 ?_
      refine r_aload_n (pc := 43) (i := 0) dX11_uncle_43 rfl 1 rfl ?_
      have o_9 := (wt_11_6 oa0).2
      refine r_getR (pc := 44) fg_11_48 rfl oa0 (wt_11_6 oa0).1 dX11_uncle_44 ?_
      refine r_aload_n (pc := 47) (i := 3) dX11_uncle_47 rfl 0 rfl ?_
      obtain ⟨q_10, hq_10, h⟩ := ob h
      refine r_cV (pc := 48) (Y := xX4_ofAll) (As := [.ref (gA G m_2)]) (rest := [.long (eJ q_8)]) (v := (some (.long (eJ q_10)))) (st1 := [.long (eJ q_10), .long (eJ q_8)]) ck_X11_uncle_196 (kX4_ofAll (gR a0 6) m_2 q_5 o_9 om_2 hq_10) o_9 rfl rfl rfl rfl (Nat.le_of_ble_eq_true rfl) ⟨rfl, rfl⟩ rfl dX11_uncle_48 ?_
      refine r_iload_n (pc := 51) (i := 2) dX11_uncle_51 rfl 3 rfl ?_
      obtain ⟨q_11, hq_11, h⟩ := ob h
      refine r_cS (pc := 52) (Y := xX11_fraction) (As := [.long (eJ q_8), .long (eJ q_10), .int (eI x2)]) (rest := []) (v := (some (.long (eJ q_11)))) (st1 := [.long (eJ q_11)]) ck_X11_uncle_165 (kX11_fraction q_8 q_10 x2 q_5  hq_11) rfl rfl (Nat.le_of_ble_eq_true rfl) ⟨rfl, rfl⟩ rfl dX11_uncle_52 ?_
      cases h
      exact r_lret (pc := 55) rfl (Nat.le_refl 0) (Nat.le_refl 0) dX11_uncle_55
    · replace h := (if_pos c_3).symm.trans h
      refine r_sub (lv' := []) [] rfl ?_
      exact bX11_uncle_b17 a0 x1 x2 oa0 _ h
theorem kX11_uncle {G : GG} (a0 : Nat) (x1 : Int) (x2 : Int) (M : MM) {res : (Int × MM)} (oa0 : OB L0 a0 11) (h : sX11_uncle a0 x1 x2 M = some res) : CO G xX11_uncle [.ref (gA G a0), .int (eI x1), .int (eI x2)] L0 M (some (.long (eJ res.1))) L0 res.2 := CO_of (by decide +kernel) (Nat.le_of_ble_eq_true rfl) (bX11_uncle_b0 a0 x1 x2 oa0 M h)
abbrev xX11_lifts : XX := (yX11_lifts, cX11_lifts, 6, (some .int), 5, 121, 0, 0)
theorem ck_X11_lifts_94 : CKV xX11_lifts 94 xX11_partyAt 1 := ⟨⟨tb_i 866 (by decide +kernel) (by decide +kernel), tb_i 139 (by decide +kernel) (by decide +kernel), tb_i 869 (by decide +kernel) (by decide +kernel), ⟨by decide +kernel, by decide +kernel, by decide +kernel⟩, by decide, by decide⟩, tb_i 868 (by decide +kernel) (by decide +kernel), tb_i 13 (by decide +kernel) (by decide +kernel)⟩
theorem ck_X11_lifts_104 : CKV xX11_lifts 104 xX5_has 1 := ⟨⟨tb_i 878 (by decide +kernel) (by decide +kernel), tb_i 141 (by decide +kernel) (by decide +kernel), tb_i 881 (by decide +kernel) (by decide +kernel), ⟨by decide +kernel, by decide +kernel, by decide +kernel⟩, by decide, by decide⟩, tb_i 879 (by decide +kernel) (by decide +kernel), tb_i 880 (by decide +kernel) (by decide +kernel)⟩
theorem ck_X11_lifts_184 : CKV xX11_lifts 184 xX5_canBeTold 0 := ⟨⟨tb_i 1047 (by decide +kernel) (by decide +kernel), tb_i 141 (by decide +kernel) (by decide +kernel), tb_i 1050 (by decide +kernel) (by decide +kernel), ⟨by decide +kernel, by decide +kernel, by decide +kernel⟩, by decide, by decide⟩, tb_i 1048 (by decide +kernel) (by decide +kernel), tb_i 1049 (by decide +kernel) (by decide +kernel)⟩
theorem ck_X11_lifts_200 : CKV xX11_lifts 200 xX4_knowsAll 1 := ⟨⟨tb_i 1094 (by decide +kernel) (by decide +kernel), tb_i 149 (by decide +kernel) (by decide +kernel), tb_i 1097 (by decide +kernel) (by decide +kernel), ⟨by decide +kernel, by decide +kernel, by decide +kernel⟩, by decide, by decide⟩, tb_i 1095 (by decide +kernel) (by decide +kernel), tb_i 1096 (by decide +kernel) (by decide +kernel)⟩
theorem ck_X11_lifts_214 : CKV xX11_lifts 214 xX4_isBetterLifted 4 := ⟨⟨tb_i 1125 (by decide +kernel) (by decide +kernel), tb_i 149 (by decide +kernel) (by decide +kernel), tb_i 1128 (by decide +kernel) (by decide +kernel), ⟨by decide +kernel, by decide +kernel, by decide +kernel⟩, by decide, by decide⟩, tb_i 1126 (by decide +kernel) (by decide +kernel), tb_i 1127 (by decide +kernel) (by decide +kernel)⟩
def sX11_lifts_b0 (a0 : Nat) (x1 : Int) (x2 : Int) (x3 : Int) (x4 : Int)   (M : MM) : Option (Int × MM) := ((sX11_partyAt a0 x1 M).bind fun q_1 => (nM q_1 (some (((-1), M))) fun m_2 => (if wI (sX5_canBeTold m_2 M) = 0 then (some (((-1), M))) else (if wI (sX5_has m_2 x2 M) = 0 then (some (((-1), M))) else (if wI x3 < 0 then (some (((-1), M))) else (if wI x3 < wI (M m_2 12) then (if wI x4 < 1 then (some (((-1), M))) else (if wI x4 ≤ 30 then ((sX4_knowsAll (gR a0 6) m_2 M).bind fun q_10 => ((sX4_isBetterLifted (gR a0 6) m_2 x2 x3 x4 q_10).bind fun q_12 => (if wI q_12 = 0 then (some ((0, q_10))) else (some ((1, q_10)))))) else (some (((-1), M))))) else (some (((-1), M)))))))))
def sX11_lifts (a0 : Nat) (x1 : Int) (x2 : Int) (x3 : Int) (x4 : Int) (M : MM) : Option (Int × MM) := sX11_lifts_b0 a0 x1 x2 x3 x4 M
set_option maxHeartbeats 4000000 in
set_option maxRecDepth 100000 in
theorem bX11_lifts_b0 {G : GG} (a0 : Nat) (x1 : Int) (x2 : Int) (x3 : Int) (x4 : Int) (oa0 : OB L0 a0 11)  (M : MM) {res : (Int × MM)}  (h : sX11_lifts_b0 a0 x1 x2 x3 x4 M = some res) : VV G xX11_lifts (ZM G xX11_lifts (some (.int (eI res.1))) L0 res.2) L0 M 0 0 0 [(0, .ref (gA G a0)), (1, .int (eI x1)), (2, .int (eI x2)), (3, .int (eI x3)), (4, .int (eI x4))] [] := by
  unfold sX11_lifts_b0 at h
  refine r_aload_n (pc := 0) (i := 0) dX11_lifts_0 rfl 0 rfl ?_
  refine r_iload_n (pc := 1) (i := 1) dX11_lifts_1 rfl 1 rfl ?_
  obtain ⟨q_1, hq_1, h⟩ := ob h
  refine r_cV (pc := 2) (Y := xX11_partyAt) (As := [.int (eI x1)]) (rest := []) (v := (some (nV G q_1))) (st1 := [nV G q_1]) ck_X11_lifts_94 (kX11_partyAt a0 x1 M oa0 hq_1) oa0 rfl rfl rfl rfl (Nat.le_of_ble_eq_true rfl) ⟨rfl, rfl⟩ rfl dX11_lifts_2 ?_
  have oq_1 := nX11_partyAt _ _ _ oa0 hq_1
  rcases q_1 with _ | m_2
  · replace h := nM_z h
    refine r_stk (st' := [.null]) rfl ?_
    refine r_astoreN (pc := 5) (lv' := [(5, .null), (0, .ref (gA G a0)), (1, .int (eI x1)), (2, .int (eI x2)), (3, .int (eI x3)), (4, .int (eI x4))]) dX11_lifts_5 (Nat.le_of_ble_eq_true rfl) rfl ?_
    refine r_aloadN (pc := 7) dX11_lifts_7 0 rfl ?_
    refine r_ifnullN (pc := 9) (tgt := 42) dX11_lifts_9 (by decide) ?_
    refine r_iconst (pc := 42) (v := (-1)) dX11_lifts_42 (by decide +kernel) ?_
    cases h
    exact r_iret (pc := 43) rfl rfl (Nat.le_refl 0) (Nat.le_refl 0) dX11_lifts_43
  · replace h := nM_s h
    have om_2 := oq_1 _ rfl
    refine r_stk (st' := [.ref (gA G m_2)]) rfl ?_
    refine r_astore (pc := 5) (lv' := [(5, .ref (gA G m_2)), (0, .ref (gA G a0)), (1, .int (eI x1)), (2, .int (eI x2)), (3, .int (eI x3)), (4, .int (eI x4))]) dX11_lifts_5 (Nat.le_of_ble_eq_true rfl) rfl ?_
    refine r_aload (pc := 7) dX11_lifts_7 0 rfl ?_
    refine r_ifnullR (pc := 9) dX11_lifts_9 ?_
    refine r_aload (pc := 12) dX11_lifts_12 0 rfl ?_
    refine r_cV (pc := 14) (Y := xX5_canBeTold) (As := []) (rest := []) (v := (some (.int (eI (sX5_canBeTold m_2 M))))) (st1 := [.int (eI (sX5_canBeTold m_2 M))]) ck_X11_lifts_184 (kX5_canBeTold m_2 M om_2) om_2 rfl rfl rfl rfl (Nat.le_of_ble_eq_true rfl) ⟨rfl, rfl⟩ rfl dX11_lifts_14 ?_
    refine r_if_eq (pc := 17) (tgt := 42) dX11_lifts_17 (by decide) rfl (fun c_3 => ?_) (fun c_3 => ?_)
    · replace h := (if_pos c_3).symm.trans h
      refine r_iconst (pc := 42) (v := (-1)) dX11_lifts_42 (by decide +kernel) ?_
      cases h
      exact r_iret (pc := 43) rfl rfl (Nat.le_refl 0) (Nat.le_refl 0) dX11_lifts_43
    · replace h := (if_neg c_3).symm.trans h
      refine r_aload (pc := 20) dX11_lifts_20 0 rfl ?_
      refine r_iload_n (pc := 22) (i := 2) dX11_lifts_22 rfl 3 rfl ?_
      refine r_cV (pc := 23) (Y := xX5_has) (As := [.int (eI x2)]) (rest := []) (v := (some (.int (eI (sX5_has m_2 x2 M))))) (st1 := [.int (eI (sX5_has m_2 x2 M))]) ck_X11_lifts_104 (kX5_has m_2 x2 M om_2) om_2 rfl rfl rfl rfl (Nat.le_of_ble_eq_true rfl) ⟨rfl, rfl⟩ rfl dX11_lifts_23 ?_
      refine r_if_eq (pc := 26) (tgt := 42) dX11_lifts_26 (by decide) rfl (fun c_4 => ?_) (fun c_4 => ?_)
      · replace h := (if_pos c_4).symm.trans h
        refine r_iconst (pc := 42) (v := (-1)) dX11_lifts_42 (by decide +kernel) ?_
        cases h
        exact r_iret (pc := 43) rfl rfl (Nat.le_refl 0) (Nat.le_refl 0) dX11_lifts_43
      · replace h := (if_neg c_4).symm.trans h
        refine r_iload_n (pc := 29) (i := 3) dX11_lifts_29 rfl 4 rfl ?_
        refine r_if_lt (pc := 30) (tgt := 42) dX11_lifts_30 (by decide) rfl (fun c_5 => ?_) (fun c_5 => ?_)
        · replace h := (if_pos c_5).symm.trans h
          refine r_iconst (pc := 42) (v := (-1)) dX11_lifts_42 (by decide +kernel) ?_
          cases h
          exact r_iret (pc := 43) rfl rfl (Nat.le_refl 0) (Nat.le_refl 0) dX11_lifts_43
        · replace h := (if_neg c_5).symm.trans h
          refine r_iload_n (pc := 33) (i := 3) dX11_lifts_33 rfl 4 rfl ?_
          refine r_aload (pc := 34) dX11_lifts_34 0 rfl ?_
          refine r_getI (pc := 36) fg_11_211 rfl om_2 dX11_lifts_36 ?_
          refine r_icmp_lt (pc := 39) (tgt := 44) dX11_lifts_39 (by decide) rfl rfl (fun c_6 => ?_) (fun c_6 => ?_)
          · replace h := (if_pos c_6).symm.trans h
            refine r_iload (pc := 44) dX11_lifts_44 5 rfl ?_
            refine r_iconst (pc := 46) (v := 1) dX11_lifts_46 (by decide +kernel) ?_
            refine r_icmp_lt (pc := 47) (tgt := 57) dX11_lifts_47 (by decide) rfl wl_1 (fun c_7 => ?_) (fun c_7 => ?_)
            · replace h := (if_pos c_7).symm.trans h
              refine r_iconst (pc := 57) (v := (-1)) dX11_lifts_57 (by decide +kernel) ?_
              cases h
              exact r_iret (pc := 58) rfl rfl (Nat.le_refl 0) (Nat.le_refl 0) dX11_lifts_58
            · replace h := (if_neg c_7).symm.trans h
              refine r_iload (pc := 50) dX11_lifts_50 5 rfl ?_
              refine r_bipush (pc := 52) (v := 30) dX11_lifts_52 (by decide +kernel) ?_
              refine r_icmp_le (pc := 54) (tgt := 59) dX11_lifts_54 (by decide) rfl wl_30 (fun c_8 => ?_) (fun c_8 => ?_)
              · replace h := (if_pos c_8).symm.trans h
                refine r_aload_n (pc := 59) (i := 0) dX11_lifts_59 rfl 1 rfl ?_
                have o_9 := (wt_11_6 oa0).2
                refine r_getR (pc := 60) fg_11_48 rfl oa0 (wt_11_6 oa0).1 dX11_lifts_60 ?_
                refine r_aload (pc := 63) dX11_lifts_63 0 rfl ?_
                obtain ⟨q_10, hq_10, h⟩ := ob h
                refine r_cV (pc := 65) (Y := xX4_knowsAll) (As := [.ref (gA G m_2)]) (rest := []) (v := none) (st1 := []) ck_X11_lifts_200 (kX4_knowsAll (gR a0 6) m_2 M o_9 om_2 hq_10) o_9 rfl rfl rfl rfl (Nat.le_of_ble_eq_true rfl) ⟨rfl, rfl⟩ rfl dX11_lifts_65 ?_
                refine r_aload_n (pc := 68) (i := 0) dX11_lifts_68 rfl 1 rfl ?_
                have o_11 := (wt_11_6 oa0).2
                refine r_getR (pc := 69) fg_11_48 rfl oa0 (wt_11_6 oa0).1 dX11_lifts_69 ?_
                refine r_aload (pc := 72) dX11_lifts_72 0 rfl ?_
                refine r_iload_n (pc := 74) (i := 2) dX11_lifts_74 rfl 3 rfl ?_
                refine r_iload_n (pc := 75) (i := 3) dX11_lifts_75 rfl 4 rfl ?_
                refine r_iload (pc := 76) dX11_lifts_76 5 rfl ?_
                obtain ⟨q_12, hq_12, h⟩ := ob h
                refine r_cV (pc := 78) (Y := xX4_isBetterLifted) (As := [.ref (gA G m_2), .int (eI x2), .int (eI x3), .int (eI x4)]) (rest := []) (v := (some (.int (eI q_12)))) (st1 := [.int (eI q_12)]) ck_X11_lifts_214 (kX4_isBetterLifted (gR a0 6) m_2 x2 x3 x4 q_10 o_11 om_2 hq_12) o_11 rfl rfl rfl rfl (Nat.le_of_ble_eq_true rfl) ⟨rfl, rfl⟩ rfl dX11_lifts_78 ?_
                refine r_if_eq (pc := 81) (tgt := 88) dX11_lifts_81 (by decide) rfl (fun c_13 => ?_) (fun c_13 => ?_)
                · replace h := (if_pos c_13).symm.trans h
                  refine r_iconst (pc := 88) (v := 0) dX11_lifts_88 (by decide +kernel) ?_
                  cases h
                  exact r_iret (pc := 89) rfl rfl (Nat.le_refl 0) (Nat.le_refl 0) dX11_lifts_89
                · replace h := (if_neg c_13).symm.trans h
                  refine r_iconst (pc := 84) (v := 1) dX11_lifts_84 (by decide +kernel) ?_
                  refine r_goto (pc := 85) (tgt := 89) dX11_lifts_85 (by decide) ?_
                  cases h
                  exact r_iret (pc := 89) rfl rfl (Nat.le_refl 0) (Nat.le_refl 0) dX11_lifts_89
              · replace h := (if_neg c_8).symm.trans h
                refine r_iconst (pc := 57) (v := (-1)) dX11_lifts_57 (by decide +kernel) ?_
                cases h
                exact r_iret (pc := 58) rfl rfl (Nat.le_refl 0) (Nat.le_refl 0) dX11_lifts_58
          · replace h := (if_neg c_6).symm.trans h
            refine r_iconst (pc := 42) (v := (-1)) dX11_lifts_42 (by decide +kernel) ?_
            cases h
            exact r_iret (pc := 43) rfl rfl (Nat.le_refl 0) (Nat.le_refl 0) dX11_lifts_43
theorem kX11_lifts {G : GG} (a0 : Nat) (x1 : Int) (x2 : Int) (x3 : Int) (x4 : Int) (M : MM) {res : (Int × MM)} (oa0 : OB L0 a0 11) (h : sX11_lifts a0 x1 x2 x3 x4 M = some res) : CO G xX11_lifts [.ref (gA G a0), .int (eI x1), .int (eI x2), .int (eI x3), .int (eI x4)] L0 M (some (.int (eI res.1))) L0 res.2 := CO_of (by decide +kernel) (Nat.le_of_ble_eq_true rfl) (bX11_lifts_b0 a0 x1 x2 x3 x4 oa0 M h)
abbrev xX11_fair : XX := (yX11_fair, cX11_fair, 3, (some .int), 4, 106, 0, 0)
theorem ck_X11_fair_94 : CKV xX11_fair 94 xX11_partyAt 1 := ⟨⟨tb_i 866 (by decide +kernel) (by decide +kernel), tb_i 139 (by decide +kernel) (by decide +kernel), tb_i 869 (by decide +kernel) (by decide +kernel), ⟨by decide +kernel, by decide +kernel, by decide +kernel⟩, by decide, by decide⟩, tb_i 868 (by decide +kernel) (by decide +kernel), tb_i 13 (by decide +kernel) (by decide +kernel)⟩
theorem ck_X11_fair_184 : CKV xX11_fair 184 xX5_canBeTold 0 := ⟨⟨tb_i 1047 (by decide +kernel) (by decide +kernel), tb_i 141 (by decide +kernel) (by decide +kernel), tb_i 1050 (by decide +kernel) (by decide +kernel), ⟨by decide +kernel, by decide +kernel, by decide +kernel⟩, by decide, by decide⟩, tb_i 1048 (by decide +kernel) (by decide +kernel), tb_i 1049 (by decide +kernel) (by decide +kernel)⟩
theorem ck_X11_fair_221 : CKV xX11_fair 221 xX4_fairest 1 := ⟨⟨tb_i 1134 (by decide +kernel) (by decide +kernel), tb_i 149 (by decide +kernel) (by decide +kernel), tb_i 1137 (by decide +kernel) (by decide +kernel), ⟨by decide +kernel, by decide +kernel, by decide +kernel⟩, by decide, by decide⟩, tb_i 1135 (by decide +kernel) (by decide +kernel), tb_i 1136 (by decide +kernel) (by decide +kernel)⟩
def sX11_fair_b0 (a0 : Nat) (x1 : Int)   (M : MM) : Option (Int × MM) := ((sX11_partyAt a0 x1 M).bind fun q_1 => (nM q_1 (some (((-1), M))) fun m_2 => (if wI (sX5_canBeTold m_2 M) = 0 then (some (((-1), M))) else (if wI (M m_2 3) ≤ 5 then ((sX4_fairest (gR a0 6) m_2 M).bind fun q_6 => (some (((q_6.1), q_6.2)))) else (some (((-1), M)))))))
def sX11_fair (a0 : Nat) (x1 : Int) (M : MM) : Option (Int × MM) := sX11_fair_b0 a0 x1 M
set_option maxHeartbeats 4000000 in
set_option maxRecDepth 100000 in
theorem bX11_fair_b0 {G : GG} (a0 : Nat) (x1 : Int) (oa0 : OB L0 a0 11)  (M : MM) {res : (Int × MM)}  (h : sX11_fair_b0 a0 x1 M = some res) : VV G xX11_fair (ZM G xX11_fair (some (.int (eI res.1))) L0 res.2) L0 M 0 0 0 [(0, .ref (gA G a0)), (1, .int (eI x1))] [] := by
  unfold sX11_fair_b0 at h
  refine r_aload_n (pc := 0) (i := 0) dX11_fair_0 rfl 0 rfl ?_
  refine r_iload_n (pc := 1) (i := 1) dX11_fair_1 rfl 1 rfl ?_
  obtain ⟨q_1, hq_1, h⟩ := ob h
  refine r_cV (pc := 2) (Y := xX11_partyAt) (As := [.int (eI x1)]) (rest := []) (v := (some (nV G q_1))) (st1 := [nV G q_1]) ck_X11_fair_94 (kX11_partyAt a0 x1 M oa0 hq_1) oa0 rfl rfl rfl rfl (Nat.le_of_ble_eq_true rfl) ⟨rfl, rfl⟩ rfl dX11_fair_2 ?_
  have oq_1 := nX11_partyAt _ _ _ oa0 hq_1
  rcases q_1 with _ | m_2
  · replace h := nM_z h
    refine r_stk (st' := [.null]) rfl ?_
    refine r_astore_nN (pc := 5) (i := 2) (lv' := [(2, .null), (0, .ref (gA G a0)), (1, .int (eI x1))]) dX11_fair_5 rfl (Nat.le_of_ble_eq_true rfl) rfl ?_
    refine r_aload_nN (pc := 6) (i := 2) dX11_fair_6 rfl 0 rfl ?_
    refine r_ifnullN (pc := 7) (tgt := 25) dX11_fair_7 (by decide) ?_
    refine r_iconst (pc := 25) (v := (-1)) dX11_fair_25 (by decide +kernel) ?_
    cases h
    exact r_iret (pc := 26) rfl rfl (Nat.le_refl 0) (Nat.le_refl 0) dX11_fair_26
  · replace h := nM_s h
    have om_2 := oq_1 _ rfl
    refine r_stk (st' := [.ref (gA G m_2)]) rfl ?_
    refine r_astore_n (pc := 5) (i := 2) (lv' := [(2, .ref (gA G m_2)), (0, .ref (gA G a0)), (1, .int (eI x1))]) dX11_fair_5 rfl (Nat.le_of_ble_eq_true rfl) rfl ?_
    refine r_aload_n (pc := 6) (i := 2) dX11_fair_6 rfl 0 rfl ?_
    refine r_ifnullR (pc := 7) dX11_fair_7 ?_
    refine r_aload_n (pc := 10) (i := 2) dX11_fair_10 rfl 0 rfl ?_
    refine r_cV (pc := 11) (Y := xX5_canBeTold) (As := []) (rest := []) (v := (some (.int (eI (sX5_canBeTold m_2 M))))) (st1 := [.int (eI (sX5_canBeTold m_2 M))]) ck_X11_fair_184 (kX5_canBeTold m_2 M om_2) om_2 rfl rfl rfl rfl (Nat.le_of_ble_eq_true rfl) ⟨rfl, rfl⟩ rfl dX11_fair_11 ?_
    refine r_if_eq (pc := 14) (tgt := 25) dX11_fair_14 (by decide) rfl (fun c_3 => ?_) (fun c_3 => ?_)
    · replace h := (if_pos c_3).symm.trans h
      refine r_iconst (pc := 25) (v := (-1)) dX11_fair_25 (by decide +kernel) ?_
      cases h
      exact r_iret (pc := 26) rfl rfl (Nat.le_refl 0) (Nat.le_refl 0) dX11_fair_26
    · replace h := (if_neg c_3).symm.trans h
      refine r_aload_n (pc := 17) (i := 2) dX11_fair_17 rfl 0 rfl ?_
      refine r_getI (pc := 18) fg_11_218 rfl om_2 dX11_fair_18 ?_
      refine r_iconst (pc := 21) (v := 5) dX11_fair_21 (by decide +kernel) ?_
      refine r_icmp_le (pc := 22) (tgt := 27) dX11_fair_22 (by decide) rfl wl_5 (fun c_4 => ?_) (fun c_4 => ?_)
      · replace h := (if_pos c_4).symm.trans h
        refine r_aload_n (pc := 27) (i := 0) dX11_fair_27 rfl 1 rfl ?_
        have o_5 := (wt_11_6 oa0).2
        refine r_getR (pc := 28) fg_11_48 rfl oa0 (wt_11_6 oa0).1 dX11_fair_28 ?_
        refine r_aload_n (pc := 31) (i := 2) dX11_fair_31 rfl 0 rfl ?_
        obtain ⟨q_6, hq_6, h⟩ := ob h
        refine r_cV (pc := 32) (Y := xX4_fairest) (As := [.ref (gA G m_2)]) (rest := []) (v := (some (.int (eI (q_6.1))))) (st1 := [.int (eI (q_6.1))]) ck_X11_fair_221 (kX4_fairest (gR a0 6) m_2 M o_5 om_2 hq_6) o_5 rfl rfl rfl rfl (Nat.le_of_ble_eq_true rfl) ⟨rfl, rfl⟩ rfl dX11_fair_32 ?_
        cases h
        exact r_iret (pc := 35) rfl rfl (Nat.le_refl 0) (Nat.le_refl 0) dX11_fair_35
      · replace h := (if_neg c_4).symm.trans h
        refine r_iconst (pc := 25) (v := (-1)) dX11_fair_25 (by decide +kernel) ?_
        cases h
        exact r_iret (pc := 26) rfl rfl (Nat.le_refl 0) (Nat.le_refl 0) dX11_fair_26
theorem kX11_fair {G : GG} (a0 : Nat) (x1 : Int) (M : MM) {res : (Int × MM)} (oa0 : OB L0 a0 11) (h : sX11_fair a0 x1 M = some res) : CO G xX11_fair [.ref (gA G a0), .int (eI x1)] L0 M (some (.int (eI res.1))) L0 res.2 := CO_of (by decide +kernel) (Nat.le_of_ble_eq_true rfl) (bX11_fair_b0 a0 x1 oa0 M h)
abbrev xX11_thick : XX := (yX11_thick, cX11_thick, 3, (some .int), 4, 108, 0, 0)
theorem ck_X11_thick_94 : CKV xX11_thick 94 xX11_partyAt 1 := ⟨⟨tb_i 866 (by decide +kernel) (by decide +kernel), tb_i 139 (by decide +kernel) (by decide +kernel), tb_i 869 (by decide +kernel) (by decide +kernel), ⟨by decide +kernel, by decide +kernel, by decide +kernel⟩, by decide, by decide⟩, tb_i 868 (by decide +kernel) (by decide +kernel), tb_i 13 (by decide +kernel) (by decide +kernel)⟩
theorem ck_X11_thick_184 : CKV xX11_thick 184 xX5_canBeTold 0 := ⟨⟨tb_i 1047 (by decide +kernel) (by decide +kernel), tb_i 141 (by decide +kernel) (by decide +kernel), tb_i 1050 (by decide +kernel) (by decide +kernel), ⟨by decide +kernel, by decide +kernel, by decide +kernel⟩, by decide, by decide⟩, tb_i 1048 (by decide +kernel) (by decide +kernel), tb_i 1049 (by decide +kernel) (by decide +kernel)⟩
theorem ck_X11_thick_225 : CKV xX11_thick 225 xX4_bestLayers 1 := ⟨⟨tb_i 1163 (by decide +kernel) (by decide +kernel), tb_i 149 (by decide +kernel) (by decide +kernel), tb_i 1166 (by decide +kernel) (by decide +kernel), ⟨by decide +kernel, by decide +kernel, by decide +kernel⟩, by decide, by decide⟩, tb_i 1164 (by decide +kernel) (by decide +kernel), tb_i 1165 (by decide +kernel) (by decide +kernel)⟩
def sX11_thick_b0 (a0 : Nat) (x1 : Int)   (M : MM) : Option (Int × MM) := ((sX11_partyAt a0 x1 M).bind fun q_1 => (nM q_1 (some (((-1), M))) fun m_2 => (if wI (sX5_canBeTold m_2 M) = 0 then (some (((-1), M))) else ((sX4_bestLayers (gR a0 6) m_2 M).bind fun q_5 => (some (((q_5.1), q_5.2)))))))
def sX11_thick (a0 : Nat) (x1 : Int) (M : MM) : Option (Int × MM) := sX11_thick_b0 a0 x1 M
set_option maxHeartbeats 4000000 in
set_option maxRecDepth 100000 in
theorem bX11_thick_b0 {G : GG} (a0 : Nat) (x1 : Int) (oa0 : OB L0 a0 11)  (M : MM) {res : (Int × MM)}  (h : sX11_thick_b0 a0 x1 M = some res) : VV G xX11_thick (ZM G xX11_thick (some (.int (eI res.1))) L0 res.2) L0 M 0 0 0 [(0, .ref (gA G a0)), (1, .int (eI x1))] [] := by
  unfold sX11_thick_b0 at h
  refine r_aload_n (pc := 0) (i := 0) dX11_thick_0 rfl 0 rfl ?_
  refine r_iload_n (pc := 1) (i := 1) dX11_thick_1 rfl 1 rfl ?_
  obtain ⟨q_1, hq_1, h⟩ := ob h
  refine r_cV (pc := 2) (Y := xX11_partyAt) (As := [.int (eI x1)]) (rest := []) (v := (some (nV G q_1))) (st1 := [nV G q_1]) ck_X11_thick_94 (kX11_partyAt a0 x1 M oa0 hq_1) oa0 rfl rfl rfl rfl (Nat.le_of_ble_eq_true rfl) ⟨rfl, rfl⟩ rfl dX11_thick_2 ?_
  have oq_1 := nX11_partyAt _ _ _ oa0 hq_1
  rcases q_1 with _ | m_2
  · replace h := nM_z h
    refine r_stk (st' := [.null]) rfl ?_
    refine r_astore_nN (pc := 5) (i := 2) (lv' := [(2, .null), (0, .ref (gA G a0)), (1, .int (eI x1))]) dX11_thick_5 rfl (Nat.le_of_ble_eq_true rfl) rfl ?_
    refine r_aload_nN (pc := 6) (i := 2) dX11_thick_6 rfl 0 rfl ?_
    refine r_ifnullN (pc := 7) (tgt := 17) dX11_thick_7 (by decide) ?_
    refine r_iconst (pc := 17) (v := (-1)) dX11_thick_17 (by decide +kernel) ?_
    cases h
    exact r_iret (pc := 18) rfl rfl (Nat.le_refl 0) (Nat.le_refl 0) dX11_thick_18
  · replace h := nM_s h
    have om_2 := oq_1 _ rfl
    refine r_stk (st' := [.ref (gA G m_2)]) rfl ?_
    refine r_astore_n (pc := 5) (i := 2) (lv' := [(2, .ref (gA G m_2)), (0, .ref (gA G a0)), (1, .int (eI x1))]) dX11_thick_5 rfl (Nat.le_of_ble_eq_true rfl) rfl ?_
    refine r_aload_n (pc := 6) (i := 2) dX11_thick_6 rfl 0 rfl ?_
    refine r_ifnullR (pc := 7) dX11_thick_7 ?_
    refine r_aload_n (pc := 10) (i := 2) dX11_thick_10 rfl 0 rfl ?_
    refine r_cV (pc := 11) (Y := xX5_canBeTold) (As := []) (rest := []) (v := (some (.int (eI (sX5_canBeTold m_2 M))))) (st1 := [.int (eI (sX5_canBeTold m_2 M))]) ck_X11_thick_184 (kX5_canBeTold m_2 M om_2) om_2 rfl rfl rfl rfl (Nat.le_of_ble_eq_true rfl) ⟨rfl, rfl⟩ rfl dX11_thick_11 ?_
    refine r_if_ne (pc := 14) (tgt := 19) dX11_thick_14 (by decide) rfl (fun c_3 => ?_) (fun c_3 => ?_)
    · replace h := (if_neg c_3).symm.trans h
      refine r_aload_n (pc := 19) (i := 0) dX11_thick_19 rfl 1 rfl ?_
      have o_4 := (wt_11_6 oa0).2
      refine r_getR (pc := 20) fg_11_48 rfl oa0 (wt_11_6 oa0).1 dX11_thick_20 ?_
      refine r_aload_n (pc := 23) (i := 2) dX11_thick_23 rfl 0 rfl ?_
      obtain ⟨q_5, hq_5, h⟩ := ob h
      refine r_cV (pc := 24) (Y := xX4_bestLayers) (As := [.ref (gA G m_2)]) (rest := []) (v := (some (.int (eI (q_5.1))))) (st1 := [.int (eI (q_5.1))]) ck_X11_thick_225 (kX4_bestLayers (gR a0 6) m_2 M o_4 om_2 hq_5) o_4 rfl rfl rfl rfl (Nat.le_of_ble_eq_true rfl) ⟨rfl, rfl⟩ rfl dX11_thick_24 ?_
      cases h
      exact r_iret (pc := 27) rfl rfl (Nat.le_refl 0) (Nat.le_refl 0) dX11_thick_27
    · replace h := (if_pos c_3).symm.trans h
      refine r_iconst (pc := 17) (v := (-1)) dX11_thick_17 (by decide +kernel) ?_
      cases h
      exact r_iret (pc := 18) rfl rfl (Nat.le_refl 0) (Nat.le_refl 0) dX11_thick_18
theorem kX11_thick {G : GG} (a0 : Nat) (x1 : Int) (M : MM) {res : (Int × MM)} (oa0 : OB L0 a0 11) (h : sX11_thick a0 x1 M = some res) : CO G xX11_thick [.ref (gA G a0), .int (eI x1)] L0 M (some (.int (eI res.1))) L0 res.2 := CO_of (by decide +kernel) (Nat.le_of_ble_eq_true rfl) (bX11_thick_b0 a0 x1 oa0 M h)
abbrev xX11_cell : XX := (yX11_cell, cX11_cell, 6, (some .int), 4, 98, 0, 0)
theorem ck_X11_cell_94 : CKV xX11_cell 94 xX11_partyAt 1 := ⟨⟨tb_i 866 (by decide +kernel) (by decide +kernel), tb_i 139 (by decide +kernel) (by decide +kernel), tb_i 869 (by decide +kernel) (by decide +kernel), ⟨by decide +kernel, by decide +kernel, by decide +kernel⟩, by decide, by decide⟩, tb_i 868 (by decide +kernel) (by decide +kernel), tb_i 13 (by decide +kernel) (by decide +kernel)⟩
theorem ck_X11_cell_228 : CKV xX11_cell 228 xX5_mayStrike 1 := ⟨⟨tb_i 1171 (by decide +kernel) (by decide +kernel), tb_i 141 (by decide +kernel) (by decide +kernel), tb_i 1174 (by decide +kernel) (by decide +kernel), ⟨by decide +kernel, by decide +kernel, by decide +kernel⟩, by decide, by decide⟩, tb_i 1172 (by decide +kernel) (by decide +kernel), tb_i 1173 (by decide +kernel) (by decide +kernel)⟩
theorem ck_X11_cell_231 : CKS xX11_cell 231 xX11_ringOf 1 := ⟨⟨tb_i 1175 (by decide +kernel) (by decide +kernel), tb_i 139 (by decide +kernel) (by decide +kernel), tb_i 1177 (by decide +kernel) (by decide +kernel), ⟨by decide +kernel, by decide +kernel, by decide +kernel⟩, by decide, by decide⟩, tb_i 1176 (by decide +kernel) (by decide +kernel)⟩
theorem ck_X11_cell_234 : CKS xX11_cell 234 xX11_sideOf 1 := ⟨⟨tb_i 1183 (by decide +kernel) (by decide +kernel), tb_i 139 (by decide +kernel) (by decide +kernel), tb_i 1185 (by decide +kernel) (by decide +kernel), ⟨by decide +kernel, by decide +kernel, by decide +kernel⟩, by decide, by decide⟩, tb_i 1184 (by decide +kernel) (by decide +kernel)⟩
theorem ck_X11_cell_237 : CKV xX11_cell 237 xX10_whoPicks 3 := ⟨⟨tb_i 1186 (by decide +kernel) (by decide +kernel), tb_i 150 (by decide +kernel) (by decide +kernel), tb_i 1189 (by decide +kernel) (by decide +kernel), ⟨by decide +kernel, by decide +kernel, by decide +kernel⟩, by decide, by decide⟩, tb_i 1187 (by decide +kernel) (by decide +kernel), tb_i 1188 (by decide +kernel) (by decide +kernel)⟩
def sX11_cell_b0 (a0 : Nat) (x1 : Int) (x2 : Int) (x3 : Int) (x4 : Int) (M : MM)   : Option Int := ((sX11_partyAt a0 x1 M).bind fun q_1 => (nM q_1 (some ((-1))) fun m_2 => (if wI (sX5_mayStrike m_2 x2 M) = 0 then (some ((-1))) else (if wI x3 < 0 then (some ((-1))) else (if wI x3 < 25 then (if wI x4 = 0 then ((sX11_ringOf x3).bind fun q_7 => (some (q_7))) else (if wI x4 = 1 then (some ((sX11_sideOf x3))) else (if wI x4 = 2 then ((sX10_whoPicks (gR a0 7) m_2 x2 x3 M).bind fun q_11 => (some (q_11))) else (some ((-1)))))) else (some ((-1))))))))
def sX11_cell (a0 : Nat) (x1 : Int) (x2 : Int) (x3 : Int) (x4 : Int) (M : MM) : Option Int := sX11_cell_b0 a0 x1 x2 x3 x4 M
set_option maxHeartbeats 4000000 in
set_option maxRecDepth 100000 in
theorem bX11_cell_b0 {G : GG} (a0 : Nat) (x1 : Int) (x2 : Int) (x3 : Int) (x4 : Int) (M : MM) (oa0 : OB L0 a0 11)  {res : Int}  (h : sX11_cell_b0 a0 x1 x2 x3 x4 M = some res) : VV G xX11_cell (ZM G xX11_cell (some (.int (eI res))) L0 M) L0 M 0 0 0 [(0, .ref (gA G a0)), (1, .int (eI x1)), (2, .int (eI x2)), (3, .int (eI x3)), (4, .int (eI x4))] [] := by
  unfold sX11_cell_b0 at h
  refine r_aload_n (pc := 0) (i := 0) dX11_cell_0 rfl 0 rfl ?_
  refine r_iload_n (pc := 1) (i := 1) dX11_cell_1 rfl 1 rfl ?_
  obtain ⟨q_1, hq_1, h⟩ := ob h
  refine r_cV (pc := 2) (Y := xX11_partyAt) (As := [.int (eI x1)]) (rest := []) (v := (some (nV G q_1))) (st1 := [nV G q_1]) ck_X11_cell_94 (kX11_partyAt a0 x1 M oa0 hq_1) oa0 rfl rfl rfl rfl (Nat.le_of_ble_eq_true rfl) ⟨rfl, rfl⟩ rfl dX11_cell_2 ?_
  have oq_1 := nX11_partyAt _ _ _ oa0 hq_1
  rcases q_1 with _ | m_2
  · replace h := nM_z h
    refine r_stk (st' := [.null]) rfl ?_
    refine r_astoreN (pc := 5) (lv' := [(5, .null), (0, .ref (gA G a0)), (1, .int (eI x1)), (2, .int (eI x2)), (3, .int (eI x3)), (4, .int (eI x4))]) dX11_cell_5 (Nat.le_of_ble_eq_true rfl) rfl ?_
    refine r_aloadN (pc := 7) dX11_cell_7 0 rfl ?_
    refine r_ifnullN (pc := 9) (tgt := 31) dX11_cell_9 (by decide) ?_
    refine r_iconst (pc := 31) (v := (-1)) dX11_cell_31 (by decide +kernel) ?_
    cases h
    exact r_iret (pc := 32) rfl rfl (Nat.le_refl 0) (Nat.le_refl 0) dX11_cell_32
  · replace h := nM_s h
    have om_2 := oq_1 _ rfl
    refine r_stk (st' := [.ref (gA G m_2)]) rfl ?_
    refine r_astore (pc := 5) (lv' := [(5, .ref (gA G m_2)), (0, .ref (gA G a0)), (1, .int (eI x1)), (2, .int (eI x2)), (3, .int (eI x3)), (4, .int (eI x4))]) dX11_cell_5 (Nat.le_of_ble_eq_true rfl) rfl ?_
    refine r_aload (pc := 7) dX11_cell_7 0 rfl ?_
    refine r_ifnullR (pc := 9) dX11_cell_9 ?_
    refine r_aload (pc := 12) dX11_cell_12 0 rfl ?_
    refine r_iload_n (pc := 14) (i := 2) dX11_cell_14 rfl 3 rfl ?_
    refine r_cV (pc := 15) (Y := xX5_mayStrike) (As := [.int (eI x2)]) (rest := []) (v := (some (.int (eI (sX5_mayStrike m_2 x2 M))))) (st1 := [.int (eI (sX5_mayStrike m_2 x2 M))]) ck_X11_cell_228 (kX5_mayStrike m_2 x2 M om_2) om_2 rfl rfl rfl rfl (Nat.le_of_ble_eq_true rfl) ⟨rfl, rfl⟩ rfl dX11_cell_15 ?_
    refine r_if_eq (pc := 18) (tgt := 31) dX11_cell_18 (by decide) rfl (fun c_3 => ?_) (fun c_3 => ?_)
    · replace h := (if_pos c_3).symm.trans h
      refine r_iconst (pc := 31) (v := (-1)) dX11_cell_31 (by decide +kernel) ?_
      cases h
      exact r_iret (pc := 32) rfl rfl (Nat.le_refl 0) (Nat.le_refl 0) dX11_cell_32
    · replace h := (if_neg c_3).symm.trans h
      refine r_iload_n (pc := 21) (i := 3) dX11_cell_21 rfl 4 rfl ?_
      refine r_if_lt (pc := 22) (tgt := 31) dX11_cell_22 (by decide) rfl (fun c_4 => ?_) (fun c_4 => ?_)
      · replace h := (if_pos c_4).symm.trans h
        refine r_iconst (pc := 31) (v := (-1)) dX11_cell_31 (by decide +kernel) ?_
        cases h
        exact r_iret (pc := 32) rfl rfl (Nat.le_refl 0) (Nat.le_refl 0) dX11_cell_32
      · replace h := (if_neg c_4).symm.trans h
        refine r_iload_n (pc := 25) (i := 3) dX11_cell_25 rfl 4 rfl ?_
        refine r_bipush (pc := 26) (v := 25) dX11_cell_26 (by decide +kernel) ?_
        refine r_icmp_lt (pc := 28) (tgt := 33) dX11_cell_28 (by decide) rfl wl_25 (fun c_5 => ?_) (fun c_5 => ?_)
        · replace h := (if_pos c_5).symm.trans h
          refine r_iload (pc := 33) dX11_cell_33 5 rfl ?_
          by_cases c_6 : wI x4 = 0
          · replace h := (if_pos c_6).symm.trans h
            refine r_tsw (pc := 35) (tgt := 60) (k' := 0) (rfl.trans c_6) dX11_cell_35 (by decide) rfl (by decide) ?_
            refine r_iload_n (pc := 60) (i := 3) dX11_cell_60 rfl 4 rfl ?_
            obtain ⟨q_7, hq_7, h⟩ := ob h
            refine r_cS (pc := 61) (Y := xX11_ringOf) (As := [.int (eI x3)]) (rest := []) (v := (some (.int (eI q_7)))) (st1 := [.int (eI q_7)]) ck_X11_cell_231 (kX11_ringOf x3 M  hq_7) rfl rfl (Nat.le_of_ble_eq_true rfl) ⟨rfl, rfl⟩ rfl dX11_cell_61 ?_
            cases h
            exact r_iret (pc := 64) rfl rfl (Nat.le_refl 0) (Nat.le_refl 0) dX11_cell_64
          · replace h := (if_neg c_6).symm.trans h
            by_cases c_8 : wI x4 = 1
            · replace h := (if_pos c_8).symm.trans h
              refine r_tsw (pc := 35) (tgt := 65) (k' := 1) (rfl.trans c_8) dX11_cell_35 (by decide) rfl (by decide) ?_
              refine r_iload_n (pc := 65) (i := 3) dX11_cell_65 rfl 4 rfl ?_
              refine r_cS (pc := 66) (Y := xX11_sideOf) (As := [.int (eI x3)]) (rest := []) (v := (some (.int (eI (sX11_sideOf x3))))) (st1 := [.int (eI (sX11_sideOf x3))]) ck_X11_cell_234 (kX11_sideOf x3 M ) rfl rfl (Nat.le_of_ble_eq_true rfl) ⟨rfl, rfl⟩ rfl dX11_cell_66 ?_
              cases h
              exact r_iret (pc := 69) rfl rfl (Nat.le_refl 0) (Nat.le_refl 0) dX11_cell_69
            · replace h := (if_neg c_8).symm.trans h
              by_cases c_9 : wI x4 = 2
              · replace h := (if_pos c_9).symm.trans h
                refine r_tsw (pc := 35) (tgt := 70) (k' := 2) (rfl.trans c_9) dX11_cell_35 (by decide) rfl (by decide) ?_
                refine r_aload_n (pc := 70) (i := 0) dX11_cell_70 rfl 1 rfl ?_
                have o_10 := (wt_11_7 oa0).2
                refine r_getR (pc := 71) fg_11_55 rfl oa0 (wt_11_7 oa0).1 dX11_cell_71 ?_
                refine r_aload (pc := 74) dX11_cell_74 0 rfl ?_
                refine r_iload_n (pc := 76) (i := 2) dX11_cell_76 rfl 3 rfl ?_
                refine r_iload_n (pc := 77) (i := 3) dX11_cell_77 rfl 4 rfl ?_
                obtain ⟨q_11, hq_11, h⟩ := ob h
                refine r_cV (pc := 78) (Y := xX10_whoPicks) (As := [.ref (gA G m_2), .int (eI x2), .int (eI x3)]) (rest := []) (v := (some (.int (eI q_11)))) (st1 := [.int (eI q_11)]) ck_X11_cell_237 (kX10_whoPicks (gR a0 7) m_2 x2 x3 M o_10 om_2 hq_11) o_10 rfl rfl rfl rfl (Nat.le_of_ble_eq_true rfl) ⟨rfl, rfl⟩ rfl dX11_cell_78 ?_
                cases h
                exact r_iret (pc := 81) rfl rfl (Nat.le_refl 0) (Nat.le_refl 0) dX11_cell_81
              · replace h := (if_neg c_9).symm.trans h
                refine r_tswD (pc := 35) (tgt := 82) rfl dX11_cell_35 (by omega) (by decide) ?_
                refine r_iconst (pc := 82) (v := (-1)) dX11_cell_82 (by decide +kernel) ?_
                cases h
                exact r_iret (pc := 83) rfl rfl (Nat.le_refl 0) (Nat.le_refl 0) dX11_cell_83
        · replace h := (if_neg c_5).symm.trans h
          refine r_iconst (pc := 31) (v := (-1)) dX11_cell_31 (by decide +kernel) ?_
          cases h
          exact r_iret (pc := 32) rfl rfl (Nat.le_refl 0) (Nat.le_refl 0) dX11_cell_32
theorem kX11_cell {G : GG} (a0 : Nat) (x1 : Int) (x2 : Int) (x3 : Int) (x4 : Int) (M : MM) {res : Int} (oa0 : OB L0 a0 11) (h : sX11_cell a0 x1 x2 x3 x4 M = some res) : CO G xX11_cell [.ref (gA G a0), .int (eI x1), .int (eI x2), .int (eI x3), .int (eI x4)] L0 M (some (.int (eI res))) L0 M := CO_of (by decide +kernel) (Nat.le_of_ble_eq_true rfl) (bX11_cell_b0 a0 x1 x2 x3 x4 M oa0 h)
abbrev xX11_share : XX := (yX11_share, cX11_share, 6, (some .int), 6, 138, 0, 0)
theorem ck_X11_share_94 : CKV xX11_share 94 xX11_partyAt 1 := ⟨⟨tb_i 866 (by decide +kernel) (by decide +kernel), tb_i 139 (by decide +kernel) (by decide +kernel), tb_i 869 (by decide +kernel) (by decide +kernel), ⟨by decide +kernel, by decide +kernel, by decide +kernel⟩, by decide, by decide⟩, tb_i 868 (by decide +kernel) (by decide +kernel), tb_i 13 (by decide +kernel) (by decide +kernel)⟩
theorem ck_X11_share_104 : CKV xX11_share 104 xX5_has 1 := ⟨⟨tb_i 878 (by decide +kernel) (by decide +kernel), tb_i 141 (by decide +kernel) (by decide +kernel), tb_i 881 (by decide +kernel) (by decide +kernel), ⟨by decide +kernel, by decide +kernel, by decide +kernel⟩, by decide, by decide⟩, tb_i 879 (by decide +kernel) (by decide +kernel), tb_i 880 (by decide +kernel) (by decide +kernel)⟩
theorem ck_X11_share_165 : CKS xX11_share 165 xX11_fraction 3 := ⟨⟨tb_i 1009 (by decide +kernel) (by decide +kernel), tb_i 139 (by decide +kernel) (by decide +kernel), tb_i 1011 (by decide +kernel) (by decide +kernel), ⟨by decide +kernel, by decide +kernel, by decide +kernel⟩, by decide, by decide⟩, tb_i 1010 (by decide +kernel) (by decide +kernel)⟩
theorem ck_X11_share_228 : CKV xX11_share 228 xX5_mayStrike 1 := ⟨⟨tb_i 1171 (by decide +kernel) (by decide +kernel), tb_i 141 (by decide +kernel) (by decide +kernel), tb_i 1174 (by decide +kernel) (by decide +kernel), ⟨by decide +kernel, by decide +kernel, by decide +kernel⟩, by decide, by decide⟩, tb_i 1172 (by decide +kernel) (by decide +kernel), tb_i 1173 (by decide +kernel) (by decide +kernel)⟩
theorem ck_X11_share_241 : CKV xX11_share 241 xX10_shareOf 3 := ⟨⟨tb_i 1199 (by decide +kernel) (by decide +kernel), tb_i 150 (by decide +kernel) (by decide +kernel), tb_i 1202 (by decide +kernel) (by decide +kernel), ⟨by decide +kernel, by decide +kernel, by decide +kernel⟩, by decide, by decide⟩, tb_i 1200 (by decide +kernel) (by decide +kernel), tb_i 1201 (by decide +kernel) (by decide +kernel)⟩
theorem ck_X11_share_244 : CKV xX11_share 244 xX10_weightOfAll 1 := ⟨⟨tb_i 1212 (by decide +kernel) (by decide +kernel), tb_i 150 (by decide +kernel) (by decide +kernel), tb_i 1215 (by decide +kernel) (by decide +kernel), ⟨by decide +kernel, by decide +kernel, by decide +kernel⟩, by decide, by decide⟩, tb_i 1213 (by decide +kernel) (by decide +kernel), tb_i 1214 (by decide +kernel) (by decide +kernel)⟩
def sX11_share_b0 (a0 : Nat) (x1 : Int) (x2 : Int) (x3 : Int) (x4 : Int) (M : MM)   : Option Int := ((sX11_partyAt a0 x1 M).bind fun q_1 => (nM q_1 (some ((-1))) fun m_2 => (if wI (sX5_mayStrike m_2 x2 M) = 0 then (some ((-1))) else (if wI (sX5_has m_2 x3 M) = 0 then (some ((-1))) else ((sX10_shareOf (gR a0 7) m_2 x2 x3 M).bind fun q_6 => ((sX10_weightOfAll (gR a0 7) m_2 M).bind fun q_8 => ((sX11_fraction (wI q_6) (wI q_8) x4).bind fun q_9 => (some (q_9)))))))))
def sX11_share (a0 : Nat) (x1 : Int) (x2 : Int) (x3 : Int) (x4 : Int) (M : MM) : Option Int := sX11_share_b0 a0 x1 x2 x3 x4 M
set_option maxHeartbeats 4000000 in
set_option maxRecDepth 100000 in
theorem bX11_share_b0 {G : GG} (a0 : Nat) (x1 : Int) (x2 : Int) (x3 : Int) (x4 : Int) (M : MM) (oa0 : OB L0 a0 11)  {res : Int}  (h : sX11_share_b0 a0 x1 x2 x3 x4 M = some res) : VV G xX11_share (ZM G xX11_share (some (.int (eI res))) L0 M) L0 M 0 0 0 [(0, .ref (gA G a0)), (1, .int (eI x1)), (2, .int (eI x2)), (3, .int (eI x3)), (4, .int (eI x4))] [] := by
  unfold sX11_share_b0 at h
  refine r_aload_n (pc := 0) (i := 0) dX11_share_0 rfl 0 rfl ?_
  refine r_iload_n (pc := 1) (i := 1) dX11_share_1 rfl 1 rfl ?_
  obtain ⟨q_1, hq_1, h⟩ := ob h
  refine r_cV (pc := 2) (Y := xX11_partyAt) (As := [.int (eI x1)]) (rest := []) (v := (some (nV G q_1))) (st1 := [nV G q_1]) ck_X11_share_94 (kX11_partyAt a0 x1 M oa0 hq_1) oa0 rfl rfl rfl rfl (Nat.le_of_ble_eq_true rfl) ⟨rfl, rfl⟩ rfl dX11_share_2 ?_
  have oq_1 := nX11_partyAt _ _ _ oa0 hq_1
  rcases q_1 with _ | m_2
  · replace h := nM_z h
    refine r_stk (st' := [.null]) rfl ?_
    refine r_astoreN (pc := 5) (lv' := [(5, .null), (0, .ref (gA G a0)), (1, .int (eI x1)), (2, .int (eI x2)), (3, .int (eI x3)), (4, .int (eI x4))]) dX11_share_5 (Nat.le_of_ble_eq_true rfl) rfl ?_
    refine r_aloadN (pc := 7) dX11_share_7 0 rfl ?_
    refine r_ifnullN (pc := 9) (tgt := 30) dX11_share_9 (by decide) ?_
    refine r_iconst (pc := 30) (v := (-1)) dX11_share_30 (by decide +kernel) ?_
    cases h
    exact r_iret (pc := 31) rfl rfl (Nat.le_refl 0) (Nat.le_refl 0) dX11_share_31
  · replace h := nM_s h
    have om_2 := oq_1 _ rfl
    refine r_stk (st' := [.ref (gA G m_2)]) rfl ?_
    refine r_astore (pc := 5) (lv' := [(5, .ref (gA G m_2)), (0, .ref (gA G a0)), (1, .int (eI x1)), (2, .int (eI x2)), (3, .int (eI x3)), (4, .int (eI x4))]) dX11_share_5 (Nat.le_of_ble_eq_true rfl) rfl ?_
    refine r_aload (pc := 7) dX11_share_7 0 rfl ?_
    refine r_ifnullR (pc := 9) dX11_share_9 ?_
    refine r_aload (pc := 12) dX11_share_12 0 rfl ?_
    refine r_iload_n (pc := 14) (i := 2) dX11_share_14 rfl 3 rfl ?_
    refine r_cV (pc := 15) (Y := xX5_mayStrike) (As := [.int (eI x2)]) (rest := []) (v := (some (.int (eI (sX5_mayStrike m_2 x2 M))))) (st1 := [.int (eI (sX5_mayStrike m_2 x2 M))]) ck_X11_share_228 (kX5_mayStrike m_2 x2 M om_2) om_2 rfl rfl rfl rfl (Nat.le_of_ble_eq_true rfl) ⟨rfl, rfl⟩ rfl dX11_share_15 ?_
    refine r_if_eq (pc := 18) (tgt := 30) dX11_share_18 (by decide) rfl (fun c_3 => ?_) (fun c_3 => ?_)
    · replace h := (if_pos c_3).symm.trans h
      refine r_iconst (pc := 30) (v := (-1)) dX11_share_30 (by decide +kernel) ?_
      cases h
      exact r_iret (pc := 31) rfl rfl (Nat.le_refl 0) (Nat.le_refl 0) dX11_share_31
    · replace h := (if_neg c_3).symm.trans h
      refine r_aload (pc := 21) dX11_share_21 0 rfl ?_
      refine r_iload_n (pc := 23) (i := 3) dX11_share_23 rfl 4 rfl ?_
      refine r_cV (pc := 24) (Y := xX5_has) (As := [.int (eI x3)]) (rest := []) (v := (some (.int (eI (sX5_has m_2 x3 M))))) (st1 := [.int (eI (sX5_has m_2 x3 M))]) ck_X11_share_104 (kX5_has m_2 x3 M om_2) om_2 rfl rfl rfl rfl (Nat.le_of_ble_eq_true rfl) ⟨rfl, rfl⟩ rfl dX11_share_24 ?_
      refine r_if_ne (pc := 27) (tgt := 32) dX11_share_27 (by decide) rfl (fun c_4 => ?_) (fun c_4 => ?_)
      · replace h := (if_neg c_4).symm.trans h
        refine r_aload_n (pc := 32) (i := 0) dX11_share_32 rfl 1 rfl ?_
        have o_5 := (wt_11_7 oa0).2
        refine r_getR (pc := 33) fg_11_55 rfl oa0 (wt_11_7 oa0).1 dX11_share_33 ?_
        refine r_aload (pc := 36) dX11_share_36 0 rfl ?_
        refine r_iload_n (pc := 38) (i := 2) dX11_share_38 rfl 3 rfl ?_
        refine r_iload_n (pc := 39) (i := 3) dX11_share_39 rfl 4 rfl ?_
        obtain ⟨q_6, hq_6, h⟩ := ob h
        refine r_cV (pc := 40) (Y := xX10_shareOf) (As := [.ref (gA G m_2), .int (eI x2), .int (eI x3)]) (rest := []) (v := (some (.int (eI q_6)))) (st1 := [.int (eI q_6)]) ck_X11_share_241 (kX10_shareOf (gR a0 7) m_2 x2 x3 M o_5 om_2 hq_6) o_5 rfl rfl rfl rfl (Nat.le_of_ble_eq_true rfl) ⟨rfl, rfl⟩ rfl dX11_share_40 ?_
        refine r_i2l (pc := 43) rfl dX11_share_43 ?_
        refine r_aload_n (pc := 44) (i := 0) dX11_share_44 rfl 1 rfl ?_
        have o_7 := (wt_11_7 oa0).2
        refine r_getR (pc := 45) fg_11_55 rfl oa0 (wt_11_7 oa0).1 dX11_share_45 ?_
        refine r_aload (pc := 48) dX11_share_48 0 rfl ?_
        obtain ⟨q_8, hq_8, h⟩ := ob h
        refine r_cV (pc := 50) (Y := xX10_weightOfAll) (As := [.ref (gA G m_2)]) (rest := [.long (eJ (wI q_6))]) (v := (some (.int (eI q_8)))) (st1 := [.int (eI q_8), .long (eJ (wI q_6))]) ck_X11_share_244 (kX10_weightOfAll (gR a0 7) m_2 M o_7 om_2 hq_8) o_7 rfl rfl rfl rfl (Nat.le_of_ble_eq_true rfl) ⟨rfl, rfl⟩ rfl dX11_share_50 ?_
        refine r_i2l (pc := 53) rfl dX11_share_53 ?_
        refine r_iload (pc := 54) dX11_share_54 5 rfl ?_
        obtain ⟨q_9, hq_9, h⟩ := ob h
        refine r_cS (pc := 56) (Y := xX11_fraction) (As := [.long (eJ (wI q_6)), .long (eJ (wI q_8)), .int (eI x4)]) (rest := []) (v := (some (.long (eJ q_9)))) (st1 := [.long (eJ q_9)]) ck_X11_share_165 (kX11_fraction (wI q_6) (wI q_8) x4 M  hq_9) rfl rfl (Nat.le_of_ble_eq_true rfl) ⟨rfl, rfl⟩ rfl dX11_share_56 ?_
        refine r_l2i (pc := 59) dX11_share_59 ?_
        cases h
        exact r_iret (pc := 60) rfl rfl (Nat.le_refl 0) (Nat.le_refl 0) dX11_share_60
      · replace h := (if_pos c_4).symm.trans h
        refine r_iconst (pc := 30) (v := (-1)) dX11_share_30 (by decide +kernel) ?_
        cases h
        exact r_iret (pc := 31) rfl rfl (Nat.le_refl 0) (Nat.le_refl 0) dX11_share_31
theorem kX11_share {G : GG} (a0 : Nat) (x1 : Int) (x2 : Int) (x3 : Int) (x4 : Int) (M : MM) {res : Int} (oa0 : OB L0 a0 11) (h : sX11_share a0 x1 x2 x3 x4 M = some res) : CO G xX11_share [.ref (gA G a0), .int (eI x1), .int (eI x2), .int (eI x3), .int (eI x4)] L0 M (some (.int (eI res))) L0 M := CO_of (by decide +kernel) (Nat.le_of_ble_eq_true rfl) (bX11_share_b0 a0 x1 x2 x3 x4 M oa0 h)
abbrev xX11_stand : XX := (yX11_stand, cX11_stand, 5, (some .int), 6, 142, 0, 0)
theorem ck_X11_stand_94 : CKV xX11_stand 94 xX11_partyAt 1 := ⟨⟨tb_i 866 (by decide +kernel) (by decide +kernel), tb_i 139 (by decide +kernel) (by decide +kernel), tb_i 869 (by decide +kernel) (by decide +kernel), ⟨by decide +kernel, by decide +kernel, by decide +kernel⟩, by decide, by decide⟩, tb_i 868 (by decide +kernel) (by decide +kernel), tb_i 13 (by decide +kernel) (by decide +kernel)⟩
theorem ck_X11_stand_104 : CKV xX11_stand 104 xX5_has 1 := ⟨⟨tb_i 878 (by decide +kernel) (by decide +kernel), tb_i 141 (by decide +kernel) (by decide +kernel), tb_i 881 (by decide +kernel) (by decide +kernel), ⟨by decide +kernel, by decide +kernel, by decide +kernel⟩, by decide, by decide⟩, tb_i 879 (by decide +kernel) (by decide +kernel), tb_i 880 (by decide +kernel) (by decide +kernel)⟩
theorem ck_X11_stand_228 : CKV xX11_stand 228 xX5_mayStrike 1 := ⟨⟨tb_i 1171 (by decide +kernel) (by decide +kernel), tb_i 141 (by decide +kernel) (by decide +kernel), tb_i 1174 (by decide +kernel) (by decide +kernel), ⟨by decide +kernel, by decide +kernel, by decide +kernel⟩, by decide, by decide⟩, tb_i 1172 (by decide +kernel) (by decide +kernel), tb_i 1173 (by decide +kernel) (by decide +kernel)⟩
theorem ck_X11_stand_247 : CKV xX11_stand 247 xX10_bestStand 3 := ⟨⟨tb_i 1220 (by decide +kernel) (by decide +kernel), tb_i 150 (by decide +kernel) (by decide +kernel), tb_i 1223 (by decide +kernel) (by decide +kernel), ⟨by decide +kernel, by decide +kernel, by decide +kernel⟩, by decide, by decide⟩, tb_i 1221 (by decide +kernel) (by decide +kernel), tb_i 1222 (by decide +kernel) (by decide +kernel)⟩
def sX11_stand_b0 (a0 : Nat) (x1 : Int) (x2 : Int) (x3 : Int) (M : MM)   : Option Int := ((sX11_partyAt a0 x1 M).bind fun q_1 => (nM q_1 (some ((-1))) fun m_2 => (if wI (sX5_mayStrike m_2 x2 M) = 0 then (some ((-1))) else (if wI (sX5_has m_2 x3 M) = 0 then (some ((-1))) else (if wI x3 = wI x2 then (some ((-1))) else ((sX10_bestStand (gR a0 7) m_2 x2 x3 M).bind fun q_7 => (some (q_7))))))))
def sX11_stand (a0 : Nat) (x1 : Int) (x2 : Int) (x3 : Int) (M : MM) : Option Int := sX11_stand_b0 a0 x1 x2 x3 M
set_option maxHeartbeats 4000000 in
set_option maxRecDepth 100000 in
theorem bX11_stand_b0 {G : GG} (a0 : Nat) (x1 : Int) (x2 : Int) (x3 : Int) (M : MM) (oa0 : OB L0 a0 11)  {res : Int}  (h : sX11_stand_b0 a0 x1 x2 x3 M = some res) : VV G xX11_stand (ZM G xX11_stand (some (.int (eI res))) L0 M) L0 M 0 0 0 [(0, .ref (gA G a0)), (1, .int (eI x1)), (2, .int (eI x2)), (3, .int (eI x3))] [] := by
  unfold sX11_stand_b0 at h
  refine r_aload_n (pc := 0) (i := 0) dX11_stand_0 rfl 0 rfl ?_
  refine r_iload_n (pc := 1) (i := 1) dX11_stand_1 rfl 1 rfl ?_
  obtain ⟨q_1, hq_1, h⟩ := ob h
  refine r_cV (pc := 2) (Y := xX11_partyAt) (As := [.int (eI x1)]) (rest := []) (v := (some (nV G q_1))) (st1 := [nV G q_1]) ck_X11_stand_94 (kX11_partyAt a0 x1 M oa0 hq_1) oa0 rfl rfl rfl rfl (Nat.le_of_ble_eq_true rfl) ⟨rfl, rfl⟩ rfl dX11_stand_2 ?_
  have oq_1 := nX11_partyAt _ _ _ oa0 hq_1
  rcases q_1 with _ | m_2
  · replace h := nM_z h
    refine r_stk (st' := [.null]) rfl ?_
    refine r_astoreN (pc := 5) (lv' := [(4, .null), (0, .ref (gA G a0)), (1, .int (eI x1)), (2, .int (eI x2)), (3, .int (eI x3))]) dX11_stand_5 (Nat.le_of_ble_eq_true rfl) rfl ?_
    refine r_aloadN (pc := 7) dX11_stand_7 0 rfl ?_
    refine r_ifnullN (pc := 9) (tgt := 35) dX11_stand_9 (by decide) ?_
    refine r_iconst (pc := 35) (v := (-1)) dX11_stand_35 (by decide +kernel) ?_
    cases h
    exact r_iret (pc := 36) rfl rfl (Nat.le_refl 0) (Nat.le_refl 0) dX11_stand_36
  · replace h := nM_s h
    have om_2 := oq_1 _ rfl
    refine r_stk (st' := [.ref (gA G m_2)]) rfl ?_
    refine r_astore (pc := 5) (lv' := [(4, .ref (gA G m_2)), (0, .ref (gA G a0)), (1, .int (eI x1)), (2, .int (eI x2)), (3, .int (eI x3))]) dX11_stand_5 (Nat.le_of_ble_eq_true rfl) rfl ?_
    refine r_aload (pc := 7) dX11_stand_7 0 rfl ?_
    refine r_ifnullR (pc := 9) dX11_stand_9 ?_
    refine r_aload (pc := 12) dX11_stand_12 0 rfl ?_
    refine r_iload_n (pc := 14) (i := 2) dX11_stand_14 rfl 3 rfl ?_
    refine r_cV (pc := 15) (Y := xX5_mayStrike) (As := [.int (eI x2)]) (rest := []) (v := (some (.int (eI (sX5_mayStrike m_2 x2 M))))) (st1 := [.int (eI (sX5_mayStrike m_2 x2 M))]) ck_X11_stand_228 (kX5_mayStrike m_2 x2 M om_2) om_2 rfl rfl rfl rfl (Nat.le_of_ble_eq_true rfl) ⟨rfl, rfl⟩ rfl dX11_stand_15 ?_
    refine r_if_eq (pc := 18) (tgt := 35) dX11_stand_18 (by decide) rfl (fun c_3 => ?_) (fun c_3 => ?_)
    · replace h := (if_pos c_3).symm.trans h
      refine r_iconst (pc := 35) (v := (-1)) dX11_stand_35 (by decide +kernel) ?_
      cases h
      exact r_iret (pc := 36) rfl rfl (Nat.le_refl 0) (Nat.le_refl 0) dX11_stand_36
    · replace h := (if_neg c_3).symm.trans h
      refine r_aload (pc := 21) dX11_stand_21 0 rfl ?_
      refine r_iload_n (pc := 23) (i := 3) dX11_stand_23 rfl 4 rfl ?_
      refine r_cV (pc := 24) (Y := xX5_has) (As := [.int (eI x3)]) (rest := []) (v := (some (.int (eI (sX5_has m_2 x3 M))))) (st1 := [.int (eI (sX5_has m_2 x3 M))]) ck_X11_stand_104 (kX5_has m_2 x3 M om_2) om_2 rfl rfl rfl rfl (Nat.le_of_ble_eq_true rfl) ⟨rfl, rfl⟩ rfl dX11_stand_24 ?_
      refine r_if_eq (pc := 27) (tgt := 35) dX11_stand_27 (by decide) rfl (fun c_4 => ?_) (fun c_4 => ?_)
      · replace h := (if_pos c_4).symm.trans h
        refine r_iconst (pc := 35) (v := (-1)) dX11_stand_35 (by decide +kernel) ?_
        cases h
        exact r_iret (pc := 36) rfl rfl (Nat.le_refl 0) (Nat.le_refl 0) dX11_stand_36
      · replace h := (if_neg c_4).symm.trans h
        refine r_iload_n (pc := 30) (i := 3) dX11_stand_30 rfl 4 rfl ?_
        refine r_iload_n (pc := 31) (i := 2) dX11_stand_31 rfl 3 rfl ?_
        refine r_icmp_ne (pc := 32) (tgt := 37) dX11_stand_32 (by decide) rfl rfl (fun c_5 => ?_) (fun c_5 => ?_)
        · replace h := (if_neg c_5).symm.trans h
          refine r_aload_n (pc := 37) (i := 0) dX11_stand_37 rfl 1 rfl ?_
          have o_6 := (wt_11_7 oa0).2
          refine r_getR (pc := 38) fg_11_55 rfl oa0 (wt_11_7 oa0).1 dX11_stand_38 ?_
          refine r_aload (pc := 41) dX11_stand_41 0 rfl ?_
          refine r_iload_n (pc := 43) (i := 2) dX11_stand_43 rfl 3 rfl ?_
          refine r_iload_n (pc := 44) (i := 3) dX11_stand_44 rfl 4 rfl ?_
          obtain ⟨q_7, hq_7, h⟩ := ob h
          refine r_cV (pc := 45) (Y := xX10_bestStand) (As := [.ref (gA G m_2), .int (eI x2), .int (eI x3)]) (rest := []) (v := (some (.int (eI q_7)))) (st1 := [.int (eI q_7)]) ck_X11_stand_247 (kX10_bestStand (gR a0 7) m_2 x2 x3 M o_6 om_2 hq_7) o_6 rfl rfl rfl rfl (Nat.le_of_ble_eq_true rfl) ⟨rfl, rfl⟩ rfl dX11_stand_45 ?_
          cases h
          exact r_iret (pc := 48) rfl rfl (Nat.le_refl 0) (Nat.le_refl 0) dX11_stand_48
        · replace h := (if_pos c_5).symm.trans h
          refine r_iconst (pc := 35) (v := (-1)) dX11_stand_35 (by decide +kernel) ?_
          cases h
          exact r_iret (pc := 36) rfl rfl (Nat.le_refl 0) (Nat.le_refl 0) dX11_stand_36
theorem kX11_stand {G : GG} (a0 : Nat) (x1 : Int) (x2 : Int) (x3 : Int) (M : MM) {res : Int} (oa0 : OB L0 a0 11) (h : sX11_stand a0 x1 x2 x3 M = some res) : CO G xX11_stand [.ref (gA G a0), .int (eI x1), .int (eI x2), .int (eI x3)] L0 M (some (.int (eI res))) L0 M := CO_of (by decide +kernel) (Nat.le_of_ble_eq_true rfl) (bX11_stand_b0 a0 x1 x2 x3 M oa0 h)
abbrev xX11_danger : XX := (yX11_danger, cX11_danger, 5, (some .int), 4, 89, 0, 0)
theorem ck_X11_danger_94 : CKV xX11_danger 94 xX11_partyAt 1 := ⟨⟨tb_i 866 (by decide +kernel) (by decide +kernel), tb_i 139 (by decide +kernel) (by decide +kernel), tb_i 869 (by decide +kernel) (by decide +kernel), ⟨by decide +kernel, by decide +kernel, by decide +kernel⟩, by decide, by decide⟩, tb_i 868 (by decide +kernel) (by decide +kernel), tb_i 13 (by decide +kernel) (by decide +kernel)⟩
theorem ck_X11_danger_104 : CKV xX11_danger 104 xX5_has 1 := ⟨⟨tb_i 878 (by decide +kernel) (by decide +kernel), tb_i 141 (by decide +kernel) (by decide +kernel), tb_i 881 (by decide +kernel) (by decide +kernel), ⟨by decide +kernel, by decide +kernel, by decide +kernel⟩, by decide, by decide⟩, tb_i 879 (by decide +kernel) (by decide +kernel), tb_i 880 (by decide +kernel) (by decide +kernel)⟩
theorem ck_X11_danger_165 : CKS xX11_danger 165 xX11_fraction 3 := ⟨⟨tb_i 1009 (by decide +kernel) (by decide +kernel), tb_i 139 (by decide +kernel) (by decide +kernel), tb_i 1011 (by decide +kernel) (by decide +kernel), ⟨by decide +kernel, by decide +kernel, by decide +kernel⟩, by decide, by decide⟩, tb_i 1010 (by decide +kernel) (by decide +kernel)⟩
theorem ck_X11_danger_253 : CKV xX11_danger 253 xX5_dangerOf 2 := ⟨⟨tb_i 1229 (by decide +kernel) (by decide +kernel), tb_i 141 (by decide +kernel) (by decide +kernel), tb_i 1232 (by decide +kernel) (by decide +kernel), ⟨by decide +kernel, by decide +kernel, by decide +kernel⟩, by decide, by decide⟩, tb_i 1230 (by decide +kernel) (by decide +kernel), tb_i 1231 (by decide +kernel) (by decide +kernel)⟩
theorem ck_X11_danger_256 : CKV xX11_danger 256 xX5_turnedOfAll 0 := ⟨⟨tb_i 1234 (by decide +kernel) (by decide +kernel), tb_i 141 (by decide +kernel) (by decide +kernel), tb_i 830 (by decide +kernel) (by decide +kernel), ⟨by decide +kernel, by decide +kernel, by decide +kernel⟩, by decide, by decide⟩, tb_i 828 (by decide +kernel) (by decide +kernel), tb_i 829 (by decide +kernel) (by decide +kernel)⟩
def sX11_danger_b0 (a0 : Nat) (x1 : Int) (x2 : Int) (x3 : Int) (M : MM)   : Option Int := ((sX11_partyAt a0 x1 M).bind fun q_1 => (nM q_1 (some ((-1))) fun m_2 => (if wI (sX5_has m_2 x2 M) = 0 then (some ((-1))) else ((sX5_dangerOf m_2 x2 (M m_2 16) M).bind fun q_4 => ((sX5_turnedOfAll m_2 M).bind fun q_5 => ((sX11_fraction (wI q_4) (wI q_5) x3).bind fun q_6 => (some (q_6))))))))
def sX11_danger (a0 : Nat) (x1 : Int) (x2 : Int) (x3 : Int) (M : MM) : Option Int := sX11_danger_b0 a0 x1 x2 x3 M
set_option maxHeartbeats 4000000 in
set_option maxRecDepth 100000 in
theorem bX11_danger_b0 {G : GG} (a0 : Nat) (x1 : Int) (x2 : Int) (x3 : Int) (M : MM) (oa0 : OB L0 a0 11)  {res : Int}  (h : sX11_danger_b0 a0 x1 x2 x3 M = some res) : VV G xX11_danger (ZM G xX11_danger (some (.int (eI res))) L0 M) L0 M 0 0 0 [(0, .ref (gA G a0)), (1, .int (eI x1)), (2, .int (eI x2)), (3, .int (eI x3))] [] := by
  unfold sX11_danger_b0 at h
  refine r_aload_n (pc := 0) (i := 0) dX11_danger_0 rfl 0 rfl ?_
  refine r_iload_n (pc := 1) (i := 1) dX11_danger_1 rfl 1 rfl ?_
  obtain ⟨q_1, hq_1, h⟩ := ob h
  refine r_cV (pc := 2) (Y := xX11_partyAt) (As := [.int (eI x1)]) (rest := []) (v := (some (nV G q_1))) (st1 := [nV G q_1]) ck_X11_danger_94 (kX11_partyAt a0 x1 M oa0 hq_1) oa0 rfl rfl rfl rfl (Nat.le_of_ble_eq_true rfl) ⟨rfl, rfl⟩ rfl dX11_danger_2 ?_
  have oq_1 := nX11_partyAt _ _ _ oa0 hq_1
  rcases q_1 with _ | m_2
  · replace h := nM_z h
    refine r_stk (st' := [.null]) rfl ?_
    refine r_astoreN (pc := 5) (lv' := [(4, .null), (0, .ref (gA G a0)), (1, .int (eI x1)), (2, .int (eI x2)), (3, .int (eI x3))]) dX11_danger_5 (Nat.le_of_ble_eq_true rfl) rfl ?_
    refine r_aloadN (pc := 7) dX11_danger_7 0 rfl ?_
    refine r_ifnullN (pc := 9) (tgt := 21) dX11_danger_9 (by decide) ?_
    refine r_iconst (pc := 21) (v := (-1)) dX11_danger_21 (by decide +kernel) ?_
    cases h
    exact r_iret (pc := 22) rfl rfl (Nat.le_refl 0) (Nat.le_refl 0) dX11_danger_22
  · replace h := nM_s h
    have om_2 := oq_1 _ rfl
    refine r_stk (st' := [.ref (gA G m_2)]) rfl ?_
    refine r_astore (pc := 5) (lv' := [(4, .ref (gA G m_2)), (0, .ref (gA G a0)), (1, .int (eI x1)), (2, .int (eI x2)), (3, .int (eI x3))]) dX11_danger_5 (Nat.le_of_ble_eq_true rfl) rfl ?_
    refine r_aload (pc := 7) dX11_danger_7 0 rfl ?_
    refine r_ifnullR (pc := 9) dX11_danger_9 ?_
    refine r_aload (pc := 12) dX11_danger_12 0 rfl ?_
    refine r_iload_n (pc := 14) (i := 2) dX11_danger_14 rfl 3 rfl ?_
    refine r_cV (pc := 15) (Y := xX5_has) (As := [.int (eI x2)]) (rest := []) (v := (some (.int (eI (sX5_has m_2 x2 M))))) (st1 := [.int (eI (sX5_has m_2 x2 M))]) ck_X11_danger_104 (kX5_has m_2 x2 M om_2) om_2 rfl rfl rfl rfl (Nat.le_of_ble_eq_true rfl) ⟨rfl, rfl⟩ rfl dX11_danger_15 ?_
    refine r_if_ne (pc := 18) (tgt := 23) dX11_danger_18 (by decide) rfl (fun c_3 => ?_) (fun c_3 => ?_)
    · replace h := (if_neg c_3).symm.trans h
      refine r_aload (pc := 23) dX11_danger_23 0 rfl ?_
      refine r_iload_n (pc := 25) (i := 2) dX11_danger_25 rfl 3 rfl ?_
      refine r_aload (pc := 26) dX11_danger_26 0 rfl ?_
      refine r_getI (pc := 28) fg_11_250 rfl om_2 dX11_danger_28 ?_
      obtain ⟨q_4, hq_4, h⟩ := ob h
      refine r_cV (pc := 31) (Y := xX5_dangerOf) (As := [.int (eI x2), .int (eI (M m_2 16))]) (rest := []) (v := (some (.int (eI q_4)))) (st1 := [.int (eI q_4)]) ck_X11_danger_253 (kX5_dangerOf m_2 x2 (M m_2 16) M om_2 hq_4) om_2 rfl rfl rfl rfl (Nat.le_of_ble_eq_true rfl) ⟨rfl, rfl⟩ rfl dX11_danger_31 ?_
      refine r_i2l (pc := 34) rfl dX11_danger_34 ?_
      refine r_aload (pc := 35) dX11_danger_35 0 rfl ?_
      obtain ⟨q_5, hq_5, h⟩ := ob h
      refine r_cV (pc := 37) (Y := xX5_turnedOfAll) (As := []) (rest := [.long (eJ (wI q_4))]) (v := (some (.int (eI q_5)))) (st1 := [.int (eI q_5), .long (eJ (wI q_4))]) ck_X11_danger_256 (kX5_turnedOfAll m_2 M om_2 hq_5) om_2 rfl rfl rfl rfl (Nat.le_of_ble_eq_true rfl) ⟨rfl, rfl⟩ rfl dX11_danger_37 ?_
      refine r_i2l (pc := 40) rfl dX11_danger_40 ?_
      refine r_iload_n (pc := 41) (i := 3) dX11_danger_41 rfl 4 rfl ?_
      obtain ⟨q_6, hq_6, h⟩ := ob h
      refine r_cS (pc := 42) (Y := xX11_fraction) (As := [.long (eJ (wI q_4)), .long (eJ (wI q_5)), .int (eI x3)]) (rest := []) (v := (some (.long (eJ q_6)))) (st1 := [.long (eJ q_6)]) ck_X11_danger_165 (kX11_fraction (wI q_4) (wI q_5) x3 M  hq_6) rfl rfl (Nat.le_of_ble_eq_true rfl) ⟨rfl, rfl⟩ rfl dX11_danger_42 ?_
      refine r_l2i (pc := 45) dX11_danger_45 ?_
      cases h
      exact r_iret (pc := 46) rfl rfl (Nat.le_refl 0) (Nat.le_refl 0) dX11_danger_46
    · replace h := (if_pos c_3).symm.trans h
      refine r_iconst (pc := 21) (v := (-1)) dX11_danger_21 (by decide +kernel) ?_
      cases h
      exact r_iret (pc := 22) rfl rfl (Nat.le_refl 0) (Nat.le_refl 0) dX11_danger_22
theorem kX11_danger {G : GG} (a0 : Nat) (x1 : Int) (x2 : Int) (x3 : Int) (M : MM) {res : Int} (oa0 : OB L0 a0 11) (h : sX11_danger a0 x1 x2 x3 M = some res) : CO G xX11_danger [.ref (gA G a0), .int (eI x1), .int (eI x2), .int (eI x3)] L0 M (some (.int (eI res))) L0 M := CO_of (by decide +kernel) (Nat.le_of_ble_eq_true rfl) (bX11_danger_b0 a0 x1 x2 x3 M oa0 h)
abbrev xX11_safe : XX := (yX11_safe, cX11_safe, 5, (some .int), 5, 113, 0, 0)
theorem ck_X11_safe_94 : CKV xX11_safe 94 xX11_partyAt 1 := ⟨⟨tb_i 866 (by decide +kernel) (by decide +kernel), tb_i 139 (by decide +kernel) (by decide +kernel), tb_i 869 (by decide +kernel) (by decide +kernel), ⟨by decide +kernel, by decide +kernel, by decide +kernel⟩, by decide, by decide⟩, tb_i 868 (by decide +kernel) (by decide +kernel), tb_i 13 (by decide +kernel) (by decide +kernel)⟩
theorem ck_X11_safe_259 : CKV xX11_safe 259 xX5_isSafe 2 := ⟨⟨tb_i 1239 (by decide +kernel) (by decide +kernel), tb_i 141 (by decide +kernel) (by decide +kernel), tb_i 1242 (by decide +kernel) (by decide +kernel), ⟨by decide +kernel, by decide +kernel, by decide +kernel⟩, by decide, by decide⟩, tb_i 1240 (by decide +kernel) (by decide +kernel), tb_i 1241 (by decide +kernel) (by decide +kernel)⟩
def sX11_safe_b46 (a0 : Nat) (x1 : Int) (x2 : Int) (M : MM)  (x4 : Int) : Option Int := (some (x4))
def sX11_safe_b25 (a0 : Nat) (x1 : Int) (x2 : Int) (M : MM)  : Nat → Nat → Int → Option Int
  | 0, _, _ => none
  | n + 1, a3, x4 => (if wI x4 ≤ 0 then (sX11_safe_b46 a0 x1 x2 M x4) else ((sX5_isSafe a3 x4 x2 M).bind fun q_2 => (if wI q_2 = 0 then ((some (x4 + (-1))).bind fun v_4 => (sX11_safe_b25 a0 x1 x2 M n a3 v_4)) else (sX11_safe_b46 a0 x1 x2 M x4))))
def sX11_safe_b0 (a0 : Nat) (x1 : Int) (x2 : Int) (M : MM)   : Option Int := ((sX11_partyAt a0 x1 M).bind fun q_1 => (nM q_1 (some ((-1))) fun m_2 => (if wI x2 < 0 then (some ((-1))) else (if wI x2 ≤ 100 then (sX11_safe_b25 a0 x1 x2 M FU m_2 3) else (some ((-1)))))))
def sX11_safe (a0 : Nat) (x1 : Int) (x2 : Int) (M : MM) : Option Int := sX11_safe_b0 a0 x1 x2 M
set_option maxHeartbeats 4000000 in
set_option maxRecDepth 100000 in
theorem bX11_safe_b46 {G : GG} (a0 : Nat) (x1 : Int) (x2 : Int) (M : MM) (oa0 : OB L0 a0 11) (x4 : Int) {res : Int}  (h : sX11_safe_b46 a0 x1 x2 M x4 = some res) : VV G xX11_safe (ZM G xX11_safe (some (.int (eI res))) L0 M) L0 M 0 0 46 [(4, .int (eI x4))] [] := by
  unfold sX11_safe_b46 at h
  refine r_iload (pc := 46) dX11_safe_46 0 rfl ?_
  cases h
  exact r_iret (pc := 48) rfl rfl (Nat.le_refl 0) (Nat.le_refl 0) dX11_safe_48
set_option maxHeartbeats 4000000 in
set_option maxRecDepth 100000 in
theorem bX11_safe_b25 {G : GG} (a0 : Nat) (x1 : Int) (x2 : Int) (M : MM) (oa0 : OB L0 a0 11) {res : Int} : ∀ (n : Nat) (a3 : Nat) (x4 : Int) (oa3 : OB L0 a3 5) (h : sX11_safe_b25 a0 x1 x2 M n a3 x4 = some res), VV G xX11_safe (ZM G xX11_safe (some (.int (eI res))) L0 M) L0 M 0 0 25 [(2, .int (eI x2)), (3, .ref (gA G a3)), (4, .int (eI x4))] [] := by
  intro n
  induction n with
  | zero =>
    intro a3 x4 oa3 h
    rw [sX11_safe_b25] at h
    cases h
  | succ n ih =>
    intro a3 x4 oa3 h
    rw [sX11_safe_b25] at h
    refine r_iload (pc := 25) dX11_safe_25 2 rfl ?_
    refine r_if_le (pc := 27) (tgt := 46) dX11_safe_27 (by decide) rfl (fun c_1 => ?_) (fun c_1 => ?_)
    · replace h := (if_pos c_1).symm.trans h
      refine r_sub (lv' := [(4, .int (eI x4))]) [2] rfl ?_
      exact bX11_safe_b46 a0 x1 x2 M oa0 _ h
    · replace h := (if_neg c_1).symm.trans h
      refine r_aload_n (pc := 30) (i := 3) dX11_safe_30 rfl 1 rfl ?_
      refine r_iload (pc := 31) dX11_safe_31 2 rfl ?_
      refine r_iload_n (pc := 33) (i := 2) dX11_safe_33 rfl 0 rfl ?_
      obtain ⟨q_2, hq_2, h⟩ := ob h
      refine r_cV (pc := 34) (Y := xX5_isSafe) (As := [.int (eI x4), .int (eI x2)]) (rest := []) (v := (some (.int (eI q_2)))) (st1 := [.int (eI q_2)]) ck_X11_safe_259 (kX5_isSafe a3 x4 x2 M oa3 hq_2) oa3 rfl rfl rfl rfl (Nat.le_of_ble_eq_true rfl) ⟨rfl, rfl⟩ rfl dX11_safe_34 ?_
      refine r_if_ne (pc := 37) (tgt := 46) dX11_safe_37 (by decide) rfl (fun c_3 => ?_) (fun c_3 => ?_)
      · replace h := (if_neg c_3).symm.trans h
        refine r_sub (lv' := [(4, .int (eI x4))]) [2] rfl ?_
        exact bX11_safe_b46 a0 x1 x2 M oa0 _ h
      · replace h := (if_pos c_3).symm.trans h
        obtain ⟨v_4, hv_4, h⟩ := ob h
        refine r_iinc (pc := 40) (y := v_4) (lv' := [(4, .int (eI v_4)), (2, .int (eI x2)), (3, .ref (gA G a3))]) dX11_safe_40 2 rfl (Option.some.inj hv_4) (Nat.le_of_ble_eq_true rfl) rfl ?_
        refine r_goto (pc := 43) (tgt := 25) dX11_safe_43 (by decide) ?_
        refine r_sub (lv' := [(2, .int (eI x2)), (3, .ref (gA G a3)), (4, .int (eI v_4))]) [1, 2, 0] rfl ?_
        exact ih _ _ oa3 h
set_option maxHeartbeats 4000000 in
set_option maxRecDepth 100000 in
theorem bX11_safe_b0 {G : GG} (a0 : Nat) (x1 : Int) (x2 : Int) (M : MM) (oa0 : OB L0 a0 11)  {res : Int}  (h : sX11_safe_b0 a0 x1 x2 M = some res) : VV G xX11_safe (ZM G xX11_safe (some (.int (eI res))) L0 M) L0 M 0 0 0 [(0, .ref (gA G a0)), (1, .int (eI x1)), (2, .int (eI x2))] [] := by
  unfold sX11_safe_b0 at h
  refine r_aload_n (pc := 0) (i := 0) dX11_safe_0 rfl 0 rfl ?_
  refine r_iload_n (pc := 1) (i := 1) dX11_safe_1 rfl 1 rfl ?_
  obtain ⟨q_1, hq_1, h⟩ := ob h
  refine r_cV (pc := 2) (Y := xX11_partyAt) (As := [.int (eI x1)]) (rest := []) (v := (some (nV G q_1))) (st1 := [nV G q_1]) ck_X11_safe_94 (kX11_partyAt a0 x1 M oa0 hq_1) oa0 rfl rfl rfl rfl (Nat.le_of_ble_eq_true rfl) ⟨rfl, rfl⟩ rfl dX11_safe_2 ?_
  have oq_1 := nX11_partyAt _ _ _ oa0 hq_1
  rcases q_1 with _ | m_2
  · replace h := nM_z h
    refine r_stk (st' := [.null]) rfl ?_
    refine r_astore_nN (pc := 5) (i := 3) (lv' := [(3, .null), (0, .ref (gA G a0)), (1, .int (eI x1)), (2, .int (eI x2))]) dX11_safe_5 rfl (Nat.le_of_ble_eq_true rfl) rfl ?_
    refine r_aload_nN (pc := 6) (i := 3) dX11_safe_6 rfl 0 rfl ?_
    refine r_ifnullN (pc := 7) (tgt := 20) dX11_safe_7 (by decide) ?_
    refine r_iconst (pc := 20) (v := (-1)) dX11_safe_20 (by decide +kernel) ?_
    cases h
    exact r_iret (pc := 21) rfl rfl (Nat.le_refl 0) (Nat.le_refl 0) dX11_safe_21
  · replace h := nM_s h
    have om_2 := oq_1 _ rfl
    refine r_stk (st' := [.ref (gA G m_2)]) rfl ?_
    refine r_astore_n (pc := 5) (i := 3) (lv' := [(3, .ref (gA G m_2)), (0, .ref (gA G a0)), (1, .int (eI x1)), (2, .int (eI x2))]) dX11_safe_5 rfl (Nat.le_of_ble_eq_true rfl) rfl ?_
    refine r_aload_n (pc := 6) (i := 3) dX11_safe_6 rfl 0 rfl ?_
    refine r_ifnullR (pc := 7) dX11_safe_7 ?_
    refine r_iload_n (pc := 10) (i := 2) dX11_safe_10 rfl 3 rfl ?_
    refine r_if_lt (pc := 11) (tgt := 20) dX11_safe_11 (by decide) rfl (fun c_3 => ?_) (fun c_3 => ?_)
    · replace h := (if_pos c_3).symm.trans h
      refine r_iconst (pc := 20) (v := (-1)) dX11_safe_20 (by decide +kernel) ?_
      cases h
      exact r_iret (pc := 21) rfl rfl (Nat.le_refl 0) (Nat.le_refl 0) dX11_safe_21
    · replace h := (if_neg c_3).symm.trans h
      refine r_iload_n (pc := 14) (i := 2) dX11_safe_14 rfl 3 rfl ?_
      refine r_bipush (pc := 15) (v := 100) dX11_safe_15 (by decide +kernel) ?_
      refine r_icmp_le (pc := 17) (tgt := 22) dX11_safe_17 (by decide) rfl wl_100 (fun c_4 => ?_) (fun c_4 => ?_)
      · replace h := (if_pos c_4).symm.trans h
        refine r_iconst (pc := 22) (v := 3) dX11_safe_22 (by decide +kernel) ?_
        refine r_istore (pc := 23) (lv' := [(4, .int (eI 3)), (3, .ref (gA G m_2)), (0, .ref (gA G a0)), (1, .int (eI x1)), (2, .int (eI x2))]) dX11_safe_23 (Nat.le_of_ble_eq_true rfl) rfl ?_
        refine r_sub (lv' := [(2, .int (eI x2)), (3, .ref (gA G m_2)), (4, .int (eI 3))]) [4, 1, 0] rfl ?_
        exact bX11_safe_b25 a0 x1 x2 M oa0 _ _ _ om_2 h
      · replace h := (if_neg c_4).symm.trans h
        refine r_iconst (pc := 20) (v := (-1)) dX11_safe_20 (by decide +kernel) ?_
        cases h
        exact r_iret (pc := 21) rfl rfl (Nat.le_refl 0) (Nat.le_refl 0) dX11_safe_21
theorem kX11_safe {G : GG} (a0 : Nat) (x1 : Int) (x2 : Int) (M : MM) {res : Int} (oa0 : OB L0 a0 11) (h : sX11_safe a0 x1 x2 M = some res) : CO G xX11_safe [.ref (gA G a0), .int (eI x1), .int (eI x2)] L0 M (some (.int (eI res))) L0 M := CO_of (by decide +kernel) (Nat.le_of_ble_eq_true rfl) (bX11_safe_b0 a0 x1 x2 M oa0 h)
abbrev xX11_groundAt : XX := (yX11_groundAt, cX11_groundAt, 2, (some (.object "PaperDonkey$Lines")), 0, 0, 0, 0)
def sX11_groundAt_b0 (a0 : Nat) (x1 : Int) (M : MM)   : Option Nat := (if wI x1 < 0 then (some ((0))) else (if wI (M (gR (gR a0 0) 4) 3) ≤ wI x1 then (some ((0))) else (if 0 ≤ wI x1 ∧ wI x1 < 2 then (some (((gR (gR (gR a0 0) 8) (wI x1).toNat) + 1))) else none)))
def sX11_groundAt (a0 : Nat) (x1 : Int) (M : MM) : Option Nat := sX11_groundAt_b0 a0 x1 M
set_option maxHeartbeats 4000000 in
set_option maxRecDepth 100000 in
theorem bX11_groundAt_b0 {G : GG} (a0 : Nat) (x1 : Int) (M : MM) (oa0 : OB L0 a0 11)  {res : Nat}  (h : sX11_groundAt_b0 a0 x1 M = some res) : VV G xX11_groundAt (ZM G xX11_groundAt (some (nV G res)) L0 M) L0 M 0 0 0 [(0, .ref (gA G a0)), (1, .int (eI x1))] [] := by
  unfold sX11_groundAt_b0 at h
  refine r_iload_n (pc := 0) (i := 1) dX11_groundAt_0 rfl 1 rfl ?_
  refine r_if_lt (pc := 1) (tgt := 29) dX11_groundAt_1 (by decide) rfl (fun c_1 => ?_) (fun c_1 => ?_)
  · replace h := (if_pos c_1).symm.trans h
    refine r_null (pc := 29) dX11_groundAt_29 ?_
    refine r_stk (st' := [nV G (0)]) rfl ?_
    cases h
    exact r_aret (pc := 30) rfl (nV_or _) (Nat.le_refl 0) (Nat.le_refl 0) dX11_groundAt_30
  · replace h := (if_neg c_1).symm.trans h
    refine r_iload_n (pc := 4) (i := 1) dX11_groundAt_4 rfl 1 rfl ?_
    refine r_aload_n (pc := 5) (i := 0) dX11_groundAt_5 rfl 0 rfl ?_
    have o_2 := (wt_11_0 oa0).2
    refine r_getR (pc := 6) fg_11_10 rfl oa0 (wt_11_0 oa0).1 dX11_groundAt_6 ?_
    have o_3 := (wt_9_4 o_2).2
    refine r_getR (pc := 9) fg_11_317 rfl o_2 (wt_9_4 o_2).1 dX11_groundAt_9 ?_
    refine r_iconst (pc := 12) (v := 3) dX11_groundAt_12 (by decide +kernel) ?_
    refine r_iald (pc := 13) o_3 wl_3 ⟨by decide, by decide⟩ rfl dX11_groundAt_13 ?_
    refine r_icmp_ge (pc := 14) (tgt := 29) dX11_groundAt_14 (by decide) rfl rfl (fun c_4 => ?_) (fun c_4 => ?_)
    · replace h := (if_pos c_4).symm.trans h
      refine r_null (pc := 29) dX11_groundAt_29 ?_
      refine r_stk (st' := [nV G (0)]) rfl ?_
      cases h
      exact r_aret (pc := 30) rfl (nV_or _) (Nat.le_refl 0) (Nat.le_refl 0) dX11_groundAt_30
    · replace h := (if_neg c_4).symm.trans h
      refine r_aload_n (pc := 17) (i := 0) dX11_groundAt_17 rfl 0 rfl ?_
      have o_5 := (wt_11_0 oa0).2
      refine r_getR (pc := 18) fg_11_10 rfl oa0 (wt_11_0 oa0).1 dX11_groundAt_18 ?_
      have o_6 := (wt_9_8 o_5).2
      refine r_getR (pc := 21) fg_11_354 rfl o_5 (wt_9_8 o_5).1 dX11_groundAt_21 ?_
      refine r_iload_n (pc := 24) (i := 1) dX11_groundAt_24 rfl 1 rfl ?_
      obtain ⟨c_7, h⟩ := og h
      have o_8 := (wa_6 o_6 c_7).2
      refine r_aald6 (pc := 25) o_6 rfl c_7 rfl (wa_6 o_6 c_7).1 dX11_groundAt_25 ?_
      refine r_goto (pc := 26) (tgt := 30) dX11_groundAt_26 (by decide) ?_
      refine r_stk (st' := [nV G ((gR (gR (gR a0 0) 8) (wI x1).toNat) + 1)]) rfl ?_
      cases h
      exact r_aret (pc := 30) rfl (nV_or _) (Nat.le_refl 0) (Nat.le_refl 0) dX11_groundAt_30
theorem kX11_groundAt {G : GG} (a0 : Nat) (x1 : Int) (M : MM) {res : Nat} (oa0 : OB L0 a0 11) (h : sX11_groundAt a0 x1 M = some res) : CO G xX11_groundAt [.ref (gA G a0), .int (eI x1)] L0 M (some (nV G res)) L0 M := CO_of (by decide +kernel) (Nat.le_of_ble_eq_true rfl) (bX11_groundAt_b0 a0 x1 M oa0 h)
theorem nX11_groundAt (a0 : Nat) (x1 : Int) (M : MM) {res : Nat} (oa0 : OB L0 a0 11) (h : sX11_groundAt a0 x1 M = some res) : ∀ m, res = m + 1 → OB L0 m 3 := by
  unfold sX11_groundAt sX11_groundAt_b0 at h
  split at h
  · cases h; exact nf_0
  · split at h
    · cases h; exact nf_0
    · obtain ⟨c, h⟩ := og h
      cases h
      exact nf_s (wa_6 (wt_9_8 (wt_11_0 oa0).2).2 c).2
abbrev xX11_fell : XX := (yX11_fell, cX11_fell, 5, (some .int), 1, 22, 0, 0)
theorem ck_X11_fell_263 : CKV xX11_fell 263 xX11_groundAt 1 := ⟨⟨tb_i 1248 (by decide +kernel) (by decide +kernel), tb_i 139 (by decide +kernel) (by decide +kernel), tb_i 1251 (by decide +kernel) (by decide +kernel), ⟨by decide +kernel, by decide +kernel, by decide +kernel⟩, by decide, by decide⟩, tb_i 1250 (by decide +kernel) (by decide +kernel), tb_i 39 (by decide +kernel) (by decide +kernel)⟩
theorem ck_X11_fell_266 : CKV xX11_fell 266 xX3_sumOfSeconds 0 := ⟨⟨tb_i 1252 (by decide +kernel) (by decide +kernel), tb_i 142 (by decide +kernel) (by decide +kernel), tb_i 1255 (by decide +kernel) (by decide +kernel), ⟨by decide +kernel, by decide +kernel, by decide +kernel⟩, by decide, by decide⟩, tb_i 1253 (by decide +kernel) (by decide +kernel), tb_i 1254 (by decide +kernel) (by decide +kernel)⟩
def sX11_fell_b0 (a0 : Nat) (x1 : Int) (x2 : Int) (x3 : Int) (M : MM)   : Option Int := ((sX11_groundAt a0 x1 M).bind fun q_1 => (nM q_1 (some ((-2))) fun m_2 => (if wI x2 = (-1) then (if wI x3 = 0 then (some ((M m_2 4))) else (if wI x3 = 1 then ((sX3_sumOfSeconds m_2 M).bind fun q_14 => (some (q_14))) else (some ((-2))))) else (if wI x2 < 0 then (some ((-2))) else (if wI x2 < wI (M m_2 4) then (if wI x3 = 0 then (if 0 ≤ wI x2 ∧ wI x2 < (ln (gR m_2 2)) then (some ((M (gR m_2 2) (wI x2).toNat))) else none) else (if wI x3 = 1 then (if 0 ≤ wI x2 ∧ wI x2 < (ln (gR m_2 3)) then (some ((M (gR m_2 3) (wI x2).toNat))) else none) else (some ((-2))))) else (some ((-2))))))))
def sX11_fell (a0 : Nat) (x1 : Int) (x2 : Int) (x3 : Int) (M : MM) : Option Int := sX11_fell_b0 a0 x1 x2 x3 M
set_option maxHeartbeats 4000000 in
set_option maxRecDepth 100000 in
theorem bX11_fell_b0 {G : GG} (a0 : Nat) (x1 : Int) (x2 : Int) (x3 : Int) (M : MM) (oa0 : OB L0 a0 11)  {res : Int}  (h : sX11_fell_b0 a0 x1 x2 x3 M = some res) : VV G xX11_fell (ZM G xX11_fell (some (.int (eI res))) L0 M) L0 M 0 0 0 [(0, .ref (gA G a0)), (1, .int (eI x1)), (2, .int (eI x2)), (3, .int (eI x3))] [] := by
  unfold sX11_fell_b0 at h
  refine r_aload_n (pc := 0) (i := 0) dX11_fell_0 rfl 0 rfl ?_
  refine r_iload_n (pc := 1) (i := 1) dX11_fell_1 rfl 1 rfl ?_
  obtain ⟨q_1, hq_1, h⟩ := ob h
  refine r_cV (pc := 2) (Y := xX11_groundAt) (As := [.int (eI x1)]) (rest := []) (v := (some (nV G q_1))) (st1 := [nV G q_1]) ck_X11_fell_263 (kX11_groundAt a0 x1 M oa0 hq_1) oa0 rfl rfl rfl rfl (Nat.le_of_ble_eq_true rfl) ⟨rfl, rfl⟩ rfl dX11_fell_2 ?_
  have oq_1 := nX11_groundAt _ _ _ oa0 hq_1
  rcases q_1 with _ | m_2
  · replace h := nM_z h
    refine r_stk (st' := [.null]) rfl ?_
    refine r_astoreN (pc := 5) (lv' := [(4, .null), (0, .ref (gA G a0)), (1, .int (eI x1)), (2, .int (eI x2)), (3, .int (eI x3))]) dX11_fell_5 (Nat.le_of_ble_eq_true rfl) rfl ?_
    refine r_aloadN (pc := 7) dX11_fell_7 0 rfl ?_
    refine r_ifnonnullN (pc := 9) dX11_fell_9 ?_
    refine r_bipush (pc := 12) (v := (-2)) dX11_fell_12 (by decide +kernel) ?_
    cases h
    exact r_iret (pc := 14) rfl rfl (Nat.le_refl 0) (Nat.le_refl 0) dX11_fell_14
  · replace h := nM_s h
    have om_2 := oq_1 _ rfl
    refine r_stk (st' := [.ref (gA G m_2)]) rfl ?_
    refine r_astore (pc := 5) (lv' := [(4, .ref (gA G m_2)), (0, .ref (gA G a0)), (1, .int (eI x1)), (2, .int (eI x2)), (3, .int (eI x3))]) dX11_fell_5 (Nat.le_of_ble_eq_true rfl) rfl ?_
    refine r_aload (pc := 7) dX11_fell_7 0 rfl ?_
    refine r_ifnonnullR (pc := 9) (tgt := 15) dX11_fell_9 (by decide) ?_
    refine r_iload_n (pc := 15) (i := 2) dX11_fell_15 rfl 3 rfl ?_
    refine r_iconst (pc := 16) (v := (-1)) dX11_fell_16 (by decide +kernel) ?_
    refine r_icmp_ne (pc := 17) (tgt := 48) dX11_fell_17 (by decide) rfl wl_m1 (fun c_3 => ?_) (fun c_3 => ?_)
    · replace h := (if_neg c_3).symm.trans h
      refine r_iload_n (pc := 48) (i := 2) dX11_fell_48 rfl 3 rfl ?_
      refine r_if_lt (pc := 49) (tgt := 61) dX11_fell_49 (by decide) rfl (fun c_4 => ?_) (fun c_4 => ?_)
      · replace h := (if_pos c_4).symm.trans h
        refine r_bipush (pc := 61) (v := (-2)) dX11_fell_61 (by decide +kernel) ?_
        cases h
        exact r_iret (pc := 63) rfl rfl (Nat.le_refl 0) (Nat.le_refl 0) dX11_fell_63
      · replace h := (if_neg c_4).symm.trans h
        refine r_iload_n (pc := 52) (i := 2) dX11_fell_52 rfl 3 rfl ?_
        refine r_aload (pc := 53) dX11_fell_53 0 rfl ?_
        refine r_getI (pc := 55) fg_11_115 rfl om_2 dX11_fell_55 ?_
        refine r_icmp_lt (pc := 58) (tgt := 64) dX11_fell_58 (by decide) rfl rfl (fun c_5 => ?_) (fun c_5 => ?_)
        · replace h := (if_pos c_5).symm.trans h
          refine r_iload_n (pc := 64) (i := 3) dX11_fell_64 rfl 4 rfl ?_
          refine r_if_ne (pc := 65) (tgt := 78) dX11_fell_65 (by decide) rfl (fun c_6 => ?_) (fun c_6 => ?_)
          · replace h := (if_neg c_6).symm.trans h
            refine r_iload_n (pc := 78) (i := 3) dX11_fell_78 rfl 4 rfl ?_
            refine r_iconst (pc := 79) (v := 1) dX11_fell_79 (by decide +kernel) ?_
            refine r_icmp_ne (pc := 80) (tgt := 93) dX11_fell_80 (by decide) rfl wl_1 (fun c_7 => ?_) (fun c_7 => ?_)
            · replace h := (if_neg c_7).symm.trans h
              refine r_bipush (pc := 93) (v := (-2)) dX11_fell_93 (by decide +kernel) ?_
              cases h
              exact r_iret (pc := 95) rfl rfl (Nat.le_refl 0) (Nat.le_refl 0) dX11_fell_95
            · replace h := (if_pos c_7).symm.trans h
              refine r_aload (pc := 83) dX11_fell_83 0 rfl ?_
              have o_8 := (wt_3_3 om_2).2
              refine r_getR (pc := 85) fg_11_272 rfl om_2 (wt_3_3 om_2).1 dX11_fell_85 ?_
              refine r_iload_n (pc := 88) (i := 2) dX11_fell_88 rfl 3 rfl ?_
              obtain ⟨c_9, h⟩ := og h
              refine r_iald (pc := 89) o_8 rfl c_9 rfl dX11_fell_89 ?_
              refine r_goto (pc := 90) (tgt := 95) dX11_fell_90 (by decide) ?_
              cases h
              exact r_iret (pc := 95) rfl rfl (Nat.le_refl 0) (Nat.le_refl 0) dX11_fell_95
          · replace h := (if_pos c_6).symm.trans h
            refine r_aload (pc := 68) dX11_fell_68 0 rfl ?_
            have o_10 := (wt_3_2 om_2).2
            refine r_getR (pc := 70) fg_11_269 rfl om_2 (wt_3_2 om_2).1 dX11_fell_70 ?_
            refine r_iload_n (pc := 73) (i := 2) dX11_fell_73 rfl 3 rfl ?_
            obtain ⟨c_11, h⟩ := og h
            refine r_iald (pc := 74) o_10 rfl c_11 rfl dX11_fell_74 ?_
            refine r_goto (pc := 75) (tgt := 95) dX11_fell_75 (by decide) ?_
            cases h
            exact r_iret (pc := 95) rfl rfl (Nat.le_refl 0) (Nat.le_refl 0) dX11_fell_95
        · replace h := (if_neg c_5).symm.trans h
          refine r_bipush (pc := 61) (v := (-2)) dX11_fell_61 (by decide +kernel) ?_
          cases h
          exact r_iret (pc := 63) rfl rfl (Nat.le_refl 0) (Nat.le_refl 0) dX11_fell_63
    · replace h := (if_pos c_3).symm.trans h
      refine r_iload_n (pc := 20) (i := 3) dX11_fell_20 rfl 4 rfl ?_
      refine r_if_ne (pc := 21) (tgt := 32) dX11_fell_21 (by decide) rfl (fun c_12 => ?_) (fun c_12 => ?_)
      · replace h := (if_neg c_12).symm.trans h
        refine r_iload_n (pc := 32) (i := 3) dX11_fell_32 rfl 4 rfl ?_
        refine r_iconst (pc := 33) (v := 1) dX11_fell_33 (by decide +kernel) ?_
        refine r_icmp_ne (pc := 34) (tgt := 45) dX11_fell_34 (by decide) rfl wl_1 (fun c_13 => ?_) (fun c_13 => ?_)
        · replace h := (if_neg c_13).symm.trans h
          refine r_bipush (pc := 45) (v := (-2)) dX11_fell_45 (by decide +kernel) ?_
          cases h
          exact r_iret (pc := 47) rfl rfl (Nat.le_refl 0) (Nat.le_refl 0) dX11_fell_47
        · replace h := (if_pos c_13).symm.trans h
          refine r_aload (pc := 37) dX11_fell_37 0 rfl ?_
          obtain ⟨q_14, hq_14, h⟩ := ob h
          refine r_cV (pc := 39) (Y := xX3_sumOfSeconds) (As := []) (rest := []) (v := (some (.int (eI q_14)))) (st1 := [.int (eI q_14)]) ck_X11_fell_266 (kX3_sumOfSeconds m_2 M om_2 hq_14) om_2 rfl rfl rfl rfl (Nat.le_of_ble_eq_true rfl) ⟨rfl, rfl⟩ rfl dX11_fell_39 ?_
          refine r_goto (pc := 42) (tgt := 47) dX11_fell_42 (by decide) ?_
          cases h
          exact r_iret (pc := 47) rfl rfl (Nat.le_refl 0) (Nat.le_refl 0) dX11_fell_47
      · replace h := (if_pos c_12).symm.trans h
        refine r_aload (pc := 24) dX11_fell_24 0 rfl ?_
        refine r_getI (pc := 26) fg_11_115 rfl om_2 dX11_fell_26 ?_
        refine r_goto (pc := 29) (tgt := 47) dX11_fell_29 (by decide) ?_
        cases h
        exact r_iret (pc := 47) rfl rfl (Nat.le_refl 0) (Nat.le_refl 0) dX11_fell_47
theorem kX11_fell {G : GG} (a0 : Nat) (x1 : Int) (x2 : Int) (x3 : Int) (M : MM) {res : Int} (oa0 : OB L0 a0 11) (h : sX11_fell a0 x1 x2 x3 M = some res) : CO G xX11_fell [.ref (gA G a0), .int (eI x1), .int (eI x2), .int (eI x3)] L0 M (some (.int (eI res))) L0 M := CO_of (by decide +kernel) (Nat.le_of_ble_eq_true rfl) (bX11_fell_b0 a0 x1 x2 x3 M oa0 h)
abbrev xX11_bag : XX := (yX11_bag, cX11_bag, 8, (some .int), 6, 150, 0, 0)
theorem ck_X11_bag_94 : CKV xX11_bag 94 xX11_partyAt 1 := ⟨⟨tb_i 866 (by decide +kernel) (by decide +kernel), tb_i 139 (by decide +kernel) (by decide +kernel), tb_i 869 (by decide +kernel) (by decide +kernel), ⟨by decide +kernel, by decide +kernel, by decide +kernel⟩, by decide, by decide⟩, tb_i 868 (by decide +kernel) (by decide +kernel), tb_i 13 (by decide +kernel) (by decide +kernel)⟩
theorem ck_X11_bag_104 : CKV xX11_bag 104 xX5_has 1 := ⟨⟨tb_i 878 (by decide +kernel) (by decide +kernel), tb_i 141 (by decide +kernel) (by decide +kernel), tb_i 881 (by decide +kernel) (by decide +kernel), ⟨by decide +kernel, by decide +kernel, by decide +kernel⟩, by decide, by decide⟩, tb_i 879 (by decide +kernel) (by decide +kernel), tb_i 880 (by decide +kernel) (by decide +kernel)⟩
theorem ck_X11_bag_228 : CKV xX11_bag 228 xX5_mayStrike 1 := ⟨⟨tb_i 1171 (by decide +kernel) (by decide +kernel), tb_i 141 (by decide +kernel) (by decide +kernel), tb_i 1174 (by decide +kernel) (by decide +kernel), ⟨by decide +kernel, by decide +kernel, by decide +kernel⟩, by decide, by decide⟩, tb_i 1172 (by decide +kernel) (by decide +kernel), tb_i 1173 (by decide +kernel) (by decide +kernel)⟩
theorem ck_X11_bag_263 : CKV xX11_bag 263 xX11_groundAt 1 := ⟨⟨tb_i 1248 (by decide +kernel) (by decide +kernel), tb_i 139 (by decide +kernel) (by decide +kernel), tb_i 1251 (by decide +kernel) (by decide +kernel), ⟨by decide +kernel, by decide +kernel, by decide +kernel⟩, by decide, by decide⟩, tb_i 1250 (by decide +kernel) (by decide +kernel), tb_i 39 (by decide +kernel) (by decide +kernel)⟩
theorem ck_X11_bag_275 : CKV xX11_bag 275 xX10_mostJust 3 := ⟨⟨tb_i 1260 (by decide +kernel) (by decide +kernel), tb_i 150 (by decide +kernel) (by decide +kernel), tb_i 1263 (by decide +kernel) (by decide +kernel), ⟨by decide +kernel, by decide +kernel, by decide +kernel⟩, by decide, by decide⟩, tb_i 1261 (by decide +kernel) (by decide +kernel), tb_i 1262 (by decide +kernel) (by decide +kernel)⟩
theorem ck_X11_bag_278 : CKV xX11_bag 278 xX10_fillBags 4 := ⟨⟨tb_i 1298 (by decide +kernel) (by decide +kernel), tb_i 150 (by decide +kernel) (by decide +kernel), tb_i 1267 (by decide +kernel) (by decide +kernel), ⟨by decide +kernel, by decide +kernel, by decide +kernel⟩, by decide, by decide⟩, tb_i 1265 (by decide +kernel) (by decide +kernel), tb_i 1266 (by decide +kernel) (by decide +kernel)⟩
theorem ck_X11_bag_282 : CKV xX11_bag 282 xX10_uneven 1 := ⟨⟨tb_i 1299 (by decide +kernel) (by decide +kernel), tb_i 150 (by decide +kernel) (by decide +kernel), tb_i 1295 (by decide +kernel) (by decide +kernel), ⟨by decide +kernel, by decide +kernel, by decide +kernel⟩, by decide, by decide⟩, tb_i 1293 (by decide +kernel) (by decide +kernel), tb_i 1294 (by decide +kernel) (by decide +kernel)⟩
def sX11_bag_b76 (a0 : Nat) (x1 : Int) (x2 : Int) (x3 : Int) (x4 : Int) (x5 : Int)  (a6 : Nat) (a7 : Nat) (M : MM) : Option (Int × MM) := (if wI x4 < 0 then (some (((-1), M))) else (if wI x4 ≤ 3 then ((sX10_fillBags (gR a0 7) a6 a7 x3 x4 M).bind fun q_4 => (if wI x5 = (-1) then ((sX10_uneven (gR a0 7) a6 q_4).bind fun q_10 => (some ((q_10, q_4)))) else (if 0 ≤ wI x5 ∧ wI x5 < 8 then (some (((q_4 (gR (gR a0 7) 0) (wI x5).toNat), q_4))) else none))) else (some (((-1), M)))))
def sX11_bag_b51 (a0 : Nat) (x1 : Int) (x2 : Int) (x3 : Int) (x4 : Int) (x5 : Int)  (a6 : Nat) (a7 : Nat) (M : MM) : Option (Int × MM) := (if wI x4 = (-1) then (if wI x5 = (-1) then ((sX10_mostJust (gR a0 7) a6 a7 x3 M).bind fun q_4 => (some (((q_4.1), q_4.2)))) else (sX11_bag_b76 a0 x1 x2 x3 x4 x5 a6 a7 M)) else (sX11_bag_b76 a0 x1 x2 x3 x4 x5 a6 a7 M))
def sX11_bag_b0 (a0 : Nat) (x1 : Int) (x2 : Int) (x3 : Int) (x4 : Int) (x5 : Int)   (M : MM) : Option (Int × MM) := ((sX11_partyAt a0 x1 M).bind fun q_1 => (nM q_1 ((sX11_groundAt a0 x2 M).bind fun q_3 => (nM q_3 (some (((-1), M))) fun m_4 => (some (((-1), M))))) fun m_2 => ((sX11_groundAt a0 x2 M).bind fun q_5 => (nM q_5 (some (((-1), M))) fun m_6 => (if wI (sX5_mayStrike m_2 x3 M) = 0 then (some (((-1), M))) else (if wI x5 = (-1) then (sX11_bag_b51 a0 x1 x2 x3 x4 x5 m_2 m_6 M) else (if wI (sX5_has m_2 x5 M) = 0 then (some (((-1), M))) else (sX11_bag_b51 a0 x1 x2 x3 x4 x5 m_2 m_6 M))))))))
def sX11_bag (a0 : Nat) (x1 : Int) (x2 : Int) (x3 : Int) (x4 : Int) (x5 : Int) (M : MM) : Option (Int × MM) := sX11_bag_b0 a0 x1 x2 x3 x4 x5 M
set_option maxHeartbeats 4000000 in
set_option maxRecDepth 100000 in
theorem bX11_bag_b76 {G : GG} (a0 : Nat) (x1 : Int) (x2 : Int) (x3 : Int) (x4 : Int) (x5 : Int) (oa0 : OB L0 a0 11) (a6 : Nat) (a7 : Nat) (M : MM) {res : (Int × MM)} (oa6 : OB L0 a6 5) (oa7 : OB L0 a7 3) (h : sX11_bag_b76 a0 x1 x2 x3 x4 x5 a6 a7 M = some res) : VV G xX11_bag (ZM G xX11_bag (some (.int (eI res.1))) L0 res.2) L0 M 0 0 76 [(0, .ref (gA G a0)), (3, .int (eI x3)), (4, .int (eI x4)), (5, .int (eI x5)), (6, .ref (gA G a6)), (7, .ref (gA G a7))] [] := by
  unfold sX11_bag_b76 at h
  refine r_iload (pc := 76) dX11_bag_76 2 rfl ?_
  refine r_if_lt (pc := 78) (tgt := 87) dX11_bag_78 (by decide) rfl (fun c_1 => ?_) (fun c_1 => ?_)
  · replace h := (if_pos c_1).symm.trans h
    refine r_iconst (pc := 87) (v := (-1)) dX11_bag_87 (by decide +kernel) ?_
    cases h
    exact r_iret (pc := 88) rfl rfl (Nat.le_refl 0) (Nat.le_refl 0) dX11_bag_88
  · replace h := (if_neg c_1).symm.trans h
    refine r_iload (pc := 81) dX11_bag_81 2 rfl ?_
    refine r_iconst (pc := 83) (v := 3) dX11_bag_83 (by decide +kernel) ?_
    refine r_icmp_le (pc := 84) (tgt := 89) dX11_bag_84 (by decide) rfl wl_3 (fun c_2 => ?_) (fun c_2 => ?_)
    · replace h := (if_pos c_2).symm.trans h
      refine r_aload_n (pc := 89) (i := 0) dX11_bag_89 rfl 0 rfl ?_
      have o_3 := (wt_11_7 oa0).2
      refine r_getR (pc := 90) fg_11_55 rfl oa0 (wt_11_7 oa0).1 dX11_bag_90 ?_
      refine r_aload (pc := 93) dX11_bag_93 4 rfl ?_
      refine r_aload (pc := 95) dX11_bag_95 5 rfl ?_
      refine r_iload_n (pc := 97) (i := 3) dX11_bag_97 rfl 1 rfl ?_
      refine r_iload (pc := 98) dX11_bag_98 2 rfl ?_
      obtain ⟨q_4, hq_4, h⟩ := ob h
      refine r_cV (pc := 100) (Y := xX10_fillBags) (As := [.ref (gA G a6), .ref (gA G a7), .int (eI x3), .int (eI x4)]) (rest := []) (v := none) (st1 := []) ck_X11_bag_278 (kX10_fillBags (gR a0 7) a6 a7 x3 x4 M o_3 oa6 oa7 hq_4) o_3 rfl rfl rfl rfl (Nat.le_of_ble_eq_true rfl) ⟨rfl, rfl⟩ rfl dX11_bag_100 ?_
      refine r_iload (pc := 103) dX11_bag_103 3 rfl ?_
      refine r_iconst (pc := 105) (v := (-1)) dX11_bag_105 (by decide +kernel) ?_
      refine r_icmp_ne (pc := 106) (tgt := 121) dX11_bag_106 (by decide) rfl wl_m1 (fun c_5 => ?_) (fun c_5 => ?_)
      · replace h := (if_neg c_5).symm.trans h
        refine r_aload_n (pc := 121) (i := 0) dX11_bag_121 rfl 0 rfl ?_
        have o_6 := (wt_11_7 oa0).2
        refine r_getR (pc := 122) fg_11_55 rfl oa0 (wt_11_7 oa0).1 dX11_bag_122 ?_
        have o_7 := (wt_10_0 o_6).2
        refine r_getR (pc := 125) fg_11_285 rfl o_6 (wt_10_0 o_6).1 dX11_bag_125 ?_
        refine r_iload (pc := 128) dX11_bag_128 3 rfl ?_
        obtain ⟨c_8, h⟩ := og h
        refine r_iald (pc := 130) o_7 rfl c_8 rfl dX11_bag_130 ?_
        cases h
        exact r_iret (pc := 131) rfl rfl (Nat.le_refl 0) (Nat.le_refl 0) dX11_bag_131
      · replace h := (if_pos c_5).symm.trans h
        refine r_aload_n (pc := 109) (i := 0) dX11_bag_109 rfl 0 rfl ?_
        have o_9 := (wt_11_7 oa0).2
        refine r_getR (pc := 110) fg_11_55 rfl oa0 (wt_11_7 oa0).1 dX11_bag_110 ?_
        refine r_aload (pc := 113) dX11_bag_113 4 rfl ?_
        obtain ⟨q_10, hq_10, h⟩ := ob h
        refine r_cV (pc := 115) (Y := xX10_uneven) (As := [.ref (gA G a6)]) (rest := []) (v := (some (.int (eI q_10)))) (st1 := [.int (eI q_10)]) ck_X11_bag_282 (kX10_uneven (gR a0 7) a6 q_4 o_9 oa6 hq_10) o_9 rfl rfl rfl rfl (Nat.le_of_ble_eq_true rfl) ⟨rfl, rfl⟩ rfl dX11_bag_115 ?_
        refine r_goto (pc := 118) (tgt := 131) dX11_bag_118 (by decide) ?_
        cases h
        exact r_iret (pc := 131) rfl rfl (Nat.le_refl 0) (Nat.le_refl 0) dX11_bag_131
    · replace h := (if_neg c_2).symm.trans h
      refine r_iconst (pc := 87) (v := (-1)) dX11_bag_87 (by decide +kernel) ?_
      cases h
      exact r_iret (pc := 88) rfl rfl (Nat.le_refl 0) (Nat.le_refl 0) dX11_bag_88
set_option maxHeartbeats 4000000 in
set_option maxRecDepth 100000 in
theorem bX11_bag_b51 {G : GG} (a0 : Nat) (x1 : Int) (x2 : Int) (x3 : Int) (x4 : Int) (x5 : Int) (oa0 : OB L0 a0 11) (a6 : Nat) (a7 : Nat) (M : MM) {res : (Int × MM)} (oa6 : OB L0 a6 5) (oa7 : OB L0 a7 3) (h : sX11_bag_b51 a0 x1 x2 x3 x4 x5 a6 a7 M = some res) : VV G xX11_bag (ZM G xX11_bag (some (.int (eI res.1))) L0 res.2) L0 M 0 0 51 [(0, .ref (gA G a0)), (3, .int (eI x3)), (4, .int (eI x4)), (5, .int (eI x5)), (6, .ref (gA G a6)), (7, .ref (gA G a7))] [] := by
  unfold sX11_bag_b51 at h
  refine r_iload (pc := 51) dX11_bag_51 2 rfl ?_
  refine r_iconst (pc := 53) (v := (-1)) dX11_bag_53 (by decide +kernel) ?_
  refine r_icmp_ne (pc := 54) (tgt := 76) dX11_bag_54 (by decide) rfl wl_m1 (fun c_1 => ?_) (fun c_1 => ?_)
  · replace h := (if_neg c_1).symm.trans h
    refine r_sub (lv' := [(0, .ref (gA G a0)), (3, .int (eI x3)), (4, .int (eI x4)), (5, .int (eI x5)), (6, .ref (gA G a6)), (7, .ref (gA G a7))]) [0, 1, 2, 3, 4, 5] rfl ?_
    exact bX11_bag_b76 a0 x1 x2 x3 x4 x5 oa0 _ _ _ oa6 oa7 h
  · replace h := (if_pos c_1).symm.trans h
    refine r_iload (pc := 57) dX11_bag_57 3 rfl ?_
    refine r_iconst (pc := 59) (v := (-1)) dX11_bag_59 (by decide +kernel) ?_
    refine r_icmp_ne (pc := 60) (tgt := 76) dX11_bag_60 (by decide) rfl wl_m1 (fun c_2 => ?_) (fun c_2 => ?_)
    · replace h := (if_neg c_2).symm.trans h
      refine r_sub (lv' := [(0, .ref (gA G a0)), (3, .int (eI x3)), (4, .int (eI x4)), (5, .int (eI x5)), (6, .ref (gA G a6)), (7, .ref (gA G a7))]) [0, 1, 2, 3, 4, 5] rfl ?_
      exact bX11_bag_b76 a0 x1 x2 x3 x4 x5 oa0 _ _ _ oa6 oa7 h
    · replace h := (if_pos c_2).symm.trans h
      refine r_aload_n (pc := 63) (i := 0) dX11_bag_63 rfl 0 rfl ?_
      have o_3 := (wt_11_7 oa0).2
      refine r_getR (pc := 64) fg_11_55 rfl oa0 (wt_11_7 oa0).1 dX11_bag_64 ?_
      refine r_aload (pc := 67) dX11_bag_67 4 rfl ?_
      refine r_aload (pc := 69) dX11_bag_69 5 rfl ?_
      refine r_iload_n (pc := 71) (i := 3) dX11_bag_71 rfl 1 rfl ?_
      obtain ⟨q_4, hq_4, h⟩ := ob h
      refine r_cV (pc := 72) (Y := xX10_mostJust) (As := [.ref (gA G a6), .ref (gA G a7), .int (eI x3)]) (rest := []) (v := (some (.int (eI (q_4.1))))) (st1 := [.int (eI (q_4.1))]) ck_X11_bag_275 (kX10_mostJust (gR a0 7) a6 a7 x3 M o_3 oa6 oa7 hq_4) o_3 rfl rfl rfl rfl (Nat.le_of_ble_eq_true rfl) ⟨rfl, rfl⟩ rfl dX11_bag_72 ?_
      cases h
      exact r_iret (pc := 75) rfl rfl (Nat.le_refl 0) (Nat.le_refl 0) dX11_bag_75
set_option maxHeartbeats 4000000 in
set_option maxRecDepth 100000 in
theorem bX11_bag_b0 {G : GG} (a0 : Nat) (x1 : Int) (x2 : Int) (x3 : Int) (x4 : Int) (x5 : Int) (oa0 : OB L0 a0 11)  (M : MM) {res : (Int × MM)}  (h : sX11_bag_b0 a0 x1 x2 x3 x4 x5 M = some res) : VV G xX11_bag (ZM G xX11_bag (some (.int (eI res.1))) L0 res.2) L0 M 0 0 0 [(0, .ref (gA G a0)), (1, .int (eI x1)), (2, .int (eI x2)), (3, .int (eI x3)), (4, .int (eI x4)), (5, .int (eI x5))] [] := by
  unfold sX11_bag_b0 at h
  refine r_aload_n (pc := 0) (i := 0) dX11_bag_0 rfl 0 rfl ?_
  refine r_iload_n (pc := 1) (i := 1) dX11_bag_1 rfl 1 rfl ?_
  obtain ⟨q_1, hq_1, h⟩ := ob h
  refine r_cV (pc := 2) (Y := xX11_partyAt) (As := [.int (eI x1)]) (rest := []) (v := (some (nV G q_1))) (st1 := [nV G q_1]) ck_X11_bag_94 (kX11_partyAt a0 x1 M oa0 hq_1) oa0 rfl rfl rfl rfl (Nat.le_of_ble_eq_true rfl) ⟨rfl, rfl⟩ rfl dX11_bag_2 ?_
  have oq_1 := nX11_partyAt _ _ _ oa0 hq_1
  rcases q_1 with _ | m_2
  · replace h := nM_z h
    refine r_stk (st' := [.null]) rfl ?_
    refine r_astoreN (pc := 5) (lv' := [(6, .null), (0, .ref (gA G a0)), (1, .int (eI x1)), (2, .int (eI x2)), (3, .int (eI x3)), (4, .int (eI x4)), (5, .int (eI x5))]) dX11_bag_5 (Nat.le_of_ble_eq_true rfl) rfl ?_
    refine r_aload_n (pc := 7) (i := 0) dX11_bag_7 rfl 1 rfl ?_
    refine r_iload_n (pc := 8) (i := 2) dX11_bag_8 rfl 3 rfl ?_
    obtain ⟨q_3, hq_3, h⟩ := ob h
    refine r_cV (pc := 9) (Y := xX11_groundAt) (As := [.int (eI x2)]) (rest := []) (v := (some (nV G q_3))) (st1 := [nV G q_3]) ck_X11_bag_263 (kX11_groundAt a0 x2 M oa0 hq_3) oa0 rfl rfl rfl rfl (Nat.le_of_ble_eq_true rfl) ⟨rfl, rfl⟩ rfl dX11_bag_9 ?_
    have oq_3 := nX11_groundAt _ _ _ oa0 hq_3
    rcases q_3 with _ | m_4
    · replace h := nM_z h
      refine r_stk (st' := [.null]) rfl ?_
      refine r_astoreN (pc := 12) (lv' := [(7, .null), (6, .null), (0, .ref (gA G a0)), (1, .int (eI x1)), (2, .int (eI x2)), (3, .int (eI x3)), (4, .int (eI x4)), (5, .int (eI x5))]) dX11_bag_12 (Nat.le_of_ble_eq_true rfl) rfl ?_
      refine r_aloadN (pc := 14) dX11_bag_14 1 rfl ?_
      refine r_ifnullN (pc := 16) (tgt := 49) dX11_bag_16 (by decide) ?_
      refine r_iconst (pc := 49) (v := (-1)) dX11_bag_49 (by decide +kernel) ?_
      cases h
      exact r_iret (pc := 50) rfl rfl (Nat.le_refl 0) (Nat.le_refl 0) dX11_bag_50
    · replace h := nM_s h
      have om_4 := oq_3 _ rfl
      refine r_stk (st' := [.ref (gA G m_4)]) rfl ?_
      refine r_astore (pc := 12) (lv' := [(7, .ref (gA G m_4)), (6, .null), (0, .ref (gA G a0)), (1, .int (eI x1)), (2, .int (eI x2)), (3, .int (eI x3)), (4, .int (eI x4)), (5, .int (eI x5))]) dX11_bag_12 (Nat.le_of_ble_eq_true rfl) rfl ?_
      refine r_aloadN (pc := 14) dX11_bag_14 1 rfl ?_
      refine r_ifnullN (pc := 16) (tgt := 49) dX11_bag_16 (by decide) ?_
      refine r_iconst (pc := 49) (v := (-1)) dX11_bag_49 (by decide +kernel) ?_
      cases h
      exact r_iret (pc := 50) rfl rfl (Nat.le_refl 0) (Nat.le_refl 0) dX11_bag_50
  · replace h := nM_s h
    have om_2 := oq_1 _ rfl
    refine r_stk (st' := [.ref (gA G m_2)]) rfl ?_
    refine r_astore (pc := 5) (lv' := [(6, .ref (gA G m_2)), (0, .ref (gA G a0)), (1, .int (eI x1)), (2, .int (eI x2)), (3, .int (eI x3)), (4, .int (eI x4)), (5, .int (eI x5))]) dX11_bag_5 (Nat.le_of_ble_eq_true rfl) rfl ?_
    refine r_aload_n (pc := 7) (i := 0) dX11_bag_7 rfl 1 rfl ?_
    refine r_iload_n (pc := 8) (i := 2) dX11_bag_8 rfl 3 rfl ?_
    obtain ⟨q_5, hq_5, h⟩ := ob h
    refine r_cV (pc := 9) (Y := xX11_groundAt) (As := [.int (eI x2)]) (rest := []) (v := (some (nV G q_5))) (st1 := [nV G q_5]) ck_X11_bag_263 (kX11_groundAt a0 x2 M oa0 hq_5) oa0 rfl rfl rfl rfl (Nat.le_of_ble_eq_true rfl) ⟨rfl, rfl⟩ rfl dX11_bag_9 ?_
    have oq_5 := nX11_groundAt _ _ _ oa0 hq_5
    rcases q_5 with _ | m_6
    · replace h := nM_z h
      refine r_stk (st' := [.null]) rfl ?_
      refine r_astoreN (pc := 12) (lv' := [(7, .null), (6, .ref (gA G m_2)), (0, .ref (gA G a0)), (1, .int (eI x1)), (2, .int (eI x2)), (3, .int (eI x3)), (4, .int (eI x4)), (5, .int (eI x5))]) dX11_bag_12 (Nat.le_of_ble_eq_true rfl) rfl ?_
      refine r_aload (pc := 14) dX11_bag_14 1 rfl ?_
      refine r_ifnullR (pc := 16) dX11_bag_16 ?_
      refine r_aloadN (pc := 19) dX11_bag_19 0 rfl ?_
      refine r_ifnullN (pc := 21) (tgt := 49) dX11_bag_21 (by decide) ?_
      refine r_iconst (pc := 49) (v := (-1)) dX11_bag_49 (by decide +kernel) ?_
      cases h
      exact r_iret (pc := 50) rfl rfl (Nat.le_refl 0) (Nat.le_refl 0) dX11_bag_50
    · replace h := nM_s h
      have om_6 := oq_5 _ rfl
      refine r_stk (st' := [.ref (gA G m_6)]) rfl ?_
      refine r_astore (pc := 12) (lv' := [(7, .ref (gA G m_6)), (6, .ref (gA G m_2)), (0, .ref (gA G a0)), (1, .int (eI x1)), (2, .int (eI x2)), (3, .int (eI x3)), (4, .int (eI x4)), (5, .int (eI x5))]) dX11_bag_12 (Nat.le_of_ble_eq_true rfl) rfl ?_
      refine r_aload (pc := 14) dX11_bag_14 1 rfl ?_
      refine r_ifnullR (pc := 16) dX11_bag_16 ?_
      refine r_aload (pc := 19) dX11_bag_19 0 rfl ?_
      refine r_ifnullR (pc := 21) dX11_bag_21 ?_
      refine r_aload (pc := 24) dX11_bag_24 1 rfl ?_
      refine r_iload_n (pc := 26) (i := 3) dX11_bag_26 rfl 5 rfl ?_
      refine r_cV (pc := 27) (Y := xX5_mayStrike) (As := [.int (eI x3)]) (rest := []) (v := (some (.int (eI (sX5_mayStrike m_2 x3 M))))) (st1 := [.int (eI (sX5_mayStrike m_2 x3 M))]) ck_X11_bag_228 (kX5_mayStrike m_2 x3 M om_2) om_2 rfl rfl rfl rfl (Nat.le_of_ble_eq_true rfl) ⟨rfl, rfl⟩ rfl dX11_bag_27 ?_
      refine r_if_eq (pc := 30) (tgt := 49) dX11_bag_30 (by decide) rfl (fun c_7 => ?_) (fun c_7 => ?_)
      · replace h := (if_pos c_7).symm.trans h
        refine r_iconst (pc := 49) (v := (-1)) dX11_bag_49 (by decide +kernel) ?_
        cases h
        exact r_iret (pc := 50) rfl rfl (Nat.le_refl 0) (Nat.le_refl 0) dX11_bag_50
      · replace h := (if_neg c_7).symm.trans h
        refine r_iload (pc := 33) dX11_bag_33 7 rfl ?_
        refine r_iconst (pc := 35) (v := (-1)) dX11_bag_35 (by decide +kernel) ?_
        refine r_icmp_eq (pc := 36) (tgt := 51) dX11_bag_36 (by decide) rfl wl_m1 (fun c_8 => ?_) (fun c_8 => ?_)
        · replace h := (if_pos c_8).symm.trans h
          refine r_sub (lv' := [(0, .ref (gA G a0)), (3, .int (eI x3)), (4, .int (eI x4)), (5, .int (eI x5)), (6, .ref (gA G m_2)), (7, .ref (gA G m_6))]) [2, 5, 6, 7, 1, 0] rfl ?_
          exact bX11_bag_b51 a0 x1 x2 x3 x4 x5 oa0 _ _ _ om_2 om_6 h
        · replace h := (if_neg c_8).symm.trans h
          refine r_aload (pc := 39) dX11_bag_39 1 rfl ?_
          refine r_iload (pc := 41) dX11_bag_41 7 rfl ?_
          refine r_cV (pc := 43) (Y := xX5_has) (As := [.int (eI x5)]) (rest := []) (v := (some (.int (eI (sX5_has m_2 x5 M))))) (st1 := [.int (eI (sX5_has m_2 x5 M))]) ck_X11_bag_104 (kX5_has m_2 x5 M om_2) om_2 rfl rfl rfl rfl (Nat.le_of_ble_eq_true rfl) ⟨rfl, rfl⟩ rfl dX11_bag_43 ?_
          refine r_if_ne (pc := 46) (tgt := 51) dX11_bag_46 (by decide) rfl (fun c_9 => ?_) (fun c_9 => ?_)
          · replace h := (if_neg c_9).symm.trans h
            refine r_sub (lv' := [(0, .ref (gA G a0)), (3, .int (eI x3)), (4, .int (eI x4)), (5, .int (eI x5)), (6, .ref (gA G m_2)), (7, .ref (gA G m_6))]) [2, 5, 6, 7, 1, 0] rfl ?_
            exact bX11_bag_b51 a0 x1 x2 x3 x4 x5 oa0 _ _ _ om_2 om_6 h
          · replace h := (if_pos c_9).symm.trans h
            refine r_iconst (pc := 49) (v := (-1)) dX11_bag_49 (by decide +kernel) ?_
            cases h
            exact r_iret (pc := 50) rfl rfl (Nat.le_refl 0) (Nat.le_refl 0) dX11_bag_50
theorem kX11_bag {G : GG} (a0 : Nat) (x1 : Int) (x2 : Int) (x3 : Int) (x4 : Int) (x5 : Int) (M : MM) {res : (Int × MM)} (oa0 : OB L0 a0 11) (h : sX11_bag a0 x1 x2 x3 x4 x5 M = some res) : CO G xX11_bag [.ref (gA G a0), .int (eI x1), .int (eI x2), .int (eI x3), .int (eI x4), .int (eI x5)] L0 M (some (.int (eI res.1))) L0 res.2 := CO_of (by decide +kernel) (Nat.le_of_ble_eq_true rfl) (bX11_bag_b0 a0 x1 x2 x3 x4 x5 oa0 M h)
abbrev xX11_tallyAt : XX := (yX11_tallyAt, cX11_tallyAt, 2, (some (.object "PaperDonkey$Tally")), 0, 0, 0, 0)
def sX11_tallyAt_b0 (a0 : Nat) (x1 : Int) (M : MM)   : Option Nat := (if wI x1 < 0 then (some ((0))) else (if wI (M (gR (gR a0 0) 4) 4) ≤ wI x1 then (some ((0))) else (if 0 ≤ wI x1 ∧ wI x1 < 2 then (some (((gR (gR (gR a0 0) 9) (wI x1).toNat) + 1))) else none)))
def sX11_tallyAt (a0 : Nat) (x1 : Int) (M : MM) : Option Nat := sX11_tallyAt_b0 a0 x1 M
set_option maxHeartbeats 4000000 in
set_option maxRecDepth 100000 in
theorem bX11_tallyAt_b0 {G : GG} (a0 : Nat) (x1 : Int) (M : MM) (oa0 : OB L0 a0 11)  {res : Nat}  (h : sX11_tallyAt_b0 a0 x1 M = some res) : VV G xX11_tallyAt (ZM G xX11_tallyAt (some (nV G res)) L0 M) L0 M 0 0 0 [(0, .ref (gA G a0)), (1, .int (eI x1))] [] := by
  unfold sX11_tallyAt_b0 at h
  refine r_iload_n (pc := 0) (i := 1) dX11_tallyAt_0 rfl 1 rfl ?_
  refine r_if_lt (pc := 1) (tgt := 29) dX11_tallyAt_1 (by decide) rfl (fun c_1 => ?_) (fun c_1 => ?_)
  · replace h := (if_pos c_1).symm.trans h
    refine r_null (pc := 29) dX11_tallyAt_29 ?_
    refine r_stk (st' := [nV G (0)]) rfl ?_
    cases h
    exact r_aret (pc := 30) rfl (nV_or _) (Nat.le_refl 0) (Nat.le_refl 0) dX11_tallyAt_30
  · replace h := (if_neg c_1).symm.trans h
    refine r_iload_n (pc := 4) (i := 1) dX11_tallyAt_4 rfl 1 rfl ?_
    refine r_aload_n (pc := 5) (i := 0) dX11_tallyAt_5 rfl 0 rfl ?_
    have o_2 := (wt_11_0 oa0).2
    refine r_getR (pc := 6) fg_11_10 rfl oa0 (wt_11_0 oa0).1 dX11_tallyAt_6 ?_
    have o_3 := (wt_9_4 o_2).2
    refine r_getR (pc := 9) fg_11_317 rfl o_2 (wt_9_4 o_2).1 dX11_tallyAt_9 ?_
    refine r_iconst (pc := 12) (v := 4) dX11_tallyAt_12 (by decide +kernel) ?_
    refine r_iald (pc := 13) o_3 wl_4 ⟨by decide, by decide⟩ rfl dX11_tallyAt_13 ?_
    refine r_icmp_ge (pc := 14) (tgt := 29) dX11_tallyAt_14 (by decide) rfl rfl (fun c_4 => ?_) (fun c_4 => ?_)
    · replace h := (if_pos c_4).symm.trans h
      refine r_null (pc := 29) dX11_tallyAt_29 ?_
      refine r_stk (st' := [nV G (0)]) rfl ?_
      cases h
      exact r_aret (pc := 30) rfl (nV_or _) (Nat.le_refl 0) (Nat.le_refl 0) dX11_tallyAt_30
    · replace h := (if_neg c_4).symm.trans h
      refine r_aload_n (pc := 17) (i := 0) dX11_tallyAt_17 rfl 0 rfl ?_
      have o_5 := (wt_11_0 oa0).2
      refine r_getR (pc := 18) fg_11_10 rfl oa0 (wt_11_0 oa0).1 dX11_tallyAt_18 ?_
      have o_6 := (wt_9_9 o_5).2
      refine r_getR (pc := 21) fg_11_360 rfl o_5 (wt_9_9 o_5).1 dX11_tallyAt_21 ?_
      refine r_iload_n (pc := 24) (i := 1) dX11_tallyAt_24 rfl 1 rfl ?_
      obtain ⟨c_7, h⟩ := og h
      have o_8 := (wa_8 o_6 c_7).2
      refine r_aald8 (pc := 25) o_6 rfl c_7 rfl (wa_8 o_6 c_7).1 dX11_tallyAt_25 ?_
      refine r_goto (pc := 26) (tgt := 30) dX11_tallyAt_26 (by decide) ?_
      refine r_stk (st' := [nV G ((gR (gR (gR a0 0) 9) (wI x1).toNat) + 1)]) rfl ?_
      cases h
      exact r_aret (pc := 30) rfl (nV_or _) (Nat.le_refl 0) (Nat.le_refl 0) dX11_tallyAt_30
theorem kX11_tallyAt {G : GG} (a0 : Nat) (x1 : Int) (M : MM) {res : Nat} (oa0 : OB L0 a0 11) (h : sX11_tallyAt a0 x1 M = some res) : CO G xX11_tallyAt [.ref (gA G a0), .int (eI x1)] L0 M (some (nV G res)) L0 M := CO_of (by decide +kernel) (Nat.le_of_ble_eq_true rfl) (bX11_tallyAt_b0 a0 x1 M oa0 h)
theorem nX11_tallyAt (a0 : Nat) (x1 : Int) (M : MM) {res : Nat} (oa0 : OB L0 a0 11) (h : sX11_tallyAt a0 x1 M = some res) : ∀ m, res = m + 1 → OB L0 m 8 := by
  unfold sX11_tallyAt sX11_tallyAt_b0 at h
  split at h
  · cases h; exact nf_0
  · split at h
    · cases h; exact nf_0
    · obtain ⟨c, h⟩ := og h
      cases h
      exact nf_s (wa_8 (wt_9_9 (wt_11_0 oa0).2).2 c).2
abbrev xX11_record : XX := (yX11_record, cX11_record, 4, (some .int), 3, 70, 0, 0)
theorem ck_X11_record_288 : CKV xX11_record 288 xX11_tallyAt 1 := ⟨⟨tb_i 1304 (by decide +kernel) (by decide +kernel), tb_i 139 (by decide +kernel) (by decide +kernel), tb_i 1307 (by decide +kernel) (by decide +kernel), ⟨by decide +kernel, by decide +kernel, by decide +kernel⟩, by decide, by decide⟩, tb_i 1306 (by decide +kernel) (by decide +kernel), tb_i 43 (by decide +kernel) (by decide +kernel)⟩
theorem ck_X11_record_292 : CKV xX11_record 292 xX8_answer 1 := ⟨⟨tb_i 1308 (by decide +kernel) (by decide +kernel), tb_i 145 (by decide +kernel) (by decide +kernel), tb_i 1311 (by decide +kernel) (by decide +kernel), ⟨by decide +kernel, by decide +kernel, by decide +kernel⟩, by decide, by decide⟩, tb_i 1309 (by decide +kernel) (by decide +kernel), tb_i 1310 (by decide +kernel) (by decide +kernel)⟩
def sX11_record_b0 (a0 : Nat) (x1 : Int) (x2 : Int) (M : MM)   : Option Int := ((sX11_tallyAt a0 x1 M).bind fun q_1 => (nM q_1 (some ((-2))) fun m_2 => ((sX8_answer m_2 x2 M).bind fun q_3 => (some (q_3)))))
def sX11_record (a0 : Nat) (x1 : Int) (x2 : Int) (M : MM) : Option Int := sX11_record_b0 a0 x1 x2 M
set_option maxHeartbeats 4000000 in
set_option maxRecDepth 100000 in
theorem bX11_record_b0 {G : GG} (a0 : Nat) (x1 : Int) (x2 : Int) (M : MM) (oa0 : OB L0 a0 11)  {res : Int}  (h : sX11_record_b0 a0 x1 x2 M = some res) : VV G xX11_record (ZM G xX11_record (some (.int (eI res))) L0 M) L0 M 0 0 0 [(0, .ref (gA G a0)), (1, .int (eI x1)), (2, .int (eI x2))] [] := by
  unfold sX11_record_b0 at h
  refine r_aload_n (pc := 0) (i := 0) dX11_record_0 rfl 0 rfl ?_
  refine r_iload_n (pc := 1) (i := 1) dX11_record_1 rfl 1 rfl ?_
  obtain ⟨q_1, hq_1, h⟩ := ob h
  refine r_cV (pc := 2) (Y := xX11_tallyAt) (As := [.int (eI x1)]) (rest := []) (v := (some (nV G q_1))) (st1 := [nV G q_1]) ck_X11_record_288 (kX11_tallyAt a0 x1 M oa0 hq_1) oa0 rfl rfl rfl rfl (Nat.le_of_ble_eq_true rfl) ⟨rfl, rfl⟩ rfl dX11_record_2 ?_
  have oq_1 := nX11_tallyAt _ _ _ oa0 hq_1
  rcases q_1 with _ | m_2
  · replace h := nM_z h
    refine r_stk (st' := [.null]) rfl ?_
    refine r_astore_nN (pc := 5) (i := 3) (lv' := [(3, .null), (0, .ref (gA G a0)), (1, .int (eI x1)), (2, .int (eI x2))]) dX11_record_5 rfl (Nat.le_of_ble_eq_true rfl) rfl ?_
    refine r_aload_nN (pc := 6) (i := 3) dX11_record_6 rfl 0 rfl ?_
    refine r_ifnonnullN (pc := 7) dX11_record_7 ?_
    refine r_bipush (pc := 10) (v := (-2)) dX11_record_10 (by decide +kernel) ?_
    refine r_goto (pc := 12) (tgt := 20) dX11_record_12 (by decide) ?_
    cases h
    exact r_iret (pc := 20) rfl rfl (Nat.le_refl 0) (Nat.le_refl 0) dX11_record_20
  · replace h := nM_s h
    have om_2 := oq_1 _ rfl
    refine r_stk (st' := [.ref (gA G m_2)]) rfl ?_
    refine r_astore_n (pc := 5) (i := 3) (lv' := [(3, .ref (gA G m_2)), (0, .ref (gA G a0)), (1, .int (eI x1)), (2, .int (eI x2))]) dX11_record_5 rfl (Nat.le_of_ble_eq_true rfl) rfl ?_
    refine r_aload_n (pc := 6) (i := 3) dX11_record_6 rfl 0 rfl ?_
    refine r_ifnonnullR (pc := 7) (tgt := 15) dX11_record_7 (by decide) ?_
    refine r_aload_n (pc := 15) (i := 3) dX11_record_15 rfl 0 rfl ?_
    refine r_iload_n (pc := 16) (i := 2) dX11_record_16 rfl 3 rfl ?_
    obtain ⟨q_3, hq_3, h⟩ := ob h
    refine r_cV (pc := 17) (Y := xX8_answer) (As := [.int (eI x2)]) (rest := []) (v := (some (.int (eI q_3)))) (st1 := [.int (eI q_3)]) ck_X11_record_292 (kX8_answer m_2 x2 M om_2 hq_3) om_2 rfl rfl rfl rfl (Nat.le_of_ble_eq_true rfl) ⟨rfl, rfl⟩ rfl dX11_record_17 ?_
    cases h
    exact r_iret (pc := 20) rfl rfl (Nat.le_refl 0) (Nat.le_refl 0) dX11_record_20
theorem kX11_record {G : GG} (a0 : Nat) (x1 : Int) (x2 : Int) (M : MM) {res : Int} (oa0 : OB L0 a0 11) (h : sX11_record a0 x1 x2 M = some res) : CO G xX11_record [.ref (gA G a0), .int (eI x1), .int (eI x2)] L0 M (some (.int (eI res))) L0 M := CO_of (by decide +kernel) (Nat.le_of_ble_eq_true rfl) (bX11_record_b0 a0 x1 x2 M oa0 h)
abbrev xX11_trust : XX := (yX11_trust, cX11_trust, 6, (some .int), 2, 56, 0, 0)
theorem ck_X11_trust_165 : CKS xX11_trust 165 xX11_fraction 3 := ⟨⟨tb_i 1009 (by decide +kernel) (by decide +kernel), tb_i 139 (by decide +kernel) (by decide +kernel), tb_i 1011 (by decide +kernel) (by decide +kernel), ⟨by decide +kernel, by decide +kernel, by decide +kernel⟩, by decide, by decide⟩, tb_i 1010 (by decide +kernel) (by decide +kernel)⟩
theorem ck_X11_trust_288 : CKV xX11_trust 288 xX11_tallyAt 1 := ⟨⟨tb_i 1304 (by decide +kernel) (by decide +kernel), tb_i 139 (by decide +kernel) (by decide +kernel), tb_i 1307 (by decide +kernel) (by decide +kernel), ⟨by decide +kernel, by decide +kernel, by decide +kernel⟩, by decide, by decide⟩, tb_i 1306 (by decide +kernel) (by decide +kernel), tb_i 43 (by decide +kernel) (by decide +kernel)⟩
theorem ck_X11_trust_295 : CKV xX11_trust 295 xX8_shoutsOf 1 := ⟨⟨tb_i 1333 (by decide +kernel) (by decide +kernel), tb_i 145 (by decide +kernel) (by decide +kernel), tb_i 1324 (by decide +kernel) (by decide +kernel), ⟨by decide +kernel, by decide +kernel, by decide +kernel⟩, by decide, by decide⟩, tb_i 1322 (by decide +kernel) (by decide +kernel), tb_i 1323 (by decide +kernel) (by decide +kernel)⟩
theorem ck_X11_trust_298 : CKV xX11_trust 298 xX8_trueShoutsOf 1 := ⟨⟨tb_i 1334 (by decide +kernel) (by decide +kernel), tb_i 145 (by decide +kernel) (by decide +kernel), tb_i 1328 (by decide +kernel) (by decide +kernel), ⟨by decide +kernel, by decide +kernel, by decide +kernel⟩, by decide, by decide⟩, tb_i 1326 (by decide +kernel) (by decide +kernel), tb_i 1327 (by decide +kernel) (by decide +kernel)⟩
def sX11_trust_b0 (a0 : Nat) (x1 : Int) (x2 : Int) (x3 : Int) (M : MM)   : Option Int := ((sX11_tallyAt a0 x1 M).bind fun q_1 => (nM q_1 (some ((-1))) fun m_2 => (if wI x2 < 0 then (some ((-1))) else (if wI x2 < 8 then ((sX8_shoutsOf m_2 x2 M).bind fun q_5 => (if wI q_5 = 0 then (some ((-1))) else ((sX8_trueShoutsOf m_2 x2 M).bind fun q_7 => ((sX11_fraction (wI q_7) (wI q_5) x3).bind fun q_8 => (some (q_8)))))) else (some ((-1)))))))
def sX11_trust (a0 : Nat) (x1 : Int) (x2 : Int) (x3 : Int) (M : MM) : Option Int := sX11_trust_b0 a0 x1 x2 x3 M
set_option maxHeartbeats 4000000 in
set_option maxRecDepth 100000 in
theorem bX11_trust_b0 {G : GG} (a0 : Nat) (x1 : Int) (x2 : Int) (x3 : Int) (M : MM) (oa0 : OB L0 a0 11)  {res : Int}  (h : sX11_trust_b0 a0 x1 x2 x3 M = some res) : VV G xX11_trust (ZM G xX11_trust (some (.int (eI res))) L0 M) L0 M 0 0 0 [(0, .ref (gA G a0)), (1, .int (eI x1)), (2, .int (eI x2)), (3, .int (eI x3))] [] := by
  unfold sX11_trust_b0 at h
  refine r_aload_n (pc := 0) (i := 0) dX11_trust_0 rfl 0 rfl ?_
  refine r_iload_n (pc := 1) (i := 1) dX11_trust_1 rfl 1 rfl ?_
  obtain ⟨q_1, hq_1, h⟩ := ob h
  refine r_cV (pc := 2) (Y := xX11_tallyAt) (As := [.int (eI x1)]) (rest := []) (v := (some (nV G q_1))) (st1 := [nV G q_1]) ck_X11_trust_288 (kX11_tallyAt a0 x1 M oa0 hq_1) oa0 rfl rfl rfl rfl (Nat.le_of_ble_eq_true rfl) ⟨rfl, rfl⟩ rfl dX11_trust_2 ?_
  have oq_1 := nX11_tallyAt _ _ _ oa0 hq_1
  rcases q_1 with _ | m_2
  · replace h := nM_z h
    refine r_stk (st' := [.null]) rfl ?_
    refine r_astoreN (pc := 5) (lv' := [(4, .null), (0, .ref (gA G a0)), (1, .int (eI x1)), (2, .int (eI x2)), (3, .int (eI x3))]) dX11_trust_5 (Nat.le_of_ble_eq_true rfl) rfl ?_
    refine r_aloadN (pc := 7) dX11_trust_7 0 rfl ?_
    refine r_ifnullN (pc := 9) (tgt := 22) dX11_trust_9 (by decide) ?_
    refine r_iconst (pc := 22) (v := (-1)) dX11_trust_22 (by decide +kernel) ?_
    cases h
    exact r_iret (pc := 23) rfl rfl (Nat.le_refl 0) (Nat.le_refl 0) dX11_trust_23
  · replace h := nM_s h
    have om_2 := oq_1 _ rfl
    refine r_stk (st' := [.ref (gA G m_2)]) rfl ?_
    refine r_astore (pc := 5) (lv' := [(4, .ref (gA G m_2)), (0, .ref (gA G a0)), (1, .int (eI x1)), (2, .int (eI x2)), (3, .int (eI x3))]) dX11_trust_5 (Nat.le_of_ble_eq_true rfl) rfl ?_
    refine r_aload (pc := 7) dX11_trust_7 0 rfl ?_
    refine r_ifnullR (pc := 9) dX11_trust_9 ?_
    refine r_iload_n (pc := 12) (i := 2) dX11_trust_12 rfl 3 rfl ?_
    refine r_if_lt (pc := 13) (tgt := 22) dX11_trust_13 (by decide) rfl (fun c_3 => ?_) (fun c_3 => ?_)
    · replace h := (if_pos c_3).symm.trans h
      refine r_iconst (pc := 22) (v := (-1)) dX11_trust_22 (by decide +kernel) ?_
      cases h
      exact r_iret (pc := 23) rfl rfl (Nat.le_refl 0) (Nat.le_refl 0) dX11_trust_23
    · replace h := (if_neg c_3).symm.trans h
      refine r_iload_n (pc := 16) (i := 2) dX11_trust_16 rfl 3 rfl ?_
      refine r_bipush (pc := 17) (v := 8) dX11_trust_17 (by decide +kernel) ?_
      refine r_icmp_lt (pc := 19) (tgt := 24) dX11_trust_19 (by decide) rfl wl_8 (fun c_4 => ?_) (fun c_4 => ?_)
      · replace h := (if_pos c_4).symm.trans h
        refine r_aload (pc := 24) dX11_trust_24 0 rfl ?_
        refine r_iload_n (pc := 26) (i := 2) dX11_trust_26 rfl 3 rfl ?_
        obtain ⟨q_5, hq_5, h⟩ := ob h
        refine r_cV (pc := 27) (Y := xX8_shoutsOf) (As := [.int (eI x2)]) (rest := []) (v := (some (.int (eI q_5)))) (st1 := [.int (eI q_5)]) ck_X11_trust_295 (kX8_shoutsOf m_2 x2 M om_2 hq_5) om_2 rfl rfl rfl rfl (Nat.le_of_ble_eq_true rfl) ⟨rfl, rfl⟩ rfl dX11_trust_27 ?_
        refine r_istore (pc := 30) (lv' := [(5, .int (eI q_5)), (4, .ref (gA G m_2)), (0, .ref (gA G a0)), (1, .int (eI x1)), (2, .int (eI x2)), (3, .int (eI x3))]) dX11_trust_30 (Nat.le_of_ble_eq_true rfl) rfl ?_
        refine r_iload (pc := 32) dX11_trust_32 0 rfl ?_
        refine r_if_ne (pc := 34) (tgt := 41) dX11_trust_34 (by decide) rfl (fun c_6 => ?_) (fun c_6 => ?_)
        · replace h := (if_neg c_6).symm.trans h
          refine r_aload (pc := 41) dX11_trust_41 1 rfl ?_
          refine r_iload_n (pc := 43) (i := 2) dX11_trust_43 rfl 4 rfl ?_
          obtain ⟨q_7, hq_7, h⟩ := ob h
          refine r_cV (pc := 44) (Y := xX8_trueShoutsOf) (As := [.int (eI x2)]) (rest := []) (v := (some (.int (eI q_7)))) (st1 := [.int (eI q_7)]) ck_X11_trust_298 (kX8_trueShoutsOf m_2 x2 M om_2 hq_7) om_2 rfl rfl rfl rfl (Nat.le_of_ble_eq_true rfl) ⟨rfl, rfl⟩ rfl dX11_trust_44 ?_
          refine r_i2l (pc := 47) rfl dX11_trust_47 ?_
          refine r_iload (pc := 48) dX11_trust_48 0 rfl ?_
          refine r_i2l (pc := 50) rfl dX11_trust_50 ?_
          refine r_iload_n (pc := 51) (i := 3) dX11_trust_51 rfl 5 rfl ?_
          obtain ⟨q_8, hq_8, h⟩ := ob h
          refine r_cS (pc := 52) (Y := xX11_fraction) (As := [.long (eJ (wI q_7)), .long (eJ (wI q_5)), .int (eI x3)]) (rest := []) (v := (some (.long (eJ q_8)))) (st1 := [.long (eJ q_8)]) ck_X11_trust_165 (kX11_fraction (wI q_7) (wI q_5) x3 M  hq_8) rfl rfl (Nat.le_of_ble_eq_true rfl) ⟨rfl, rfl⟩ rfl dX11_trust_52 ?_
          refine r_l2i (pc := 55) dX11_trust_55 ?_
          cases h
          exact r_iret (pc := 56) rfl rfl (Nat.le_refl 0) (Nat.le_refl 0) dX11_trust_56
        · replace h := (if_pos c_6).symm.trans h
          refine r_iconst (pc := 37) (v := (-1)) dX11_trust_37 (by decide +kernel) ?_
          refine r_goto (pc := 38) (tgt := 56) dX11_trust_38 (by decide) ?_
          cases h
          exact r_iret (pc := 56) rfl rfl (Nat.le_refl 0) (Nat.le_refl 0) dX11_trust_56
      · replace h := (if_neg c_4).symm.trans h
        refine r_iconst (pc := 22) (v := (-1)) dX11_trust_22 (by decide +kernel) ?_
        cases h
        exact r_iret (pc := 23) rfl rfl (Nat.le_refl 0) (Nat.le_refl 0) dX11_trust_23
theorem kX11_trust {G : GG} (a0 : Nat) (x1 : Int) (x2 : Int) (x3 : Int) (M : MM) {res : Int} (oa0 : OB L0 a0 11) (h : sX11_trust a0 x1 x2 x3 M = some res) : CO G xX11_trust [.ref (gA G a0), .int (eI x1), .int (eI x2), .int (eI x3)] L0 M (some (.int (eI res))) L0 M := CO_of (by decide +kernel) (Nat.le_of_ble_eq_true rfl) (bX11_trust_b0 a0 x1 x2 x3 M oa0 h)
abbrev xX11_power : XX := (yX11_power, cX11_power, 5, (some .long), 0, 0, 0, 0)
def sX11_power_b29 (x0 : Int) (x1 : Int)  (y2 : Int) : Option Int := (some (y2))
def sX11_power_b5 (x0 : Int) (x1 : Int)  : Nat → Int → Int → Option Int
  | 0, _, _ => none
  | n + 1, y2, x4 => (if wI x1 ≤ wI x4 then (sX11_power_b29 x0 x1 y2) else (if 15 ≤ wI x4 then (sX11_power_b29 x0 x1 y2) else ((some (x4 + 1)).bind fun v_3 => (sX11_power_b5 x0 x1 n (y2 * (wI x0)) v_3))))
def sX11_power_b0 (x0 : Int) (x1 : Int)   : Option Int := (sX11_power_b5 x0 x1 FU 1 0)
def sX11_power (x0 : Int) (x1 : Int) : Option Int := sX11_power_b0 x0 x1
set_option maxHeartbeats 4000000 in
set_option maxRecDepth 100000 in
theorem bX11_power_b29 {G : GG} (x0 : Int) (x1 : Int) (M : MM)  (y2 : Int) {res : Int}  (h : sX11_power_b29 x0 x1 y2 = some res) : VV G xX11_power (ZM G xX11_power (some (.long (eJ res))) L0 M) L0 M 0 0 29 [(2, .long (eJ y2))] [] := by
  unfold sX11_power_b29 at h
  refine r_lload_n (pc := 29) (i := 2) dX11_power_29 rfl 0 rfl ?_
  cases h
  exact r_lret (pc := 30) rfl (Nat.le_refl 0) (Nat.le_refl 0) dX11_power_30
set_option maxHeartbeats 4000000 in
set_option maxRecDepth 100000 in
theorem bX11_power_b5 {G : GG} (x0 : Int) (x1 : Int) (M : MM)  {res : Int} : ∀ (n : Nat) (y2 : Int) (x4 : Int)  (h : sX11_power_b5 x0 x1 n y2 x4 = some res), VV G xX11_power (ZM G xX11_power (some (.long (eJ res))) L0 M) L0 M 0 0 5 [(0, .int (eI x0)), (1, .int (eI x1)), (2, .long (eJ y2)), (4, .int (eI x4))] [] := by
  intro n
  induction n with
  | zero =>
    intro y2 x4 h
    rw [sX11_power_b5] at h
    cases h
  | succ n ih =>
    intro y2 x4 h
    rw [sX11_power_b5] at h
    refine r_iload (pc := 5) dX11_power_5 3 rfl ?_
    refine r_iload_n (pc := 7) (i := 1) dX11_power_7 rfl 1 rfl ?_
    refine r_icmp_ge (pc := 8) (tgt := 29) dX11_power_8 (by decide) rfl rfl (fun c_1 => ?_) (fun c_1 => ?_)
    · replace h := (if_pos c_1).symm.trans h
      refine r_sub (lv' := [(2, .long (eJ y2))]) [2] rfl ?_
      exact bX11_power_b29 x0 x1 M _ h
    · replace h := (if_neg c_1).symm.trans h
      refine r_iload (pc := 11) dX11_power_11 3 rfl ?_
      refine r_bipush (pc := 13) (v := 15) dX11_power_13 (by decide +kernel) ?_
      refine r_icmp_ge (pc := 15) (tgt := 29) dX11_power_15 (by decide) rfl wl_15 (fun c_2 => ?_) (fun c_2 => ?_)
      · replace h := (if_pos c_2).symm.trans h
        refine r_sub (lv' := [(2, .long (eJ y2))]) [2] rfl ?_
        exact bX11_power_b29 x0 x1 M _ h
      · replace h := (if_neg c_2).symm.trans h
        refine r_lload_n (pc := 18) (i := 2) dX11_power_18 rfl 2 rfl ?_
        refine r_iload_n (pc := 19) (i := 0) dX11_power_19 rfl 0 rfl ?_
        refine r_i2l (pc := 20) rfl dX11_power_20 ?_
        refine r_lmul (pc := 21) dX11_power_21 ?_
        refine r_lstore_n (pc := 22) (i := 2) (lv' := [(2, .long (eJ (y2 * (wI x0)))), (0, .int (eI x0)), (1, .int (eI x1)), (4, .int (eI x4))]) dX11_power_22 rfl (Nat.le_of_ble_eq_true rfl) rfl ?_
        obtain ⟨v_3, hv_3, h⟩ := ob h
        refine r_iinc (pc := 23) (y := v_3) (lv' := [(4, .int (eI v_3)), (2, .long (eJ (y2 * (wI x0)))), (0, .int (eI x0)), (1, .int (eI x1))]) dX11_power_23 3 rfl (Option.some.inj hv_3) (Nat.le_of_ble_eq_true rfl) rfl ?_
        refine r_goto (pc := 26) (tgt := 5) dX11_power_26 (by decide) ?_
        refine r_sub (lv' := [(0, .int (eI x0)), (1, .int (eI x1)), (2, .long (eJ (y2 * (wI x0)))), (4, .int (eI v_3))]) [2, 3, 1, 0] rfl ?_
        exact ih _ _ h
set_option maxHeartbeats 4000000 in
set_option maxRecDepth 100000 in
theorem bX11_power_b0 {G : GG} (x0 : Int) (x1 : Int) (M : MM)   {res : Int}  (h : sX11_power_b0 x0 x1 = some res) : VV G xX11_power (ZM G xX11_power (some (.long (eJ res))) L0 M) L0 M 0 0 0 [(0, .int (eI x0)), (1, .int (eI x1))] [] := by
  unfold sX11_power_b0 at h
  refine r_lconst (pc := 0) (v := 1) dX11_power_0 (by decide +kernel) ?_
  refine r_lstore_n (pc := 1) (i := 2) (lv' := [(2, .long (eJ 1)), (0, .int (eI x0)), (1, .int (eI x1))]) dX11_power_1 rfl (Nat.le_of_ble_eq_true rfl) rfl ?_
  refine r_iconst (pc := 2) (v := 0) dX11_power_2 (by decide +kernel) ?_
  refine r_istore (pc := 3) (lv' := [(4, .int (eI 0)), (2, .long (eJ 1)), (0, .int (eI x0)), (1, .int (eI x1))]) dX11_power_3 (Nat.le_of_ble_eq_true rfl) rfl ?_
  refine r_sub (lv' := [(0, .int (eI x0)), (1, .int (eI x1)), (2, .long (eJ 1)), (4, .int (eI 0))]) [2, 3, 1, 0] rfl ?_
  exact bX11_power_b5 x0 x1 M _ _ _ h
theorem kX11_power {G : GG} (x0 : Int) (x1 : Int) (M : MM) {res : Int}  (h : sX11_power x0 x1 = some res) : CO G xX11_power [.int (eI x0), .int (eI x1)] L0 M (some (.long (eJ res))) L0 M := CO_of (by decide +kernel) (Nat.le_of_ble_eq_true rfl) (bX11_power_b0 x0 x1 M h)
abbrev xX11_peeped : XX := (yX11_peeped, cX11_peeped, 12, (some .long), 2, 56, 0, 0)
theorem ck_X11_peeped_165 : CKS xX11_peeped 165 xX11_fraction 3 := ⟨⟨tb_i 1009 (by decide +kernel) (by decide +kernel), tb_i 139 (by decide +kernel) (by decide +kernel), tb_i 1011 (by decide +kernel) (by decide +kernel), ⟨by decide +kernel, by decide +kernel, by decide +kernel⟩, by decide, by decide⟩, tb_i 1010 (by decide +kernel) (by decide +kernel)⟩
theorem ck_X11_peeped_288 : CKV xX11_peeped 288 xX11_tallyAt 1 := ⟨⟨tb_i 1304 (by decide +kernel) (by decide +kernel), tb_i 139 (by decide +kernel) (by decide +kernel), tb_i 1307 (by decide +kernel) (by decide +kernel), ⟨by decide +kernel, by decide +kernel, by decide +kernel⟩, by decide, by decide⟩, tb_i 1306 (by decide +kernel) (by decide +kernel), tb_i 43 (by decide +kernel) (by decide +kernel)⟩
theorem ck_X11_peeped_301 : CKV xX11_peeped 301 xX8_hits 0 := ⟨⟨tb_i 1339 (by decide +kernel) (by decide +kernel), tb_i 145 (by decide +kernel) (by decide +kernel), tb_i 1315 (by decide +kernel) (by decide +kernel), ⟨by decide +kernel, by decide +kernel, by decide +kernel⟩, by decide, by decide⟩, tb_i 1313 (by decide +kernel) (by decide +kernel), tb_i 1314 (by decide +kernel) (by decide +kernel)⟩
theorem ck_X11_peeped_307 : CKS xX11_peeped 307 xX11_power 2 := ⟨⟨tb_i 1340 (by decide +kernel) (by decide +kernel), tb_i 139 (by decide +kernel) (by decide +kernel), tb_i 1342 (by decide +kernel) (by decide +kernel), ⟨by decide +kernel, by decide +kernel, by decide +kernel⟩, by decide, by decide⟩, tb_i 1341 (by decide +kernel) (by decide +kernel)⟩
def sX11_peeped_b32 (a0 : Nat) (x1 : Int) (x2 : Int) (x3 : Int) (x4 : Int) (M : MM)   : Option Int := (some ((-1)))
def sX11_peeped_b0 (a0 : Nat) (x1 : Int) (x2 : Int) (x3 : Int) (x4 : Int) (M : MM)   : Option Int := ((sX11_tallyAt a0 x1 M).bind fun q_1 => (nM q_1 (sX11_peeped_b32 a0 x1 x2 x3 x4 M) fun m_2 => (if wI x2 < 0 then (sX11_peeped_b32 a0 x1 x2 x3 x4 M) else (if 10 < wI x2 then (sX11_peeped_b32 a0 x1 x2 x3 x4 M) else (if wI x3 < 0 then (sX11_peeped_b32 a0 x1 x2 x3 x4 M) else (if wI x3 ≤ 10 then ((sX8_hits m_2 M).bind fun q_7 => ((sX11_power x2 q_7).bind fun q_9 => ((sX11_power (10 - x2) ((M (gR m_2 1) 4) - q_7)).bind fun q_10 => ((sX11_power x3 q_7).bind fun q_11 => ((sX11_power (10 - x3) ((M (gR m_2 1) 4) - q_7)).bind fun q_12 => (if wJ ((q_9 * q_10) + (q_11 * q_12)) = 0 then (some ((-1))) else ((sX11_fraction (q_11 * q_12) ((q_9 * q_10) + (q_11 * q_12)) x4).bind fun q_14 => (some (q_14))))))))) else (sX11_peeped_b32 a0 x1 x2 x3 x4 M)))))))
def sX11_peeped (a0 : Nat) (x1 : Int) (x2 : Int) (x3 : Int) (x4 : Int) (M : MM) : Option Int := sX11_peeped_b0 a0 x1 x2 x3 x4 M
set_option maxHeartbeats 4000000 in
set_option maxRecDepth 100000 in
theorem bX11_peeped_b32 {G : GG} (a0 : Nat) (x1 : Int) (x2 : Int) (x3 : Int) (x4 : Int) (M : MM) (oa0 : OB L0 a0 11)  {res : Int}  (h : sX11_peeped_b32 a0 x1 x2 x3 x4 M = some res) : VV G xX11_peeped (ZM G xX11_peeped (some (.long (eJ res))) L0 M) L0 M 0 0 32 [] [] := by
  unfold sX11_peeped_b32 at h
  refine r_ldc2 (pc := 32) (v := (-1)) kc_11_151 dX11_peeped_32 ?_
  cases h
  exact r_lret (pc := 35) rfl (Nat.le_refl 0) (Nat.le_refl 0) dX11_peeped_35
set_option maxHeartbeats 4000000 in
set_option maxRecDepth 100000 in
theorem bX11_peeped_b0 {G : GG} (a0 : Nat) (x1 : Int) (x2 : Int) (x3 : Int) (x4 : Int) (M : MM) (oa0 : OB L0 a0 11)  {res : Int}  (h : sX11_peeped_b0 a0 x1 x2 x3 x4 M = some res) : VV G xX11_peeped (ZM G xX11_peeped (some (.long (eJ res))) L0 M) L0 M 0 0 0 [(0, .ref (gA G a0)), (1, .int (eI x1)), (2, .int (eI x2)), (3, .int (eI x3)), (4, .int (eI x4))] [] := by
  unfold sX11_peeped_b0 at h
  refine r_aload_n (pc := 0) (i := 0) dX11_peeped_0 rfl 0 rfl ?_
  refine r_iload_n (pc := 1) (i := 1) dX11_peeped_1 rfl 1 rfl ?_
  obtain ⟨q_1, hq_1, h⟩ := ob h
  refine r_cV (pc := 2) (Y := xX11_tallyAt) (As := [.int (eI x1)]) (rest := []) (v := (some (nV G q_1))) (st1 := [nV G q_1]) ck_X11_peeped_288 (kX11_tallyAt a0 x1 M oa0 hq_1) oa0 rfl rfl rfl rfl (Nat.le_of_ble_eq_true rfl) ⟨rfl, rfl⟩ rfl dX11_peeped_2 ?_
  have oq_1 := nX11_tallyAt _ _ _ oa0 hq_1
  rcases q_1 with _ | m_2
  · replace h := nM_z h
    refine r_stk (st' := [.null]) rfl ?_
    refine r_astoreN (pc := 5) (lv' := [(5, .null), (0, .ref (gA G a0)), (1, .int (eI x1)), (2, .int (eI x2)), (3, .int (eI x3)), (4, .int (eI x4))]) dX11_peeped_5 (Nat.le_of_ble_eq_true rfl) rfl ?_
    refine r_aloadN (pc := 7) dX11_peeped_7 0 rfl ?_
    refine r_ifnullN (pc := 9) (tgt := 32) dX11_peeped_9 (by decide) ?_
    refine r_sub (lv' := []) [] rfl ?_
    exact bX11_peeped_b32 a0 x1 x2 x3 x4 M oa0 h
  · replace h := nM_s h
    have om_2 := oq_1 _ rfl
    refine r_stk (st' := [.ref (gA G m_2)]) rfl ?_
    refine r_astore (pc := 5) (lv' := [(5, .ref (gA G m_2)), (0, .ref (gA G a0)), (1, .int (eI x1)), (2, .int (eI x2)), (3, .int (eI x3)), (4, .int (eI x4))]) dX11_peeped_5 (Nat.le_of_ble_eq_true rfl) rfl ?_
    refine r_aload (pc := 7) dX11_peeped_7 0 rfl ?_
    refine r_ifnullR (pc := 9) dX11_peeped_9 ?_
    refine r_iload_n (pc := 12) (i := 2) dX11_peeped_12 rfl 3 rfl ?_
    refine r_if_lt (pc := 13) (tgt := 32) dX11_peeped_13 (by decide) rfl (fun c_3 => ?_) (fun c_3 => ?_)
    · replace h := (if_pos c_3).symm.trans h
      refine r_sub (lv' := []) [] rfl ?_
      exact bX11_peeped_b32 a0 x1 x2 x3 x4 M oa0 h
    · replace h := (if_neg c_3).symm.trans h
      refine r_iload_n (pc := 16) (i := 2) dX11_peeped_16 rfl 3 rfl ?_
      refine r_bipush (pc := 17) (v := 10) dX11_peeped_17 (by decide +kernel) ?_
      refine r_icmp_gt (pc := 19) (tgt := 32) dX11_peeped_19 (by decide) rfl wl_10 (fun c_4 => ?_) (fun c_4 => ?_)
      · replace h := (if_pos c_4).symm.trans h
        refine r_sub (lv' := []) [] rfl ?_
        exact bX11_peeped_b32 a0 x1 x2 x3 x4 M oa0 h
      · replace h := (if_neg c_4).symm.trans h
        refine r_iload_n (pc := 22) (i := 3) dX11_peeped_22 rfl 4 rfl ?_
        refine r_if_lt (pc := 23) (tgt := 32) dX11_peeped_23 (by decide) rfl (fun c_5 => ?_) (fun c_5 => ?_)
        · replace h := (if_pos c_5).symm.trans h
          refine r_sub (lv' := []) [] rfl ?_
          exact bX11_peeped_b32 a0 x1 x2 x3 x4 M oa0 h
        · replace h := (if_neg c_5).symm.trans h
          refine r_iload_n (pc := 26) (i := 3) dX11_peeped_26 rfl 4 rfl ?_
          refine r_bipush (pc := 27) (v := 10) dX11_peeped_27 (by decide +kernel) ?_
          refine r_icmp_le (pc := 29) (tgt := 36) dX11_peeped_29 (by decide) rfl wl_10 (fun c_6 => ?_) (fun c_6 => ?_)
          · replace h := (if_pos c_6).symm.trans h
            refine r_aload (pc := 36) dX11_peeped_36 0 rfl ?_
            obtain ⟨q_7, hq_7, h⟩ := ob h
            refine r_cV (pc := 38) (Y := xX8_hits) (As := []) (rest := []) (v := (some (.int (eI q_7)))) (st1 := [.int (eI q_7)]) ck_X11_peeped_301 (kX8_hits m_2 M om_2 hq_7) om_2 rfl rfl rfl rfl (Nat.le_of_ble_eq_true rfl) ⟨rfl, rfl⟩ rfl dX11_peeped_38 ?_
            refine r_istore (pc := 41) (lv' := [(6, .int (eI q_7)), (5, .ref (gA G m_2)), (0, .ref (gA G a0)), (1, .int (eI x1)), (2, .int (eI x2)), (3, .int (eI x3)), (4, .int (eI x4))]) dX11_peeped_41 (Nat.le_of_ble_eq_true rfl) rfl ?_
            refine r_aload (pc := 43) dX11_peeped_43 1 rfl ?_
            have o_8 := (wt_8_1 om_2).2
            refine r_getR (pc := 45) fg_11_304 rfl om_2 (wt_8_1 om_2).1 dX11_peeped_45 ?_
            refine r_getI (pc := 48) fg_11_115 rfl o_8 dX11_peeped_48 ?_
            refine r_iload (pc := 51) dX11_peeped_51 0 rfl ?_
            refine r_isub (pc := 53) dX11_peeped_53 ?_
            refine r_istore (pc := 54) (lv' := [(7, .int (eI ((M (gR m_2 1) 4) - q_7))), (6, .int (eI q_7)), (5, .ref (gA G m_2)), (0, .ref (gA G a0)), (1, .int (eI x1)), (2, .int (eI x2)), (3, .int (eI x3)), (4, .int (eI x4))]) dX11_peeped_54 (Nat.le_of_ble_eq_true rfl) rfl ?_
            refine r_iload_n (pc := 56) (i := 2) dX11_peeped_56 rfl 5 rfl ?_
            refine r_iload (pc := 57) dX11_peeped_57 1 rfl ?_
            obtain ⟨q_9, hq_9, h⟩ := ob h
            refine r_cS (pc := 59) (Y := xX11_power) (As := [.int (eI x2), .int (eI q_7)]) (rest := []) (v := (some (.long (eJ q_9)))) (st1 := [.long (eJ q_9)]) ck_X11_peeped_307 (kX11_power x2 q_7 M  hq_9) rfl rfl (Nat.le_of_ble_eq_true rfl) ⟨rfl, rfl⟩ rfl dX11_peeped_59 ?_
            refine r_bipush (pc := 62) (v := 10) dX11_peeped_62 (by decide +kernel) ?_
            refine r_iload_n (pc := 64) (i := 2) dX11_peeped_64 rfl 5 rfl ?_
            refine r_isub (pc := 65) dX11_peeped_65 ?_
            refine r_iload (pc := 66) dX11_peeped_66 0 rfl ?_
            obtain ⟨q_10, hq_10, h⟩ := ob h
            refine r_cS (pc := 68) (Y := xX11_power) (As := [.int (eI (10 - x2)), .int (eI ((M (gR m_2 1) 4) - q_7))]) (rest := [.long (eJ q_9)]) (v := (some (.long (eJ q_10)))) (st1 := [.long (eJ q_10), .long (eJ q_9)]) ck_X11_peeped_307 (kX11_power (10 - x2) ((M (gR m_2 1) 4) - q_7) M  hq_10) rfl rfl (Nat.le_of_ble_eq_true rfl) ⟨rfl, rfl⟩ rfl dX11_peeped_68 ?_
            refine r_lmul (pc := 71) dX11_peeped_71 ?_
            refine r_lstore (pc := 72) (lv' := [(8, .long (eJ (q_9 * q_10))), (7, .int (eI ((M (gR m_2 1) 4) - q_7))), (6, .int (eI q_7)), (5, .ref (gA G m_2)), (0, .ref (gA G a0)), (1, .int (eI x1)), (2, .int (eI x2)), (3, .int (eI x3)), (4, .int (eI x4))]) dX11_peeped_72 (Nat.le_of_ble_eq_true rfl) rfl ?_
            refine r_iload_n (pc := 74) (i := 3) dX11_peeped_74 rfl 7 rfl ?_
            refine r_iload (pc := 75) dX11_peeped_75 2 rfl ?_
            obtain ⟨q_11, hq_11, h⟩ := ob h
            refine r_cS (pc := 77) (Y := xX11_power) (As := [.int (eI x3), .int (eI q_7)]) (rest := []) (v := (some (.long (eJ q_11)))) (st1 := [.long (eJ q_11)]) ck_X11_peeped_307 (kX11_power x3 q_7 M  hq_11) rfl rfl (Nat.le_of_ble_eq_true rfl) ⟨rfl, rfl⟩ rfl dX11_peeped_77 ?_
            refine r_bipush (pc := 80) (v := 10) dX11_peeped_80 (by decide +kernel) ?_
            refine r_iload_n (pc := 82) (i := 3) dX11_peeped_82 rfl 7 rfl ?_
            refine r_isub (pc := 83) dX11_peeped_83 ?_
            refine r_iload (pc := 84) dX11_peeped_84 1 rfl ?_
            obtain ⟨q_12, hq_12, h⟩ := ob h
            refine r_cS (pc := 86) (Y := xX11_power) (As := [.int (eI (10 - x3)), .int (eI ((M (gR m_2 1) 4) - q_7))]) (rest := [.long (eJ q_11)]) (v := (some (.long (eJ q_12)))) (st1 := [.long (eJ q_12), .long (eJ q_11)]) ck_X11_peeped_307 (kX11_power (10 - x3) ((M (gR m_2 1) 4) - q_7) M  hq_12) rfl rfl (Nat.le_of_ble_eq_true rfl) ⟨rfl, rfl⟩ rfl dX11_peeped_86 ?_
            refine r_lmul (pc := 89) dX11_peeped_89 ?_
            refine r_lstore (pc := 90) (lv' := [(10, .long (eJ (q_11 * q_12))), (8, .long (eJ (q_9 * q_10))), (7, .int (eI ((M (gR m_2 1) 4) - q_7))), (6, .int (eI q_7)), (5, .ref (gA G m_2)), (0, .ref (gA G a0)), (1, .int (eI x1)), (2, .int (eI x2)), (3, .int (eI x3)), (4, .int (eI x4))]) dX11_peeped_90 (Nat.le_of_ble_eq_true rfl) rfl ?_
            refine r_lload (pc := 92) dX11_peeped_92 1 rfl ?_
            refine r_lload (pc := 94) dX11_peeped_94 0 rfl ?_
            refine r_ladd (pc := 96) dX11_peeped_96 ?_
            refine r_lconst (pc := 97) (v := 0) dX11_peeped_97 (by decide +kernel) ?_
            refine r_lcmp_ne (pc := 98) (tgt := 108) dX11_peeped_98 dX11_peeped_99 (by decide) rfl wj_0 (fun c_13 => ?_) (fun c_13 => ?_)
            · replace h := (if_neg c_13).symm.trans h
              refine r_lload (pc := 108) dX11_peeped_108 0 rfl ?_
              refine r_lload (pc := 110) dX11_peeped_110 1 rfl ?_
              refine r_lload (pc := 112) dX11_peeped_112 0 rfl ?_
              refine r_ladd (pc := 114) dX11_peeped_114 ?_
              refine r_iload (pc := 115) dX11_peeped_115 9 rfl ?_
              obtain ⟨q_14, hq_14, h⟩ := ob h
              refine r_cS (pc := 117) (Y := xX11_fraction) (As := [.long (eJ (q_11 * q_12)), .long (eJ ((q_9 * q_10) + (q_11 * q_12))), .int (eI x4)]) (rest := []) (v := (some (.long (eJ q_14)))) (st1 := [.long (eJ q_14)]) ck_X11_peeped_165 (kX11_fraction (q_11 * q_12) ((q_9 * q_10) + (q_11 * q_12)) x4 M  hq_14) rfl rfl (Nat.le_of_ble_eq_true rfl) ⟨rfl, rfl⟩ rfl dX11_peeped_117 ?_
              cases h
              exact r_lret (pc := 120) rfl (Nat.le_refl 0) (Nat.le_refl 0) dX11_peeped_120
            · replace h := (if_pos c_13).symm.trans h
              refine r_ldc2 (pc := 102) (v := (-1)) kc_11_151 dX11_peeped_102 ?_
              refine r_goto (pc := 105) (tgt := 120) dX11_peeped_105 (by decide) ?_
              cases h
              exact r_lret (pc := 120) rfl (Nat.le_refl 0) (Nat.le_refl 0) dX11_peeped_120
          · replace h := (if_neg c_6).symm.trans h
            refine r_sub (lv' := []) [] rfl ?_
            exact bX11_peeped_b32 a0 x1 x2 x3 x4 M oa0 h
theorem kX11_peeped {G : GG} (a0 : Nat) (x1 : Int) (x2 : Int) (x3 : Int) (x4 : Int) (M : MM) {res : Int} (oa0 : OB L0 a0 11) (h : sX11_peeped a0 x1 x2 x3 x4 M = some res) : CO G xX11_peeped [.ref (gA G a0), .int (eI x1), .int (eI x2), .int (eI x3), .int (eI x4)] L0 M (some (.long (eJ res))) L0 M := CO_of (by decide +kernel) (Nat.le_of_ble_eq_true rfl) (bX11_peeped_b0 a0 x1 x2 x3 x4 M oa0 h)
abbrev xX11_many : XX := (yX11_many, cX11_many, 9, (some .int), 1, 24, 0, 0)
theorem ck_X11_many_307 : CKS xX11_many 307 xX11_power 2 := ⟨⟨tb_i 1340 (by decide +kernel) (by decide +kernel), tb_i 139 (by decide +kernel) (by decide +kernel), tb_i 1342 (by decide +kernel) (by decide +kernel), ⟨by decide +kernel, by decide +kernel, by decide +kernel⟩, by decide, by decide⟩, tb_i 1341 (by decide +kernel) (by decide +kernel)⟩
def sX11_many_b86 (a0 : Nat) (x1 : Int) (x2 : Int) (x3 : Int) (K35 : Int → Option Int) (x4 : Int) : Option Int := ((some (x4 + 1)).bind fun v_1 => (K35 v_1))
def sX11_many_b35 (a0 : Nat) (x1 : Int) (x2 : Int) (x3 : Int)  : Nat → Int → Option Int
  | 0, _ => none
  | n + 1, x4 => (if 15 < wI x4 then (some ((-1))) else ((sX11_power x2 x4).bind fun q_2 => ((sX11_power x1 x4).bind fun q_3 => (if wJ (q_3 + q_2) ≤ 0 then (sX11_many_b86 a0 x1 x2 x3 (fun x4 => sX11_many_b35 a0 x1 x2 x3 n x4) x4) else (if wJ (100 * q_2) < wJ ((wI x3) * (q_3 + q_2)) then (sX11_many_b86 a0 x1 x2 x3 (fun x4 => sX11_many_b35 a0 x1 x2 x3 n x4) x4) else (some (x4)))))))
def sX11_many_b0 (a0 : Nat) (x1 : Int) (x2 : Int) (x3 : Int)   : Option Int := (if wI x1 < 0 then (some ((-1))) else (if 10 < wI x1 then (some ((-1))) else (if wI x2 < 0 then (some ((-1))) else (if 10 < wI x2 then (some ((-1))) else (if wI x3 < 0 then (some ((-1))) else (if wI x3 ≤ 100 then (sX11_many_b35 a0 x1 x2 x3 FU 0) else (some ((-1)))))))))
def sX11_many (a0 : Nat) (x1 : Int) (x2 : Int) (x3 : Int) : Option Int := sX11_many_b0 a0 x1 x2 x3
set_option maxHeartbeats 4000000 in
set_option maxRecDepth 100000 in
theorem bX11_many_b86 {G : GG} (a0 : Nat) (x1 : Int) (x2 : Int) (x3 : Int) (M : MM) (oa0 : OB L0 a0 11) {K35 : Int → Option Int} (x4 : Int) {res : Int} (hK35 : ∀ (x4 : Int), K35 x4 = some res → VV G xX11_many (ZM G xX11_many (some (.int (eI res))) L0 M) L0 M 0 0 35 [(1, .int (eI x1)), (2, .int (eI x2)), (3, .int (eI x3)), (4, .int (eI x4))] [])  (h : sX11_many_b86 a0 x1 x2 x3 K35 x4 = some res) : VV G xX11_many (ZM G xX11_many (some (.int (eI res))) L0 M) L0 M 0 0 86 [(1, .int (eI x1)), (2, .int (eI x2)), (3, .int (eI x3)), (4, .int (eI x4))] [] := by
  unfold sX11_many_b86 at h
  obtain ⟨v_1, hv_1, h⟩ := ob h
  refine r_iinc (pc := 86) (y := v_1) (lv' := [(4, .int (eI v_1)), (1, .int (eI x1)), (2, .int (eI x2)), (3, .int (eI x3))]) dX11_many_86 3 rfl (Option.some.inj hv_1) (Nat.le_of_ble_eq_true rfl) rfl ?_
  refine r_goto (pc := 89) (tgt := 35) dX11_many_89 (by decide) ?_
  refine r_sub (lv' := [(1, .int (eI x1)), (2, .int (eI x2)), (3, .int (eI x3)), (4, .int (eI v_1))]) [1, 2, 3, 0] rfl ?_
  exact hK35 _ h
set_option maxHeartbeats 4000000 in
set_option maxRecDepth 100000 in
theorem bX11_many_b35 {G : GG} (a0 : Nat) (x1 : Int) (x2 : Int) (x3 : Int) (M : MM) (oa0 : OB L0 a0 11) {res : Int} : ∀ (n : Nat) (x4 : Int)  (h : sX11_many_b35 a0 x1 x2 x3 n x4 = some res), VV G xX11_many (ZM G xX11_many (some (.int (eI res))) L0 M) L0 M 0 0 35 [(1, .int (eI x1)), (2, .int (eI x2)), (3, .int (eI x3)), (4, .int (eI x4))] [] := by
  intro n
  induction n with
  | zero =>
    intro x4 h
    rw [sX11_many_b35] at h
    cases h
  | succ n ih =>
    intro x4 h
    rw [sX11_many_b35] at h
    refine r_iload (pc := 35) dX11_many_35 3 rfl ?_
    refine r_bipush (pc := 37) (v := 15) dX11_many_37 (by decide +kernel) ?_
    refine r_icmp_gt (pc := 39) (tgt := 92) dX11_many_39 (by decide) rfl wl_15 (fun c_1 => ?_) (fun c_1 => ?_)
    · replace h := (if_pos c_1).symm.trans h
      refine r_iconst (pc := 92) (v := (-1)) dX11_many_92 (by decide +kernel) ?_
      cases h
      exact r_iret (pc := 93) rfl rfl (Nat.le_refl 0) (Nat.le_refl 0) dX11_many_93
    · replace h := (if_neg c_1).symm.trans h
      refine r_iload_n (pc := 42) (i := 2) dX11_many_42 rfl 1 rfl ?_
      refine r_iload (pc := 43) dX11_many_43 3 rfl ?_
      obtain ⟨q_2, hq_2, h⟩ := ob h
      refine r_cS (pc := 45) (Y := xX11_power) (As := [.int (eI x2), .int (eI x4)]) (rest := []) (v := (some (.long (eJ q_2)))) (st1 := [.long (eJ q_2)]) ck_X11_many_307 (kX11_power x2 x4 M  hq_2) rfl rfl (Nat.le_of_ble_eq_true rfl) ⟨rfl, rfl⟩ rfl dX11_many_45 ?_
      refine r_lstore (pc := 48) (lv' := [(5, .long (eJ q_2)), (1, .int (eI x1)), (2, .int (eI x2)), (3, .int (eI x3)), (4, .int (eI x4))]) dX11_many_48 (Nat.le_of_ble_eq_true rfl) rfl ?_
      refine r_iload_n (pc := 50) (i := 1) dX11_many_50 rfl 1 rfl ?_
      refine r_iload (pc := 51) dX11_many_51 4 rfl ?_
      obtain ⟨q_3, hq_3, h⟩ := ob h
      refine r_cS (pc := 53) (Y := xX11_power) (As := [.int (eI x1), .int (eI x4)]) (rest := []) (v := (some (.long (eJ q_3)))) (st1 := [.long (eJ q_3)]) ck_X11_many_307 (kX11_power x1 x4 M  hq_3) rfl rfl (Nat.le_of_ble_eq_true rfl) ⟨rfl, rfl⟩ rfl dX11_many_53 ?_
      refine r_lload (pc := 56) dX11_many_56 0 rfl ?_
      refine r_ladd (pc := 58) dX11_many_58 ?_
      refine r_lstore (pc := 59) (lv' := [(7, .long (eJ (q_3 + q_2))), (5, .long (eJ q_2)), (1, .int (eI x1)), (2, .int (eI x2)), (3, .int (eI x3)), (4, .int (eI x4))]) dX11_many_59 (Nat.le_of_ble_eq_true rfl) rfl ?_
      refine r_lload (pc := 61) dX11_many_61 0 rfl ?_
      refine r_lconst (pc := 63) (v := 0) dX11_many_63 (by decide +kernel) ?_
      refine r_lcmp_le (pc := 64) (tgt := 86) dX11_many_64 dX11_many_65 (by decide) rfl wj_0 (fun c_4 => ?_) (fun c_4 => ?_)
      · replace h := (if_pos c_4).symm.trans h
        refine r_sub (lv' := [(1, .int (eI x1)), (2, .int (eI x2)), (3, .int (eI x3)), (4, .int (eI x4))]) [2, 3, 4, 5] rfl ?_
        exact bX11_many_b86 a0 x1 x2 x3 M oa0 _ (fun v0 v1 => ih v0 v1) h
      · replace h := (if_neg c_4).symm.trans h
        refine r_ldc2 (pc := 68) (v := 100) kc_11_310 dX11_many_68 ?_
        refine r_lload (pc := 71) dX11_many_71 1 rfl ?_
        refine r_lmul (pc := 73) dX11_many_73 ?_
        refine r_iload_n (pc := 74) (i := 3) dX11_many_74 rfl 4 rfl ?_
        refine r_i2l (pc := 75) rfl dX11_many_75 ?_
        refine r_lload (pc := 76) dX11_many_76 0 rfl ?_
        refine r_lmul (pc := 78) dX11_many_78 ?_
        refine r_lcmp_lt (pc := 79) (tgt := 86) dX11_many_79 dX11_many_80 (by decide) rfl rfl (fun c_5 => ?_) (fun c_5 => ?_)
        · replace h := (if_pos c_5).symm.trans h
          refine r_sub (lv' := [(1, .int (eI x1)), (2, .int (eI x2)), (3, .int (eI x3)), (4, .int (eI x4))]) [2, 3, 4, 5] rfl ?_
          exact bX11_many_b86 a0 x1 x2 x3 M oa0 _ (fun v0 v1 => ih v0 v1) h
        · replace h := (if_neg c_5).symm.trans h
          refine r_iload (pc := 83) dX11_many_83 5 rfl ?_
          cases h
          exact r_iret (pc := 85) rfl rfl (Nat.le_refl 0) (Nat.le_refl 0) dX11_many_85
set_option maxHeartbeats 4000000 in
set_option maxRecDepth 100000 in
theorem bX11_many_b0 {G : GG} (a0 : Nat) (x1 : Int) (x2 : Int) (x3 : Int) (M : MM) (oa0 : OB L0 a0 11)  {res : Int}  (h : sX11_many_b0 a0 x1 x2 x3 = some res) : VV G xX11_many (ZM G xX11_many (some (.int (eI res))) L0 M) L0 M 0 0 0 [(0, .ref (gA G a0)), (1, .int (eI x1)), (2, .int (eI x2)), (3, .int (eI x3))] [] := by
  unfold sX11_many_b0 at h
  refine r_iload_n (pc := 0) (i := 1) dX11_many_0 rfl 1 rfl ?_
  refine r_if_lt (pc := 1) (tgt := 30) dX11_many_1 (by decide) rfl (fun c_1 => ?_) (fun c_1 => ?_)
  · replace h := (if_pos c_1).symm.trans h
    refine r_iconst (pc := 30) (v := (-1)) dX11_many_30 (by decide +kernel) ?_
    cases h
    exact r_iret (pc := 31) rfl rfl (Nat.le_refl 0) (Nat.le_refl 0) dX11_many_31
  · replace h := (if_neg c_1).symm.trans h
    refine r_iload_n (pc := 4) (i := 1) dX11_many_4 rfl 1 rfl ?_
    refine r_bipush (pc := 5) (v := 10) dX11_many_5 (by decide +kernel) ?_
    refine r_icmp_gt (pc := 7) (tgt := 30) dX11_many_7 (by decide) rfl wl_10 (fun c_2 => ?_) (fun c_2 => ?_)
    · replace h := (if_pos c_2).symm.trans h
      refine r_iconst (pc := 30) (v := (-1)) dX11_many_30 (by decide +kernel) ?_
      cases h
      exact r_iret (pc := 31) rfl rfl (Nat.le_refl 0) (Nat.le_refl 0) dX11_many_31
    · replace h := (if_neg c_2).symm.trans h
      refine r_iload_n (pc := 10) (i := 2) dX11_many_10 rfl 2 rfl ?_
      refine r_if_lt (pc := 11) (tgt := 30) dX11_many_11 (by decide) rfl (fun c_3 => ?_) (fun c_3 => ?_)
      · replace h := (if_pos c_3).symm.trans h
        refine r_iconst (pc := 30) (v := (-1)) dX11_many_30 (by decide +kernel) ?_
        cases h
        exact r_iret (pc := 31) rfl rfl (Nat.le_refl 0) (Nat.le_refl 0) dX11_many_31
      · replace h := (if_neg c_3).symm.trans h
        refine r_iload_n (pc := 14) (i := 2) dX11_many_14 rfl 2 rfl ?_
        refine r_bipush (pc := 15) (v := 10) dX11_many_15 (by decide +kernel) ?_
        refine r_icmp_gt (pc := 17) (tgt := 30) dX11_many_17 (by decide) rfl wl_10 (fun c_4 => ?_) (fun c_4 => ?_)
        · replace h := (if_pos c_4).symm.trans h
          refine r_iconst (pc := 30) (v := (-1)) dX11_many_30 (by decide +kernel) ?_
          cases h
          exact r_iret (pc := 31) rfl rfl (Nat.le_refl 0) (Nat.le_refl 0) dX11_many_31
        · replace h := (if_neg c_4).symm.trans h
          refine r_iload_n (pc := 20) (i := 3) dX11_many_20 rfl 3 rfl ?_
          refine r_if_lt (pc := 21) (tgt := 30) dX11_many_21 (by decide) rfl (fun c_5 => ?_) (fun c_5 => ?_)
          · replace h := (if_pos c_5).symm.trans h
            refine r_iconst (pc := 30) (v := (-1)) dX11_many_30 (by decide +kernel) ?_
            cases h
            exact r_iret (pc := 31) rfl rfl (Nat.le_refl 0) (Nat.le_refl 0) dX11_many_31
          · replace h := (if_neg c_5).symm.trans h
            refine r_iload_n (pc := 24) (i := 3) dX11_many_24 rfl 3 rfl ?_
            refine r_bipush (pc := 25) (v := 100) dX11_many_25 (by decide +kernel) ?_
            refine r_icmp_le (pc := 27) (tgt := 32) dX11_many_27 (by decide) rfl wl_100 (fun c_6 => ?_) (fun c_6 => ?_)
            · replace h := (if_pos c_6).symm.trans h
              refine r_iconst (pc := 32) (v := 0) dX11_many_32 (by decide +kernel) ?_
              refine r_istore (pc := 33) (lv' := [(4, .int (eI 0)), (0, .ref (gA G a0)), (1, .int (eI x1)), (2, .int (eI x2)), (3, .int (eI x3))]) dX11_many_33 (Nat.le_of_ble_eq_true rfl) rfl ?_
              refine r_sub (lv' := [(1, .int (eI x1)), (2, .int (eI x2)), (3, .int (eI x3)), (4, .int (eI 0))]) [2, 3, 4, 0] rfl ?_
              exact bX11_many_b35 a0 x1 x2 x3 M oa0 _ _ h
            · replace h := (if_neg c_6).symm.trans h
              refine r_iconst (pc := 30) (v := (-1)) dX11_many_30 (by decide +kernel) ?_
              cases h
              exact r_iret (pc := 31) rfl rfl (Nat.le_refl 0) (Nat.le_refl 0) dX11_many_31
theorem kX11_many {G : GG} (a0 : Nat) (x1 : Int) (x2 : Int) (x3 : Int) (M : MM) {res : Int} (oa0 : OB L0 a0 11) (h : sX11_many a0 x1 x2 x3 = some res) : CO G xX11_many [.ref (gA G a0), .int (eI x1), .int (eI x2), .int (eI x3)] L0 M (some (.int (eI res))) L0 M := CO_of (by decide +kernel) (Nat.le_of_ble_eq_true rfl) (bX11_many_b0 a0 x1 x2 x3 M oa0 h)
abbrev xX11_drawn : XX := (yX11_drawn, cX11_drawn, 5, (some .int), 6, 137, 0, 0)
theorem ck_X11_drawn_94 : CKV xX11_drawn 94 xX11_partyAt 1 := ⟨⟨tb_i 866 (by decide +kernel) (by decide +kernel), tb_i 139 (by decide +kernel) (by decide +kernel), tb_i 869 (by decide +kernel) (by decide +kernel), ⟨by decide +kernel, by decide +kernel, by decide +kernel⟩, by decide, by decide⟩, tb_i 868 (by decide +kernel) (by decide +kernel), tb_i 13 (by decide +kernel) (by decide +kernel)⟩
theorem ck_X11_drawn_312 : CKV xX11_drawn 312 xX0_passes 3 := ⟨⟨tb_i 1352 (by decide +kernel) (by decide +kernel), tb_i 151 (by decide +kernel) (by decide +kernel), tb_i 1355 (by decide +kernel) (by decide +kernel), ⟨by decide +kernel, by decide +kernel, by decide +kernel⟩, by decide, by decide⟩, tb_i 1353 (by decide +kernel) (by decide +kernel), tb_i 1354 (by decide +kernel) (by decide +kernel)⟩
theorem ck_X11_drawn_316 : CKV xX11_drawn 316 xX0_answer 1 := ⟨⟨tb_i 1374 (by decide +kernel) (by decide +kernel), tb_i 151 (by decide +kernel) (by decide +kernel), tb_i 1377 (by decide +kernel) (by decide +kernel), ⟨by decide +kernel, by decide +kernel, by decide +kernel⟩, by decide, by decide⟩, tb_i 1375 (by decide +kernel) (by decide +kernel), tb_i 1376 (by decide +kernel) (by decide +kernel)⟩
def sX11_drawn_b62 (a0 : Nat) (x1 : Int) (x2 : Int) (x3 : Int)   (M : MM) : Option (Int × MM) := (some (((sX0_answer (gR a0 8) x3 M), M)))
def sX11_drawn_b0 (a0 : Nat) (x1 : Int) (x2 : Int) (x3 : Int)   (M : MM) : Option (Int × MM) := ((sX11_partyAt a0 x1 M).bind fun q_1 => (nM q_1 (some (((-2), M))) fun m_2 => ((sX0_passes (gR a0 8) m_2 x2 (gR a0 7) M).bind fun q_5 => (if wI x3 < 10 then (sX11_drawn_b62 a0 x1 x2 x3 q_5) else (if wI (10 + (q_5 m_2 3)) ≤ wI x3 then (sX11_drawn_b62 a0 x1 x2 x3 q_5) else (if 0 ≤ wI (x3 - 10) ∧ wI (x3 - 10) < 8 then (some (((q_5 (gR (gR a0 7) 0) (wI (x3 - 10)).toNat), q_5))) else none))))))
def sX11_drawn (a0 : Nat) (x1 : Int) (x2 : Int) (x3 : Int) (M : MM) : Option (Int × MM) := sX11_drawn_b0 a0 x1 x2 x3 M
set_option maxHeartbeats 4000000 in
set_option maxRecDepth 100000 in
theorem bX11_drawn_b62 {G : GG} (a0 : Nat) (x1 : Int) (x2 : Int) (x3 : Int) (oa0 : OB L0 a0 11)  (M : MM) {res : (Int × MM)}  (h : sX11_drawn_b62 a0 x1 x2 x3 M = some res) : VV G xX11_drawn (ZM G xX11_drawn (some (.int (eI res.1))) L0 res.2) L0 M 0 0 62 [(0, .ref (gA G a0)), (3, .int (eI x3))] [] := by
  unfold sX11_drawn_b62 at h
  refine r_aload_n (pc := 62) (i := 0) dX11_drawn_62 rfl 0 rfl ?_
  have o_1 := (wt_11_8 oa0).2
  refine r_getR (pc := 63) fg_11_62 rfl oa0 (wt_11_8 oa0).1 dX11_drawn_63 ?_
  refine r_iload_n (pc := 66) (i := 3) dX11_drawn_66 rfl 1 rfl ?_
  refine r_cV (pc := 67) (Y := xX0_answer) (As := [.int (eI x3)]) (rest := []) (v := (some (.int (eI (sX0_answer (gR a0 8) x3 M))))) (st1 := [.int (eI (sX0_answer (gR a0 8) x3 M))]) ck_X11_drawn_316 (kX0_answer (gR a0 8) x3 M o_1) o_1 rfl rfl rfl rfl (Nat.le_of_ble_eq_true rfl) ⟨rfl, rfl⟩ rfl dX11_drawn_67 ?_
  cases h
  exact r_iret (pc := 70) rfl rfl (Nat.le_refl 0) (Nat.le_refl 0) dX11_drawn_70
set_option maxHeartbeats 4000000 in
set_option maxRecDepth 100000 in
theorem bX11_drawn_b0 {G : GG} (a0 : Nat) (x1 : Int) (x2 : Int) (x3 : Int) (oa0 : OB L0 a0 11)  (M : MM) {res : (Int × MM)}  (h : sX11_drawn_b0 a0 x1 x2 x3 M = some res) : VV G xX11_drawn (ZM G xX11_drawn (some (.int (eI res.1))) L0 res.2) L0 M 0 0 0 [(0, .ref (gA G a0)), (1, .int (eI x1)), (2, .int (eI x2)), (3, .int (eI x3))] [] := by
  unfold sX11_drawn_b0 at h
  refine r_aload_n (pc := 0) (i := 0) dX11_drawn_0 rfl 0 rfl ?_
  refine r_iload_n (pc := 1) (i := 1) dX11_drawn_1 rfl 1 rfl ?_
  obtain ⟨q_1, hq_1, h⟩ := ob h
  refine r_cV (pc := 2) (Y := xX11_partyAt) (As := [.int (eI x1)]) (rest := []) (v := (some (nV G q_1))) (st1 := [nV G q_1]) ck_X11_drawn_94 (kX11_partyAt a0 x1 M oa0 hq_1) oa0 rfl rfl rfl rfl (Nat.le_of_ble_eq_true rfl) ⟨rfl, rfl⟩ rfl dX11_drawn_2 ?_
  have oq_1 := nX11_partyAt _ _ _ oa0 hq_1
  rcases q_1 with _ | m_2
  · replace h := nM_z h
    refine r_stk (st' := [.null]) rfl ?_
    refine r_astoreN (pc := 5) (lv' := [(4, .null), (0, .ref (gA G a0)), (1, .int (eI x1)), (2, .int (eI x2)), (3, .int (eI x3))]) dX11_drawn_5 (Nat.le_of_ble_eq_true rfl) rfl ?_
    refine r_aloadN (pc := 7) dX11_drawn_7 0 rfl ?_
    refine r_ifnonnullN (pc := 9) dX11_drawn_9 ?_
    refine r_bipush (pc := 12) (v := (-2)) dX11_drawn_12 (by decide +kernel) ?_
    cases h
    exact r_iret (pc := 14) rfl rfl (Nat.le_refl 0) (Nat.le_refl 0) dX11_drawn_14
  · replace h := nM_s h
    have om_2 := oq_1 _ rfl
    refine r_stk (st' := [.ref (gA G m_2)]) rfl ?_
    refine r_astore (pc := 5) (lv' := [(4, .ref (gA G m_2)), (0, .ref (gA G a0)), (1, .int (eI x1)), (2, .int (eI x2)), (3, .int (eI x3))]) dX11_drawn_5 (Nat.le_of_ble_eq_true rfl) rfl ?_
    refine r_aload (pc := 7) dX11_drawn_7 0 rfl ?_
    refine r_ifnonnullR (pc := 9) (tgt := 15) dX11_drawn_9 (by decide) ?_
    refine r_aload_n (pc := 15) (i := 0) dX11_drawn_15 rfl 1 rfl ?_
    have o_3 := (wt_11_8 oa0).2
    refine r_getR (pc := 16) fg_11_62 rfl oa0 (wt_11_8 oa0).1 dX11_drawn_16 ?_
    refine r_aload (pc := 19) dX11_drawn_19 0 rfl ?_
    refine r_iload_n (pc := 21) (i := 2) dX11_drawn_21 rfl 3 rfl ?_
    refine r_aload_n (pc := 22) (i := 0) dX11_drawn_22 rfl 1 rfl ?_
    have o_4 := (wt_11_7 oa0).2
    refine r_getR (pc := 23) fg_11_55 rfl oa0 (wt_11_7 oa0).1 dX11_drawn_23 ?_
    obtain ⟨q_5, hq_5, h⟩ := ob h
    refine r_cV (pc := 26) (Y := xX0_passes) (As := [.ref (gA G m_2), .int (eI x2), .ref (gA G (gR a0 7))]) (rest := []) (v := none) (st1 := []) ck_X11_drawn_312 (kX0_passes (gR a0 8) m_2 x2 (gR a0 7) M o_3 om_2 o_4 hq_5) o_3 rfl rfl rfl rfl (Nat.le_of_ble_eq_true rfl) ⟨rfl, rfl⟩ rfl dX11_drawn_26 ?_
    refine r_iload_n (pc := 29) (i := 3) dX11_drawn_29 rfl 4 rfl ?_
    refine r_bipush (pc := 30) (v := 10) dX11_drawn_30 (by decide +kernel) ?_
    refine r_icmp_lt (pc := 32) (tgt := 62) dX11_drawn_32 (by decide) rfl wl_10 (fun c_6 => ?_) (fun c_6 => ?_)
    · replace h := (if_pos c_6).symm.trans h
      refine r_sub (lv' := [(0, .ref (gA G a0)), (3, .int (eI x3))]) [1, 4] rfl ?_
      exact bX11_drawn_b62 a0 x1 x2 x3 oa0 _ h
    · replace h := (if_neg c_6).symm.trans h
      refine r_iload_n (pc := 35) (i := 3) dX11_drawn_35 rfl 4 rfl ?_
      refine r_bipush (pc := 36) (v := 10) dX11_drawn_36 (by decide +kernel) ?_
      refine r_aload (pc := 38) dX11_drawn_38 0 rfl ?_
      refine r_getI (pc := 40) fg_11_218 rfl om_2 dX11_drawn_40 ?_
      refine r_iadd (pc := 43) dX11_drawn_43 ?_
      refine r_icmp_ge (pc := 44) (tgt := 62) dX11_drawn_44 (by decide) rfl rfl (fun c_7 => ?_) (fun c_7 => ?_)
      · replace h := (if_pos c_7).symm.trans h
        refine r_sub (lv' := [(0, .ref (gA G a0)), (3, .int (eI x3))]) [1, 4] rfl ?_
        exact bX11_drawn_b62 a0 x1 x2 x3 oa0 _ h
      · replace h := (if_neg c_7).symm.trans h
        refine r_aload_n (pc := 47) (i := 0) dX11_drawn_47 rfl 1 rfl ?_
        have o_8 := (wt_11_7 oa0).2
        refine r_getR (pc := 48) fg_11_55 rfl oa0 (wt_11_7 oa0).1 dX11_drawn_48 ?_
        have o_9 := (wt_10_0 o_8).2
        refine r_getR (pc := 51) fg_11_285 rfl o_8 (wt_10_0 o_8).1 dX11_drawn_51 ?_
        refine r_iload_n (pc := 54) (i := 3) dX11_drawn_54 rfl 4 rfl ?_
        refine r_bipush (pc := 55) (v := 10) dX11_drawn_55 (by decide +kernel) ?_
        refine r_isub (pc := 57) dX11_drawn_57 ?_
        obtain ⟨c_10, h⟩ := og h
        refine r_iald (pc := 58) o_9 rfl c_10 rfl dX11_drawn_58 ?_
        refine r_goto (pc := 59) (tgt := 70) dX11_drawn_59 (by decide) ?_
        cases h
        exact r_iret (pc := 70) rfl rfl (Nat.le_refl 0) (Nat.le_refl 0) dX11_drawn_70
theorem kX11_drawn {G : GG} (a0 : Nat) (x1 : Int) (x2 : Int) (x3 : Int) (M : MM) {res : (Int × MM)} (oa0 : OB L0 a0 11) (h : sX11_drawn a0 x1 x2 x3 M = some res) : CO G xX11_drawn [.ref (gA G a0), .int (eI x1), .int (eI x2), .int (eI x3)] L0 M (some (.int (eI res.1))) L0 res.2 := CO_of (by decide +kernel) (Nat.le_of_ble_eq_true rfl) (bX11_drawn_b0 a0 x1 x2 x3 oa0 M h)
abbrev xX11_count : XX := (yX11_count, cX11_count, 2, (some .int), 0, 0, 0, 0)
def sX11_count_b0 (a0 : Nat) (x1 : Int) (M : MM)   : Option Int := (if wI x1 < 0 then (some ((-2))) else (if wI x1 < 5 then (if 0 ≤ wI x1 ∧ wI x1 < 5 then (some ((M (gR (gR a0 0) 4) (wI x1).toNat))) else none) else (some ((-2)))))
def sX11_count (a0 : Nat) (x1 : Int) (M : MM) : Option Int := sX11_count_b0 a0 x1 M
set_option maxHeartbeats 4000000 in
set_option maxRecDepth 100000 in
theorem bX11_count_b0 {G : GG} (a0 : Nat) (x1 : Int) (M : MM) (oa0 : OB L0 a0 11)  {res : Int}  (h : sX11_count_b0 a0 x1 M = some res) : VV G xX11_count (ZM G xX11_count (some (.int (eI res))) L0 M) L0 M 0 0 0 [(0, .ref (gA G a0)), (1, .int (eI x1))] [] := by
  unfold sX11_count_b0 at h
  refine r_iload_n (pc := 0) (i := 1) dX11_count_0 rfl 1 rfl ?_
  refine r_if_lt (pc := 1) (tgt := 9) dX11_count_1 (by decide) rfl (fun c_1 => ?_) (fun c_1 => ?_)
  · replace h := (if_pos c_1).symm.trans h
    refine r_bipush (pc := 9) (v := (-2)) dX11_count_9 (by decide +kernel) ?_
    refine r_goto (pc := 11) (tgt := 23) dX11_count_11 (by decide) ?_
    cases h
    exact r_iret (pc := 23) rfl rfl (Nat.le_refl 0) (Nat.le_refl 0) dX11_count_23
  · replace h := (if_neg c_1).symm.trans h
    refine r_iload_n (pc := 4) (i := 1) dX11_count_4 rfl 1 rfl ?_
    refine r_iconst (pc := 5) (v := 5) dX11_count_5 (by decide +kernel) ?_
    refine r_icmp_lt (pc := 6) (tgt := 14) dX11_count_6 (by decide) rfl wl_5 (fun c_2 => ?_) (fun c_2 => ?_)
    · replace h := (if_pos c_2).symm.trans h
      refine r_aload_n (pc := 14) (i := 0) dX11_count_14 rfl 0 rfl ?_
      have o_3 := (wt_11_0 oa0).2
      refine r_getR (pc := 15) fg_11_10 rfl oa0 (wt_11_0 oa0).1 dX11_count_15 ?_
      have o_4 := (wt_9_4 o_3).2
      refine r_getR (pc := 18) fg_11_317 rfl o_3 (wt_9_4 o_3).1 dX11_count_18 ?_
      refine r_iload_n (pc := 21) (i := 1) dX11_count_21 rfl 1 rfl ?_
      obtain ⟨c_5, h⟩ := og h
      refine r_iald (pc := 22) o_4 rfl c_5 rfl dX11_count_22 ?_
      cases h
      exact r_iret (pc := 23) rfl rfl (Nat.le_refl 0) (Nat.le_refl 0) dX11_count_23
    · replace h := (if_neg c_2).symm.trans h
      refine r_bipush (pc := 9) (v := (-2)) dX11_count_9 (by decide +kernel) ?_
      refine r_goto (pc := 11) (tgt := 23) dX11_count_11 (by decide) ?_
      cases h
      exact r_iret (pc := 23) rfl rfl (Nat.le_refl 0) (Nat.le_refl 0) dX11_count_23
theorem kX11_count {G : GG} (a0 : Nat) (x1 : Int) (M : MM) {res : Int} (oa0 : OB L0 a0 11) (h : sX11_count a0 x1 M = some res) : CO G xX11_count [.ref (gA G a0), .int (eI x1)] L0 M (some (.int (eI res))) L0 M := CO_of (by decide +kernel) (Nat.le_of_ble_eq_true rfl) (bX11_count_b0 a0 x1 M oa0 h)
abbrev xX11_image : XX := (yX11_image, cX11_image, 2, (some .boolean), 4, 90, 0, 0)
theorem ck_X11_image_320 : CKV xX11_image 320 xX9_copy 1 := ⟨⟨tb_i 1386 (by decide +kernel) (by decide +kernel), tb_i 140 (by decide +kernel) (by decide +kernel), tb_i 1389 (by decide +kernel) (by decide +kernel), ⟨by decide +kernel, by decide +kernel, by decide +kernel⟩, by decide, by decide⟩, tb_i 1387 (by decide +kernel) (by decide +kernel), tb_i 1388 (by decide +kernel) (by decide +kernel)⟩
def sX11_image_b0 (a0 : Nat) (x1 : Int)   (M : MM) : Option (Int × MM) := (if wI x1 < 0 then (some ((0, M))) else (if wI x1 < 3 then (if 0 ≤ wI x1 ∧ wI x1 < 3 then ((sX9_copy (gR (gR a0 1) (wI x1).toNat) (gR a0 0) M).bind fun q_7 => (if 0 ≤ wI x1 ∧ wI x1 < 3 then ((some (mU q_7 (gR a0 2) (wI x1).toNat 1)).bind fun M_10 => (some ((1, M_10)))) else none)) else none) else (some ((0, M)))))
def sX11_image (a0 : Nat) (x1 : Int) (M : MM) : Option (Int × MM) := sX11_image_b0 a0 x1 M
set_option maxHeartbeats 4000000 in
set_option maxRecDepth 100000 in
theorem bX11_image_b0 {G : GG} (a0 : Nat) (x1 : Int) (oa0 : OB L0 a0 11)  (M : MM) {res : (Int × MM)}  (h : sX11_image_b0 a0 x1 M = some res) : VV G xX11_image (ZM G xX11_image (some (.int (eI res.1))) L0 res.2) L0 M 0 0 0 [(0, .ref (gA G a0)), (1, .int (eI x1))] [] := by
  unfold sX11_image_b0 at h
  refine r_iload_n (pc := 0) (i := 1) dX11_image_0 rfl 1 rfl ?_
  refine r_if_lt (pc := 1) (tgt := 9) dX11_image_1 (by decide) rfl (fun c_1 => ?_) (fun c_1 => ?_)
  · replace h := (if_pos c_1).symm.trans h
    refine r_iconst (pc := 9) (v := 0) dX11_image_9 (by decide +kernel) ?_
    cases h
    exact r_iret (pc := 10) rfl (zn_ok (Or.inl rfl)).1 (Nat.le_refl 0) (Nat.le_refl 0) dX11_image_10
  · replace h := (if_neg c_1).symm.trans h
    refine r_iload_n (pc := 4) (i := 1) dX11_image_4 rfl 1 rfl ?_
    refine r_iconst (pc := 5) (v := 3) dX11_image_5 (by decide +kernel) ?_
    refine r_icmp_lt (pc := 6) (tgt := 11) dX11_image_6 (by decide) rfl wl_3 (fun c_2 => ?_) (fun c_2 => ?_)
    · replace h := (if_pos c_2).symm.trans h
      refine r_aload_n (pc := 11) (i := 0) dX11_image_11 rfl 0 rfl ?_
      have o_3 := (wt_11_1 oa0).2
      refine r_getR (pc := 12) fg_11_16 rfl oa0 (wt_11_1 oa0).1 dX11_image_12 ?_
      refine r_iload_n (pc := 15) (i := 1) dX11_image_15 rfl 1 rfl ?_
      obtain ⟨c_4, h⟩ := og h
      have o_5 := (wa_9 o_3 c_4).2
      refine r_aald9 (pc := 16) o_3 rfl c_4 rfl (wa_9 o_3 c_4).1 dX11_image_16 ?_
      refine r_aload_n (pc := 17) (i := 0) dX11_image_17 rfl 0 rfl ?_
      have o_6 := (wt_11_0 oa0).2
      refine r_getR (pc := 18) fg_11_10 rfl oa0 (wt_11_0 oa0).1 dX11_image_18 ?_
      obtain ⟨q_7, hq_7, h⟩ := ob h
      refine r_cV (pc := 21) (Y := xX9_copy) (As := [.ref (gA G (gR a0 0))]) (rest := []) (v := none) (st1 := []) ck_X11_image_320 (kX9_copy (gR (gR a0 1) (wI x1).toNat) (gR a0 0) M o_5 o_6 hq_7) o_5 rfl rfl rfl rfl (Nat.le_of_ble_eq_true rfl) ⟨rfl, rfl⟩ rfl dX11_image_21 ?_
      refine r_aload_n (pc := 24) (i := 0) dX11_image_24 rfl 0 rfl ?_
      have o_8 := (wt_11_2 oa0).2
      refine r_getR (pc := 25) fg_11_20 rfl oa0 (wt_11_2 oa0).1 dX11_image_25 ?_
      refine r_iload_n (pc := 28) (i := 1) dX11_image_28 rfl 1 rfl ?_
      refine r_iconst (pc := 29) (v := 1) dX11_image_29 (by decide +kernel) ?_
      obtain ⟨c_9, h⟩ := og h
      obtain ⟨M_10, hM_10, h⟩ := ob h
      refine r_zast (pc := 30) o_8 rfl c_9 rfl hM_10 (by decide +kernel) dX11_image_30 ?_
      refine r_iconst (pc := 31) (v := 1) dX11_image_31 (by decide +kernel) ?_
      cases h
      exact r_iret (pc := 32) rfl (zn_ok (Or.inr rfl)).1 (Nat.le_refl 0) (Nat.le_refl 0) dX11_image_32
    · replace h := (if_neg c_2).symm.trans h
      refine r_iconst (pc := 9) (v := 0) dX11_image_9 (by decide +kernel) ?_
      cases h
      exact r_iret (pc := 10) rfl (zn_ok (Or.inl rfl)).1 (Nat.le_refl 0) (Nat.le_refl 0) dX11_image_10
theorem kX11_image {G : GG} (a0 : Nat) (x1 : Int) (M : MM) {res : (Int × MM)} (oa0 : OB L0 a0 11) (h : sX11_image a0 x1 M = some res) : CO G xX11_image [.ref (gA G a0), .int (eI x1)] L0 M (some (.int (eI res.1))) L0 res.2 := CO_of (by decide +kernel) (Nat.le_of_ble_eq_true rfl) (bX11_image_b0 a0 x1 oa0 M h)
abbrev xX11_again : XX := (yX11_again, cX11_again, 2, (some .boolean), 4, 90, 0, 0)
theorem ck_X11_again_320 : CKV xX11_again 320 xX9_copy 1 := ⟨⟨tb_i 1386 (by decide +kernel) (by decide +kernel), tb_i 140 (by decide +kernel) (by decide +kernel), tb_i 1389 (by decide +kernel) (by decide +kernel), ⟨by decide +kernel, by decide +kernel, by decide +kernel⟩, by decide, by decide⟩, tb_i 1387 (by decide +kernel) (by decide +kernel), tb_i 1388 (by decide +kernel) (by decide +kernel)⟩
def sX11_again_b0 (a0 : Nat) (x1 : Int)   (M : MM) : Option (Int × MM) := (if wI x1 < 0 then (some ((0, M))) else (if 3 ≤ wI x1 then (some ((0, M))) else (if 0 ≤ wI x1 ∧ wI x1 < 3 then (if wI (M (gR a0 2) (wI x1).toNat) = 0 then (some ((0, M))) else (if 0 ≤ wI x1 ∧ wI x1 < 3 then ((sX9_copy (gR a0 0) (gR (gR a0 1) (wI x1).toNat) M).bind fun q_10 => (some ((1, q_10)))) else none)) else none)))
def sX11_again (a0 : Nat) (x1 : Int) (M : MM) : Option (Int × MM) := sX11_again_b0 a0 x1 M
set_option maxHeartbeats 4000000 in
set_option maxRecDepth 100000 in
theorem bX11_again_b0 {G : GG} (a0 : Nat) (x1 : Int) (oa0 : OB L0 a0 11)  (M : MM) {res : (Int × MM)}  (h : sX11_again_b0 a0 x1 M = some res) : VV G xX11_again (ZM G xX11_again (some (.int (eI res.1))) L0 res.2) L0 M 0 0 0 [(0, .ref (gA G a0)), (1, .int (eI x1))] [] := by
  unfold sX11_again_b0 at h
  refine r_iload_n (pc := 0) (i := 1) dX11_again_0 rfl 1 rfl ?_
  refine r_if_lt (pc := 1) (tgt := 18) dX11_again_1 (by decide) rfl (fun c_1 => ?_) (fun c_1 => ?_)
  · replace h := (if_pos c_1).symm.trans h
    refine r_iconst (pc := 18) (v := 0) dX11_again_18 (by decide +kernel) ?_
    cases h
    exact r_iret (pc := 19) rfl (zn_ok (Or.inl rfl)).1 (Nat.le_refl 0) (Nat.le_refl 0) dX11_again_19
  · replace h := (if_neg c_1).symm.trans h
    refine r_iload_n (pc := 4) (i := 1) dX11_again_4 rfl 1 rfl ?_
    refine r_iconst (pc := 5) (v := 3) dX11_again_5 (by decide +kernel) ?_
    refine r_icmp_ge (pc := 6) (tgt := 18) dX11_again_6 (by decide) rfl wl_3 (fun c_2 => ?_) (fun c_2 => ?_)
    · replace h := (if_pos c_2).symm.trans h
      refine r_iconst (pc := 18) (v := 0) dX11_again_18 (by decide +kernel) ?_
      cases h
      exact r_iret (pc := 19) rfl (zn_ok (Or.inl rfl)).1 (Nat.le_refl 0) (Nat.le_refl 0) dX11_again_19
    · replace h := (if_neg c_2).symm.trans h
      refine r_aload_n (pc := 9) (i := 0) dX11_again_9 rfl 0 rfl ?_
      have o_3 := (wt_11_2 oa0).2
      refine r_getR (pc := 10) fg_11_20 rfl oa0 (wt_11_2 oa0).1 dX11_again_10 ?_
      refine r_iload_n (pc := 13) (i := 1) dX11_again_13 rfl 1 rfl ?_
      obtain ⟨c_4, h⟩ := og h
      refine r_zald (pc := 14) o_3 rfl c_4 rfl dX11_again_14 ?_
      refine r_if_ne (pc := 15) (tgt := 20) dX11_again_15 (by decide) rfl (fun c_5 => ?_) (fun c_5 => ?_)
      · replace h := (if_neg c_5).symm.trans h
        refine r_aload_n (pc := 20) (i := 0) dX11_again_20 rfl 0 rfl ?_
        have o_6 := (wt_11_0 oa0).2
        refine r_getR (pc := 21) fg_11_10 rfl oa0 (wt_11_0 oa0).1 dX11_again_21 ?_
        refine r_aload_n (pc := 24) (i := 0) dX11_again_24 rfl 0 rfl ?_
        have o_7 := (wt_11_1 oa0).2
        refine r_getR (pc := 25) fg_11_16 rfl oa0 (wt_11_1 oa0).1 dX11_again_25 ?_
        refine r_iload_n (pc := 28) (i := 1) dX11_again_28 rfl 1 rfl ?_
        obtain ⟨c_8, h⟩ := og h
        have o_9 := (wa_9 o_7 c_8).2
        refine r_aald9 (pc := 29) o_7 rfl c_8 rfl (wa_9 o_7 c_8).1 dX11_again_29 ?_
        obtain ⟨q_10, hq_10, h⟩ := ob h
        refine r_cV (pc := 30) (Y := xX9_copy) (As := [.ref (gA G (gR (gR a0 1) (wI x1).toNat))]) (rest := []) (v := none) (st1 := []) ck_X11_again_320 (kX9_copy (gR a0 0) (gR (gR a0 1) (wI x1).toNat) M o_6 o_9 hq_10) o_6 rfl rfl rfl rfl (Nat.le_of_ble_eq_true rfl) ⟨rfl, rfl⟩ rfl dX11_again_30 ?_
        refine r_iconst (pc := 33) (v := 1) dX11_again_33 (by decide +kernel) ?_
        cases h
        exact r_iret (pc := 34) rfl (zn_ok (Or.inr rfl)).1 (Nat.le_refl 0) (Nat.le_refl 0) dX11_again_34
      · replace h := (if_pos c_5).symm.trans h
        refine r_iconst (pc := 18) (v := 0) dX11_again_18 (by decide +kernel) ?_
        cases h
        exact r_iret (pc := 19) rfl (zn_ok (Or.inl rfl)).1 (Nat.le_refl 0) (Nat.le_refl 0) dX11_again_19
theorem kX11_again {G : GG} (a0 : Nat) (x1 : Int) (M : MM) {res : (Int × MM)} (oa0 : OB L0 a0 11) (h : sX11_again a0 x1 M = some res) : CO G xX11_again [.ref (gA G a0), .int (eI x1)] L0 M (some (.int (eI res.1))) L0 res.2 := CO_of (by decide +kernel) (Nat.le_of_ble_eq_true rfl) (bX11_again_b0 a0 x1 oa0 M h)
abbrev xX12_in : XX := (yX12_in, cX12_in, 3, (some .boolean), 0, 0, 0, 0)
def sX12_in_b0 (x0 : Int) (x1 : Int) (x2 : Int)   : Int := (if wI x0 < wI x1 then 0 else (if wI x2 < wI x0 then 0 else 1))
def sX12_in (x0 : Int) (x1 : Int) (x2 : Int) : Int := sX12_in_b0 x0 x1 x2
set_option maxHeartbeats 4000000 in
set_option maxRecDepth 100000 in
theorem bX12_in_b0 {G : GG} (x0 : Int) (x1 : Int) (x2 : Int) (M : MM)   {res : Int}  (h : sX12_in_b0 x0 x1 x2 = res) : VV G xX12_in (ZM G xX12_in (some (.int (eI res))) L0 M) L0 M 0 0 0 [(0, .int (eI x0)), (1, .int (eI x1)), (2, .int (eI x2))] [] := by
  unfold sX12_in_b0 at h
  refine r_iload_n (pc := 0) (i := 0) dX12_in_0 rfl 0 rfl ?_
  refine r_iload_n (pc := 1) (i := 1) dX12_in_1 rfl 1 rfl ?_
  refine r_icmp_lt (pc := 2) (tgt := 14) dX12_in_2 (by decide) rfl rfl (fun c_1 => ?_) (fun c_1 => ?_)
  · replace h := (if_pos c_1).symm.trans h
    refine r_iconst (pc := 14) (v := 0) dX12_in_14 (by decide +kernel) ?_
    cases h
    exact r_iret (pc := 15) rfl (zn_ok (Or.inl rfl)).1 (Nat.le_refl 0) (Nat.le_refl 0) dX12_in_15
  · replace h := (if_neg c_1).symm.trans h
    refine r_iload_n (pc := 5) (i := 0) dX12_in_5 rfl 0 rfl ?_
    refine r_iload_n (pc := 6) (i := 2) dX12_in_6 rfl 2 rfl ?_
    refine r_icmp_gt (pc := 7) (tgt := 14) dX12_in_7 (by decide) rfl rfl (fun c_2 => ?_) (fun c_2 => ?_)
    · replace h := (if_pos c_2).symm.trans h
      refine r_iconst (pc := 14) (v := 0) dX12_in_14 (by decide +kernel) ?_
      cases h
      exact r_iret (pc := 15) rfl (zn_ok (Or.inl rfl)).1 (Nat.le_refl 0) (Nat.le_refl 0) dX12_in_15
    · replace h := (if_neg c_2).symm.trans h
      refine r_iconst (pc := 10) (v := 1) dX12_in_10 (by decide +kernel) ?_
      refine r_goto (pc := 11) (tgt := 15) dX12_in_11 (by decide) ?_
      cases h
      exact r_iret (pc := 15) rfl (zn_ok (Or.inr rfl)).1 (Nat.le_refl 0) (Nat.le_refl 0) dX12_in_15
theorem kX12_in {G : GG} (x0 : Int) (x1 : Int) (x2 : Int) (M : MM)  : CO G xX12_in [.int (eI x0), .int (eI x1), .int (eI x2)] L0 M (some (.int (eI (sX12_in x0 x1 x2)))) L0 M := CO_of (by decide +kernel) (Nat.le_of_ble_eq_true rfl) (bX12_in_b0 x0 x1 x2 M rfl)
abbrev xX12_has : XX := (yX12_has, cX12_has, 2, (some .boolean), 0, 0, 0, 0)
def sX12_has_b0 (x0 : Int) (x1 : Int)   : Option Int := (if 0 ≤ wI x1 ∧ wI x1 < 32 then (if wI (((wI x0) / 2 ^ (wI x1).toNat) % 2) = 1 then (some (1)) else (some (0))) else none)
def sX12_has (x0 : Int) (x1 : Int) : Option Int := sX12_has_b0 x0 x1
set_option maxHeartbeats 4000000 in
set_option maxRecDepth 100000 in
theorem bX12_has_b0 {G : GG} (x0 : Int) (x1 : Int) (M : MM)   {res : Int}  (h : sX12_has_b0 x0 x1 = some res) : VV G xX12_has (ZM G xX12_has (some (.int (eI res))) L0 M) L0 M 0 0 0 [(0, .int (eI x0)), (1, .int (eI x1))] [] := by
  unfold sX12_has_b0 at h
  refine r_iload_n (pc := 0) (i := 0) dX12_has_0 rfl 0 rfl ?_
  refine r_iload_n (pc := 1) (i := 1) dX12_has_1 rfl 1 rfl ?_
  obtain ⟨c_1, h⟩ := og h
  refine r_ishr (pc := 2) rfl rfl c_1 dX12_has_2 ?_
  refine r_iconst (pc := 3) (v := 1) dX12_has_3 (by decide +kernel) ?_
  refine r_iand (pc := 4) 1 (by decide) wl_1 rfl dX12_has_4 ?_
  refine r_iconst (pc := 5) (v := 1) dX12_has_5 (by decide +kernel) ?_
  refine r_icmp_ne (pc := 6) (tgt := 13) dX12_has_6 (by decide) rfl wl_1 (fun c_2 => ?_) (fun c_2 => ?_)
  · replace h := (if_neg c_2).symm.trans h
    refine r_iconst (pc := 13) (v := 0) dX12_has_13 (by decide +kernel) ?_
    cases h
    exact r_iret (pc := 14) rfl (zn_ok (Or.inl rfl)).1 (Nat.le_refl 0) (Nat.le_refl 0) dX12_has_14
  · replace h := (if_pos c_2).symm.trans h
    refine r_iconst (pc := 9) (v := 1) dX12_has_9 (by decide +kernel) ?_
    refine r_goto (pc := 10) (tgt := 14) dX12_has_10 (by decide) ?_
    cases h
    exact r_iret (pc := 14) rfl (zn_ok (Or.inr rfl)).1 (Nat.le_refl 0) (Nat.le_refl 0) dX12_has_14
theorem kX12_has {G : GG} (x0 : Int) (x1 : Int) (M : MM) {res : Int}  (h : sX12_has x0 x1 = some res) : CO G xX12_has [.int (eI x0), .int (eI x1)] L0 M (some (.int (eI res))) L0 M := CO_of (by decide +kernel) (Nat.le_of_ble_eq_true rfl) (bX12_has_b0 x0 x1 M h)
abbrev xX12_greater : XX := (yX12_greater, cX12_greater, 2, (some .int), 0, 0, 0, 0)
def sX12_greater_b0 (x0 : Int) (x1 : Int)   : Int := (if wI x0 ≤ wI x1 then x1 else x0)
def sX12_greater (x0 : Int) (x1 : Int) : Int := sX12_greater_b0 x0 x1
set_option maxHeartbeats 4000000 in
set_option maxRecDepth 100000 in
theorem bX12_greater_b0 {G : GG} (x0 : Int) (x1 : Int) (M : MM)   {res : Int}  (h : sX12_greater_b0 x0 x1 = res) : VV G xX12_greater (ZM G xX12_greater (some (.int (eI res))) L0 M) L0 M 0 0 0 [(0, .int (eI x0)), (1, .int (eI x1))] [] := by
  unfold sX12_greater_b0 at h
  refine r_iload_n (pc := 0) (i := 0) dX12_greater_0 rfl 0 rfl ?_
  refine r_iload_n (pc := 1) (i := 1) dX12_greater_1 rfl 1 rfl ?_
  refine r_icmp_le (pc := 2) (tgt := 9) dX12_greater_2 (by decide) rfl rfl (fun c_1 => ?_) (fun c_1 => ?_)
  · replace h := (if_pos c_1).symm.trans h
    refine r_iload_n (pc := 9) (i := 1) dX12_greater_9 rfl 1 rfl ?_
    cases h
    exact r_iret (pc := 10) rfl rfl (Nat.le_refl 0) (Nat.le_refl 0) dX12_greater_10
  · replace h := (if_neg c_1).symm.trans h
    refine r_iload_n (pc := 5) (i := 0) dX12_greater_5 rfl 0 rfl ?_
    refine r_goto (pc := 6) (tgt := 10) dX12_greater_6 (by decide) ?_
    cases h
    exact r_iret (pc := 10) rfl rfl (Nat.le_refl 0) (Nat.le_refl 0) dX12_greater_10
theorem kX12_greater {G : GG} (x0 : Int) (x1 : Int) (M : MM)  : CO G xX12_greater [.int (eI x0), .int (eI x1)] L0 M (some (.int (eI (sX12_greater x0 x1)))) L0 M := CO_of (by decide +kernel) (Nat.le_of_ble_eq_true rfl) (bX12_greater_b0 x0 x1 M rfl)
abbrev xX12_lesser : XX := (yX12_lesser, cX12_lesser, 2, (some .int), 0, 0, 0, 0)
def sX12_lesser_b0 (x0 : Int) (x1 : Int)   : Int := (if wI x1 ≤ wI x0 then x1 else x0)
def sX12_lesser (x0 : Int) (x1 : Int) : Int := sX12_lesser_b0 x0 x1
set_option maxHeartbeats 4000000 in
set_option maxRecDepth 100000 in
theorem bX12_lesser_b0 {G : GG} (x0 : Int) (x1 : Int) (M : MM)   {res : Int}  (h : sX12_lesser_b0 x0 x1 = res) : VV G xX12_lesser (ZM G xX12_lesser (some (.int (eI res))) L0 M) L0 M 0 0 0 [(0, .int (eI x0)), (1, .int (eI x1))] [] := by
  unfold sX12_lesser_b0 at h
  refine r_iload_n (pc := 0) (i := 0) dX12_lesser_0 rfl 0 rfl ?_
  refine r_iload_n (pc := 1) (i := 1) dX12_lesser_1 rfl 1 rfl ?_
  refine r_icmp_ge (pc := 2) (tgt := 9) dX12_lesser_2 (by decide) rfl rfl (fun c_1 => ?_) (fun c_1 => ?_)
  · replace h := (if_pos c_1).symm.trans h
    refine r_iload_n (pc := 9) (i := 1) dX12_lesser_9 rfl 1 rfl ?_
    cases h
    exact r_iret (pc := 10) rfl rfl (Nat.le_refl 0) (Nat.le_refl 0) dX12_lesser_10
  · replace h := (if_neg c_1).symm.trans h
    refine r_iload_n (pc := 5) (i := 0) dX12_lesser_5 rfl 0 rfl ?_
    refine r_goto (pc := 6) (tgt := 10) dX12_lesser_6 (by decide) ?_
    cases h
    exact r_iret (pc := 10) rfl rfl (Nat.le_refl 0) (Nat.le_refl 0) dX12_lesser_10
theorem kX12_lesser {G : GG} (x0 : Int) (x1 : Int) (M : MM)  : CO G xX12_lesser [.int (eI x0), .int (eI x1)] L0 M (some (.int (eI (sX12_lesser x0 x1)))) L0 M := CO_of (by decide +kernel) (Nat.le_of_ble_eq_true rfl) (bX12_lesser_b0 x0 x1 M rfl)
abbrev xX12_size : XX := (yX12_size, cX12_size, 1, (some .int), 0, 0, 0, 0)
def sX12_size_b0 (x0 : Int)   : Int := (if 0 ≤ wI x0 then x0 else (-x0))
def sX12_size (x0 : Int) : Int := sX12_size_b0 x0
set_option maxHeartbeats 4000000 in
set_option maxRecDepth 100000 in
theorem bX12_size_b0 {G : GG} (x0 : Int) (M : MM)   {res : Int}  (h : sX12_size_b0 x0 = res) : VV G xX12_size (ZM G xX12_size (some (.int (eI res))) L0 M) L0 M 0 0 0 [(0, .int (eI x0))] [] := by
  unfold sX12_size_b0 at h
  refine r_iload_n (pc := 0) (i := 0) dX12_size_0 rfl 0 rfl ?_
  refine r_if_ge (pc := 1) (tgt := 9) dX12_size_1 (by decide) rfl (fun c_1 => ?_) (fun c_1 => ?_)
  · replace h := (if_pos c_1).symm.trans h
    refine r_iload_n (pc := 9) (i := 0) dX12_size_9 rfl 0 rfl ?_
    cases h
    exact r_iret (pc := 10) rfl rfl (Nat.le_refl 0) (Nat.le_refl 0) dX12_size_10
  · replace h := (if_neg c_1).symm.trans h
    refine r_iload_n (pc := 4) (i := 0) dX12_size_4 rfl 0 rfl ?_
    refine r_ineg (pc := 5) dX12_size_5 ?_
    refine r_goto (pc := 6) (tgt := 10) dX12_size_6 (by decide) ?_
    cases h
    exact r_iret (pc := 10) rfl rfl (Nat.le_refl 0) (Nat.le_refl 0) dX12_size_10
theorem kX12_size {G : GG} (x0 : Int) (M : MM)  : CO G xX12_size [.int (eI x0)] L0 M (some (.int (eI (sX12_size x0)))) L0 M := CO_of (by decide +kernel) (Nat.le_of_ble_eq_true rfl) (bX12_size_b0 x0 M rfl)
abbrev xX12_copyRow : XX := (yX12_copyRow, cX12_copyRow, 5, none, 0, 0, 0, 0)
def sX12_copyRow_b3 (b0 : Nat) (x1 : Int) (x2 : Int) (x3 : Int)  : Nat → Int → MM → Option MM
  | 0, _, _ => none
  | n + 1, x4, M => (if wI x1 ≤ wI x4 then (some (M)) else (if 0 ≤ wI ((x1 * x2) + x4) ∧ wI ((x1 * x2) + x4) < (ln b0) then (if 0 ≤ wI ((x1 * x3) + x4) ∧ wI ((x1 * x3) + x4) < (ln b0) then ((some (mU M b0 (wI ((x1 * x3) + x4)).toNat (M b0 (wI ((x1 * x2) + x4)).toNat))).bind fun M_4 => ((some (x4 + 1)).bind fun v_5 => (sX12_copyRow_b3 b0 x1 x2 x3 n v_5 M_4))) else none) else none))
def sX12_copyRow_b0 (b0 : Nat) (x1 : Int) (x2 : Int) (x3 : Int)   (M : MM) : Option MM := (sX12_copyRow_b3 b0 x1 x2 x3 FU 0 M)
def sX12_copyRow (b0 : Nat) (x1 : Int) (x2 : Int) (x3 : Int) (M : MM) : Option MM := sX12_copyRow_b0 b0 x1 x2 x3 M
set_option maxHeartbeats 4000000 in
set_option maxRecDepth 100000 in
theorem bX12_copyRow_b3 {G : GG} (b0 : Nat) (x1 : Int) (x2 : Int) (x3 : Int) (ob0 : AR L0 b0 1 (ln b0)) {res : MM} : ∀ (n : Nat) (x4 : Int) (M : MM)  (h : sX12_copyRow_b3 b0 x1 x2 x3 n x4 M = some res), VV G xX12_copyRow (ZM G xX12_copyRow (none) L0 res) L0 M 0 0 3 [(0, .ref (gA G b0)), (1, .int (eI x1)), (2, .int (eI x2)), (3, .int (eI x3)), (4, .int (eI x4))] [] := by
  intro n
  induction n with
  | zero =>
    intro x4 M h
    rw [sX12_copyRow_b3] at h
    cases h
  | succ n ih =>
    intro x4 M h
    rw [sX12_copyRow_b3] at h
    refine r_iload (pc := 3) dX12_copyRow_3 4 rfl ?_
    refine r_iload_n (pc := 5) (i := 1) dX12_copyRow_5 rfl 1 rfl ?_
    refine r_icmp_ge (pc := 6) (tgt := 31) dX12_copyRow_6 (by decide) rfl rfl (fun c_1 => ?_) (fun c_1 => ?_)
    · replace h := (if_pos c_1).symm.trans h
      cases h
      exact r_vret (pc := 31) rfl (Nat.le_refl 0) (Nat.le_refl 0) dX12_copyRow_31
    · replace h := (if_neg c_1).symm.trans h
      refine r_aload_n (pc := 9) (i := 0) dX12_copyRow_9 rfl 0 rfl ?_
      refine r_iload_n (pc := 10) (i := 1) dX12_copyRow_10 rfl 1 rfl ?_
      refine r_iload_n (pc := 11) (i := 3) dX12_copyRow_11 rfl 3 rfl ?_
      refine r_imul (pc := 12) dX12_copyRow_12 ?_
      refine r_iload (pc := 13) dX12_copyRow_13 4 rfl ?_
      refine r_iadd (pc := 15) dX12_copyRow_15 ?_
      refine r_aload_n (pc := 16) (i := 0) dX12_copyRow_16 rfl 0 rfl ?_
      refine r_iload_n (pc := 17) (i := 1) dX12_copyRow_17 rfl 1 rfl ?_
      refine r_iload_n (pc := 18) (i := 2) dX12_copyRow_18 rfl 2 rfl ?_
      refine r_imul (pc := 19) dX12_copyRow_19 ?_
      refine r_iload (pc := 20) dX12_copyRow_20 4 rfl ?_
      refine r_iadd (pc := 22) dX12_copyRow_22 ?_
      obtain ⟨c_2, h⟩ := og h
      refine r_iald (pc := 23) ob0 rfl c_2 rfl dX12_copyRow_23 ?_
      obtain ⟨c_3, h⟩ := og h
      obtain ⟨M_4, hM_4, h⟩ := ob h
      refine r_iast (pc := 24) ob0 rfl c_3 rfl hM_4 dX12_copyRow_24 ?_
      obtain ⟨v_5, hv_5, h⟩ := ob h
      refine r_iinc (pc := 25) (y := v_5) (lv' := [(4, .int (eI v_5)), (0, .ref (gA G b0)), (1, .int (eI x1)), (2, .int (eI x2)), (3, .int (eI x3))]) dX12_copyRow_25 4 rfl (Option.some.inj hv_5) (Nat.le_of_ble_eq_true rfl) rfl ?_
      refine r_goto (pc := 28) (tgt := 3) dX12_copyRow_28 (by decide) ?_
      refine r_sub (lv' := [(0, .ref (gA G b0)), (1, .int (eI x1)), (2, .int (eI x2)), (3, .int (eI x3)), (4, .int (eI v_5))]) [1, 2, 3, 4, 0] rfl ?_
      exact ih _ _ h
set_option maxHeartbeats 4000000 in
set_option maxRecDepth 100000 in
theorem bX12_copyRow_b0 {G : GG} (b0 : Nat) (x1 : Int) (x2 : Int) (x3 : Int) (ob0 : AR L0 b0 1 (ln b0))  (M : MM) {res : MM}  (h : sX12_copyRow_b0 b0 x1 x2 x3 M = some res) : VV G xX12_copyRow (ZM G xX12_copyRow (none) L0 res) L0 M 0 0 0 [(0, .ref (gA G b0)), (1, .int (eI x1)), (2, .int (eI x2)), (3, .int (eI x3))] [] := by
  unfold sX12_copyRow_b0 at h
  refine r_iconst (pc := 0) (v := 0) dX12_copyRow_0 (by decide +kernel) ?_
  refine r_istore (pc := 1) (lv' := [(4, .int (eI 0)), (0, .ref (gA G b0)), (1, .int (eI x1)), (2, .int (eI x2)), (3, .int (eI x3))]) dX12_copyRow_1 (Nat.le_of_ble_eq_true rfl) rfl ?_
  refine r_sub (lv' := [(0, .ref (gA G b0)), (1, .int (eI x1)), (2, .int (eI x2)), (3, .int (eI x3)), (4, .int (eI 0))]) [1, 2, 3, 4, 0] rfl ?_
  exact bX12_copyRow_b3 b0 x1 x2 x3 ob0 _ _ _ h
theorem kX12_copyRow {G : GG} (b0 : Nat) (x1 : Int) (x2 : Int) (x3 : Int) (M : MM) {res : MM} (ob0 : AR L0 b0 1 (ln b0)) (h : sX12_copyRow b0 x1 x2 x3 M = some res) : CO G xX12_copyRow [.ref (gA G b0), .int (eI x1), .int (eI x2), .int (eI x3)] L0 M (none) L0 res := CO_of (by decide +kernel) (Nat.le_of_ble_eq_true rfl) (bX12_copyRow_b0 b0 x1 x2 x3 ob0 M h)
abbrev xX12_copyAll : XX := (yX12_copyAll, cX12_copyAll, 4, none, 1, 24, 0, 0)
theorem ck_X12_copyAll_101 : CKS xX12_copyAll 101 xX12_copyRow 4 := ⟨⟨tb_i 2198 (by decide +kernel) (by decide +kernel), tb_i 152 (by decide +kernel) (by decide +kernel), tb_i 2200 (by decide +kernel) (by decide +kernel), ⟨by decide +kernel, by decide +kernel, by decide +kernel⟩, by decide, by decide⟩, tb_i 2199 (by decide +kernel) (by decide +kernel)⟩
def sX12_copyAll_b2 (a0 : Nat) (x1 : Int) (x2 : Int)  : Nat → Int → MM → Option MM
  | 0, _, _ => none
  | n + 1, x3, M => (if 600 ≤ wI x3 then ((sX12_copyRow (gR a0 2) 1 x1 x2 M).bind fun q_3 => ((sX12_copyRow (gR a0 3) 1 x1 x2 q_3).bind fun q_5 => ((sX12_copyRow (gR a0 4) 1 x1 x2 q_5).bind fun q_7 => ((sX12_copyRow (gR a0 5) 5 x1 x2 q_7).bind fun q_9 => ((sX12_copyRow (gR a0 6) 264 x1 x2 q_9).bind fun q_11 => ((sX12_copyRow (gR a0 7) 242 x1 x2 q_11).bind fun q_13 => ((sX12_copyRow (gR a0 8) 66 x1 x2 q_13).bind fun q_15 => ((sX12_copyRow (gR a0 9) 102 x1 x2 q_15).bind fun q_17 => ((sX12_copyRow (gR a0 10) 194 x1 x2 q_17).bind fun q_19 => (some (q_19))))))))))) else (if 0 ≤ wI ((600 * x1) + x3) ∧ wI ((600 * x1) + x3) < 2400 then (if 0 ≤ wI ((600 * x2) + x3) ∧ wI ((600 * x2) + x3) < 2400 then (if -128 ≤ (M (gR a0 1) (wI ((600 * x1) + x3)).toNat) ∧ (M (gR a0 1) (wI ((600 * x1) + x3)).toNat) ≤ 127 then ((some (mU M (gR a0 1) (wI ((600 * x2) + x3)).toNat (M (gR a0 1) (wI ((600 * x1) + x3)).toNat))).bind fun M_25 => ((some (x3 + 1)).bind fun v_26 => (sX12_copyAll_b2 a0 x1 x2 n v_26 M_25))) else none) else none) else none))
def sX12_copyAll_b0 (a0 : Nat) (x1 : Int) (x2 : Int)   (M : MM) : Option MM := (sX12_copyAll_b2 a0 x1 x2 FU 0 M)
def sX12_copyAll (a0 : Nat) (x1 : Int) (x2 : Int) (M : MM) : Option MM := sX12_copyAll_b0 a0 x1 x2 M
set_option maxHeartbeats 4000000 in
set_option maxRecDepth 100000 in
theorem bX12_copyAll_b2 {G : GG} (a0 : Nat) (x1 : Int) (x2 : Int) (oa0 : OB L0 a0 12) {res : MM} : ∀ (n : Nat) (x3 : Int) (M : MM)  (h : sX12_copyAll_b2 a0 x1 x2 n x3 M = some res), VV G xX12_copyAll (ZM G xX12_copyAll (none) L0 res) L0 M 0 0 2 [(0, .ref (gA G a0)), (1, .int (eI x1)), (2, .int (eI x2)), (3, .int (eI x3))] [] := by
  intro n
  induction n with
  | zero =>
    intro x3 M h
    rw [sX12_copyAll_b2] at h
    cases h
  | succ n ih =>
    intro x3 M h
    rw [sX12_copyAll_b2] at h
    refine r_iload_n (pc := 2) (i := 3) dX12_copyAll_2 rfl 3 rfl ?_
    refine r_sipush (pc := 3) (v := 600) dX12_copyAll_3 (by decide +kernel) ?_
    refine r_icmp_ge (pc := 6) (tgt := 39) dX12_copyAll_6 (by decide) rfl wl_600 (fun c_1 => ?_) (fun c_1 => ?_)
    · replace h := (if_pos c_1).symm.trans h
      refine r_aload_n (pc := 39) (i := 0) dX12_copyAll_39 rfl 0 rfl ?_
      have o_2 := (wt_12_2 oa0).2
      refine r_getR (pc := 40) fg_12_13 rfl oa0 (wt_12_2 oa0).1 dX12_copyAll_40 ?_
      refine r_iconst (pc := 43) (v := 1) dX12_copyAll_43 (by decide +kernel) ?_
      refine r_iload_n (pc := 44) (i := 1) dX12_copyAll_44 rfl 1 rfl ?_
      refine r_iload_n (pc := 45) (i := 2) dX12_copyAll_45 rfl 2 rfl ?_
      obtain ⟨q_3, hq_3, h⟩ := ob h
      refine r_cS (pc := 46) (Y := xX12_copyRow) (As := [.ref (gA G (gR a0 2)), .int (eI 1), .int (eI x1), .int (eI x2)]) (rest := []) (v := none) (st1 := []) ck_X12_copyAll_101 (kX12_copyRow (gR a0 2) 1 x1 x2 M (ar_ln o_2) hq_3) rfl rfl (Nat.le_of_ble_eq_true rfl) ⟨rfl, rfl⟩ rfl dX12_copyAll_46 ?_
      refine r_aload_n (pc := 49) (i := 0) dX12_copyAll_49 rfl 0 rfl ?_
      have o_4 := (wt_12_3 oa0).2
      refine r_getR (pc := 50) fg_12_17 rfl oa0 (wt_12_3 oa0).1 dX12_copyAll_50 ?_
      refine r_iconst (pc := 53) (v := 1) dX12_copyAll_53 (by decide +kernel) ?_
      refine r_iload_n (pc := 54) (i := 1) dX12_copyAll_54 rfl 1 rfl ?_
      refine r_iload_n (pc := 55) (i := 2) dX12_copyAll_55 rfl 2 rfl ?_
      obtain ⟨q_5, hq_5, h⟩ := ob h
      refine r_cS (pc := 56) (Y := xX12_copyRow) (As := [.ref (gA G (gR a0 3)), .int (eI 1), .int (eI x1), .int (eI x2)]) (rest := []) (v := none) (st1 := []) ck_X12_copyAll_101 (kX12_copyRow (gR a0 3) 1 x1 x2 q_3 (ar_ln o_4) hq_5) rfl rfl (Nat.le_of_ble_eq_true rfl) ⟨rfl, rfl⟩ rfl dX12_copyAll_56 ?_
      refine r_aload_n (pc := 59) (i := 0) dX12_copyAll_59 rfl 0 rfl ?_
      have o_6 := (wt_12_4 oa0).2
      refine r_getR (pc := 60) fg_12_20 rfl oa0 (wt_12_4 oa0).1 dX12_copyAll_60 ?_
      refine r_iconst (pc := 63) (v := 1) dX12_copyAll_63 (by decide +kernel) ?_
      refine r_iload_n (pc := 64) (i := 1) dX12_copyAll_64 rfl 1 rfl ?_
      refine r_iload_n (pc := 65) (i := 2) dX12_copyAll_65 rfl 2 rfl ?_
      obtain ⟨q_7, hq_7, h⟩ := ob h
      refine r_cS (pc := 66) (Y := xX12_copyRow) (As := [.ref (gA G (gR a0 4)), .int (eI 1), .int (eI x1), .int (eI x2)]) (rest := []) (v := none) (st1 := []) ck_X12_copyAll_101 (kX12_copyRow (gR a0 4) 1 x1 x2 q_5 (ar_ln o_6) hq_7) rfl rfl (Nat.le_of_ble_eq_true rfl) ⟨rfl, rfl⟩ rfl dX12_copyAll_66 ?_
      refine r_aload_n (pc := 69) (i := 0) dX12_copyAll_69 rfl 0 rfl ?_
      have o_8 := (wt_12_5 oa0).2
      refine r_getR (pc := 70) fg_12_23 rfl oa0 (wt_12_5 oa0).1 dX12_copyAll_70 ?_
      refine r_iconst (pc := 73) (v := 5) dX12_copyAll_73 (by decide +kernel) ?_
      refine r_iload_n (pc := 74) (i := 1) dX12_copyAll_74 rfl 1 rfl ?_
      refine r_iload_n (pc := 75) (i := 2) dX12_copyAll_75 rfl 2 rfl ?_
      obtain ⟨q_9, hq_9, h⟩ := ob h
      refine r_cS (pc := 76) (Y := xX12_copyRow) (As := [.ref (gA G (gR a0 5)), .int (eI 5), .int (eI x1), .int (eI x2)]) (rest := []) (v := none) (st1 := []) ck_X12_copyAll_101 (kX12_copyRow (gR a0 5) 5 x1 x2 q_7 (ar_ln o_8) hq_9) rfl rfl (Nat.le_of_ble_eq_true rfl) ⟨rfl, rfl⟩ rfl dX12_copyAll_76 ?_
      refine r_aload_n (pc := 79) (i := 0) dX12_copyAll_79 rfl 0 rfl ?_
      have o_10 := (wt_12_6 oa0).2
      refine r_getR (pc := 80) fg_12_26 rfl oa0 (wt_12_6 oa0).1 dX12_copyAll_80 ?_
      refine r_sipush (pc := 83) (v := 264) dX12_copyAll_83 (by decide +kernel) ?_
      refine r_iload_n (pc := 86) (i := 1) dX12_copyAll_86 rfl 1 rfl ?_
      refine r_iload_n (pc := 87) (i := 2) dX12_copyAll_87 rfl 2 rfl ?_
      obtain ⟨q_11, hq_11, h⟩ := ob h
      refine r_cS (pc := 88) (Y := xX12_copyRow) (As := [.ref (gA G (gR a0 6)), .int (eI 264), .int (eI x1), .int (eI x2)]) (rest := []) (v := none) (st1 := []) ck_X12_copyAll_101 (kX12_copyRow (gR a0 6) 264 x1 x2 q_9 (ar_ln o_10) hq_11) rfl rfl (Nat.le_of_ble_eq_true rfl) ⟨rfl, rfl⟩ rfl dX12_copyAll_88 ?_
      refine r_aload_n (pc := 91) (i := 0) dX12_copyAll_91 rfl 0 rfl ?_
      have o_12 := (wt_12_7 oa0).2
      refine r_getR (pc := 92) fg_12_29 rfl oa0 (wt_12_7 oa0).1 dX12_copyAll_92 ?_
      refine r_sipush (pc := 95) (v := 242) dX12_copyAll_95 (by decide +kernel) ?_
      refine r_iload_n (pc := 98) (i := 1) dX12_copyAll_98 rfl 1 rfl ?_
      refine r_iload_n (pc := 99) (i := 2) dX12_copyAll_99 rfl 2 rfl ?_
      obtain ⟨q_13, hq_13, h⟩ := ob h
      refine r_cS (pc := 100) (Y := xX12_copyRow) (As := [.ref (gA G (gR a0 7)), .int (eI 242), .int (eI x1), .int (eI x2)]) (rest := []) (v := none) (st1 := []) ck_X12_copyAll_101 (kX12_copyRow (gR a0 7) 242 x1 x2 q_11 (ar_ln o_12) hq_13) rfl rfl (Nat.le_of_ble_eq_true rfl) ⟨rfl, rfl⟩ rfl dX12_copyAll_100 ?_
      refine r_aload_n (pc := 103) (i := 0) dX12_copyAll_103 rfl 0 rfl ?_
      have o_14 := (wt_12_8 oa0).2
      refine r_getR (pc := 104) fg_12_32 rfl oa0 (wt_12_8 oa0).1 dX12_copyAll_104 ?_
      refine r_bipush (pc := 107) (v := 66) dX12_copyAll_107 (by decide +kernel) ?_
      refine r_iload_n (pc := 109) (i := 1) dX12_copyAll_109 rfl 1 rfl ?_
      refine r_iload_n (pc := 110) (i := 2) dX12_copyAll_110 rfl 2 rfl ?_
      obtain ⟨q_15, hq_15, h⟩ := ob h
      refine r_cS (pc := 111) (Y := xX12_copyRow) (As := [.ref (gA G (gR a0 8)), .int (eI 66), .int (eI x1), .int (eI x2)]) (rest := []) (v := none) (st1 := []) ck_X12_copyAll_101 (kX12_copyRow (gR a0 8) 66 x1 x2 q_13 (ar_ln o_14) hq_15) rfl rfl (Nat.le_of_ble_eq_true rfl) ⟨rfl, rfl⟩ rfl dX12_copyAll_111 ?_
      refine r_aload_n (pc := 114) (i := 0) dX12_copyAll_114 rfl 0 rfl ?_
      have o_16 := (wt_12_9 oa0).2
      refine r_getR (pc := 115) fg_12_35 rfl oa0 (wt_12_9 oa0).1 dX12_copyAll_115 ?_
      refine r_bipush (pc := 118) (v := 102) dX12_copyAll_118 (by decide +kernel) ?_
      refine r_iload_n (pc := 120) (i := 1) dX12_copyAll_120 rfl 1 rfl ?_
      refine r_iload_n (pc := 121) (i := 2) dX12_copyAll_121 rfl 2 rfl ?_
      obtain ⟨q_17, hq_17, h⟩ := ob h
      refine r_cS (pc := 122) (Y := xX12_copyRow) (As := [.ref (gA G (gR a0 9)), .int (eI 102), .int (eI x1), .int (eI x2)]) (rest := []) (v := none) (st1 := []) ck_X12_copyAll_101 (kX12_copyRow (gR a0 9) 102 x1 x2 q_15 (ar_ln o_16) hq_17) rfl rfl (Nat.le_of_ble_eq_true rfl) ⟨rfl, rfl⟩ rfl dX12_copyAll_122 ?_
      refine r_aload_n (pc := 125) (i := 0) dX12_copyAll_125 rfl 0 rfl ?_
      have o_18 := (wt_12_10 oa0).2
      refine r_getR (pc := 126) fg_12_38 rfl oa0 (wt_12_10 oa0).1 dX12_copyAll_126 ?_
      refine r_sipush (pc := 129) (v := 194) dX12_copyAll_129 (by decide +kernel) ?_
      refine r_iload_n (pc := 132) (i := 1) dX12_copyAll_132 rfl 1 rfl ?_
      refine r_iload_n (pc := 133) (i := 2) dX12_copyAll_133 rfl 2 rfl ?_
      obtain ⟨q_19, hq_19, h⟩ := ob h
      refine r_cS (pc := 134) (Y := xX12_copyRow) (As := [.ref (gA G (gR a0 10)), .int (eI 194), .int (eI x1), .int (eI x2)]) (rest := []) (v := none) (st1 := []) ck_X12_copyAll_101 (kX12_copyRow (gR a0 10) 194 x1 x2 q_17 (ar_ln o_18) hq_19) rfl rfl (Nat.le_of_ble_eq_true rfl) ⟨rfl, rfl⟩ rfl dX12_copyAll_134 ?_
      cases h
      exact r_vret (pc := 137) rfl (Nat.le_refl 0) (Nat.le_refl 0) dX12_copyAll_137
    · replace h := (if_neg c_1).symm.trans h
      refine r_aload_n (pc := 9) (i := 0) dX12_copyAll_9 rfl 0 rfl ?_
      have o_20 := (wt_12_1 oa0).2
      refine r_getR (pc := 10) fg_12_7 rfl oa0 (wt_12_1 oa0).1 dX12_copyAll_10 ?_
      refine r_sipush (pc := 13) (v := 600) dX12_copyAll_13 (by decide +kernel) ?_
      refine r_iload_n (pc := 16) (i := 2) dX12_copyAll_16 rfl 2 rfl ?_
      refine r_imul (pc := 17) dX12_copyAll_17 ?_
      refine r_iload_n (pc := 18) (i := 3) dX12_copyAll_18 rfl 3 rfl ?_
      refine r_iadd (pc := 19) dX12_copyAll_19 ?_
      refine r_aload_n (pc := 20) (i := 0) dX12_copyAll_20 rfl 0 rfl ?_
      have o_21 := (wt_12_1 oa0).2
      refine r_getR (pc := 21) fg_12_7 rfl oa0 (wt_12_1 oa0).1 dX12_copyAll_21 ?_
      refine r_sipush (pc := 24) (v := 600) dX12_copyAll_24 (by decide +kernel) ?_
      refine r_iload_n (pc := 27) (i := 1) dX12_copyAll_27 rfl 1 rfl ?_
      refine r_imul (pc := 28) dX12_copyAll_28 ?_
      refine r_iload_n (pc := 29) (i := 3) dX12_copyAll_29 rfl 3 rfl ?_
      refine r_iadd (pc := 30) dX12_copyAll_30 ?_
      obtain ⟨c_22, h⟩ := og h
      refine r_bald (pc := 31) o_21 rfl c_22 rfl dX12_copyAll_31 ?_
      obtain ⟨c_23, h⟩ := og h
      obtain ⟨c_24, h⟩ := og h
      obtain ⟨M_25, hM_25, h⟩ := ob h
      refine r_bast (pc := 32) o_20 rfl c_23 rfl hM_25 (nb_in c_24) dX12_copyAll_32 ?_
      obtain ⟨v_26, hv_26, h⟩ := ob h
      refine r_iinc (pc := 33) (y := v_26) (lv' := [(3, .int (eI v_26)), (0, .ref (gA G a0)), (1, .int (eI x1)), (2, .int (eI x2))]) dX12_copyAll_33 3 rfl (Option.some.inj hv_26) (Nat.le_of_ble_eq_true rfl) rfl ?_
      refine r_goto (pc := 36) (tgt := 2) dX12_copyAll_36 (by decide) ?_
      refine r_sub (lv' := [(0, .ref (gA G a0)), (1, .int (eI x1)), (2, .int (eI x2)), (3, .int (eI v_26))]) [1, 2, 3, 0] rfl ?_
      exact ih _ _ h
set_option maxHeartbeats 4000000 in
set_option maxRecDepth 100000 in
theorem bX12_copyAll_b0 {G : GG} (a0 : Nat) (x1 : Int) (x2 : Int) (oa0 : OB L0 a0 12)  (M : MM) {res : MM}  (h : sX12_copyAll_b0 a0 x1 x2 M = some res) : VV G xX12_copyAll (ZM G xX12_copyAll (none) L0 res) L0 M 0 0 0 [(0, .ref (gA G a0)), (1, .int (eI x1)), (2, .int (eI x2))] [] := by
  unfold sX12_copyAll_b0 at h
  refine r_iconst (pc := 0) (v := 0) dX12_copyAll_0 (by decide +kernel) ?_
  refine r_istore_n (pc := 1) (i := 3) (lv' := [(3, .int (eI 0)), (0, .ref (gA G a0)), (1, .int (eI x1)), (2, .int (eI x2))]) dX12_copyAll_1 rfl (Nat.le_of_ble_eq_true rfl) rfl ?_
  refine r_sub (lv' := [(0, .ref (gA G a0)), (1, .int (eI x1)), (2, .int (eI x2)), (3, .int (eI 0))]) [1, 2, 3, 0] rfl ?_
  exact bX12_copyAll_b2 a0 x1 x2 oa0 _ _ _ h
theorem kX12_copyAll {G : GG} (a0 : Nat) (x1 : Int) (x2 : Int) (M : MM) {res : MM} (oa0 : OB L0 a0 12) (h : sX12_copyAll a0 x1 x2 M = some res) : CO G xX12_copyAll [.ref (gA G a0), .int (eI x1), .int (eI x2)] L0 M (none) L0 res := CO_of (by decide +kernel) (Nat.le_of_ble_eq_true rfl) (bX12_copyAll_b0 a0 x1 x2 oa0 M h)
abbrev xX12_is : XX := (yX12_is, cX12_is, 3, (some .boolean), 1, 22, 0, 0)
theorem ck_X12_is_105 : CKS xX12_is 105 xX12_in 3 := ⟨⟨tb_i 1622 (by decide +kernel) (by decide +kernel), tb_i 152 (by decide +kernel) (by decide +kernel), tb_i 1624 (by decide +kernel) (by decide +kernel), ⟨by decide +kernel, by decide +kernel, by decide +kernel⟩, by decide, by decide⟩, tb_i 1623 (by decide +kernel) (by decide +kernel)⟩
def sX12_is_b0 (a0 : Nat) (x1 : Int) (x2 : Int) (M : MM)   : Option Int := (if 0 ≤ wI x1 ∧ wI x1 < 20 then (if (sX12_in x2 0 ((M (gR a0 5) (wI x1).toNat) - 1)) = 0 ∨ (sX12_in x2 0 ((M (gR a0 5) (wI x1).toNat) - 1)) = 1 then (some ((sX12_in x2 0 ((M (gR a0 5) (wI x1).toNat) - 1)))) else none) else none)
def sX12_is (a0 : Nat) (x1 : Int) (x2 : Int) (M : MM) : Option Int := sX12_is_b0 a0 x1 x2 M
set_option maxHeartbeats 4000000 in
set_option maxRecDepth 100000 in
theorem bX12_is_b0 {G : GG} (a0 : Nat) (x1 : Int) (x2 : Int) (M : MM) (oa0 : OB L0 a0 12)  {res : Int}  (h : sX12_is_b0 a0 x1 x2 M = some res) : VV G xX12_is (ZM G xX12_is (some (.int (eI res))) L0 M) L0 M 0 0 0 [(0, .ref (gA G a0)), (1, .int (eI x1)), (2, .int (eI x2))] [] := by
  unfold sX12_is_b0 at h
  refine r_iload_n (pc := 0) (i := 2) dX12_is_0 rfl 2 rfl ?_
  refine r_iconst (pc := 1) (v := 0) dX12_is_1 (by decide +kernel) ?_
  refine r_aload_n (pc := 2) (i := 0) dX12_is_2 rfl 0 rfl ?_
  have o_1 := (wt_12_5 oa0).2
  refine r_getR (pc := 3) fg_12_23 rfl oa0 (wt_12_5 oa0).1 dX12_is_3 ?_
  refine r_iload_n (pc := 6) (i := 1) dX12_is_6 rfl 1 rfl ?_
  obtain ⟨c_2, h⟩ := og h
  refine r_iald (pc := 7) o_1 rfl c_2 rfl dX12_is_7 ?_
  refine r_iconst (pc := 8) (v := 1) dX12_is_8 (by decide +kernel) ?_
  refine r_isub (pc := 9) dX12_is_9 ?_
  refine r_cS (pc := 10) (Y := xX12_in) (As := [.int (eI x2), .int (eI 0), .int (eI ((M (gR a0 5) (wI x1).toNat) - 1))]) (rest := []) (v := (some (.int (eI (sX12_in x2 0 ((M (gR a0 5) (wI x1).toNat) - 1)))))) (st1 := [.int (eI (sX12_in x2 0 ((M (gR a0 5) (wI x1).toNat) - 1)))]) ck_X12_is_105 (kX12_in x2 0 ((M (gR a0 5) (wI x1).toNat) - 1) M ) rfl rfl (Nat.le_of_ble_eq_true rfl) ⟨rfl, rfl⟩ rfl dX12_is_10 ?_
  obtain ⟨c_3, h⟩ := og h
  cases h
  exact r_iret (pc := 13) rfl (zn_ok c_3).1 (Nat.le_refl 0) (Nat.le_refl 0) dX12_is_13
theorem kX12_is {G : GG} (a0 : Nat) (x1 : Int) (x2 : Int) (M : MM) {res : Int} (oa0 : OB L0 a0 12) (h : sX12_is a0 x1 x2 M = some res) : CO G xX12_is [.ref (gA G a0), .int (eI x1), .int (eI x2)] L0 M (some (.int (eI res))) L0 M := CO_of (by decide +kernel) (Nat.le_of_ble_eq_true rfl) (bX12_is_b0 a0 x1 x2 M oa0 h)
abbrev xX12_four : XX := (yX12_four, cX12_four, 3, none, 0, 0, 0, 0)
def sX12_four_b3 (a0 : Nat) (x1 : Int)  : Nat → Int → MM → Option MM
  | 0, _, _ => none
  | n + 1, x2, M => (if wI x2 < 0 then (some (M)) else (if 0 ≤ wI x2 ∧ wI x2 < 32 then (if 0 ≤ wI (M (gR a0 2) 0) ∧ wI (M (gR a0 2) 0) < 2400 then ((some (mU M (gR a0 1) (wI (M (gR a0 2) 0)).toNat (((wI x1) / 2 ^ (wI x2).toNat).bmod 256))).bind fun M_6 => ((some (mU M_6 (gR a0 2) 0 ((M_6 (gR a0 2) 0) + 1))).bind fun M_8 => ((some (x2 + (-8))).bind fun v_9 => (sX12_four_b3 a0 x1 n v_9 M_8)))) else none) else none))
def sX12_four_b0 (a0 : Nat) (x1 : Int)   (M : MM) : Option MM := (sX12_four_b3 a0 x1 FU 24 M)
def sX12_four (a0 : Nat) (x1 : Int) (M : MM) : Option MM := sX12_four_b0 a0 x1 M
set_option maxHeartbeats 4000000 in
set_option maxRecDepth 100000 in
theorem bX12_four_b3 {G : GG} (a0 : Nat) (x1 : Int) (oa0 : OB L0 a0 12) {res : MM} : ∀ (n : Nat) (x2 : Int) (M : MM)  (h : sX12_four_b3 a0 x1 n x2 M = some res), VV G xX12_four (ZM G xX12_four (none) L0 res) L0 M 0 0 3 [(0, .ref (gA G a0)), (1, .int (eI x1)), (2, .int (eI x2))] [] := by
  intro n
  induction n with
  | zero =>
    intro x2 M h
    rw [sX12_four_b3] at h
    cases h
  | succ n ih =>
    intro x2 M h
    rw [sX12_four_b3] at h
    refine r_iload_n (pc := 3) (i := 2) dX12_four_3 rfl 2 rfl ?_
    refine r_if_lt (pc := 4) (tgt := 38) dX12_four_4 (by decide) rfl (fun c_1 => ?_) (fun c_1 => ?_)
    · replace h := (if_pos c_1).symm.trans h
      cases h
      exact r_vret (pc := 38) rfl (Nat.le_refl 0) (Nat.le_refl 0) dX12_four_38
    · replace h := (if_neg c_1).symm.trans h
      refine r_aload_n (pc := 7) (i := 0) dX12_four_7 rfl 0 rfl ?_
      have o_2 := (wt_12_1 oa0).2
      refine r_getR (pc := 8) fg_12_7 rfl oa0 (wt_12_1 oa0).1 dX12_four_8 ?_
      refine r_aload_n (pc := 11) (i := 0) dX12_four_11 rfl 0 rfl ?_
      have o_3 := (wt_12_2 oa0).2
      refine r_getR (pc := 12) fg_12_13 rfl oa0 (wt_12_2 oa0).1 dX12_four_12 ?_
      refine r_iconst (pc := 15) (v := 0) dX12_four_15 (by decide +kernel) ?_
      refine r_iald (pc := 16) o_3 wl_0 ⟨by decide, by decide⟩ rfl dX12_four_16 ?_
      refine r_iload_n (pc := 17) (i := 1) dX12_four_17 rfl 1 rfl ?_
      refine r_iload_n (pc := 18) (i := 2) dX12_four_18 rfl 2 rfl ?_
      obtain ⟨c_4, h⟩ := og h
      refine r_ishr (pc := 19) rfl rfl c_4 dX12_four_19 ?_
      refine r_i2b (pc := 20) dX12_four_20 ?_
      obtain ⟨c_5, h⟩ := og h
      obtain ⟨M_6, hM_6, h⟩ := ob h
      refine r_bast (pc := 21) o_2 rfl c_5 rfl hM_6 (nb_ok _) dX12_four_21 ?_
      refine r_aload_n (pc := 22) (i := 0) dX12_four_22 rfl 0 rfl ?_
      have o_7 := (wt_12_2 oa0).2
      refine r_getR (pc := 23) fg_12_13 rfl oa0 (wt_12_2 oa0).1 dX12_four_23 ?_
      refine r_iconst (pc := 26) (v := 0) dX12_four_26 (by decide +kernel) ?_
      refine r_dup2 (pc := 27) dX12_four_27 rfl rfl ?_
      refine r_iald (pc := 28) o_7 wl_0 ⟨by decide, by decide⟩ rfl dX12_four_28 ?_
      refine r_iconst (pc := 29) (v := 1) dX12_four_29 (by decide +kernel) ?_
      refine r_iadd (pc := 30) dX12_four_30 ?_
      obtain ⟨M_8, hM_8, h⟩ := ob h
      refine r_iast (pc := 31) o_7 wl_0 ⟨by decide, by decide⟩ rfl hM_8 dX12_four_31 ?_
      obtain ⟨v_9, hv_9, h⟩ := ob h
      refine r_iinc (pc := 32) (y := v_9) (lv' := [(2, .int (eI v_9)), (0, .ref (gA G a0)), (1, .int (eI x1))]) dX12_four_32 2 rfl (Option.some.inj hv_9) (Nat.le_of_ble_eq_true rfl) rfl ?_
      refine r_goto (pc := 35) (tgt := 3) dX12_four_35 (by decide) ?_
      refine r_sub (lv' := [(0, .ref (gA G a0)), (1, .int (eI x1)), (2, .int (eI v_9))]) [1, 2, 0] rfl ?_
      exact ih _ _ h
set_option maxHeartbeats 4000000 in
set_option maxRecDepth 100000 in
theorem bX12_four_b0 {G : GG} (a0 : Nat) (x1 : Int) (oa0 : OB L0 a0 12)  (M : MM) {res : MM}  (h : sX12_four_b0 a0 x1 M = some res) : VV G xX12_four (ZM G xX12_four (none) L0 res) L0 M 0 0 0 [(0, .ref (gA G a0)), (1, .int (eI x1))] [] := by
  unfold sX12_four_b0 at h
  refine r_bipush (pc := 0) (v := 24) dX12_four_0 (by decide +kernel) ?_
  refine r_istore_n (pc := 2) (i := 2) (lv' := [(2, .int (eI 24)), (0, .ref (gA G a0)), (1, .int (eI x1))]) dX12_four_2 rfl (Nat.le_of_ble_eq_true rfl) rfl ?_
  refine r_sub (lv' := [(0, .ref (gA G a0)), (1, .int (eI x1)), (2, .int (eI 24))]) [1, 2, 0] rfl ?_
  exact bX12_four_b3 a0 x1 oa0 _ _ _ h
theorem kX12_four {G : GG} (a0 : Nat) (x1 : Int) (M : MM) {res : MM} (oa0 : OB L0 a0 12) (h : sX12_four a0 x1 M = some res) : CO G xX12_four [.ref (gA G a0), .int (eI x1)] L0 M (none) L0 res := CO_of (by decide +kernel) (Nat.le_of_ble_eq_true rfl) (bX12_four_b0 a0 x1 oa0 M h)
abbrev xX12_feed : XX := (yX12_feed, cX12_feed, 6, (some .int), 1, 22, 0, 0)
theorem ck_X12_feed_109 : CKV xX12_feed 109 xX12_four 1 := ⟨⟨tb_i 1614 (by decide +kernel) (by decide +kernel), tb_i 152 (by decide +kernel) (by decide +kernel), tb_i 1617 (by decide +kernel) (by decide +kernel), ⟨by decide +kernel, by decide +kernel, by decide +kernel⟩, by decide, by decide⟩, tb_i 1616 (by decide +kernel) (by decide +kernel), tb_i 46 (by decide +kernel) (by decide +kernel)⟩
def sX12_feed_b0 (a0 : Nat) (x1 : Int) (x2 : Int) (x3 : Int) (x4 : Int) (x5 : Int)   (M : MM) : Option (Int × MM) := ((some (mU M a0 0 0)).bind fun M_1 => (if wI ((M_1 (gR a0 2) 0) + 20) ≤ 600 then ((sX12_four a0 x1 M_1).bind fun q_4 => ((sX12_four a0 x2 q_4).bind fun q_5 => ((sX12_four a0 x3 q_5).bind fun q_6 => ((sX12_four a0 x4 q_6).bind fun q_7 => ((sX12_four a0 x5 q_7).bind fun q_8 => (some (((q_8 (gR a0 2) 0), q_8)))))))) else (some (((-1), M_1)))))
def sX12_feed (a0 : Nat) (x1 : Int) (x2 : Int) (x3 : Int) (x4 : Int) (x5 : Int) (M : MM) : Option (Int × MM) := sX12_feed_b0 a0 x1 x2 x3 x4 x5 M
set_option maxHeartbeats 4000000 in
set_option maxRecDepth 100000 in
theorem bX12_feed_b0 {G : GG} (a0 : Nat) (x1 : Int) (x2 : Int) (x3 : Int) (x4 : Int) (x5 : Int) (oa0 : OB L0 a0 12)  (M : MM) {res : (Int × MM)}  (h : sX12_feed_b0 a0 x1 x2 x3 x4 x5 M = some res) : VV G xX12_feed (ZM G xX12_feed (some (.int (eI res.1))) L0 res.2) L0 M 0 0 0 [(0, .ref (gA G a0)), (1, .int (eI x1)), (2, .int (eI x2)), (3, .int (eI x3)), (4, .int (eI x4)), (5, .int (eI x5))] [] := by
  unfold sX12_feed_b0 at h
  refine r_aload_n (pc := 0) (i := 0) dX12_feed_0 rfl 0 rfl ?_
  refine r_iconst (pc := 1) (v := 0) dX12_feed_1 (by decide +kernel) ?_
  obtain ⟨M_1, hM_1, h⟩ := ob h
  refine r_putI (pc := 2) fg_12_97 rfl oa0 hM_1 rfl rfl dX12_feed_2 ?_
  refine r_aload_n (pc := 5) (i := 0) dX12_feed_5 rfl 0 rfl ?_
  have o_2 := (wt_12_2 oa0).2
  refine r_getR (pc := 6) fg_12_13 rfl oa0 (wt_12_2 oa0).1 dX12_feed_6 ?_
  refine r_iconst (pc := 9) (v := 0) dX12_feed_9 (by decide +kernel) ?_
  refine r_iald (pc := 10) o_2 wl_0 ⟨by decide, by decide⟩ rfl dX12_feed_10 ?_
  refine r_bipush (pc := 11) (v := 20) dX12_feed_11 (by decide +kernel) ?_
  refine r_iadd (pc := 13) dX12_feed_13 ?_
  refine r_sipush (pc := 14) (v := 600) dX12_feed_14 (by decide +kernel) ?_
  refine r_icmp_le (pc := 17) (tgt := 22) dX12_feed_17 (by decide) rfl wl_600 (fun c_3 => ?_) (fun c_3 => ?_)
  · replace h := (if_pos c_3).symm.trans h
    refine r_aload_n (pc := 22) (i := 0) dX12_feed_22 rfl 0 rfl ?_
    refine r_iload_n (pc := 23) (i := 1) dX12_feed_23 rfl 1 rfl ?_
    obtain ⟨q_4, hq_4, h⟩ := ob h
    refine r_cV (pc := 24) (Y := xX12_four) (As := [.int (eI x1)]) (rest := []) (v := none) (st1 := []) ck_X12_feed_109 (kX12_four a0 x1 M_1 oa0 hq_4) oa0 rfl rfl rfl rfl (Nat.le_of_ble_eq_true rfl) ⟨rfl, rfl⟩ rfl dX12_feed_24 ?_
    refine r_aload_n (pc := 27) (i := 0) dX12_feed_27 rfl 0 rfl ?_
    refine r_iload_n (pc := 28) (i := 2) dX12_feed_28 rfl 2 rfl ?_
    obtain ⟨q_5, hq_5, h⟩ := ob h
    refine r_cV (pc := 29) (Y := xX12_four) (As := [.int (eI x2)]) (rest := []) (v := none) (st1 := []) ck_X12_feed_109 (kX12_four a0 x2 q_4 oa0 hq_5) oa0 rfl rfl rfl rfl (Nat.le_of_ble_eq_true rfl) ⟨rfl, rfl⟩ rfl dX12_feed_29 ?_
    refine r_aload_n (pc := 32) (i := 0) dX12_feed_32 rfl 0 rfl ?_
    refine r_iload_n (pc := 33) (i := 3) dX12_feed_33 rfl 3 rfl ?_
    obtain ⟨q_6, hq_6, h⟩ := ob h
    refine r_cV (pc := 34) (Y := xX12_four) (As := [.int (eI x3)]) (rest := []) (v := none) (st1 := []) ck_X12_feed_109 (kX12_four a0 x3 q_5 oa0 hq_6) oa0 rfl rfl rfl rfl (Nat.le_of_ble_eq_true rfl) ⟨rfl, rfl⟩ rfl dX12_feed_34 ?_
    refine r_aload_n (pc := 37) (i := 0) dX12_feed_37 rfl 0 rfl ?_
    refine r_iload (pc := 38) dX12_feed_38 4 rfl ?_
    obtain ⟨q_7, hq_7, h⟩ := ob h
    refine r_cV (pc := 40) (Y := xX12_four) (As := [.int (eI x4)]) (rest := []) (v := none) (st1 := []) ck_X12_feed_109 (kX12_four a0 x4 q_6 oa0 hq_7) oa0 rfl rfl rfl rfl (Nat.le_of_ble_eq_true rfl) ⟨rfl, rfl⟩ rfl dX12_feed_40 ?_
    refine r_aload_n (pc := 43) (i := 0) dX12_feed_43 rfl 0 rfl ?_
    refine r_iload (pc := 44) dX12_feed_44 5 rfl ?_
    obtain ⟨q_8, hq_8, h⟩ := ob h
    refine r_cV (pc := 46) (Y := xX12_four) (As := [.int (eI x5)]) (rest := []) (v := none) (st1 := []) ck_X12_feed_109 (kX12_four a0 x5 q_7 oa0 hq_8) oa0 rfl rfl rfl rfl (Nat.le_of_ble_eq_true rfl) ⟨rfl, rfl⟩ rfl dX12_feed_46 ?_
    refine r_aload_n (pc := 49) (i := 0) dX12_feed_49 rfl 0 rfl ?_
    have o_9 := (wt_12_2 oa0).2
    refine r_getR (pc := 50) fg_12_13 rfl oa0 (wt_12_2 oa0).1 dX12_feed_50 ?_
    refine r_iconst (pc := 53) (v := 0) dX12_feed_53 (by decide +kernel) ?_
    refine r_iald (pc := 54) o_9 wl_0 ⟨by decide, by decide⟩ rfl dX12_feed_54 ?_
    cases h
    exact r_iret (pc := 55) rfl rfl (Nat.le_refl 0) (Nat.le_refl 0) dX12_feed_55
  · replace h := (if_neg c_3).symm.trans h
    refine r_iconst (pc := 20) (v := (-1)) dX12_feed_20 (by decide +kernel) ?_
    cases h
    exact r_iret (pc := 21) rfl rfl (Nat.le_refl 0) (Nat.le_refl 0) dX12_feed_21
theorem kX12_feed {G : GG} (a0 : Nat) (x1 : Int) (x2 : Int) (x3 : Int) (x4 : Int) (x5 : Int) (M : MM) {res : (Int × MM)} (oa0 : OB L0 a0 12) (h : sX12_feed a0 x1 x2 x3 x4 x5 M = some res) : CO G xX12_feed [.ref (gA G a0), .int (eI x1), .int (eI x2), .int (eI x3), .int (eI x4), .int (eI x5)] L0 M (some (.int (eI res.1))) L0 res.2 := CO_of (by decide +kernel) (Nat.le_of_ble_eq_true rfl) (bX12_feed_b0 a0 x1 x2 x3 x4 x5 oa0 M h)
abbrev xX12_end : XX := (yX12_end, cX12_end, 2, (some .int), 1, 22, 0, 0)
theorem ck_X12_end_105 : CKS xX12_end 105 xX12_in 3 := ⟨⟨tb_i 1622 (by decide +kernel) (by decide +kernel), tb_i 152 (by decide +kernel) (by decide +kernel), tb_i 1624 (by decide +kernel) (by decide +kernel), ⟨by decide +kernel, by decide +kernel, by decide +kernel⟩, by decide, by decide⟩, tb_i 1623 (by decide +kernel) (by decide +kernel)⟩
def sX12_end_b0 (a0 : Nat) (x1 : Int)   (M : MM) : Option (Int × MM) := ((some (mU M a0 0 0)).bind fun M_1 => (if wI (sX12_in x1 0 (M_1 (gR a0 2) 0)) = 0 then (some (((-1), M_1))) else ((some (mU M_1 (gR a0 2) 0 x1)).bind fun M_5 => (some ((x1, M_5))))))
def sX12_end (a0 : Nat) (x1 : Int) (M : MM) : Option (Int × MM) := sX12_end_b0 a0 x1 M
set_option maxHeartbeats 4000000 in
set_option maxRecDepth 100000 in
theorem bX12_end_b0 {G : GG} (a0 : Nat) (x1 : Int) (oa0 : OB L0 a0 12)  (M : MM) {res : (Int × MM)}  (h : sX12_end_b0 a0 x1 M = some res) : VV G xX12_end (ZM G xX12_end (some (.int (eI res.1))) L0 res.2) L0 M 0 0 0 [(0, .ref (gA G a0)), (1, .int (eI x1))] [] := by
  unfold sX12_end_b0 at h
  refine r_aload_n (pc := 0) (i := 0) dX12_end_0 rfl 0 rfl ?_
  refine r_iconst (pc := 1) (v := 0) dX12_end_1 (by decide +kernel) ?_
  obtain ⟨M_1, hM_1, h⟩ := ob h
  refine r_putI (pc := 2) fg_12_97 rfl oa0 hM_1 rfl rfl dX12_end_2 ?_
  refine r_iload_n (pc := 5) (i := 1) dX12_end_5 rfl 1 rfl ?_
  refine r_iconst (pc := 6) (v := 0) dX12_end_6 (by decide +kernel) ?_
  refine r_aload_n (pc := 7) (i := 0) dX12_end_7 rfl 0 rfl ?_
  have o_2 := (wt_12_2 oa0).2
  refine r_getR (pc := 8) fg_12_13 rfl oa0 (wt_12_2 oa0).1 dX12_end_8 ?_
  refine r_iconst (pc := 11) (v := 0) dX12_end_11 (by decide +kernel) ?_
  refine r_iald (pc := 12) o_2 wl_0 ⟨by decide, by decide⟩ rfl dX12_end_12 ?_
  refine r_cS (pc := 13) (Y := xX12_in) (As := [.int (eI x1), .int (eI 0), .int (eI (M_1 (gR a0 2) 0))]) (rest := []) (v := (some (.int (eI (sX12_in x1 0 (M_1 (gR a0 2) 0)))))) (st1 := [.int (eI (sX12_in x1 0 (M_1 (gR a0 2) 0)))]) ck_X12_end_105 (kX12_in x1 0 (M_1 (gR a0 2) 0) M_1 ) rfl rfl (Nat.le_of_ble_eq_true rfl) ⟨rfl, rfl⟩ rfl dX12_end_13 ?_
  refine r_if_ne (pc := 16) (tgt := 21) dX12_end_16 (by decide) rfl (fun c_3 => ?_) (fun c_3 => ?_)
  · replace h := (if_neg c_3).symm.trans h
    refine r_aload_n (pc := 21) (i := 0) dX12_end_21 rfl 0 rfl ?_
    have o_4 := (wt_12_2 oa0).2
    refine r_getR (pc := 22) fg_12_13 rfl oa0 (wt_12_2 oa0).1 dX12_end_22 ?_
    refine r_iconst (pc := 25) (v := 0) dX12_end_25 (by decide +kernel) ?_
    refine r_iload_n (pc := 26) (i := 1) dX12_end_26 rfl 1 rfl ?_
    obtain ⟨M_5, hM_5, h⟩ := ob h
    refine r_iast (pc := 27) o_4 wl_0 ⟨by decide, by decide⟩ rfl hM_5 dX12_end_27 ?_
    refine r_iload_n (pc := 28) (i := 1) dX12_end_28 rfl 1 rfl ?_
    cases h
    exact r_iret (pc := 29) rfl rfl (Nat.le_refl 0) (Nat.le_refl 0) dX12_end_29
  · replace h := (if_pos c_3).symm.trans h
    refine r_iconst (pc := 19) (v := (-1)) dX12_end_19 (by decide +kernel) ?_
    cases h
    exact r_iret (pc := 20) rfl rfl (Nat.le_refl 0) (Nat.le_refl 0) dX12_end_20
theorem kX12_end {G : GG} (a0 : Nat) (x1 : Int) (M : MM) {res : (Int × MM)} (oa0 : OB L0 a0 12) (h : sX12_end a0 x1 M = some res) : CO G xX12_end [.ref (gA G a0), .int (eI x1)] L0 M (some (.int (eI res.1))) L0 res.2 := CO_of (by decide +kernel) (Nat.le_of_ble_eq_true rfl) (bX12_end_b0 a0 x1 oa0 M h)
abbrev xX12_see : XX := (yX12_see, cX12_see, 1, (some .int), 0, 0, 0, 0)
def sX12_see_b0 (a0 : Nat) (M : MM)   : Option Int := (if wI (M a0 12) ≤ wI (M a0 11) then (some ((-1))) else (if 0 ≤ wI (M a0 11) ∧ wI (M a0 11) < 2400 then (some (((M (gR a0 1) (wI (M a0 11)).toNat) % 256))) else none))
def sX12_see (a0 : Nat) (M : MM) : Option Int := sX12_see_b0 a0 M
set_option maxHeartbeats 4000000 in
set_option maxRecDepth 100000 in
theorem bX12_see_b0 {G : GG} (a0 : Nat) (M : MM) (oa0 : OB L0 a0 12)  {res : Int}  (h : sX12_see_b0 a0 M = some res) : VV G xX12_see (ZM G xX12_see (some (.int (eI res))) L0 M) L0 M 0 0 0 [(0, .ref (gA G a0))] [] := by
  unfold sX12_see_b0 at h
  refine r_aload_n (pc := 0) (i := 0) dX12_see_0 rfl 0 rfl ?_
  refine r_getI (pc := 1) fg_12_113 rfl oa0 dX12_see_1 ?_
  refine r_aload_n (pc := 4) (i := 0) dX12_see_4 rfl 0 rfl ?_
  refine r_getI (pc := 5) fg_12_116 rfl oa0 dX12_see_5 ?_
  refine r_icmp_ge (pc := 8) (tgt := 27) dX12_see_8 (by decide) rfl rfl (fun c_1 => ?_) (fun c_1 => ?_)
  · replace h := (if_pos c_1).symm.trans h
    refine r_iconst (pc := 27) (v := (-1)) dX12_see_27 (by decide +kernel) ?_
    cases h
    exact r_iret (pc := 28) rfl rfl (Nat.le_refl 0) (Nat.le_refl 0) dX12_see_28
  · replace h := (if_neg c_1).symm.trans h
    refine r_aload_n (pc := 11) (i := 0) dX12_see_11 rfl 0 rfl ?_
    have o_2 := (wt_12_1 oa0).2
    refine r_getR (pc := 12) fg_12_7 rfl oa0 (wt_12_1 oa0).1 dX12_see_12 ?_
    refine r_aload_n (pc := 15) (i := 0) dX12_see_15 rfl 0 rfl ?_
    refine r_getI (pc := 16) fg_12_113 rfl oa0 dX12_see_16 ?_
    obtain ⟨c_3, h⟩ := og h
    refine r_bald (pc := 19) o_2 rfl c_3 rfl dX12_see_19 ?_
    refine r_sipush (pc := 20) (v := 255) dX12_see_20 (by decide +kernel) ?_
    refine r_iand (pc := 23) 8 (by decide) wl_255 rfl dX12_see_23 ?_
    refine r_goto (pc := 24) (tgt := 28) dX12_see_24 (by decide) ?_
    cases h
    exact r_iret (pc := 28) rfl rfl (Nat.le_refl 0) (Nat.le_refl 0) dX12_see_28
theorem kX12_see {G : GG} (a0 : Nat) (M : MM) {res : Int} (oa0 : OB L0 a0 12) (h : sX12_see a0 M = some res) : CO G xX12_see [.ref (gA G a0)] L0 M (some (.int (eI res))) L0 M := CO_of (by decide +kernel) (Nat.le_of_ble_eq_true rfl) (bX12_see_b0 a0 M oa0 h)
abbrev xX12_token : XX := (yX12_token, cX12_token, 3, none, 1, 22, 0, 0)
theorem ck_X12_token_105 : CKS xX12_token 105 xX12_in 3 := ⟨⟨tb_i 1622 (by decide +kernel) (by decide +kernel), tb_i 152 (by decide +kernel) (by decide +kernel), tb_i 1624 (by decide +kernel) (by decide +kernel), ⟨by decide +kernel, by decide +kernel, by decide +kernel⟩, by decide, by decide⟩, tb_i 1623 (by decide +kernel) (by decide +kernel)⟩
theorem ck_X12_token_119 : CKV xX12_token 119 xX12_see 0 := ⟨⟨tb_i 1645 (by decide +kernel) (by decide +kernel), tb_i 152 (by decide +kernel) (by decide +kernel), tb_i 1648 (by decide +kernel) (by decide +kernel), ⟨by decide +kernel, by decide +kernel, by decide +kernel⟩, by decide, by decide⟩, tb_i 1647 (by decide +kernel) (by decide +kernel), tb_i 51 (by decide +kernel) (by decide +kernel)⟩
def sX12_token_b263 (a0 : Nat)  (a90 : Nat) (x91 : Int) (M : MM) : Option MM := ((some (mU M a90 14 x91)).bind fun M_1 => (some (M_1)))
def sX12_token_b235 (a0 : Nat)  (a90 : Nat) (x91 : Int) (M : MM) : Option MM := ((some (mU M a90 14 x91)).bind fun M_1 => (some (M_1)))
def sX12_token_b205 (a0 : Nat) (K163 : Int → MM → Option MM) (x2 : Int) (a90 : Nat) (x91 : Int) (M : MM) : Option MM := ((some (mU M a90 15 x91)).bind fun M_1 => ((some (mU M_1 a0 11 ((M_1 a0 11) + 1))).bind fun M_2 => ((some (x2 + 1)).bind fun v_3 => (K163 v_3 M_2))))
def sX12_token_b163 (a0 : Nat)  : Nat → Int → MM → Option MM
  | 0, _, _ => none
  | n + 1, x2, M => ((sX12_see a0 M).bind fun q_1 => (if wI (sX12_in q_1 48 57) = 0 then (if wI x2 ≤ 2 then (sX12_token_b235 a0 a0 3 M) else (sX12_token_b235 a0 a0 1 M)) else (if 2 ≤ wI x2 then (sX12_token_b205 a0 (fun x2 M => sX12_token_b163 a0 n x2 M) x2 a0 (M a0 15) M) else ((sX12_see a0 M).bind fun q_5 => (sX12_token_b205 a0 (fun x2 M => sX12_token_b163 a0 n x2 M) x2 a0 (((10 * (M a0 15)) + q_5) - 48) M)))))
def sX12_token_b136 (a0 : Nat)  (a90 : Nat) (y91 : Int) (M : MM) : Option MM := ((some (mU M a90 16 y91)).bind fun M_1 => ((some (mU M_1 a0 14 2)).bind fun M_2 => (some (M_2))))
def sX12_token_b74 (a0 : Nat)  : Nat → Int → MM → Option MM
  | 0, _, _ => none
  | n + 1, x2, M => ((sX12_see a0 M).bind fun q_1 => (if wI (sX12_in q_1 97 122) = 0 then (if wI x2 ≤ 8 then (sX12_token_b136 a0 a0 (M a0 16) M) else (sX12_token_b136 a0 a0 0 M)) else ((sX12_see a0 M).bind fun q_4 => ((some (mU M a0 16 (oJ ((M a0 16) * 256) (wI q_4)))).bind fun M_5 => ((some (mU M_5 a0 11 ((M_5 a0 11) + 1))).bind fun M_6 => ((some (x2 + 1)).bind fun v_7 => (sX12_token_b74 a0 n v_7 M_6)))))))
def sX12_token_b18 (a0 : Nat) (K0 : MM → Option MM)  (M : MM) : Option MM := ((some (mU M a0 11 ((M a0 11) + 1))).bind fun M_1 => (K0 M_1))
def sX12_token_b0 (a0 : Nat)  : Nat → MM → Option MM
  | 0, _ => none
  | n + 1, M => ((sX12_see a0 M).bind fun q_1 => (if wI q_1 = 10 then (sX12_token_b18 a0 (fun M => sX12_token_b0 a0 n M) M) else ((sX12_see a0 M).bind fun q_3 => (if wI q_3 = 32 then (sX12_token_b18 a0 (fun M => sX12_token_b0 a0 n M) M) else ((some (mU M a0 13 (M a0 11))).bind fun M_5 => ((sX12_see a0 M_5).bind fun q_6 => ((some (mU M_5 a0 16 0)).bind fun M_7 => (if 0 ≤ wI q_6 then (if wI (sX12_in q_6 97 122) = 0 then (if wI (sX12_in q_6 48 57) = 0 then ((some (mU M_7 a0 11 ((M_7 a0 11) + 1))).bind fun M_11 => (if wI q_6 = 59 then (sX12_token_b263 a0 a0 4 M_11) else (sX12_token_b263 a0 a0 1 M_11))) else ((some (mU M_7 a0 15 0)).bind fun M_13 => (sX12_token_b163 a0 FU 0 M_13))) else (sX12_token_b74 a0 FU 0 M_7)) else ((some (mU M_7 a0 14 0)).bind fun M_14 => (some (M_14)))))))))))
def sX12_token (a0 : Nat) (M : MM) : Option MM := sX12_token_b0 a0 FU M
set_option maxHeartbeats 4000000 in
set_option maxRecDepth 100000 in
theorem bX12_token_b263 {G : GG} (a0 : Nat) (oa0 : OB L0 a0 12) (a90 : Nat) (x91 : Int) (M : MM) {res : MM} (oa90 : OB L0 a90 12) (h : sX12_token_b263 a0 a90 x91 M = some res) : VV G xX12_token (ZM G xX12_token (none) L0 res) L0 M 0 0 263 [] [.int (eI x91), .ref (gA G a90)] := by
  unfold sX12_token_b263 at h
  obtain ⟨M_1, hM_1, h⟩ := ob h
  refine r_putI (pc := 263) fg_12_130 rfl oa90 hM_1 rfl rfl dX12_token_263 ?_
  cases h
  exact r_vret (pc := 266) rfl (Nat.le_refl 0) (Nat.le_refl 0) dX12_token_266
set_option maxHeartbeats 4000000 in
set_option maxRecDepth 100000 in
theorem bX12_token_b235 {G : GG} (a0 : Nat) (oa0 : OB L0 a0 12) (a90 : Nat) (x91 : Int) (M : MM) {res : MM} (oa90 : OB L0 a90 12) (h : sX12_token_b235 a0 a90 x91 M = some res) : VV G xX12_token (ZM G xX12_token (none) L0 res) L0 M 0 0 235 [] [.int (eI x91), .ref (gA G a90)] := by
  unfold sX12_token_b235 at h
  obtain ⟨M_1, hM_1, h⟩ := ob h
  refine r_putI (pc := 235) fg_12_130 rfl oa90 hM_1 rfl rfl dX12_token_235 ?_
  refine r_goto (pc := 238) (tgt := 266) dX12_token_238 (by decide) ?_
  cases h
  exact r_vret (pc := 266) rfl (Nat.le_refl 0) (Nat.le_refl 0) dX12_token_266
set_option maxHeartbeats 4000000 in
set_option maxRecDepth 100000 in
theorem bX12_token_b205 {G : GG} (a0 : Nat) (oa0 : OB L0 a0 12) {K163 : Int → MM → Option MM} (x2 : Int) (a90 : Nat) (x91 : Int) (M : MM) {res : MM} (hK163 : ∀ (x2 : Int) (M : MM), K163 x2 M = some res → VV G xX12_token (ZM G xX12_token (none) L0 res) L0 M 0 0 163 [(0, .ref (gA G a0)), (2, .int (eI x2))] []) (oa90 : OB L0 a90 12) (h : sX12_token_b205 a0 K163 x2 a90 x91 M = some res) : VV G xX12_token (ZM G xX12_token (none) L0 res) L0 M 0 0 205 [(0, .ref (gA G a0)), (2, .int (eI x2))] [.int (eI x91), .ref (gA G a90)] := by
  unfold sX12_token_b205 at h
  obtain ⟨M_1, hM_1, h⟩ := ob h
  refine r_putI (pc := 205) fg_12_133 rfl oa90 hM_1 rfl rfl dX12_token_205 ?_
  refine r_aload_n (pc := 208) (i := 0) dX12_token_208 rfl 0 rfl ?_
  refine r_dup (pc := 209) dX12_token_209 rfl ?_
  refine r_getI (pc := 210) fg_12_113 rfl oa0 dX12_token_210 ?_
  refine r_iconst (pc := 213) (v := 1) dX12_token_213 (by decide +kernel) ?_
  refine r_iadd (pc := 214) dX12_token_214 ?_
  obtain ⟨M_2, hM_2, h⟩ := ob h
  refine r_putI (pc := 215) fg_12_113 rfl oa0 hM_2 rfl rfl dX12_token_215 ?_
  obtain ⟨v_3, hv_3, h⟩ := ob h
  refine r_iinc (pc := 218) (y := v_3) (lv' := [(2, .int (eI v_3)), (0, .ref (gA G a0))]) dX12_token_218 1 rfl (Option.some.inj hv_3) (Nat.le_of_ble_eq_true rfl) rfl ?_
  refine r_goto (pc := 221) (tgt := 163) dX12_token_221 (by decide) ?_
  refine r_sub (lv' := [(0, .ref (gA G a0)), (2, .int (eI v_3))]) [1, 0] rfl ?_
  exact hK163 _ _ h
set_option maxHeartbeats 4000000 in
set_option maxRecDepth 100000 in
theorem bX12_token_b163 {G : GG} (a0 : Nat) (oa0 : OB L0 a0 12) {res : MM} : ∀ (n : Nat) (x2 : Int) (M : MM)  (h : sX12_token_b163 a0 n x2 M = some res), VV G xX12_token (ZM G xX12_token (none) L0 res) L0 M 0 0 163 [(0, .ref (gA G a0)), (2, .int (eI x2))] [] := by
  intro n
  induction n with
  | zero =>
    intro x2 M h
    rw [sX12_token_b163] at h
    cases h
  | succ n ih =>
    intro x2 M h
    rw [sX12_token_b163] at h
    refine r_aload_n (pc := 163) (i := 0) dX12_token_163 rfl 0 rfl ?_
    obtain ⟨q_1, hq_1, h⟩ := ob h
    refine r_cV (pc := 164) (Y := xX12_see) (As := []) (rest := []) (v := (some (.int (eI q_1)))) (st1 := [.int (eI q_1)]) ck_X12_token_119 (kX12_see a0 M oa0 hq_1) oa0 rfl rfl rfl rfl (Nat.le_of_ble_eq_true rfl) ⟨rfl, rfl⟩ rfl dX12_token_164 ?_
    refine r_bipush (pc := 167) (v := 48) dX12_token_167 (by decide +kernel) ?_
    refine r_bipush (pc := 169) (v := 57) dX12_token_169 (by decide +kernel) ?_
    refine r_cS (pc := 171) (Y := xX12_in) (As := [.int (eI q_1), .int (eI 48), .int (eI 57)]) (rest := []) (v := (some (.int (eI (sX12_in q_1 48 57))))) (st1 := [.int (eI (sX12_in q_1 48 57))]) ck_X12_token_105 (kX12_in q_1 48 57 M ) rfl rfl (Nat.le_of_ble_eq_true rfl) ⟨rfl, rfl⟩ rfl dX12_token_171 ?_
    refine r_if_eq (pc := 174) (tgt := 224) dX12_token_174 (by decide) rfl (fun c_2 => ?_) (fun c_2 => ?_)
    · replace h := (if_pos c_2).symm.trans h
      refine r_aload_n (pc := 224) (i := 0) dX12_token_224 rfl 0 rfl ?_
      refine r_iload_n (pc := 225) (i := 2) dX12_token_225 rfl 1 rfl ?_
      refine r_iconst (pc := 226) (v := 2) dX12_token_226 (by decide +kernel) ?_
      refine r_icmp_le (pc := 227) (tgt := 234) dX12_token_227 (by decide) rfl wl_2 (fun c_3 => ?_) (fun c_3 => ?_)
      · replace h := (if_pos c_3).symm.trans h
        refine r_iconst (pc := 234) (v := 3) dX12_token_234 (by decide +kernel) ?_
        refine r_sub (lv' := []) [] rfl ?_
        exact bX12_token_b235 a0 oa0 _ _ _ oa0 h
      · replace h := (if_neg c_3).symm.trans h
        refine r_iconst (pc := 230) (v := 1) dX12_token_230 (by decide +kernel) ?_
        refine r_goto (pc := 231) (tgt := 235) dX12_token_231 (by decide) ?_
        refine r_sub (lv' := []) [] rfl ?_
        exact bX12_token_b235 a0 oa0 _ _ _ oa0 h
    · replace h := (if_neg c_2).symm.trans h
      refine r_aload_n (pc := 177) (i := 0) dX12_token_177 rfl 0 rfl ?_
      refine r_iload_n (pc := 178) (i := 2) dX12_token_178 rfl 1 rfl ?_
      refine r_iconst (pc := 179) (v := 2) dX12_token_179 (by decide +kernel) ?_
      refine r_icmp_ge (pc := 180) (tgt := 201) dX12_token_180 (by decide) rfl wl_2 (fun c_4 => ?_) (fun c_4 => ?_)
      · replace h := (if_pos c_4).symm.trans h
        refine r_aload_n (pc := 201) (i := 0) dX12_token_201 rfl 0 rfl ?_
        refine r_getI (pc := 202) fg_12_133 rfl oa0 dX12_token_202 ?_
        refine r_sub (lv' := [(0, .ref (gA G a0)), (2, .int (eI x2))]) [0, 1] rfl ?_
        exact bX12_token_b205 a0 oa0 _ _ _ _ (fun v0 v1 v2 => ih v0 v1 v2) oa0 h
      · replace h := (if_neg c_4).symm.trans h
        refine r_bipush (pc := 183) (v := 10) dX12_token_183 (by decide +kernel) ?_
        refine r_aload_n (pc := 185) (i := 0) dX12_token_185 rfl 0 rfl ?_
        refine r_getI (pc := 186) fg_12_133 rfl oa0 dX12_token_186 ?_
        refine r_imul (pc := 189) dX12_token_189 ?_
        refine r_aload_n (pc := 190) (i := 0) dX12_token_190 rfl 0 rfl ?_
        obtain ⟨q_5, hq_5, h⟩ := ob h
        refine r_cV (pc := 191) (Y := xX12_see) (As := []) (rest := [.int (eI (10 * (M a0 15))), .ref (gA G a0)]) (v := (some (.int (eI q_5)))) (st1 := [.int (eI q_5), .int (eI (10 * (M a0 15))), .ref (gA G a0)]) ck_X12_token_119 (kX12_see a0 M oa0 hq_5) oa0 rfl rfl rfl rfl (Nat.le_of_ble_eq_true rfl) ⟨rfl, rfl⟩ rfl dX12_token_191 ?_
        refine r_iadd (pc := 194) dX12_token_194 ?_
        refine r_bipush (pc := 195) (v := 48) dX12_token_195 (by decide +kernel) ?_
        refine r_isub (pc := 197) dX12_token_197 ?_
        refine r_goto (pc := 198) (tgt := 205) dX12_token_198 (by decide) ?_
        refine r_sub (lv' := [(0, .ref (gA G a0)), (2, .int (eI x2))]) [0, 1] rfl ?_
        exact bX12_token_b205 a0 oa0 _ _ _ _ (fun v0 v1 v2 => ih v0 v1 v2) oa0 h
set_option maxHeartbeats 4000000 in
set_option maxRecDepth 100000 in
theorem bX12_token_b136 {G : GG} (a0 : Nat) (oa0 : OB L0 a0 12) (a90 : Nat) (y91 : Int) (M : MM) {res : MM} (oa90 : OB L0 a90 12) (h : sX12_token_b136 a0 a90 y91 M = some res) : VV G xX12_token (ZM G xX12_token (none) L0 res) L0 M 0 0 136 [(0, .ref (gA G a0))] [.long (eJ y91), .ref (gA G a90)] := by
  unfold sX12_token_b136 at h
  obtain ⟨M_1, hM_1, h⟩ := ob h
  refine r_putJ (pc := 136) fg_12_126 rfl oa90 hM_1 rfl rfl dX12_token_136 ?_
  refine r_aload_n (pc := 139) (i := 0) dX12_token_139 rfl 0 rfl ?_
  refine r_iconst (pc := 140) (v := 2) dX12_token_140 (by decide +kernel) ?_
  obtain ⟨M_2, hM_2, h⟩ := ob h
  refine r_putI (pc := 141) fg_12_130 rfl oa0 hM_2 rfl rfl dX12_token_141 ?_
  refine r_goto (pc := 144) (tgt := 266) dX12_token_144 (by decide) ?_
  cases h
  exact r_vret (pc := 266) rfl (Nat.le_refl 0) (Nat.le_refl 0) dX12_token_266
set_option maxHeartbeats 4000000 in
set_option maxRecDepth 100000 in
theorem bX12_token_b74 {G : GG} (a0 : Nat) (oa0 : OB L0 a0 12) {res : MM} : ∀ (n : Nat) (x2 : Int) (M : MM)  (h : sX12_token_b74 a0 n x2 M = some res), VV G xX12_token (ZM G xX12_token (none) L0 res) L0 M 0 0 74 [(0, .ref (gA G a0)), (2, .int (eI x2))] [] := by
  intro n
  induction n with
  | zero =>
    intro x2 M h
    rw [sX12_token_b74] at h
    cases h
  | succ n ih =>
    intro x2 M h
    rw [sX12_token_b74] at h
    refine r_aload_n (pc := 74) (i := 0) dX12_token_74 rfl 0 rfl ?_
    obtain ⟨q_1, hq_1, h⟩ := ob h
    refine r_cV (pc := 75) (Y := xX12_see) (As := []) (rest := []) (v := (some (.int (eI q_1)))) (st1 := [.int (eI q_1)]) ck_X12_token_119 (kX12_see a0 M oa0 hq_1) oa0 rfl rfl rfl rfl (Nat.le_of_ble_eq_true rfl) ⟨rfl, rfl⟩ rfl dX12_token_75 ?_
    refine r_bipush (pc := 78) (v := 97) dX12_token_78 (by decide +kernel) ?_
    refine r_bipush (pc := 80) (v := 122) dX12_token_80 (by decide +kernel) ?_
    refine r_cS (pc := 82) (Y := xX12_in) (As := [.int (eI q_1), .int (eI 97), .int (eI 122)]) (rest := []) (v := (some (.int (eI (sX12_in q_1 97 122))))) (st1 := [.int (eI (sX12_in q_1 97 122))]) ck_X12_token_105 (kX12_in q_1 97 122 M ) rfl rfl (Nat.le_of_ble_eq_true rfl) ⟨rfl, rfl⟩ rfl dX12_token_82 ?_
    refine r_if_eq (pc := 85) (tgt := 121) dX12_token_85 (by decide) rfl (fun c_2 => ?_) (fun c_2 => ?_)
    · replace h := (if_pos c_2).symm.trans h
      refine r_aload_n (pc := 121) (i := 0) dX12_token_121 rfl 0 rfl ?_
      refine r_iload_n (pc := 122) (i := 2) dX12_token_122 rfl 1 rfl ?_
      refine r_bipush (pc := 123) (v := 8) dX12_token_123 (by decide +kernel) ?_
      refine r_icmp_le (pc := 125) (tgt := 132) dX12_token_125 (by decide) rfl wl_8 (fun c_3 => ?_) (fun c_3 => ?_)
      · replace h := (if_pos c_3).symm.trans h
        refine r_aload_n (pc := 132) (i := 0) dX12_token_132 rfl 0 rfl ?_
        refine r_getJ (pc := 133) fg_12_126 rfl oa0 dX12_token_133 ?_
        refine r_sub (lv' := [(0, .ref (gA G a0))]) [0] rfl ?_
        exact bX12_token_b136 a0 oa0 _ _ _ oa0 h
      · replace h := (if_neg c_3).symm.trans h
        refine r_lconst (pc := 128) (v := 0) dX12_token_128 (by decide +kernel) ?_
        refine r_goto (pc := 129) (tgt := 136) dX12_token_129 (by decide) ?_
        refine r_sub (lv' := [(0, .ref (gA G a0))]) [0] rfl ?_
        exact bX12_token_b136 a0 oa0 _ _ _ oa0 h
    · replace h := (if_neg c_2).symm.trans h
      refine r_aload_n (pc := 88) (i := 0) dX12_token_88 rfl 0 rfl ?_
      refine r_aload_n (pc := 89) (i := 0) dX12_token_89 rfl 0 rfl ?_
      refine r_getJ (pc := 90) fg_12_126 rfl oa0 dX12_token_90 ?_
      refine r_bipush (pc := 93) (v := 8) dX12_token_93 (by decide +kernel) ?_
      refine r_lshl8 (pc := 95) dX12_token_95 ?_
      refine r_aload_n (pc := 96) (i := 0) dX12_token_96 rfl 0 rfl ?_
      obtain ⟨q_4, hq_4, h⟩ := ob h
      refine r_cV (pc := 97) (Y := xX12_see) (As := []) (rest := [.long (eJ ((M a0 16) * 256)), .ref (gA G a0)]) (v := (some (.int (eI q_4)))) (st1 := [.int (eI q_4), .long (eJ ((M a0 16) * 256)), .ref (gA G a0)]) ck_X12_token_119 (kX12_see a0 M oa0 hq_4) oa0 rfl rfl rfl rfl (Nat.le_of_ble_eq_true rfl) ⟨rfl, rfl⟩ rfl dX12_token_97 ?_
      refine r_i2l (pc := 100) rfl dX12_token_100 ?_
      refine r_lor (pc := 101) dX12_token_101 ?_
      obtain ⟨M_5, hM_5, h⟩ := ob h
      refine r_putJ (pc := 102) fg_12_126 rfl oa0 hM_5 rfl rfl dX12_token_102 ?_
      refine r_aload_n (pc := 105) (i := 0) dX12_token_105 rfl 0 rfl ?_
      refine r_dup (pc := 106) dX12_token_106 rfl ?_
      refine r_getI (pc := 107) fg_12_113 rfl oa0 dX12_token_107 ?_
      refine r_iconst (pc := 110) (v := 1) dX12_token_110 (by decide +kernel) ?_
      refine r_iadd (pc := 111) dX12_token_111 ?_
      obtain ⟨M_6, hM_6, h⟩ := ob h
      refine r_putI (pc := 112) fg_12_113 rfl oa0 hM_6 rfl rfl dX12_token_112 ?_
      obtain ⟨v_7, hv_7, h⟩ := ob h
      refine r_iinc (pc := 115) (y := v_7) (lv' := [(2, .int (eI v_7)), (0, .ref (gA G a0))]) dX12_token_115 1 rfl (Option.some.inj hv_7) (Nat.le_of_ble_eq_true rfl) rfl ?_
      refine r_goto (pc := 118) (tgt := 74) dX12_token_118 (by decide) ?_
      refine r_sub (lv' := [(0, .ref (gA G a0)), (2, .int (eI v_7))]) [1, 0] rfl ?_
      exact ih _ _ h
set_option maxHeartbeats 4000000 in
set_option maxRecDepth 100000 in
theorem bX12_token_b18 {G : GG} (a0 : Nat) (oa0 : OB L0 a0 12) {K0 : MM → Option MM}  (M : MM) {res : MM} (hK0 : ∀  (M : MM), K0  M = some res → VV G xX12_token (ZM G xX12_token (none) L0 res) L0 M 0 0 0 [(0, .ref (gA G a0))] [])  (h : sX12_token_b18 a0 K0 M = some res) : VV G xX12_token (ZM G xX12_token (none) L0 res) L0 M 0 0 18 [(0, .ref (gA G a0))] [] := by
  unfold sX12_token_b18 at h
  refine r_aload_n (pc := 18) (i := 0) dX12_token_18 rfl 0 rfl ?_
  refine r_dup (pc := 19) dX12_token_19 rfl ?_
  refine r_getI (pc := 20) fg_12_113 rfl oa0 dX12_token_20 ?_
  refine r_iconst (pc := 23) (v := 1) dX12_token_23 (by decide +kernel) ?_
  refine r_iadd (pc := 24) dX12_token_24 ?_
  obtain ⟨M_1, hM_1, h⟩ := ob h
  refine r_putI (pc := 25) fg_12_113 rfl oa0 hM_1 rfl rfl dX12_token_25 ?_
  refine r_goto (pc := 28) (tgt := 0) dX12_token_28 (by decide) ?_
  refine r_sub (lv' := [(0, .ref (gA G a0))]) [0] rfl ?_
  exact hK0 _ h
set_option maxHeartbeats 4000000 in
set_option maxRecDepth 100000 in
theorem bX12_token_b0 {G : GG} (a0 : Nat) (oa0 : OB L0 a0 12) {res : MM} : ∀ (n : Nat)  (M : MM)  (h : sX12_token_b0 a0 n M = some res), VV G xX12_token (ZM G xX12_token (none) L0 res) L0 M 0 0 0 [(0, .ref (gA G a0))] [] := by
  intro n
  induction n with
  | zero =>
    intro M h
    rw [sX12_token_b0] at h
    cases h
  | succ n ih =>
    intro M h
    rw [sX12_token_b0] at h
    refine r_aload_n (pc := 0) (i := 0) dX12_token_0 rfl 0 rfl ?_
    obtain ⟨q_1, hq_1, h⟩ := ob h
    refine r_cV (pc := 1) (Y := xX12_see) (As := []) (rest := []) (v := (some (.int (eI q_1)))) (st1 := [.int (eI q_1)]) ck_X12_token_119 (kX12_see a0 M oa0 hq_1) oa0 rfl rfl rfl rfl (Nat.le_of_ble_eq_true rfl) ⟨rfl, rfl⟩ rfl dX12_token_1 ?_
    refine r_bipush (pc := 4) (v := 10) dX12_token_4 (by decide +kernel) ?_
    refine r_icmp_eq (pc := 6) (tgt := 18) dX12_token_6 (by decide) rfl wl_10 (fun c_2 => ?_) (fun c_2 => ?_)
    · replace h := (if_pos c_2).symm.trans h
      refine r_sub (lv' := [(0, .ref (gA G a0))]) [0] rfl ?_
      exact bX12_token_b18 a0 oa0 _ (fun v0 v1 => ih v0 v1) h
    · replace h := (if_neg c_2).symm.trans h
      refine r_aload_n (pc := 9) (i := 0) dX12_token_9 rfl 0 rfl ?_
      obtain ⟨q_3, hq_3, h⟩ := ob h
      refine r_cV (pc := 10) (Y := xX12_see) (As := []) (rest := []) (v := (some (.int (eI q_3)))) (st1 := [.int (eI q_3)]) ck_X12_token_119 (kX12_see a0 M oa0 hq_3) oa0 rfl rfl rfl rfl (Nat.le_of_ble_eq_true rfl) ⟨rfl, rfl⟩ rfl dX12_token_10 ?_
      refine r_bipush (pc := 13) (v := 32) dX12_token_13 (by decide +kernel) ?_
      refine r_icmp_ne (pc := 15) (tgt := 31) dX12_token_15 (by decide) rfl wl_32 (fun c_4 => ?_) (fun c_4 => ?_)
      · replace h := (if_neg c_4).symm.trans h
        refine r_aload_n (pc := 31) (i := 0) dX12_token_31 rfl 0 rfl ?_
        refine r_aload_n (pc := 32) (i := 0) dX12_token_32 rfl 0 rfl ?_
        refine r_getI (pc := 33) fg_12_113 rfl oa0 dX12_token_33 ?_
        obtain ⟨M_5, hM_5, h⟩ := ob h
        refine r_putI (pc := 36) fg_12_123 rfl oa0 hM_5 rfl rfl dX12_token_36 ?_
        refine r_aload_n (pc := 39) (i := 0) dX12_token_39 rfl 0 rfl ?_
        obtain ⟨q_6, hq_6, h⟩ := ob h
        refine r_cV (pc := 40) (Y := xX12_see) (As := []) (rest := []) (v := (some (.int (eI q_6)))) (st1 := [.int (eI q_6)]) ck_X12_token_119 (kX12_see a0 M_5 oa0 hq_6) oa0 rfl rfl rfl rfl (Nat.le_of_ble_eq_true rfl) ⟨rfl, rfl⟩ rfl dX12_token_40 ?_
        refine r_istore_n (pc := 43) (i := 1) (lv' := [(1, .int (eI q_6)), (0, .ref (gA G a0))]) dX12_token_43 rfl (Nat.le_of_ble_eq_true rfl) rfl ?_
        refine r_aload_n (pc := 44) (i := 0) dX12_token_44 rfl 1 rfl ?_
        refine r_lconst (pc := 45) (v := 0) dX12_token_45 (by decide +kernel) ?_
        obtain ⟨M_7, hM_7, h⟩ := ob h
        refine r_putJ (pc := 46) fg_12_126 rfl oa0 hM_7 rfl rfl dX12_token_46 ?_
        refine r_iconst (pc := 49) (v := 0) dX12_token_49 (by decide +kernel) ?_
        refine r_istore_n (pc := 50) (i := 2) (lv' := [(2, .int (eI 0)), (1, .int (eI q_6)), (0, .ref (gA G a0))]) dX12_token_50 rfl (Nat.le_of_ble_eq_true rfl) rfl ?_
        refine r_iload_n (pc := 51) (i := 1) dX12_token_51 rfl 1 rfl ?_
        refine r_if_ge (pc := 52) (tgt := 63) dX12_token_52 (by decide) rfl (fun c_8 => ?_) (fun c_8 => ?_)
        · replace h := (if_pos c_8).symm.trans h
          refine r_iload_n (pc := 63) (i := 1) dX12_token_63 rfl 1 rfl ?_
          refine r_bipush (pc := 64) (v := 97) dX12_token_64 (by decide +kernel) ?_
          refine r_bipush (pc := 66) (v := 122) dX12_token_66 (by decide +kernel) ?_
          refine r_cS (pc := 68) (Y := xX12_in) (As := [.int (eI q_6), .int (eI 97), .int (eI 122)]) (rest := []) (v := (some (.int (eI (sX12_in q_6 97 122))))) (st1 := [.int (eI (sX12_in q_6 97 122))]) ck_X12_token_105 (kX12_in q_6 97 122 M_7 ) rfl rfl (Nat.le_of_ble_eq_true rfl) ⟨rfl, rfl⟩ rfl dX12_token_68 ?_
          refine r_if_eq (pc := 71) (tgt := 147) dX12_token_71 (by decide) rfl (fun c_9 => ?_) (fun c_9 => ?_)
          · replace h := (if_pos c_9).symm.trans h
            refine r_iload_n (pc := 147) (i := 1) dX12_token_147 rfl 1 rfl ?_
            refine r_bipush (pc := 148) (v := 48) dX12_token_148 (by decide +kernel) ?_
            refine r_bipush (pc := 150) (v := 57) dX12_token_150 (by decide +kernel) ?_
            refine r_cS (pc := 152) (Y := xX12_in) (As := [.int (eI q_6), .int (eI 48), .int (eI 57)]) (rest := []) (v := (some (.int (eI (sX12_in q_6 48 57))))) (st1 := [.int (eI (sX12_in q_6 48 57))]) ck_X12_token_105 (kX12_in q_6 48 57 M_7 ) rfl rfl (Nat.le_of_ble_eq_true rfl) ⟨rfl, rfl⟩ rfl dX12_token_152 ?_
            refine r_if_eq (pc := 155) (tgt := 241) dX12_token_155 (by decide) rfl (fun c_10 => ?_) (fun c_10 => ?_)
            · replace h := (if_pos c_10).symm.trans h
              refine r_aload_n (pc := 241) (i := 0) dX12_token_241 rfl 2 rfl ?_
              refine r_dup (pc := 242) dX12_token_242 rfl ?_
              refine r_getI (pc := 243) fg_12_113 rfl oa0 dX12_token_243 ?_
              refine r_iconst (pc := 246) (v := 1) dX12_token_246 (by decide +kernel) ?_
              refine r_iadd (pc := 247) dX12_token_247 ?_
              obtain ⟨M_11, hM_11, h⟩ := ob h
              refine r_putI (pc := 248) fg_12_113 rfl oa0 hM_11 rfl rfl dX12_token_248 ?_
              refine r_aload_n (pc := 251) (i := 0) dX12_token_251 rfl 2 rfl ?_
              refine r_iload_n (pc := 252) (i := 1) dX12_token_252 rfl 1 rfl ?_
              refine r_bipush (pc := 253) (v := 59) dX12_token_253 (by decide +kernel) ?_
              refine r_icmp_ne (pc := 255) (tgt := 262) dX12_token_255 (by decide) rfl wl_59 (fun c_12 => ?_) (fun c_12 => ?_)
              · replace h := (if_neg c_12).symm.trans h
                refine r_iconst (pc := 262) (v := 1) dX12_token_262 (by decide +kernel) ?_
                refine r_sub (lv' := []) [] rfl ?_
                exact bX12_token_b263 a0 oa0 _ _ _ oa0 h
              · replace h := (if_pos c_12).symm.trans h
                refine r_iconst (pc := 258) (v := 4) dX12_token_258 (by decide +kernel) ?_
                refine r_goto (pc := 259) (tgt := 263) dX12_token_259 (by decide) ?_
                refine r_sub (lv' := []) [] rfl ?_
                exact bX12_token_b263 a0 oa0 _ _ _ oa0 h
            · replace h := (if_neg c_10).symm.trans h
              refine r_aload_n (pc := 158) (i := 0) dX12_token_158 rfl 2 rfl ?_
              refine r_iconst (pc := 159) (v := 0) dX12_token_159 (by decide +kernel) ?_
              obtain ⟨M_13, hM_13, h⟩ := ob h
              refine r_putI (pc := 160) fg_12_133 rfl oa0 hM_13 rfl rfl dX12_token_160 ?_
              refine r_sub (lv' := [(0, .ref (gA G a0)), (2, .int (eI 0))]) [2, 0] rfl ?_
              exact bX12_token_b163 a0 oa0 _ _ _ h
          · replace h := (if_neg c_9).symm.trans h
            refine r_sub (lv' := [(0, .ref (gA G a0)), (2, .int (eI 0))]) [2, 0] rfl ?_
            exact bX12_token_b74 a0 oa0 _ _ _ h
        · replace h := (if_neg c_8).symm.trans h
          refine r_aload_n (pc := 55) (i := 0) dX12_token_55 rfl 2 rfl ?_
          refine r_iconst (pc := 56) (v := 0) dX12_token_56 (by decide +kernel) ?_
          obtain ⟨M_14, hM_14, h⟩ := ob h
          refine r_putI (pc := 57) fg_12_130 rfl oa0 hM_14 rfl rfl dX12_token_57 ?_
          refine r_goto (pc := 60) (tgt := 266) dX12_token_60 (by decide) ?_
          cases h
          exact r_vret (pc := 266) rfl (Nat.le_refl 0) (Nat.le_refl 0) dX12_token_266
      · replace h := (if_pos c_4).symm.trans h
        refine r_sub (lv' := [(0, .ref (gA G a0))]) [0] rfl ?_
        exact bX12_token_b18 a0 oa0 _ (fun v0 v1 => ih v0 v1) h
theorem kX12_token {G : GG} (a0 : Nat) (M : MM) {res : MM} (oa0 : OB L0 a0 12) (h : sX12_token a0 M = some res) : CO G xX12_token [.ref (gA G a0)] L0 M (none) L0 res := CO_of (by decide +kernel) (Nat.le_of_ble_eq_true rfl) (bX12_token_b0 a0 oa0 FU M h)
