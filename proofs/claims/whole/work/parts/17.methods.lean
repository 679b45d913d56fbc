abbrev xX12_hangs : XX := (yX12_hangs, cX12_hangs, 5, (some .long), 5, 114, 0, 0)
theorem ck_X12_hangs_105 : CKS xX12_hangs 105 xX12_in 3 := ⟨⟨tb_i 1622 (by decide +kernel) (by decide +kernel), tb_i 152 (by decide +kernel) (by decide +kernel), tb_i 1624 (by decide +kernel) (by decide +kernel), ⟨by decide +kernel, by decide +kernel, by decide +kernel⟩, by decide, by decide⟩, tb_i 1623 (by decide +kernel) (by decide +kernel)⟩
theorem ck_X12_hangs_452 : CKV xX12_hangs 452 xX12_layClues 2 := ⟨⟨tb_i 1904 (by decide +kernel) (by decide +kernel), tb_i 152 (by decide +kernel) (by decide +kernel), tb_i 1907 (by decide +kernel) (by decide +kernel), ⟨by decide +kernel, by decide +kernel, by decide +kernel⟩, by decide, by decide⟩, tb_i 1906 (by decide +kernel) (by decide +kernel), tb_i 92 (by decide +kernel) (by decide +kernel)⟩
theorem ck_X12_hangs_455 : CKS xX12_hangs 455 xX12_least 3 := ⟨⟨tb_i 1916 (by decide +kernel) (by decide +kernel), tb_i 152 (by decide +kernel) (by decide +kernel), tb_i 1918 (by decide +kernel) (by decide +kernel), ⟨by decide +kernel, by decide +kernel, by decide +kernel⟩, by decide, by decide⟩, tb_i 1917 (by decide +kernel) (by decide +kernel)⟩
def sX12_hangs_b51 (a0 : Nat) (x1 : Int) (x2 : Int) (x3 : Int) (x4 : Int)   (M : MM) : Option (Int × MM) := (some (((-1), M)))
def sX12_hangs_b0 (a0 : Nat) (x1 : Int) (x2 : Int) (x3 : Int) (x4 : Int)   (M : MM) : Option (Int × MM) := ((some (mU M a0 0 0)).bind fun M_1 => ((sX12_layClues a0 x1 x2 M_1).bind fun q_2 => (if wI (q_2.1) = 0 then (sX12_hangs_b51 a0 x1 x2 x3 x4 q_2.2) else (if wI (sX12_in x3 0 7) = 0 then (sX12_hangs_b51 a0 x1 x2 x3 x4 q_2.2) else (if wJ (q_2.2 a0 48) ≤ 0 then (sX12_hangs_b51 a0 x1 x2 x3 x4 q_2.2) else (if 0 ≤ wI x3 ∧ wI x3 < 8 then ((sX12_least (q_2.2 (gR a0 47) (wI x3).toNat) (q_2.2 a0 48) x4).bind fun q_8 => (some ((q_8, q_2.2)))) else none))))))
def sX12_hangs (a0 : Nat) (x1 : Int) (x2 : Int) (x3 : Int) (x4 : Int) (M : MM) : Option (Int × MM) := sX12_hangs_b0 a0 x1 x2 x3 x4 M
set_option maxHeartbeats 4000000 in
set_option maxRecDepth 100000 in
theorem bX12_hangs_b51 {G : GG} (a0 : Nat) (x1 : Int) (x2 : Int) (x3 : Int) (x4 : Int) (oa0 : OB L0 a0 12)  (M : MM) {res : (Int × MM)}  (h : sX12_hangs_b51 a0 x1 x2 x3 x4 M = some res) : VV G xX12_hangs (ZM G xX12_hangs (some (.long (eJ res.1))) L0 res.2) L0 M 0 0 51 [] [] := by
  unfold sX12_hangs_b51 at h
  refine r_ldc2 (pc := 51) (v := (-1)) kc_12_459 dX12_hangs_51 ?_
  cases h
  exact r_lret (pc := 54) rfl (Nat.le_refl 0) (Nat.le_refl 0) dX12_hangs_54
set_option maxHeartbeats 4000000 in
set_option maxRecDepth 100000 in
theorem bX12_hangs_b0 {G : GG} (a0 : Nat) (x1 : Int) (x2 : Int) (x3 : Int) (x4 : Int) (oa0 : OB L0 a0 12)  (M : MM) {res : (Int × MM)}  (h : sX12_hangs_b0 a0 x1 x2 x3 x4 M = some res) : VV G xX12_hangs (ZM G xX12_hangs (some (.long (eJ res.1))) L0 res.2) L0 M 0 0 0 [(0, .ref (gA G a0)), (1, .int (eI x1)), (2, .int (eI x2)), (3, .int (eI x3)), (4, .int (eI x4))] [] := by
  unfold sX12_hangs_b0 at h
  refine r_aload_n (pc := 0) (i := 0) dX12_hangs_0 rfl 0 rfl ?_
  refine r_iconst (pc := 1) (v := 0) dX12_hangs_1 (by decide +kernel) ?_
  obtain ⟨M_1, hM_1, h⟩ := ob h
  refine r_putI (pc := 2) fg_12_97 rfl oa0 hM_1 rfl rfl dX12_hangs_2 ?_
  refine r_aload_n (pc := 5) (i := 0) dX12_hangs_5 rfl 0 rfl ?_
  refine r_iload_n (pc := 6) (i := 1) dX12_hangs_6 rfl 1 rfl ?_
  refine r_iload_n (pc := 7) (i := 2) dX12_hangs_7 rfl 2 rfl ?_
  obtain ⟨q_2, hq_2, h⟩ := ob h
  refine r_cV (pc := 8) (Y := xX12_layClues) (As := [.int (eI x1), .int (eI x2)]) (rest := []) (v := (some (.int (eI (q_2.1))))) (st1 := [.int (eI (q_2.1))]) ck_X12_hangs_452 (kX12_layClues a0 x1 x2 M_1 oa0 hq_2) oa0 rfl rfl rfl rfl (Nat.le_of_ble_eq_true rfl) ⟨rfl, rfl⟩ rfl dX12_hangs_8 ?_
  refine r_if_eq (pc := 11) (tgt := 51) dX12_hangs_11 (by decide) rfl (fun c_3 => ?_) (fun c_3 => ?_)
  · replace h := (if_pos c_3).symm.trans h
    refine r_sub (lv' := []) [] rfl ?_
    exact bX12_hangs_b51 a0 x1 x2 x3 x4 oa0 _ h
  · replace h := (if_neg c_3).symm.trans h
    refine r_iload_n (pc := 14) (i := 3) dX12_hangs_14 rfl 3 rfl ?_
    refine r_iconst (pc := 15) (v := 0) dX12_hangs_15 (by decide +kernel) ?_
    refine r_bipush (pc := 16) (v := 7) dX12_hangs_16 (by decide +kernel) ?_
    refine r_cS (pc := 18) (Y := xX12_in) (As := [.int (eI x3), .int (eI 0), .int (eI 7)]) (rest := []) (v := (some (.int (eI (sX12_in x3 0 7))))) (st1 := [.int (eI (sX12_in x3 0 7))]) ck_X12_hangs_105 (kX12_in x3 0 7 q_2.2 ) rfl rfl (Nat.le_of_ble_eq_true rfl) ⟨rfl, rfl⟩ rfl dX12_hangs_18 ?_
    refine r_if_eq (pc := 21) (tgt := 51) dX12_hangs_21 (by decide) rfl (fun c_4 => ?_) (fun c_4 => ?_)
    · replace h := (if_pos c_4).symm.trans h
      refine r_sub (lv' := []) [] rfl ?_
      exact bX12_hangs_b51 a0 x1 x2 x3 x4 oa0 _ h
    · replace h := (if_neg c_4).symm.trans h
      refine r_aload_n (pc := 24) (i := 0) dX12_hangs_24 rfl 0 rfl ?_
      refine r_getJ (pc := 25) fg_12_433 rfl oa0 dX12_hangs_25 ?_
      refine r_lconst (pc := 28) (v := 0) dX12_hangs_28 (by decide +kernel) ?_
      refine r_lcmp_le (pc := 29) (tgt := 51) dX12_hangs_29 dX12_hangs_30 (by decide) rfl wj_0 (fun c_5 => ?_) (fun c_5 => ?_)
      · replace h := (if_pos c_5).symm.trans h
        refine r_sub (lv' := []) [] rfl ?_
        exact bX12_hangs_b51 a0 x1 x2 x3 x4 oa0 _ h
      · replace h := (if_neg c_5).symm.trans h
        refine r_aload_n (pc := 33) (i := 0) dX12_hangs_33 rfl 0 rfl ?_
        have o_6 := (wt_12_47 oa0).2
        refine r_getR (pc := 34) fg_12_65 rfl oa0 (wt_12_47 oa0).1 dX12_hangs_34 ?_
        refine r_iload_n (pc := 37) (i := 3) dX12_hangs_37 rfl 3 rfl ?_
        obtain ⟨c_7, h⟩ := og h
        refine r_lald (pc := 38) o_6 rfl c_7 rfl dX12_hangs_38 ?_
        refine r_aload_n (pc := 39) (i := 0) dX12_hangs_39 rfl 0 rfl ?_
        refine r_getJ (pc := 40) fg_12_433 rfl oa0 dX12_hangs_40 ?_
        refine r_iload (pc := 43) dX12_hangs_43 4 rfl ?_
        obtain ⟨q_8, hq_8, h⟩ := ob h
        refine r_cS (pc := 45) (Y := xX12_least) (As := [.long (eJ (q_2.2 (gR a0 47) (wI x3).toNat)), .long (eJ (q_2.2 a0 48)), .int (eI x4)]) (rest := []) (v := (some (.long (eJ q_8)))) (st1 := [.long (eJ q_8)]) ck_X12_hangs_455 (kX12_least (q_2.2 (gR a0 47) (wI x3).toNat) (q_2.2 a0 48) x4 q_2.2  hq_8) rfl rfl (Nat.le_of_ble_eq_true rfl) ⟨rfl, rfl⟩ rfl dX12_hangs_45 ?_
        refine r_goto (pc := 48) (tgt := 54) dX12_hangs_48 (by decide) ?_
        cases h
        exact r_lret (pc := 54) rfl (Nat.le_refl 0) (Nat.le_refl 0) dX12_hangs_54
theorem kX12_hangs {G : GG} (a0 : Nat) (x1 : Int) (x2 : Int) (x3 : Int) (x4 : Int) (M : MM) {res : (Int × MM)} (oa0 : OB L0 a0 12) (h : sX12_hangs a0 x1 x2 x3 x4 M = some res) : CO G xX12_hangs [.ref (gA G a0), .int (eI x1), .int (eI x2), .int (eI x3), .int (eI x4)] L0 M (some (.long (eJ res.1))) L0 res.2 := CO_of (by decide +kernel) (Nat.le_of_ble_eq_true rfl) (bX12_hangs_b0 a0 x1 x2 x3 x4 oa0 M h)
abbrev xX12_aim : XX := (yX12_aim, cX12_aim, 8, (some .int), 5, 114, 0, 0)
theorem ck_X12_aim_105 : CKS xX12_aim 105 xX12_in 3 := ⟨⟨tb_i 1622 (by decide +kernel) (by decide +kernel), tb_i 152 (by decide +kernel) (by decide +kernel), tb_i 1624 (by decide +kernel) (by decide +kernel), ⟨by decide +kernel, by decide +kernel, by decide +kernel⟩, by decide, by decide⟩, tb_i 1623 (by decide +kernel) (by decide +kernel)⟩
theorem ck_X12_aim_427 : CKV xX12_aim 427 xX12_cluesTold 0 := ⟨⟨tb_i 1892 (by decide +kernel) (by decide +kernel), tb_i 152 (by decide +kernel) (by decide +kernel), tb_i 1895 (by decide +kernel) (by decide +kernel), ⟨by decide +kernel, by decide +kernel, by decide +kernel⟩, by decide, by decide⟩, tb_i 1894 (by decide +kernel) (by decide +kernel), tb_i 90 (by decide +kernel) (by decide +kernel)⟩
theorem ck_X12_aim_449 : CKV xX12_aim 449 xX12_weigh 1 := ⟨⟨tb_i 1908 (by decide +kernel) (by decide +kernel), tb_i 152 (by decide +kernel) (by decide +kernel), tb_i 1911 (by decide +kernel) (by decide +kernel), ⟨by decide +kernel, by decide +kernel, by decide +kernel⟩, by decide, by decide⟩, tb_i 1910 (by decide +kernel) (by decide +kernel), tb_i 93 (by decide +kernel) (by decide +kernel)⟩
theorem ck_X12_aim_452 : CKV xX12_aim 452 xX12_layClues 2 := ⟨⟨tb_i 1904 (by decide +kernel) (by decide +kernel), tb_i 152 (by decide +kernel) (by decide +kernel), tb_i 1907 (by decide +kernel) (by decide +kernel), ⟨by decide +kernel, by decide +kernel, by decide +kernel⟩, by decide, by decide⟩, tb_i 1906 (by decide +kernel) (by decide +kernel), tb_i 92 (by decide +kernel) (by decide +kernel)⟩
theorem ck_X12_aim_461 : CKV xX12_aim 461 xX12_aimNow 0 := ⟨⟨tb_i 1927 (by decide +kernel) (by decide +kernel), tb_i 152 (by decide +kernel) (by decide +kernel), tb_i 1930 (by decide +kernel) (by decide +kernel), ⟨by decide +kernel, by decide +kernel, by decide +kernel⟩, by decide, by decide⟩, tb_i 1929 (by decide +kernel) (by decide +kernel), tb_i 95 (by decide +kernel) (by decide +kernel)⟩
def sX12_aim_b125 (a0 : Nat) (x1 : Int) (x2 : Int) (x3 : Int) (K45 : Int → Int → Int → MM → Option (Int × MM)) (x4 : Int) (x6 : Int) (x90 : Int) (x91 : Int) (M : MM) : Option (Int × MM) := ((some (x6 + 1)).bind fun v_1 => (K45 x4 (oI x90 x91) v_1 M))
def sX12_aim_b108 (a0 : Nat) (x1 : Int) (x2 : Int) (x3 : Int) (K45 : Int → Int → Int → MM → Option (Int × MM)) (x4 : Int) (x5 : Int) (x6 : Int) (x90 : Int) (M : MM) : Option (Int × MM) := (if wI x90 = 0 then (sX12_aim_b125 a0 x1 x2 x3 K45 x4 x6 x5 0 M) else (if 0 ≤ wI x6 ∧ wI x6 < 32 then (sX12_aim_b125 a0 x1 x2 x3 K45 x4 x6 x5 (1 * 2 ^ (wI x6).toNat) M) else none))
def sX12_aim_b107 (a0 : Nat) (x1 : Int) (x2 : Int) (x3 : Int) (K45 : Int → Int → Int → MM → Option (Int × MM)) (x4 : Int) (x5 : Int) (x6 : Int) (M : MM) : Option (Int × MM) := (sX12_aim_b108 a0 x1 x2 x3 K45 x4 x5 x6 0 M)
def sX12_aim_b84 (a0 : Nat) (x1 : Int) (x2 : Int) (x3 : Int) (K45 : Int → Int → Int → MM → Option (Int × MM)) (x4 : Int) (x5 : Int) (x6 : Int) (M : MM) : Option (Int × MM) := (sX12_aim_b108 a0 x1 x2 x3 K45 x4 x5 x6 0 M)
def sX12_aim_b45 (a0 : Nat) (x1 : Int) (x2 : Int) (x3 : Int)  : Nat → Int → Int → Int → MM → Option (Int × MM)
  | 0, _, _, _, _ => none
  | n + 1, x4, x5, x6, M => ((sX12_cluesTold a0 M).bind fun q_1 => (if wI q_1 ≤ wI x6 then (some ((x5, M))) else ((sX12_weigh a0 x6 M).bind fun q_3 => (if wI x3 = 1 then (if wI x4 = (-1) then (sX12_aim_b84 a0 x1 x2 x3 (fun x4 x5 x6 M => sX12_aim_b45 a0 x1 x2 x3 n x4 x5 x6 M) x4 x5 x6 q_3) else ((sX12_aimNow a0 q_3).bind fun q_8 => (if wI q_8 = wI x4 then (sX12_aim_b84 a0 x1 x2 x3 (fun x4 x5 x6 M => sX12_aim_b45 a0 x1 x2 x3 n x4 x5 x6 M) x4 x5 x6 q_3) else (sX12_aim_b108 a0 x1 x2 x3 (fun x4 x5 x6 M => sX12_aim_b45 a0 x1 x2 x3 n x4 x5 x6 M) x4 x5 x6 1 q_3)))) else (if wI x4 = (-1) then (if wJ (q_3 a0 48) ≤ 0 then (sX12_aim_b107 a0 x1 x2 x3 (fun x4 x5 x6 M => sX12_aim_b45 a0 x1 x2 x3 n x4 x5 x6 M) x4 x5 x6 q_3) else (sX12_aim_b108 a0 x1 x2 x3 (fun x4 x5 x6 M => sX12_aim_b45 a0 x1 x2 x3 n x4 x5 x6 M) x4 x5 x6 1 q_3)) else (sX12_aim_b107 a0 x1 x2 x3 (fun x4 x5 x6 M => sX12_aim_b45 a0 x1 x2 x3 n x4 x5 x6 M) x4 x5 x6 q_3))))))
def sX12_aim_b0 (a0 : Nat) (x1 : Int) (x2 : Int) (x3 : Int)   (M : MM) : Option (Int × MM) := ((some (mU M a0 0 0)).bind fun M_1 => (if wI (sX12_in x3 0 2) = 0 then (some (((-2), M_1))) else ((sX12_layClues a0 x1 x2 M_1).bind fun q_3 => (if wI (q_3.1) = 0 then (some (((-2), q_3.2))) else ((sX12_aimNow a0 q_3.2).bind fun q_5 => (if wI x3 = 0 then (some ((q_5, q_3.2))) else (sX12_aim_b45 a0 x1 x2 x3 FU q_5 0 0 q_3.2)))))))
def sX12_aim (a0 : Nat) (x1 : Int) (x2 : Int) (x3 : Int) (M : MM) : Option (Int × MM) := sX12_aim_b0 a0 x1 x2 x3 M
set_option maxHeartbeats 4000000 in
set_option maxRecDepth 100000 in
theorem bX12_aim_b125 {G : GG} (a0 : Nat) (x1 : Int) (x2 : Int) (x3 : Int) (oa0 : OB L0 a0 12) {K45 : Int → Int → Int → MM → Option (Int × MM)} (x4 : Int) (x6 : Int) (x90 : Int) (x91 : Int) (M : MM) {res : (Int × MM)} (hK45 : ∀ (x4 : Int) (x5 : Int) (x6 : Int) (M : MM), K45 x4 x5 x6 M = some res → VV G xX12_aim (ZM G xX12_aim (some (.int (eI res.1))) L0 res.2) L0 M 0 0 45 [(0, .ref (gA G a0)), (3, .int (eI x3)), (4, .int (eI x4)), (5, .int (eI x5)), (6, .int (eI x6))] [])  (h : sX12_aim_b125 a0 x1 x2 x3 K45 x4 x6 x90 x91 M = some res) : VV G xX12_aim (ZM G xX12_aim (some (.int (eI res.1))) L0 res.2) L0 M 0 0 125 [(0, .ref (gA G a0)), (3, .int (eI x3)), (4, .int (eI x4)), (6, .int (eI x6))] [.int (eI x91), .int (eI x90)] := by
  unfold sX12_aim_b125 at h
  refine r_ior (pc := 125) dX12_aim_125 ?_
  refine r_istore (pc := 126) (lv' := [(5, .int (eI (oI x90 x91))), (0, .ref (gA G a0)), (3, .int (eI x3)), (4, .int (eI x4)), (6, .int (eI x6))]) dX12_aim_126 (Nat.le_of_ble_eq_true rfl) rfl ?_
  obtain ⟨v_1, hv_1, h⟩ := ob h
  refine r_iinc (pc := 128) (y := v_1) (lv' := [(6, .int (eI v_1)), (5, .int (eI (oI x90 x91))), (0, .ref (gA G a0)), (3, .int (eI x3)), (4, .int (eI x4))]) dX12_aim_128 4 rfl (Option.some.inj hv_1) (Nat.le_of_ble_eq_true rfl) rfl ?_
  refine r_goto (pc := 131) (tgt := 45) dX12_aim_131 (by decide) ?_
  refine r_sub (lv' := [(0, .ref (gA G a0)), (3, .int (eI x3)), (4, .int (eI x4)), (5, .int (eI (oI x90 x91))), (6, .int (eI v_1))]) [2, 3, 4, 1, 0] rfl ?_
  exact hK45 _ _ _ _ h
set_option maxHeartbeats 4000000 in
set_option maxRecDepth 100000 in
theorem bX12_aim_b108 {G : GG} (a0 : Nat) (x1 : Int) (x2 : Int) (x3 : Int) (oa0 : OB L0 a0 12) {K45 : Int → Int → Int → MM → Option (Int × MM)} (x4 : Int) (x5 : Int) (x6 : Int) (x90 : Int) (M : MM) {res : (Int × MM)} (hK45 : ∀ (x4 : Int) (x5 : Int) (x6 : Int) (M : MM), K45 x4 x5 x6 M = some res → VV G xX12_aim (ZM G xX12_aim (some (.int (eI res.1))) L0 res.2) L0 M 0 0 45 [(0, .ref (gA G a0)), (3, .int (eI x3)), (4, .int (eI x4)), (5, .int (eI x5)), (6, .int (eI x6))] [])  (h : sX12_aim_b108 a0 x1 x2 x3 K45 x4 x5 x6 x90 M = some res) : VV G xX12_aim (ZM G xX12_aim (some (.int (eI res.1))) L0 res.2) L0 M 0 0 108 [(0, .ref (gA G a0)), (3, .int (eI x3)), (4, .int (eI x4)), (5, .int (eI x5)), (6, .int (eI x6))] [.int (eI x90)] := by
  unfold sX12_aim_b108 at h
  refine r_istore (pc := 108) (lv' := [(7, .int (eI x90)), (0, .ref (gA G a0)), (3, .int (eI x3)), (4, .int (eI x4)), (5, .int (eI x5)), (6, .int (eI x6))]) dX12_aim_108 (Nat.le_of_ble_eq_true rfl) rfl ?_
  refine r_iload (pc := 110) dX12_aim_110 4 rfl ?_
  refine r_iload (pc := 112) dX12_aim_112 0 rfl ?_
  refine r_if_eq (pc := 114) (tgt := 124) dX12_aim_114 (by decide) rfl (fun c_1 => ?_) (fun c_1 => ?_)
  · replace h := (if_pos c_1).symm.trans h
    refine r_iconst (pc := 124) (v := 0) dX12_aim_124 (by decide +kernel) ?_
    refine r_sub (lv' := [(0, .ref (gA G a0)), (3, .int (eI x3)), (4, .int (eI x4)), (6, .int (eI x6))]) [1, 2, 3, 5] rfl ?_
    exact bX12_aim_b125 a0 x1 x2 x3 oa0 _ _ _ _ _ hK45 h
  · replace h := (if_neg c_1).symm.trans h
    refine r_iconst (pc := 117) (v := 1) dX12_aim_117 (by decide +kernel) ?_
    refine r_iload (pc := 118) dX12_aim_118 5 rfl ?_
    obtain ⟨c_2, h⟩ := og h
    refine r_ishl (pc := 120) rfl c_2 dX12_aim_120 ?_
    refine r_goto (pc := 121) (tgt := 125) dX12_aim_121 (by decide) ?_
    refine r_sub (lv' := [(0, .ref (gA G a0)), (3, .int (eI x3)), (4, .int (eI x4)), (6, .int (eI x6))]) [1, 2, 3, 5] rfl ?_
    exact bX12_aim_b125 a0 x1 x2 x3 oa0 _ _ _ _ _ hK45 h
set_option maxHeartbeats 4000000 in
set_option maxRecDepth 100000 in
theorem bX12_aim_b107 {G : GG} (a0 : Nat) (x1 : Int) (x2 : Int) (x3 : Int) (oa0 : OB L0 a0 12) {K45 : Int → Int → Int → MM → Option (Int × MM)} (x4 : Int) (x5 : Int) (x6 : Int) (M : MM) {res : (Int × MM)} (hK45 : ∀ (x4 : Int) (x5 : Int) (x6 : Int) (M : MM), K45 x4 x5 x6 M = some res → VV G xX12_aim (ZM G xX12_aim (some (.int (eI res.1))) L0 res.2) L0 M 0 0 45 [(0, .ref (gA G a0)), (3, .int (eI x3)), (4, .int (eI x4)), (5, .int (eI x5)), (6, .int (eI x6))] [])  (h : sX12_aim_b107 a0 x1 x2 x3 K45 x4 x5 x6 M = some res) : VV G xX12_aim (ZM G xX12_aim (some (.int (eI res.1))) L0 res.2) L0 M 0 0 107 [(0, .ref (gA G a0)), (3, .int (eI x3)), (4, .int (eI x4)), (5, .int (eI x5)), (6, .int (eI x6))] [] := by
  unfold sX12_aim_b107 at h
  refine r_iconst (pc := 107) (v := 0) dX12_aim_107 (by decide +kernel) ?_
  refine r_sub (lv' := [(0, .ref (gA G a0)), (3, .int (eI x3)), (4, .int (eI x4)), (5, .int (eI x5)), (6, .int (eI x6))]) [0, 1, 2, 3, 4] rfl ?_
  exact bX12_aim_b108 a0 x1 x2 x3 oa0 _ _ _ _ _ hK45 h
set_option maxHeartbeats 4000000 in
set_option maxRecDepth 100000 in
theorem bX12_aim_b84 {G : GG} (a0 : Nat) (x1 : Int) (x2 : Int) (x3 : Int) (oa0 : OB L0 a0 12) {K45 : Int → Int → Int → MM → Option (Int × MM)} (x4 : Int) (x5 : Int) (x6 : Int) (M : MM) {res : (Int × MM)} (hK45 : ∀ (x4 : Int) (x5 : Int) (x6 : Int) (M : MM), K45 x4 x5 x6 M = some res → VV G xX12_aim (ZM G xX12_aim (some (.int (eI res.1))) L0 res.2) L0 M 0 0 45 [(0, .ref (gA G a0)), (3, .int (eI x3)), (4, .int (eI x4)), (5, .int (eI x5)), (6, .int (eI x6))] [])  (h : sX12_aim_b84 a0 x1 x2 x3 K45 x4 x5 x6 M = some res) : VV G xX12_aim (ZM G xX12_aim (some (.int (eI res.1))) L0 res.2) L0 M 0 0 84 [(0, .ref (gA G a0)), (3, .int (eI x3)), (4, .int (eI x4)), (5, .int (eI x5)), (6, .int (eI x6))] [] := by
  unfold sX12_aim_b84 at h
  refine r_iconst (pc := 84) (v := 0) dX12_aim_84 (by decide +kernel) ?_
  refine r_goto (pc := 85) (tgt := 108) dX12_aim_85 (by decide) ?_
  refine r_sub (lv' := [(0, .ref (gA G a0)), (3, .int (eI x3)), (4, .int (eI x4)), (5, .int (eI x5)), (6, .int (eI x6))]) [0, 1, 2, 3, 4] rfl ?_
  exact bX12_aim_b108 a0 x1 x2 x3 oa0 _ _ _ _ _ hK45 h
set_option maxHeartbeats 4000000 in
set_option maxRecDepth 100000 in
theorem bX12_aim_b45 {G : GG} (a0 : Nat) (x1 : Int) (x2 : Int) (x3 : Int) (oa0 : OB L0 a0 12) {res : (Int × MM)} : ∀ (n : Nat) (x4 : Int) (x5 : Int) (x6 : Int) (M : MM)  (h : sX12_aim_b45 a0 x1 x2 x3 n x4 x5 x6 M = some res), VV G xX12_aim (ZM G xX12_aim (some (.int (eI res.1))) L0 res.2) L0 M 0 0 45 [(0, .ref (gA G a0)), (3, .int (eI x3)), (4, .int (eI x4)), (5, .int (eI x5)), (6, .int (eI x6))] [] := by
  intro n
  induction n with
  | zero =>
    intro x4 x5 x6 M h
    rw [sX12_aim_b45] at h
    cases h
  | succ n ih =>
    intro x4 x5 x6 M h
    rw [sX12_aim_b45] at h
    refine r_iload (pc := 45) dX12_aim_45 4 rfl ?_
    refine r_aload_n (pc := 47) (i := 0) dX12_aim_47 rfl 0 rfl ?_
    obtain ⟨q_1, hq_1, h⟩ := ob h
    refine r_cV (pc := 48) (Y := xX12_cluesTold) (As := []) (rest := [.int (eI x6)]) (v := (some (.int (eI q_1)))) (st1 := [.int (eI q_1), .int (eI x6)]) ck_X12_aim_427 (kX12_cluesTold a0 M oa0 hq_1) oa0 rfl rfl rfl rfl (Nat.le_of_ble_eq_true rfl) ⟨rfl, rfl⟩ rfl dX12_aim_48 ?_
    refine r_icmp_ge (pc := 51) (tgt := 134) dX12_aim_51 (by decide) rfl rfl (fun c_2 => ?_) (fun c_2 => ?_)
    · replace h := (if_pos c_2).symm.trans h
      refine r_iload (pc := 134) dX12_aim_134 3 rfl ?_
      cases h
      exact r_iret (pc := 136) rfl rfl (Nat.le_refl 0) (Nat.le_refl 0) dX12_aim_136
    · replace h := (if_neg c_2).symm.trans h
      refine r_aload_n (pc := 54) (i := 0) dX12_aim_54 rfl 0 rfl ?_
      refine r_iload (pc := 55) dX12_aim_55 4 rfl ?_
      obtain ⟨q_3, hq_3, h⟩ := ob h
      refine r_cV (pc := 57) (Y := xX12_weigh) (As := [.int (eI x6)]) (rest := []) (v := none) (st1 := []) ck_X12_aim_449 (kX12_weigh a0 x6 M oa0 hq_3) oa0 rfl rfl rfl rfl (Nat.le_of_ble_eq_true rfl) ⟨rfl, rfl⟩ rfl dX12_aim_57 ?_
      refine r_iload_n (pc := 60) (i := 3) dX12_aim_60 rfl 1 rfl ?_
      refine r_iconst (pc := 61) (v := 1) dX12_aim_61 (by decide +kernel) ?_
      refine r_icmp_ne (pc := 62) (tgt := 88) dX12_aim_62 (by decide) rfl wl_1 (fun c_4 => ?_) (fun c_4 => ?_)
      · replace h := (if_neg c_4).symm.trans h
        refine r_iload (pc := 88) dX12_aim_88 2 rfl ?_
        refine r_iconst (pc := 90) (v := (-1)) dX12_aim_90 (by decide +kernel) ?_
        refine r_icmp_ne (pc := 91) (tgt := 107) dX12_aim_91 (by decide) rfl wl_m1 (fun c_5 => ?_) (fun c_5 => ?_)
        · replace h := (if_neg c_5).symm.trans h
          refine r_sub (lv' := [(0, .ref (gA G a0)), (3, .int (eI x3)), (4, .int (eI x4)), (5, .int (eI x5)), (6, .int (eI x6))]) [0, 1, 2, 3, 4] rfl ?_
          exact bX12_aim_b107 a0 x1 x2 x3 oa0 _ _ _ _ (fun v0 v1 v2 v3 v4 => ih v0 v1 v2 v3 v4) h
        · replace h := (if_pos c_5).symm.trans h
          refine r_aload_n (pc := 94) (i := 0) dX12_aim_94 rfl 0 rfl ?_
          refine r_getJ (pc := 95) fg_12_433 rfl oa0 dX12_aim_95 ?_
          refine r_lconst (pc := 98) (v := 0) dX12_aim_98 (by decide +kernel) ?_
          refine r_lcmp_le (pc := 99) (tgt := 107) dX12_aim_99 dX12_aim_100 (by decide) rfl wj_0 (fun c_6 => ?_) (fun c_6 => ?_)
          · replace h := (if_pos c_6).symm.trans h
            refine r_sub (lv' := [(0, .ref (gA G a0)), (3, .int (eI x3)), (4, .int (eI x4)), (5, .int (eI x5)), (6, .int (eI x6))]) [0, 1, 2, 3, 4] rfl ?_
            exact bX12_aim_b107 a0 x1 x2 x3 oa0 _ _ _ _ (fun v0 v1 v2 v3 v4 => ih v0 v1 v2 v3 v4) h
          · replace h := (if_neg c_6).symm.trans h
            refine r_iconst (pc := 103) (v := 1) dX12_aim_103 (by decide +kernel) ?_
            refine r_goto (pc := 104) (tgt := 108) dX12_aim_104 (by decide) ?_
            refine r_sub (lv' := [(0, .ref (gA G a0)), (3, .int (eI x3)), (4, .int (eI x4)), (5, .int (eI x5)), (6, .int (eI x6))]) [0, 1, 2, 3, 4] rfl ?_
            exact bX12_aim_b108 a0 x1 x2 x3 oa0 _ _ _ _ _ (fun v0 v1 v2 v3 v4 => ih v0 v1 v2 v3 v4) h
      · replace h := (if_pos c_4).symm.trans h
        refine r_iload (pc := 65) dX12_aim_65 2 rfl ?_
        refine r_iconst (pc := 67) (v := (-1)) dX12_aim_67 (by decide +kernel) ?_
        refine r_icmp_eq (pc := 68) (tgt := 84) dX12_aim_68 (by decide) rfl wl_m1 (fun c_7 => ?_) (fun c_7 => ?_)
        · replace h := (if_pos c_7).symm.trans h
          refine r_sub (lv' := [(0, .ref (gA G a0)), (3, .int (eI x3)), (4, .int (eI x4)), (5, .int (eI x5)), (6, .int (eI x6))]) [0, 1, 2, 3, 4] rfl ?_
          exact bX12_aim_b84 a0 x1 x2 x3 oa0 _ _ _ _ (fun v0 v1 v2 v3 v4 => ih v0 v1 v2 v3 v4) h
        · replace h := (if_neg c_7).symm.trans h
          refine r_aload_n (pc := 71) (i := 0) dX12_aim_71 rfl 0 rfl ?_
          obtain ⟨q_8, hq_8, h⟩ := ob h
          refine r_cV (pc := 72) (Y := xX12_aimNow) (As := []) (rest := []) (v := (some (.int (eI q_8)))) (st1 := [.int (eI q_8)]) ck_X12_aim_461 (kX12_aimNow a0 q_3 oa0 hq_8) oa0 rfl rfl rfl rfl (Nat.le_of_ble_eq_true rfl) ⟨rfl, rfl⟩ rfl dX12_aim_72 ?_
          refine r_iload (pc := 75) dX12_aim_75 2 rfl ?_
          refine r_icmp_eq (pc := 77) (tgt := 84) dX12_aim_77 (by decide) rfl rfl (fun c_9 => ?_) (fun c_9 => ?_)
          · replace h := (if_pos c_9).symm.trans h
            refine r_sub (lv' := [(0, .ref (gA G a0)), (3, .int (eI x3)), (4, .int (eI x4)), (5, .int (eI x5)), (6, .int (eI x6))]) [0, 1, 2, 3, 4] rfl ?_
            exact bX12_aim_b84 a0 x1 x2 x3 oa0 _ _ _ _ (fun v0 v1 v2 v3 v4 => ih v0 v1 v2 v3 v4) h
          · replace h := (if_neg c_9).symm.trans h
            refine r_iconst (pc := 80) (v := 1) dX12_aim_80 (by decide +kernel) ?_
            refine r_goto (pc := 81) (tgt := 108) dX12_aim_81 (by decide) ?_
            refine r_sub (lv' := [(0, .ref (gA G a0)), (3, .int (eI x3)), (4, .int (eI x4)), (5, .int (eI x5)), (6, .int (eI x6))]) [0, 1, 2, 3, 4] rfl ?_
            exact bX12_aim_b108 a0 x1 x2 x3 oa0 _ _ _ _ _ (fun v0 v1 v2 v3 v4 => ih v0 v1 v2 v3 v4) h
set_option maxHeartbeats 4000000 in
set_option maxRecDepth 100000 in
theorem bX12_aim_b0 {G : GG} (a0 : Nat) (x1 : Int) (x2 : Int) (x3 : Int) (oa0 : OB L0 a0 12)  (M : MM) {res : (Int × MM)}  (h : sX12_aim_b0 a0 x1 x2 x3 M = some res) : VV G xX12_aim (ZM G xX12_aim (some (.int (eI res.1))) L0 res.2) L0 M 0 0 0 [(0, .ref (gA G a0)), (1, .int (eI x1)), (2, .int (eI x2)), (3, .int (eI x3))] [] := by
  unfold sX12_aim_b0 at h
  refine r_aload_n (pc := 0) (i := 0) dX12_aim_0 rfl 0 rfl ?_
  refine r_iconst (pc := 1) (v := 0) dX12_aim_1 (by decide +kernel) ?_
  obtain ⟨M_1, hM_1, h⟩ := ob h
  refine r_putI (pc := 2) fg_12_97 rfl oa0 hM_1 rfl rfl dX12_aim_2 ?_
  refine r_iload_n (pc := 5) (i := 3) dX12_aim_5 rfl 3 rfl ?_
  refine r_iconst (pc := 6) (v := 0) dX12_aim_6 (by decide +kernel) ?_
  refine r_iconst (pc := 7) (v := 2) dX12_aim_7 (by decide +kernel) ?_
  refine r_cS (pc := 8) (Y := xX12_in) (As := [.int (eI x3), .int (eI 0), .int (eI 2)]) (rest := []) (v := (some (.int (eI (sX12_in x3 0 2))))) (st1 := [.int (eI (sX12_in x3 0 2))]) ck_X12_aim_105 (kX12_in x3 0 2 M_1 ) rfl rfl (Nat.le_of_ble_eq_true rfl) ⟨rfl, rfl⟩ rfl dX12_aim_8 ?_
  refine r_if_eq (pc := 11) (tgt := 23) dX12_aim_11 (by decide) rfl (fun c_2 => ?_) (fun c_2 => ?_)
  · replace h := (if_pos c_2).symm.trans h
    refine r_bipush (pc := 23) (v := (-2)) dX12_aim_23 (by decide +kernel) ?_
    cases h
    exact r_iret (pc := 25) rfl rfl (Nat.le_refl 0) (Nat.le_refl 0) dX12_aim_25
  · replace h := (if_neg c_2).symm.trans h
    refine r_aload_n (pc := 14) (i := 0) dX12_aim_14 rfl 0 rfl ?_
    refine r_iload_n (pc := 15) (i := 1) dX12_aim_15 rfl 1 rfl ?_
    refine r_iload_n (pc := 16) (i := 2) dX12_aim_16 rfl 2 rfl ?_
    obtain ⟨q_3, hq_3, h⟩ := ob h
    refine r_cV (pc := 17) (Y := xX12_layClues) (As := [.int (eI x1), .int (eI x2)]) (rest := []) (v := (some (.int (eI (q_3.1))))) (st1 := [.int (eI (q_3.1))]) ck_X12_aim_452 (kX12_layClues a0 x1 x2 M_1 oa0 hq_3) oa0 rfl rfl rfl rfl (Nat.le_of_ble_eq_true rfl) ⟨rfl, rfl⟩ rfl dX12_aim_17 ?_
    refine r_if_ne (pc := 20) (tgt := 26) dX12_aim_20 (by decide) rfl (fun c_4 => ?_) (fun c_4 => ?_)
    · replace h := (if_neg c_4).symm.trans h
      refine r_aload_n (pc := 26) (i := 0) dX12_aim_26 rfl 0 rfl ?_
      obtain ⟨q_5, hq_5, h⟩ := ob h
      refine r_cV (pc := 27) (Y := xX12_aimNow) (As := []) (rest := []) (v := (some (.int (eI q_5)))) (st1 := [.int (eI q_5)]) ck_X12_aim_461 (kX12_aimNow a0 q_3.2 oa0 hq_5) oa0 rfl rfl rfl rfl (Nat.le_of_ble_eq_true rfl) ⟨rfl, rfl⟩ rfl dX12_aim_27 ?_
      refine r_istore (pc := 30) (lv' := [(4, .int (eI q_5)), (0, .ref (gA G a0)), (1, .int (eI x1)), (2, .int (eI x2)), (3, .int (eI x3))]) dX12_aim_30 (Nat.le_of_ble_eq_true rfl) rfl ?_
      refine r_iload_n (pc := 32) (i := 3) dX12_aim_32 rfl 4 rfl ?_
      refine r_if_ne (pc := 33) (tgt := 39) dX12_aim_33 (by decide) rfl (fun c_6 => ?_) (fun c_6 => ?_)
      · replace h := (if_neg c_6).symm.trans h
        refine r_iconst (pc := 39) (v := 0) dX12_aim_39 (by decide +kernel) ?_
        refine r_istore (pc := 40) (lv' := [(5, .int (eI 0)), (4, .int (eI q_5)), (0, .ref (gA G a0)), (1, .int (eI x1)), (2, .int (eI x2)), (3, .int (eI x3))]) dX12_aim_40 (Nat.le_of_ble_eq_true rfl) rfl ?_
        refine r_iconst (pc := 42) (v := 0) dX12_aim_42 (by decide +kernel) ?_
        refine r_istore (pc := 43) (lv' := [(6, .int (eI 0)), (5, .int (eI 0)), (4, .int (eI q_5)), (0, .ref (gA G a0)), (1, .int (eI x1)), (2, .int (eI x2)), (3, .int (eI x3))]) dX12_aim_43 (Nat.le_of_ble_eq_true rfl) rfl ?_
        refine r_sub (lv' := [(0, .ref (gA G a0)), (3, .int (eI x3)), (4, .int (eI q_5)), (5, .int (eI 0)), (6, .int (eI 0))]) [3, 6, 2, 1, 0] rfl ?_
        exact bX12_aim_b45 a0 x1 x2 x3 oa0 _ _ _ _ _ h
      · replace h := (if_pos c_6).symm.trans h
        refine r_iload (pc := 36) dX12_aim_36 0 rfl ?_
        cases h
        exact r_iret (pc := 38) rfl rfl (Nat.le_refl 0) (Nat.le_refl 0) dX12_aim_38
    · replace h := (if_pos c_4).symm.trans h
      refine r_bipush (pc := 23) (v := (-2)) dX12_aim_23 (by decide +kernel) ?_
      cases h
      exact r_iret (pc := 25) rfl rfl (Nat.le_refl 0) (Nat.le_refl 0) dX12_aim_25
theorem kX12_aim {G : GG} (a0 : Nat) (x1 : Int) (x2 : Int) (x3 : Int) (M : MM) {res : (Int × MM)} (oa0 : OB L0 a0 12) (h : sX12_aim a0 x1 x2 x3 M = some res) : CO G xX12_aim [.ref (gA G a0), .int (eI x1), .int (eI x2), .int (eI x3)] L0 M (some (.int (eI res.1))) L0 res.2 := CO_of (by decide +kernel) (Nat.le_of_ble_eq_true rfl) (bX12_aim_b0 a0 x1 x2 x3 oa0 M h)
abbrev xX12_luck : XX := (yX12_luck, cX12_luck, 5, (some .long), 5, 114, 0, 0)
theorem ck_X12_luck_105 : CKS xX12_luck 105 xX12_in 3 := ⟨⟨tb_i 1622 (by decide +kernel) (by decide +kernel), tb_i 152 (by decide +kernel) (by decide +kernel), tb_i 1624 (by decide +kernel) (by decide +kernel), ⟨by decide +kernel, by decide +kernel, by decide +kernel⟩, by decide, by decide⟩, tb_i 1623 (by decide +kernel) (by decide +kernel)⟩
theorem ck_X12_luck_441 : CKV xX12_luck 441 xX12_around 2 := ⟨⟨tb_i 1932 (by decide +kernel) (by decide +kernel), tb_i 152 (by decide +kernel) (by decide +kernel), tb_i 1935 (by decide +kernel) (by decide +kernel), ⟨by decide +kernel, by decide +kernel, by decide +kernel⟩, by decide, by decide⟩, tb_i 1934 (by decide +kernel) (by decide +kernel), tb_i 96 (by decide +kernel) (by decide +kernel)⟩
theorem ck_X12_luck_452 : CKV xX12_luck 452 xX12_layClues 2 := ⟨⟨tb_i 1904 (by decide +kernel) (by decide +kernel), tb_i 152 (by decide +kernel) (by decide +kernel), tb_i 1907 (by decide +kernel) (by decide +kernel), ⟨by decide +kernel, by decide +kernel, by decide +kernel⟩, by decide, by decide⟩, tb_i 1906 (by decide +kernel) (by decide +kernel), tb_i 92 (by decide +kernel) (by decide +kernel)⟩
theorem ck_X12_luck_455 : CKS xX12_luck 455 xX12_least 3 := ⟨⟨tb_i 1916 (by decide +kernel) (by decide +kernel), tb_i 152 (by decide +kernel) (by decide +kernel), tb_i 1918 (by decide +kernel) (by decide +kernel), ⟨by decide +kernel, by decide +kernel, by decide +kernel⟩, by decide, by decide⟩, tb_i 1917 (by decide +kernel) (by decide +kernel)⟩
def sX12_luck_b51 (a0 : Nat) (x1 : Int) (x2 : Int) (x3 : Int) (x4 : Int)   (M : MM) : Option (Int × MM) := (some (((-1), M)))
def sX12_luck_b0 (a0 : Nat) (x1 : Int) (x2 : Int) (x3 : Int) (x4 : Int)   (M : MM) : Option (Int × MM) := ((some (mU M a0 0 0)).bind fun M_1 => ((sX12_layClues a0 x1 x2 M_1).bind fun q_2 => (if wI (q_2.1) = 0 then (sX12_luck_b51 a0 x1 x2 x3 x4 q_2.2) else (if wI (sX12_in x3 0 7) = 0 then (sX12_luck_b51 a0 x1 x2 x3 x4 q_2.2) else (if wJ (q_2.2 a0 48) ≤ 0 then (sX12_luck_b51 a0 x1 x2 x3 x4 q_2.2) else ((sX12_around a0 x3 1 q_2.2).bind fun q_6 => ((sX12_least q_6 (q_2.2 a0 48) x4).bind fun q_7 => (some ((q_7, q_2.2))))))))))
def sX12_luck (a0 : Nat) (x1 : Int) (x2 : Int) (x3 : Int) (x4 : Int) (M : MM) : Option (Int × MM) := sX12_luck_b0 a0 x1 x2 x3 x4 M
set_option maxHeartbeats 4000000 in
set_option maxRecDepth 100000 in
theorem bX12_luck_b51 {G : GG} (a0 : Nat) (x1 : Int) (x2 : Int) (x3 : Int) (x4 : Int) (oa0 : OB L0 a0 12)  (M : MM) {res : (Int × MM)}  (h : sX12_luck_b51 a0 x1 x2 x3 x4 M = some res) : VV G xX12_luck (ZM G xX12_luck (some (.long (eJ res.1))) L0 res.2) L0 M 0 0 51 [] [] := by
  unfold sX12_luck_b51 at h
  refine r_ldc2 (pc := 51) (v := (-1)) kc_12_459 dX12_luck_51 ?_
  cases h
  exact r_lret (pc := 54) rfl (Nat.le_refl 0) (Nat.le_refl 0) dX12_luck_54
set_option maxHeartbeats 4000000 in
set_option maxRecDepth 100000 in
theorem bX12_luck_b0 {G : GG} (a0 : Nat) (x1 : Int) (x2 : Int) (x3 : Int) (x4 : Int) (oa0 : OB L0 a0 12)  (M : MM) {res : (Int × MM)}  (h : sX12_luck_b0 a0 x1 x2 x3 x4 M = some res) : VV G xX12_luck (ZM G xX12_luck (some (.long (eJ res.1))) L0 res.2) L0 M 0 0 0 [(0, .ref (gA G a0)), (1, .int (eI x1)), (2, .int (eI x2)), (3, .int (eI x3)), (4, .int (eI x4))] [] := by
  unfold sX12_luck_b0 at h
  refine r_aload_n (pc := 0) (i := 0) dX12_luck_0 rfl 0 rfl ?_
  refine r_iconst (pc := 1) (v := 0) dX12_luck_1 (by decide +kernel) ?_
  obtain ⟨M_1, hM_1, h⟩ := ob h
  refine r_putI (pc := 2) fg_12_97 rfl oa0 hM_1 rfl rfl dX12_luck_2 ?_
  refine r_aload_n (pc := 5) (i := 0) dX12_luck_5 rfl 0 rfl ?_
  refine r_iload_n (pc := 6) (i := 1) dX12_luck_6 rfl 1 rfl ?_
  refine r_iload_n (pc := 7) (i := 2) dX12_luck_7 rfl 2 rfl ?_
  obtain ⟨q_2, hq_2, h⟩ := ob h
  refine r_cV (pc := 8) (Y := xX12_layClues) (As := [.int (eI x1), .int (eI x2)]) (rest := []) (v := (some (.int (eI (q_2.1))))) (st1 := [.int (eI (q_2.1))]) ck_X12_luck_452 (kX12_layClues a0 x1 x2 M_1 oa0 hq_2) oa0 rfl rfl rfl rfl (Nat.le_of_ble_eq_true rfl) ⟨rfl, rfl⟩ rfl dX12_luck_8 ?_
  refine r_if_eq (pc := 11) (tgt := 51) dX12_luck_11 (by decide) rfl (fun c_3 => ?_) (fun c_3 => ?_)
  · replace h := (if_pos c_3).symm.trans h
    refine r_sub (lv' := []) [] rfl ?_
    exact bX12_luck_b51 a0 x1 x2 x3 x4 oa0 _ h
  · replace h := (if_neg c_3).symm.trans h
    refine r_iload_n (pc := 14) (i := 3) dX12_luck_14 rfl 3 rfl ?_
    refine r_iconst (pc := 15) (v := 0) dX12_luck_15 (by decide +kernel) ?_
    refine r_bipush (pc := 16) (v := 7) dX12_luck_16 (by decide +kernel) ?_
    refine r_cS (pc := 18) (Y := xX12_in) (As := [.int (eI x3), .int (eI 0), .int (eI 7)]) (rest := []) (v := (some (.int (eI (sX12_in x3 0 7))))) (st1 := [.int (eI (sX12_in x3 0 7))]) ck_X12_luck_105 (kX12_in x3 0 7 q_2.2 ) rfl rfl (Nat.le_of_ble_eq_true rfl) ⟨rfl, rfl⟩ rfl dX12_luck_18 ?_
    refine r_if_eq (pc := 21) (tgt := 51) dX12_luck_21 (by decide) rfl (fun c_4 => ?_) (fun c_4 => ?_)
    · replace h := (if_pos c_4).symm.trans h
      refine r_sub (lv' := []) [] rfl ?_
      exact bX12_luck_b51 a0 x1 x2 x3 x4 oa0 _ h
    · replace h := (if_neg c_4).symm.trans h
      refine r_aload_n (pc := 24) (i := 0) dX12_luck_24 rfl 0 rfl ?_
      refine r_getJ (pc := 25) fg_12_433 rfl oa0 dX12_luck_25 ?_
      refine r_lconst (pc := 28) (v := 0) dX12_luck_28 (by decide +kernel) ?_
      refine r_lcmp_le (pc := 29) (tgt := 51) dX12_luck_29 dX12_luck_30 (by decide) rfl wj_0 (fun c_5 => ?_) (fun c_5 => ?_)
      · replace h := (if_pos c_5).symm.trans h
        refine r_sub (lv' := []) [] rfl ?_
        exact bX12_luck_b51 a0 x1 x2 x3 x4 oa0 _ h
      · replace h := (if_neg c_5).symm.trans h
        refine r_aload_n (pc := 33) (i := 0) dX12_luck_33 rfl 0 rfl ?_
        refine r_iload_n (pc := 34) (i := 3) dX12_luck_34 rfl 3 rfl ?_
        refine r_lconst (pc := 35) (v := 1) dX12_luck_35 (by decide +kernel) ?_
        obtain ⟨q_6, hq_6, h⟩ := ob h
        refine r_cV (pc := 36) (Y := xX12_around) (As := [.int (eI x3), .long (eJ 1)]) (rest := []) (v := (some (.long (eJ q_6)))) (st1 := [.long (eJ q_6)]) ck_X12_luck_441 (kX12_around a0 x3 1 q_2.2 oa0 hq_6) oa0 rfl rfl rfl rfl (Nat.le_of_ble_eq_true rfl) ⟨rfl, rfl⟩ rfl dX12_luck_36 ?_
        refine r_aload_n (pc := 39) (i := 0) dX12_luck_39 rfl 0 rfl ?_
        refine r_getJ (pc := 40) fg_12_433 rfl oa0 dX12_luck_40 ?_
        refine r_iload (pc := 43) dX12_luck_43 4 rfl ?_
        obtain ⟨q_7, hq_7, h⟩ := ob h
        refine r_cS (pc := 45) (Y := xX12_least) (As := [.long (eJ q_6), .long (eJ (q_2.2 a0 48)), .int (eI x4)]) (rest := []) (v := (some (.long (eJ q_7)))) (st1 := [.long (eJ q_7)]) ck_X12_luck_455 (kX12_least q_6 (q_2.2 a0 48) x4 q_2.2  hq_7) rfl rfl (Nat.le_of_ble_eq_true rfl) ⟨rfl, rfl⟩ rfl dX12_luck_45 ?_
        refine r_goto (pc := 48) (tgt := 54) dX12_luck_48 (by decide) ?_
        cases h
        exact r_lret (pc := 54) rfl (Nat.le_refl 0) (Nat.le_refl 0) dX12_luck_54
theorem kX12_luck {G : GG} (a0 : Nat) (x1 : Int) (x2 : Int) (x3 : Int) (x4 : Int) (M : MM) {res : (Int × MM)} (oa0 : OB L0 a0 12) (h : sX12_luck a0 x1 x2 x3 x4 M = some res) : CO G xX12_luck [.ref (gA G a0), .int (eI x1), .int (eI x2), .int (eI x3), .int (eI x4)] L0 M (some (.long (eJ res.1))) L0 res.2 := CO_of (by decide +kernel) (Nat.le_of_ble_eq_true rfl) (bX12_luck_b0 a0 x1 x2 x3 x4 oa0 M h)
abbrev xX12_canTell : XX := (yX12_canTell, cX12_canTell, 1, (some .boolean), 0, 0, 0, 0)
def sX12_canTell_b0 (a0 : Nat) (M : MM)   : Int := (if 15 < wI ((M a0 26) * (M a0 27)) then 0 else 1)
def sX12_canTell (a0 : Nat) (M : MM) : Int := sX12_canTell_b0 a0 M
set_option maxHeartbeats 4000000 in
set_option maxRecDepth 100000 in
theorem bX12_canTell_b0 {G : GG} (a0 : Nat) (M : MM) (oa0 : OB L0 a0 12)  {res : Int}  (h : sX12_canTell_b0 a0 M = res) : VV G xX12_canTell (ZM G xX12_canTell (some (.int (eI res))) L0 M) L0 M 0 0 0 [(0, .ref (gA G a0))] [] := by
  unfold sX12_canTell_b0 at h
  refine r_aload_n (pc := 0) (i := 0) dX12_canTell_0 rfl 0 rfl ?_
  refine r_getI (pc := 1) fg_12_319 rfl oa0 dX12_canTell_1 ?_
  refine r_aload_n (pc := 4) (i := 0) dX12_canTell_4 rfl 0 rfl ?_
  refine r_getI (pc := 5) fg_12_322 rfl oa0 dX12_canTell_5 ?_
  refine r_imul (pc := 8) dX12_canTell_8 ?_
  refine r_bipush (pc := 9) (v := 15) dX12_canTell_9 (by decide +kernel) ?_
  refine r_icmp_gt (pc := 11) (tgt := 18) dX12_canTell_11 (by decide) rfl wl_15 (fun c_1 => ?_) (fun c_1 => ?_)
  · replace h := (if_pos c_1).symm.trans h
    refine r_iconst (pc := 18) (v := 0) dX12_canTell_18 (by decide +kernel) ?_
    cases h
    exact r_iret (pc := 19) rfl (zn_ok (Or.inl rfl)).1 (Nat.le_refl 0) (Nat.le_refl 0) dX12_canTell_19
  · replace h := (if_neg c_1).symm.trans h
    refine r_iconst (pc := 14) (v := 1) dX12_canTell_14 (by decide +kernel) ?_
    refine r_goto (pc := 15) (tgt := 19) dX12_canTell_15 (by decide) ?_
    cases h
    exact r_iret (pc := 19) rfl (zn_ok (Or.inr rfl)).1 (Nat.le_refl 0) (Nat.le_refl 0) dX12_canTell_19
theorem kX12_canTell {G : GG} (a0 : Nat) (M : MM) (oa0 : OB L0 a0 12) : CO G xX12_canTell [.ref (gA G a0)] L0 M (some (.int (eI (sX12_canTell a0 M)))) L0 M := CO_of (by decide +kernel) (Nat.le_of_ble_eq_true rfl) (bX12_canTell_b0 a0 M oa0 rfl)
abbrev xX12_plain : XX := (yX12_plain, cX12_plain, 2, none, 0, 0, 0, 0)
def sX12_plain_b2 (a0 : Nat)  : Nat → Int → MM → Option MM
  | 0, _, _ => none
  | n + 1, x1, M => (if 8 ≤ wI x1 then (some (M)) else (if 0 ≤ wI x1 ∧ wI x1 < 8 then ((some (mU M (gR a0 52) (wI x1).toNat x1)).bind fun M_4 => ((some (x1 + 1)).bind fun v_5 => (sX12_plain_b2 a0 n v_5 M_4))) else none))
def sX12_plain_b0 (a0 : Nat)   (M : MM) : Option MM := (sX12_plain_b2 a0 FU 0 M)
def sX12_plain (a0 : Nat) (M : MM) : Option MM := sX12_plain_b0 a0 M
set_option maxHeartbeats 4000000 in
set_option maxRecDepth 100000 in
theorem bX12_plain_b2 {G : GG} (a0 : Nat) (oa0 : OB L0 a0 12) {res : MM} : ∀ (n : Nat) (x1 : Int) (M : MM)  (h : sX12_plain_b2 a0 n x1 M = some res), VV G xX12_plain (ZM G xX12_plain (none) L0 res) L0 M 0 0 2 [(0, .ref (gA G a0)), (1, .int (eI x1))] [] := by
  intro n
  induction n with
  | zero =>
    intro x1 M h
    rw [sX12_plain_b2] at h
    cases h
  | succ n ih =>
    intro x1 M h
    rw [sX12_plain_b2] at h
    refine r_iload_n (pc := 2) (i := 1) dX12_plain_2 rfl 1 rfl ?_
    refine r_bipush (pc := 3) (v := 8) dX12_plain_3 (by decide +kernel) ?_
    refine r_icmp_ge (pc := 5) (tgt := 21) dX12_plain_5 (by decide) rfl wl_8 (fun c_1 => ?_) (fun c_1 => ?_)
    · replace h := (if_pos c_1).symm.trans h
      cases h
      exact r_vret (pc := 21) rfl (Nat.le_refl 0) (Nat.le_refl 0) dX12_plain_21
    · replace h := (if_neg c_1).symm.trans h
      refine r_aload_n (pc := 8) (i := 0) dX12_plain_8 rfl 0 rfl ?_
      have o_2 := (wt_12_52 oa0).2
      refine r_getR (pc := 9) fg_12_78 rfl oa0 (wt_12_52 oa0).1 dX12_plain_9 ?_
      refine r_iload_n (pc := 12) (i := 1) dX12_plain_12 rfl 1 rfl ?_
      refine r_iload_n (pc := 13) (i := 1) dX12_plain_13 rfl 1 rfl ?_
      obtain ⟨c_3, h⟩ := og h
      obtain ⟨M_4, hM_4, h⟩ := ob h
      refine r_iast (pc := 14) o_2 rfl c_3 rfl hM_4 dX12_plain_14 ?_
      obtain ⟨v_5, hv_5, h⟩ := ob h
      refine r_iinc (pc := 15) (y := v_5) (lv' := [(1, .int (eI v_5)), (0, .ref (gA G a0))]) dX12_plain_15 1 rfl (Option.some.inj hv_5) (Nat.le_of_ble_eq_true rfl) rfl ?_
      refine r_goto (pc := 18) (tgt := 2) dX12_plain_18 (by decide) ?_
      refine r_sub (lv' := [(0, .ref (gA G a0)), (1, .int (eI v_5))]) [1, 0] rfl ?_
      exact ih _ _ h
set_option maxHeartbeats 4000000 in
set_option maxRecDepth 100000 in
theorem bX12_plain_b0 {G : GG} (a0 : Nat) (oa0 : OB L0 a0 12)  (M : MM) {res : MM}  (h : sX12_plain_b0 a0 M = some res) : VV G xX12_plain (ZM G xX12_plain (none) L0 res) L0 M 0 0 0 [(0, .ref (gA G a0))] [] := by
  unfold sX12_plain_b0 at h
  refine r_iconst (pc := 0) (v := 0) dX12_plain_0 (by decide +kernel) ?_
  refine r_istore_n (pc := 1) (i := 1) (lv' := [(1, .int (eI 0)), (0, .ref (gA G a0))]) dX12_plain_1 rfl (Nat.le_of_ble_eq_true rfl) rfl ?_
  refine r_sub (lv' := [(0, .ref (gA G a0)), (1, .int (eI 0))]) [1, 0] rfl ?_
  exact bX12_plain_b2 a0 oa0 _ _ _ h
theorem kX12_plain {G : GG} (a0 : Nat) (M : MM) {res : MM} (oa0 : OB L0 a0 12) (h : sX12_plain a0 M = some res) : CO G xX12_plain [.ref (gA G a0)] L0 M (none) L0 res := CO_of (by decide +kernel) (Nat.le_of_ble_eq_true rfl) (bX12_plain_b0 a0 oa0 M h)
abbrev xX12_layOrder : XX := (yX12_layOrder, cX12_layOrder, 5, (some .boolean), 1, 21, 0, 0)
theorem ck_X12_layOrder_464 : CKV xX12_layOrder 464 xX12_plain 0 := ⟨⟨tb_i 1952 (by decide +kernel) (by decide +kernel), tb_i 152 (by decide +kernel) (by decide +kernel), tb_i 1955 (by decide +kernel) (by decide +kernel), ⟨by decide +kernel, by decide +kernel, by decide +kernel⟩, by decide, by decide⟩, tb_i 1954 (by decide +kernel) (by decide +kernel), tb_i 99 (by decide +kernel) (by decide +kernel)⟩
def sX12_layOrder_b23 (a0 : Nat) (x1 : Int)  : Nat → Int → Int → Int → MM → Option (Int × MM)
  | 0, _, _, _, _ => none
  | n + 1, x2, x3, x4, M => (if wI x4 < 0 then (if wI x1 < 0 then (some ((0, M))) else (if wI x2 = 0 then (if 0 ≤ wI (M a0 26) ∧ wI (M a0 26) < 32 then (if wI x3 = wI ((1 * 2 ^ (wI (M a0 26)).toNat) - 1) then (some ((1, M))) else (some ((0, M)))) else none) else (some ((0, M))))) else (if 0 ≤ wI x4 ∧ wI x4 < 8 then ((some (mU M (gR a0 52) (wI x4).toNat (x2 % 8))).bind fun M_8 => (if 0 ≤ wI (x2 % 8) ∧ wI (x2 % 8) < 32 then ((some (oI x3 (1 * 2 ^ (wI (x2 % 8)).toNat))).bind fun v_10 => ((some (x4 + (-1))).bind fun v_11 => (sX12_layOrder_b23 a0 x1 n ((wI x2) / 2 ^ (Int.toNat 3)) v_10 v_11 M_8))) else none)) else none))
def sX12_layOrder_b0 (a0 : Nat) (x1 : Int)   (M : MM) : Option (Int × MM) := ((sX12_plain a0 M).bind fun q_1 => (if wI x1 = (-1) then (some ((1, q_1))) else (sX12_layOrder_b23 a0 x1 FU x1 0 ((q_1 a0 26) - 1) q_1)))
def sX12_layOrder (a0 : Nat) (x1 : Int) (M : MM) : Option (Int × MM) := sX12_layOrder_b0 a0 x1 M
set_option maxHeartbeats 4000000 in
set_option maxRecDepth 100000 in
theorem bX12_layOrder_b23 {G : GG} (a0 : Nat) (x1 : Int) (oa0 : OB L0 a0 12) {res : (Int × MM)} : ∀ (n : Nat) (x2 : Int) (x3 : Int) (x4 : Int) (M : MM)  (h : sX12_layOrder_b23 a0 x1 n x2 x3 x4 M = some res), VV G xX12_layOrder (ZM G xX12_layOrder (some (.int (eI res.1))) L0 res.2) L0 M 0 0 23 [(0, .ref (gA G a0)), (1, .int (eI x1)), (2, .int (eI x2)), (3, .int (eI x3)), (4, .int (eI x4))] [] := by
  intro n
  induction n with
  | zero =>
    intro x2 x3 x4 M h
    rw [sX12_layOrder_b23] at h
    cases h
  | succ n ih =>
    intro x2 x3 x4 M h
    rw [sX12_layOrder_b23] at h
    refine r_iload (pc := 23) dX12_layOrder_23 4 rfl ?_
    refine r_if_lt (pc := 25) (tgt := 58) dX12_layOrder_25 (by decide) rfl (fun c_1 => ?_) (fun c_1 => ?_)
    · replace h := (if_pos c_1).symm.trans h
      refine r_iload_n (pc := 58) (i := 1) dX12_layOrder_58 rfl 1 rfl ?_
      refine r_if_lt (pc := 59) (tgt := 82) dX12_layOrder_59 (by decide) rfl (fun c_2 => ?_) (fun c_2 => ?_)
      · replace h := (if_pos c_2).symm.trans h
        refine r_iconst (pc := 82) (v := 0) dX12_layOrder_82 (by decide +kernel) ?_
        cases h
        exact r_iret (pc := 83) rfl (zn_ok (Or.inl rfl)).1 (Nat.le_refl 0) (Nat.le_refl 0) dX12_layOrder_83
      · replace h := (if_neg c_2).symm.trans h
        refine r_iload_n (pc := 62) (i := 2) dX12_layOrder_62 rfl 2 rfl ?_
        refine r_if_ne (pc := 63) (tgt := 82) dX12_layOrder_63 (by decide) rfl (fun c_3 => ?_) (fun c_3 => ?_)
        · replace h := (if_neg c_3).symm.trans h
          refine r_iconst (pc := 82) (v := 0) dX12_layOrder_82 (by decide +kernel) ?_
          cases h
          exact r_iret (pc := 83) rfl (zn_ok (Or.inl rfl)).1 (Nat.le_refl 0) (Nat.le_refl 0) dX12_layOrder_83
        · replace h := (if_pos c_3).symm.trans h
          refine r_iload_n (pc := 66) (i := 3) dX12_layOrder_66 rfl 3 rfl ?_
          refine r_iconst (pc := 67) (v := 1) dX12_layOrder_67 (by decide +kernel) ?_
          refine r_aload_n (pc := 68) (i := 0) dX12_layOrder_68 rfl 0 rfl ?_
          refine r_getI (pc := 69) fg_12_319 rfl oa0 dX12_layOrder_69 ?_
          obtain ⟨c_4, h⟩ := og h
          refine r_ishl (pc := 72) rfl c_4 dX12_layOrder_72 ?_
          refine r_iconst (pc := 73) (v := 1) dX12_layOrder_73 (by decide +kernel) ?_
          refine r_isub (pc := 74) dX12_layOrder_74 ?_
          refine r_icmp_ne (pc := 75) (tgt := 82) dX12_layOrder_75 (by decide) rfl rfl (fun c_5 => ?_) (fun c_5 => ?_)
          · replace h := (if_neg c_5).symm.trans h
            refine r_iconst (pc := 82) (v := 0) dX12_layOrder_82 (by decide +kernel) ?_
            cases h
            exact r_iret (pc := 83) rfl (zn_ok (Or.inl rfl)).1 (Nat.le_refl 0) (Nat.le_refl 0) dX12_layOrder_83
          · replace h := (if_pos c_5).symm.trans h
            refine r_iconst (pc := 78) (v := 1) dX12_layOrder_78 (by decide +kernel) ?_
            refine r_goto (pc := 79) (tgt := 83) dX12_layOrder_79 (by decide) ?_
            cases h
            exact r_iret (pc := 83) rfl (zn_ok (Or.inr rfl)).1 (Nat.le_refl 0) (Nat.le_refl 0) dX12_layOrder_83
    · replace h := (if_neg c_1).symm.trans h
      refine r_aload_n (pc := 28) (i := 0) dX12_layOrder_28 rfl 0 rfl ?_
      have o_6 := (wt_12_52 oa0).2
      refine r_getR (pc := 29) fg_12_78 rfl oa0 (wt_12_52 oa0).1 dX12_layOrder_29 ?_
      refine r_iload (pc := 32) dX12_layOrder_32 4 rfl ?_
      refine r_iload_n (pc := 34) (i := 2) dX12_layOrder_34 rfl 2 rfl ?_
      refine r_bipush (pc := 35) (v := 7) dX12_layOrder_35 (by decide +kernel) ?_
      refine r_iand (pc := 37) 3 (by decide) wl_7 rfl dX12_layOrder_37 ?_
      obtain ⟨c_7, h⟩ := og h
      obtain ⟨M_8, hM_8, h⟩ := ob h
      refine r_iast (pc := 38) o_6 rfl c_7 rfl hM_8 dX12_layOrder_38 ?_
      refine r_iload_n (pc := 39) (i := 3) dX12_layOrder_39 rfl 3 rfl ?_
      refine r_iconst (pc := 40) (v := 1) dX12_layOrder_40 (by decide +kernel) ?_
      refine r_iload_n (pc := 41) (i := 2) dX12_layOrder_41 rfl 2 rfl ?_
      refine r_bipush (pc := 42) (v := 7) dX12_layOrder_42 (by decide +kernel) ?_
      refine r_iand (pc := 44) 3 (by decide) wl_7 rfl dX12_layOrder_44 ?_
      obtain ⟨c_9, h⟩ := og h
      refine r_ishl (pc := 45) rfl c_9 dX12_layOrder_45 ?_
      refine r_ior (pc := 46) dX12_layOrder_46 ?_
      obtain ⟨v_10, hv_10, h⟩ := ob h
      refine r_nmI (pc := 47) hv_10 ?_
      refine r_istore_n (pc := 47) (i := 3) (lv' := [(3, .int (eI v_10)), (0, .ref (gA G a0)), (1, .int (eI x1)), (2, .int (eI x2)), (4, .int (eI x4))]) dX12_layOrder_47 rfl (Nat.le_of_ble_eq_true rfl) rfl ?_
      refine r_iload_n (pc := 48) (i := 2) dX12_layOrder_48 rfl 3 rfl ?_
      refine r_iconst (pc := 49) (v := 3) dX12_layOrder_49 (by decide +kernel) ?_
      refine r_ishr (pc := 50) rfl wl_3 ⟨by decide, by decide⟩ dX12_layOrder_50 ?_
      refine r_istore_n (pc := 51) (i := 2) (lv' := [(2, .int (eI ((wI x2) / 2 ^ (Int.toNat 3)))), (3, .int (eI v_10)), (0, .ref (gA G a0)), (1, .int (eI x1)), (4, .int (eI x4))]) dX12_layOrder_51 rfl (Nat.le_of_ble_eq_true rfl) rfl ?_
      obtain ⟨v_11, hv_11, h⟩ := ob h
      refine r_iinc (pc := 52) (y := v_11) (lv' := [(4, .int (eI v_11)), (2, .int (eI ((wI x2) / 2 ^ (Int.toNat 3)))), (3, .int (eI v_10)), (0, .ref (gA G a0)), (1, .int (eI x1))]) dX12_layOrder_52 4 rfl (Option.some.inj hv_11) (Nat.le_of_ble_eq_true rfl) rfl ?_
      refine r_goto (pc := 55) (tgt := 23) dX12_layOrder_55 (by decide) ?_
      refine r_sub (lv' := [(0, .ref (gA G a0)), (1, .int (eI x1)), (2, .int (eI ((wI x2) / 2 ^ (Int.toNat 3)))), (3, .int (eI v_10)), (4, .int (eI v_11))]) [3, 4, 1, 2, 0] rfl ?_
      exact ih _ _ _ _ h
set_option maxHeartbeats 4000000 in
set_option maxRecDepth 100000 in
theorem bX12_layOrder_b0 {G : GG} (a0 : Nat) (x1 : Int) (oa0 : OB L0 a0 12)  (M : MM) {res : (Int × MM)}  (h : sX12_layOrder_b0 a0 x1 M = some res) : VV G xX12_layOrder (ZM G xX12_layOrder (some (.int (eI res.1))) L0 res.2) L0 M 0 0 0 [(0, .ref (gA G a0)), (1, .int (eI x1))] [] := by
  unfold sX12_layOrder_b0 at h
  refine r_aload_n (pc := 0) (i := 0) dX12_layOrder_0 rfl 0 rfl ?_
  obtain ⟨q_1, hq_1, h⟩ := ob h
  refine r_cV (pc := 1) (Y := xX12_plain) (As := []) (rest := []) (v := none) (st1 := []) ck_X12_layOrder_464 (kX12_plain a0 M oa0 hq_1) oa0 rfl rfl rfl rfl (Nat.le_of_ble_eq_true rfl) ⟨rfl, rfl⟩ rfl dX12_layOrder_1 ?_
  refine r_iload_n (pc := 4) (i := 1) dX12_layOrder_4 rfl 1 rfl ?_
  refine r_iconst (pc := 5) (v := (-1)) dX12_layOrder_5 (by decide +kernel) ?_
  refine r_icmp_ne (pc := 6) (tgt := 11) dX12_layOrder_6 (by decide) rfl wl_m1 (fun c_2 => ?_) (fun c_2 => ?_)
  · replace h := (if_neg c_2).symm.trans h
    refine r_iload_n (pc := 11) (i := 1) dX12_layOrder_11 rfl 1 rfl ?_
    refine r_istore_n (pc := 12) (i := 2) (lv' := [(2, .int (eI x1)), (0, .ref (gA G a0)), (1, .int (eI x1))]) dX12_layOrder_12 rfl (Nat.le_of_ble_eq_true rfl) rfl ?_
    refine r_iconst (pc := 13) (v := 0) dX12_layOrder_13 (by decide +kernel) ?_
    refine r_istore_n (pc := 14) (i := 3) (lv' := [(3, .int (eI 0)), (2, .int (eI x1)), (0, .ref (gA G a0)), (1, .int (eI x1))]) dX12_layOrder_14 rfl (Nat.le_of_ble_eq_true rfl) rfl ?_
    refine r_aload_n (pc := 15) (i := 0) dX12_layOrder_15 rfl 2 rfl ?_
    refine r_getI (pc := 16) fg_12_319 rfl oa0 dX12_layOrder_16 ?_
    refine r_iconst (pc := 19) (v := 1) dX12_layOrder_19 (by decide +kernel) ?_
    refine r_isub (pc := 20) dX12_layOrder_20 ?_
    refine r_istore (pc := 21) (lv' := [(4, .int (eI ((q_1 a0 26) - 1))), (3, .int (eI 0)), (2, .int (eI x1)), (0, .ref (gA G a0)), (1, .int (eI x1))]) dX12_layOrder_21 (Nat.le_of_ble_eq_true rfl) rfl ?_
    refine r_sub (lv' := [(0, .ref (gA G a0)), (1, .int (eI x1)), (2, .int (eI x1)), (3, .int (eI 0)), (4, .int (eI ((q_1 a0 26) - 1)))]) [3, 4, 2, 1, 0] rfl ?_
    exact bX12_layOrder_b23 a0 x1 oa0 _ _ _ _ _ h
  · replace h := (if_pos c_2).symm.trans h
    refine r_iconst (pc := 9) (v := 1) dX12_layOrder_9 (by decide +kernel) ?_
    cases h
    exact r_iret (pc := 10) rfl (zn_ok (Or.inr rfl)).1 (Nat.le_refl 0) (Nat.le_refl 0) dX12_layOrder_10
theorem kX12_layOrder {G : GG} (a0 : Nat) (x1 : Int) (M : MM) {res : (Int × MM)} (oa0 : OB L0 a0 12) (h : sX12_layOrder a0 x1 M = some res) : CO G xX12_layOrder [.ref (gA G a0), .int (eI x1)] L0 M (some (.int (eI res.1))) L0 res.2 := CO_of (by decide +kernel) (Nat.le_of_ble_eq_true rfl) (bX12_layOrder_b0 a0 x1 oa0 M h)
abbrev xX12_blow : XX := (yX12_blow, cX12_blow, 12, (some .long), 2, 43, 0, 0)
theorem ck_X12_blow_334 : CKV xX12_blow 334 xX12_ofChild 2 := ⟨⟨tb_i 1796 (by decide +kernel) (by decide +kernel), tb_i 152 (by decide +kernel) (by decide +kernel), tb_i 1799 (by decide +kernel) (by decide +kernel), ⟨by decide +kernel, by decide +kernel, by decide +kernel⟩, by decide, by decide⟩, tb_i 1798 (by decide +kernel) (by decide +kernel), tb_i 75 (by decide +kernel) (by decide +kernel)⟩
def sX12_blow_b214 (a0 : Nat) (x1 : Int) (x2 : Int)  : Nat → Int → Int → MM → Option (Int × MM)
  | 0, _, _, _ => none
  | n + 1, y6, x8, M => (if 542 ≤ wI x8 then (some ((y6, M))) else (if 0 ≤ wI x8 ∧ wI x8 < 542 then (if 0 ≤ wI x8 ∧ wI x8 < 542 then ((some (mU M (gR a0 49) (wI x8).toNat (M (gR a0 50) (wI x8).toNat))).bind fun M_6 => ((some (x8 + 1)).bind fun v_7 => (sX12_blow_b214 a0 x1 x2 n y6 v_7 M_6))) else none) else none))
def sX12_blow_b199 (a0 : Nat) (x1 : Int) (x2 : Int) (K75 : Int → Int → Int → Int → Int → Int → MM → Option (Int × MM)) (x3 : Int) (x4 : Int) (x5 : Int) (y6 : Int) (x8 : Int) (x9 : Int) (M : MM) : Option (Int × MM) := ((some (x9 + 1)).bind fun v_1 => (K75 x3 x4 x5 y6 x8 v_1 M))
def sX12_blow_b154 (a0 : Nat) (x1 : Int) (x2 : Int) (K75 : Int → Int → Int → Int → Int → Int → MM → Option (Int × MM)) (x3 : Int) (x4 : Int) (x5 : Int) (y6 : Int) (x8 : Int) (x9 : Int) (y10 : Int) (M : MM) : Option (Int × MM) := (if wI x4 < wI x8 then (if 0 ≤ wI (((271 * x9) + x8) - x4) ∧ wI (((271 * x9) + x8) - x4) < 542 then (if 0 ≤ wI (((271 * x9) + x8) - x4) ∧ wI (((271 * x9) + x8) - x4) < 542 then ((some (mU M (gR a0 50) (wI (((271 * x9) + x8) - x4)).toNat ((M (gR a0 50) (wI (((271 * x9) + x8) - x4)).toNat) + (y10 * (wI x3))))).bind fun M_5 => (sX12_blow_b199 a0 x1 x2 K75 x3 x4 x5 y6 x8 x9 M_5)) else none) else none) else (sX12_blow_b199 a0 x1 x2 K75 x3 x4 x5 (y6 + (y10 * (wI x3))) x8 x9 M))
def sX12_blow_b75 (a0 : Nat) (x1 : Int) (x2 : Int) (K66 : Int → Int → Int → Int → Int → MM → Option (Int × MM)) : Nat → Int → Int → Int → Int → Int → Int → MM → Option (Int × MM)
  | 0, _, _, _, _, _, _, _ => none
  | n + 1, x3, x4, x5, y6, x8, x9, M => (if 2 ≤ wI x9 then ((some (x8 + 1)).bind fun v_2 => (K66 x3 x4 x5 y6 v_2 M)) else (if 0 ≤ wI ((271 * x9) + x8) ∧ wI ((271 * x9) + x8) < 542 then ((some (M (gR a0 49) (wI ((271 * x9) + x8)).toNat)).bind fun v_5 => (if 0 ≤ wI ((271 * x9) + x8) ∧ wI ((271 * x9) + x8) < 542 then (if 0 ≤ wI ((271 * x9) + x8) ∧ wI ((271 * x9) + x8) < 542 then ((some (mU M (gR a0 50) (wI ((271 * x9) + x8)).toNat ((M (gR a0 50) (wI ((271 * x9) + x8)).toNat) + (v_5 * (wI (10 - x3)))))).bind fun M_9 => (if wI x5 = 0 then (sX12_blow_b154 a0 x1 x2 (fun x3 x4 x5 y6 x8 x9 M => sX12_blow_b75 a0 x1 x2 K66 n x3 x4 x5 y6 x8 x9 M) x3 x4 x5 y6 x8 x9 v_5 M_9) else (if wI x9 = 0 then (if 0 ≤ wI (271 + x8) ∧ wI (271 + x8) < 542 then (if 0 ≤ wI (271 + x8) ∧ wI (271 + x8) < 542 then ((some (mU M_9 (gR a0 50) (wI (271 + x8)).toNat ((M_9 (gR a0 50) (wI (271 + x8)).toNat) + (v_5 * (wI x3))))).bind fun M_15 => (sX12_blow_b199 a0 x1 x2 (fun x3 x4 x5 y6 x8 x9 M => sX12_blow_b75 a0 x1 x2 K66 n x3 x4 x5 y6 x8 x9 M) x3 x4 x5 y6 x8 x9 M_15)) else none) else none) else (sX12_blow_b154 a0 x1 x2 (fun x3 x4 x5 y6 x8 x9 M => sX12_blow_b75 a0 x1 x2 K66 n x3 x4 x5 y6 x8 x9 M) x3 x4 x5 y6 x8 x9 v_5 M_9)))) else none) else none)) else none))
def sX12_blow_b66 (a0 : Nat) (x1 : Int) (x2 : Int)  : Nat → Int → Int → Int → Int → Int → MM → Option (Int × MM)
  | 0, _, _, _, _, _, _ => none
  | n + 1, x3, x4, x5, y6, x8, M => (if wI x2 < wI x8 then (sX12_blow_b214 a0 x1 x2 FU y6 0 M) else (sX12_blow_b75 a0 x1 x2 (fun x3 x4 x5 y6 x8 M => sX12_blow_b66 a0 x1 x2 n x3 x4 x5 y6 x8 M) FU x3 x4 x5 y6 x8 0 M))
def sX12_blow_b41 (a0 : Nat) (x1 : Int) (x2 : Int)  : Nat → Int → Int → Int → Int → Int → MM → Option (Int × MM)
  | 0, _, _, _, _, _, _ => none
  | n + 1, x3, x4, x5, y6, x8, M => (if 542 ≤ wI x8 then (sX12_blow_b66 a0 x1 x2 FU x3 x4 x5 y6 1 M) else (if 0 ≤ wI x8 ∧ wI x8 < 542 then ((some (mU M (gR a0 50) (wI x8).toNat 0)).bind fun M_4 => ((some (x8 + 1)).bind fun v_5 => (sX12_blow_b41 a0 x1 x2 n x3 x4 x5 y6 v_5 M_4))) else none))
def sX12_blow_b33 (a0 : Nat) (x1 : Int) (x2 : Int)  (x3 : Int) (x4 : Int) (x90 : Int) (M : MM) : Option (Int × MM) := (sX12_blow_b41 a0 x1 x2 FU x3 x4 x90 0 0 M)
def sX12_blow_b0 (a0 : Nat) (x1 : Int) (x2 : Int)   (M : MM) : Option (Int × MM) := ((sX12_ofChild a0 x1 2 M).bind fun q_1 => ((sX12_ofChild a0 x1 1 M).bind fun q_2 => ((sX12_ofChild a0 x1 0 M).bind fun q_3 => (if wI q_3 < wI (M a0 28) then (sX12_blow_b33 a0 x1 x2 q_1 q_2 0 M) else (sX12_blow_b33 a0 x1 x2 q_1 q_2 1 M)))))
def sX12_blow (a0 : Nat) (x1 : Int) (x2 : Int) (M : MM) : Option (Int × MM) := sX12_blow_b0 a0 x1 x2 M
set_option maxHeartbeats 4000000 in
set_option maxRecDepth 100000 in
theorem bX12_blow_b214 {G : GG} (a0 : Nat) (x1 : Int) (x2 : Int) (oa0 : OB L0 a0 12) {res : (Int × MM)} : ∀ (n : Nat) (y6 : Int) (x8 : Int) (M : MM)  (h : sX12_blow_b214 a0 x1 x2 n y6 x8 M = some res), VV G xX12_blow (ZM G xX12_blow (some (.long (eJ res.1))) L0 res.2) L0 M 0 0 214 [(0, .ref (gA G a0)), (6, .long (eJ y6)), (8, .int (eI x8))] [] := by
  intro n
  induction n with
  | zero =>
    intro y6 x8 M h
    rw [sX12_blow_b214] at h
    cases h
  | succ n ih =>
    intro y6 x8 M h
    rw [sX12_blow_b214] at h
    refine r_iload (pc := 214) dX12_blow_214 2 rfl ?_
    refine r_sipush (pc := 216) (v := 542) dX12_blow_216 (by decide +kernel) ?_
    refine r_icmp_ge (pc := 219) (tgt := 242) dX12_blow_219 (by decide) rfl wl_542 (fun c_1 => ?_) (fun c_1 => ?_)
    · replace h := (if_pos c_1).symm.trans h
      refine r_lload (pc := 242) dX12_blow_242 1 rfl ?_
      cases h
      exact r_lret (pc := 244) rfl (Nat.le_refl 0) (Nat.le_refl 0) dX12_blow_244
    · replace h := (if_neg c_1).symm.trans h
      refine r_aload_n (pc := 222) (i := 0) dX12_blow_222 rfl 0 rfl ?_
      have o_2 := (wt_12_49 oa0).2
      refine r_getR (pc := 223) fg_12_69 rfl oa0 (wt_12_49 oa0).1 dX12_blow_223 ?_
      refine r_iload (pc := 226) dX12_blow_226 2 rfl ?_
      refine r_aload_n (pc := 228) (i := 0) dX12_blow_228 rfl 0 rfl ?_
      have o_3 := (wt_12_50 oa0).2
      refine r_getR (pc := 229) fg_12_72 rfl oa0 (wt_12_50 oa0).1 dX12_blow_229 ?_
      refine r_iload (pc := 232) dX12_blow_232 2 rfl ?_
      obtain ⟨c_4, h⟩ := og h
      refine r_lald (pc := 234) o_3 rfl c_4 rfl dX12_blow_234 ?_
      obtain ⟨c_5, h⟩ := og h
      obtain ⟨M_6, hM_6, h⟩ := ob h
      refine r_last (pc := 235) o_2 rfl c_5 rfl hM_6 dX12_blow_235 ?_
      obtain ⟨v_7, hv_7, h⟩ := ob h
      refine r_iinc (pc := 236) (y := v_7) (lv' := [(8, .int (eI v_7)), (0, .ref (gA G a0)), (6, .long (eJ y6))]) dX12_blow_236 2 rfl (Option.some.inj hv_7) (Nat.le_of_ble_eq_true rfl) rfl ?_
      refine r_goto (pc := 239) (tgt := 214) dX12_blow_239 (by decide) ?_
      refine r_sub (lv' := [(0, .ref (gA G a0)), (6, .long (eJ y6)), (8, .int (eI v_7))]) [1, 2, 0] rfl ?_
      exact ih _ _ _ h
set_option maxHeartbeats 4000000 in
set_option maxRecDepth 100000 in
theorem bX12_blow_b199 {G : GG} (a0 : Nat) (x1 : Int) (x2 : Int) (oa0 : OB L0 a0 12) {K75 : Int → Int → Int → Int → Int → Int → MM → Option (Int × MM)} (x3 : Int) (x4 : Int) (x5 : Int) (y6 : Int) (x8 : Int) (x9 : Int) (M : MM) {res : (Int × MM)} (hK75 : ∀ (x3 : Int) (x4 : Int) (x5 : Int) (y6 : Int) (x8 : Int) (x9 : Int) (M : MM), K75 x3 x4 x5 y6 x8 x9 M = some res → VV G xX12_blow (ZM G xX12_blow (some (.long (eJ res.1))) L0 res.2) L0 M 0 0 75 [(0, .ref (gA G a0)), (2, .int (eI x2)), (3, .int (eI x3)), (4, .int (eI x4)), (5, .int (eI x5)), (6, .long (eJ y6)), (8, .int (eI x8)), (9, .int (eI x9))] [])  (h : sX12_blow_b199 a0 x1 x2 K75 x3 x4 x5 y6 x8 x9 M = some res) : VV G xX12_blow (ZM G xX12_blow (some (.long (eJ res.1))) L0 res.2) L0 M 0 0 199 [(0, .ref (gA G a0)), (2, .int (eI x2)), (3, .int (eI x3)), (4, .int (eI x4)), (5, .int (eI x5)), (6, .long (eJ y6)), (8, .int (eI x8)), (9, .int (eI x9))] [] := by
  unfold sX12_blow_b199 at h
  obtain ⟨v_1, hv_1, h⟩ := ob h
  refine r_iinc (pc := 199) (y := v_1) (lv' := [(9, .int (eI v_1)), (0, .ref (gA G a0)), (2, .int (eI x2)), (3, .int (eI x3)), (4, .int (eI x4)), (5, .int (eI x5)), (6, .long (eJ y6)), (8, .int (eI x8))]) dX12_blow_199 7 rfl (Option.some.inj hv_1) (Nat.le_of_ble_eq_true rfl) rfl ?_
  refine r_goto (pc := 202) (tgt := 75) dX12_blow_202 (by decide) ?_
  refine r_sub (lv' := [(0, .ref (gA G a0)), (2, .int (eI x2)), (3, .int (eI x3)), (4, .int (eI x4)), (5, .int (eI x5)), (6, .long (eJ y6)), (8, .int (eI x8)), (9, .int (eI v_1))]) [1, 2, 3, 4, 5, 6, 7, 0] rfl ?_
  exact hK75 _ _ _ _ _ _ _ h
set_option maxHeartbeats 4000000 in
set_option maxRecDepth 100000 in
theorem bX12_blow_b154 {G : GG} (a0 : Nat) (x1 : Int) (x2 : Int) (oa0 : OB L0 a0 12) {K75 : Int → Int → Int → Int → Int → Int → MM → Option (Int × MM)} (x3 : Int) (x4 : Int) (x5 : Int) (y6 : Int) (x8 : Int) (x9 : Int) (y10 : Int) (M : MM) {res : (Int × MM)} (hK75 : ∀ (x3 : Int) (x4 : Int) (x5 : Int) (y6 : Int) (x8 : Int) (x9 : Int) (M : MM), K75 x3 x4 x5 y6 x8 x9 M = some res → VV G xX12_blow (ZM G xX12_blow (some (.long (eJ res.1))) L0 res.2) L0 M 0 0 75 [(0, .ref (gA G a0)), (2, .int (eI x2)), (3, .int (eI x3)), (4, .int (eI x4)), (5, .int (eI x5)), (6, .long (eJ y6)), (8, .int (eI x8)), (9, .int (eI x9))] [])  (h : sX12_blow_b154 a0 x1 x2 K75 x3 x4 x5 y6 x8 x9 y10 M = some res) : VV G xX12_blow (ZM G xX12_blow (some (.long (eJ res.1))) L0 res.2) L0 M 0 0 154 [(0, .ref (gA G a0)), (2, .int (eI x2)), (3, .int (eI x3)), (4, .int (eI x4)), (5, .int (eI x5)), (6, .long (eJ y6)), (8, .int (eI x8)), (9, .int (eI x9)), (10, .long (eJ y10))] [] := by
  unfold sX12_blow_b154 at h
  refine r_iload (pc := 154) dX12_blow_154 3 rfl ?_
  refine r_iload (pc := 156) dX12_blow_156 6 rfl ?_
  refine r_icmp_lt (pc := 158) (tgt := 174) dX12_blow_158 (by decide) rfl rfl (fun c_1 => ?_) (fun c_1 => ?_)
  · replace h := (if_pos c_1).symm.trans h
    refine r_aload_n (pc := 174) (i := 0) dX12_blow_174 rfl 0 rfl ?_
    have o_2 := (wt_12_50 oa0).2
    refine r_getR (pc := 175) fg_12_72 rfl oa0 (wt_12_50 oa0).1 dX12_blow_175 ?_
    refine r_sipush (pc := 178) (v := 271) dX12_blow_178 (by decide +kernel) ?_
    refine r_iload (pc := 181) dX12_blow_181 7 rfl ?_
    refine r_imul (pc := 183) dX12_blow_183 ?_
    refine r_iload (pc := 184) dX12_blow_184 6 rfl ?_
    refine r_iadd (pc := 186) dX12_blow_186 ?_
    refine r_iload (pc := 187) dX12_blow_187 3 rfl ?_
    refine r_isub (pc := 189) dX12_blow_189 ?_
    refine r_dup2 (pc := 190) dX12_blow_190 rfl rfl ?_
    obtain ⟨c_3, h⟩ := og h
    refine r_lald (pc := 191) o_2 rfl c_3 rfl dX12_blow_191 ?_
    refine r_lload (pc := 192) dX12_blow_192 8 rfl ?_
    refine r_iload_n (pc := 194) (i := 3) dX12_blow_194 rfl 2 rfl ?_
    refine r_i2l (pc := 195) rfl dX12_blow_195 ?_
    refine r_lmul (pc := 196) dX12_blow_196 ?_
    refine r_ladd (pc := 197) dX12_blow_197 ?_
    obtain ⟨c_4, h⟩ := og h
    obtain ⟨M_5, hM_5, h⟩ := ob h
    refine r_last (pc := 198) o_2 rfl c_4 rfl hM_5 dX12_blow_198 ?_
    refine r_sub (lv' := [(0, .ref (gA G a0)), (2, .int (eI x2)), (3, .int (eI x3)), (4, .int (eI x4)), (5, .int (eI x5)), (6, .long (eJ y6)), (8, .int (eI x8)), (9, .int (eI x9))]) [0, 1, 2, 3, 4, 5, 6, 7] rfl ?_
    exact bX12_blow_b199 a0 x1 x2 oa0 _ _ _ _ _ _ _ hK75 h
  · replace h := (if_neg c_1).symm.trans h
    refine r_lload (pc := 161) dX12_blow_161 5 rfl ?_
    refine r_lload (pc := 163) dX12_blow_163 8 rfl ?_
    refine r_iload_n (pc := 165) (i := 3) dX12_blow_165 rfl 2 rfl ?_
    refine r_i2l (pc := 166) rfl dX12_blow_166 ?_
    refine r_lmul (pc := 167) dX12_blow_167 ?_
    refine r_ladd (pc := 168) dX12_blow_168 ?_
    refine r_lstore (pc := 169) (lv' := [(6, .long (eJ (y6 + (y10 * (wI x3))))), (0, .ref (gA G a0)), (2, .int (eI x2)), (3, .int (eI x3)), (4, .int (eI x4)), (5, .int (eI x5)), (8, .int (eI x8)), (9, .int (eI x9)), (10, .long (eJ y10))]) dX12_blow_169 (Nat.le_of_ble_eq_true rfl) rfl ?_
    refine r_goto (pc := 171) (tgt := 199) dX12_blow_171 (by decide) ?_
    refine r_sub (lv' := [(0, .ref (gA G a0)), (2, .int (eI x2)), (3, .int (eI x3)), (4, .int (eI x4)), (5, .int (eI x5)), (6, .long (eJ (y6 + (y10 * (wI x3))))), (8, .int (eI x8)), (9, .int (eI x9))]) [1, 2, 3, 4, 5, 0, 6, 7] rfl ?_
    exact bX12_blow_b199 a0 x1 x2 oa0 _ _ _ _ _ _ _ hK75 h
set_option maxHeartbeats 4000000 in
set_option maxRecDepth 100000 in
theorem bX12_blow_b75 {G : GG} (a0 : Nat) (x1 : Int) (x2 : Int) (oa0 : OB L0 a0 12) {K66 : Int → Int → Int → Int → Int → MM → Option (Int × MM)} {res : (Int × MM)} (hK66 : ∀ (x3 : Int) (x4 : Int) (x5 : Int) (y6 : Int) (x8 : Int) (M : MM), K66 x3 x4 x5 y6 x8 M = some res → VV G xX12_blow (ZM G xX12_blow (some (.long (eJ res.1))) L0 res.2) L0 M 0 0 66 [(0, .ref (gA G a0)), (2, .int (eI x2)), (3, .int (eI x3)), (4, .int (eI x4)), (5, .int (eI x5)), (6, .long (eJ y6)), (8, .int (eI x8))] []) : ∀ (n : Nat) (x3 : Int) (x4 : Int) (x5 : Int) (y6 : Int) (x8 : Int) (x9 : Int) (M : MM)  (h : sX12_blow_b75 a0 x1 x2 K66 n x3 x4 x5 y6 x8 x9 M = some res), VV G xX12_blow (ZM G xX12_blow (some (.long (eJ res.1))) L0 res.2) L0 M 0 0 75 [(0, .ref (gA G a0)), (2, .int (eI x2)), (3, .int (eI x3)), (4, .int (eI x4)), (5, .int (eI x5)), (6, .long (eJ y6)), (8, .int (eI x8)), (9, .int (eI x9))] [] := by
  intro n
  induction n with
  | zero =>
    intro x3 x4 x5 y6 x8 x9 M h
    rw [sX12_blow_b75] at h
    cases h
  | succ n ih =>
    intro x3 x4 x5 y6 x8 x9 M h
    rw [sX12_blow_b75] at h
    refine r_iload (pc := 75) dX12_blow_75 7 rfl ?_
    refine r_iconst (pc := 77) (v := 2) dX12_blow_77 (by decide +kernel) ?_
    refine r_icmp_ge (pc := 78) (tgt := 205) dX12_blow_78 (by decide) rfl wl_2 (fun c_1 => ?_) (fun c_1 => ?_)
    · replace h := (if_pos c_1).symm.trans h
      obtain ⟨v_2, hv_2, h⟩ := ob h
      refine r_iinc (pc := 205) (y := v_2) (lv' := [(8, .int (eI v_2)), (0, .ref (gA G a0)), (2, .int (eI x2)), (3, .int (eI x3)), (4, .int (eI x4)), (5, .int (eI x5)), (6, .long (eJ y6)), (9, .int (eI x9))]) dX12_blow_205 6 rfl (Option.some.inj hv_2) (Nat.le_of_ble_eq_true rfl) rfl ?_
      refine r_goto (pc := 208) (tgt := 66) dX12_blow_208 (by decide) ?_
      refine r_sub (lv' := [(0, .ref (gA G a0)), (2, .int (eI x2)), (3, .int (eI x3)), (4, .int (eI x4)), (5, .int (eI x5)), (6, .long (eJ y6)), (8, .int (eI v_2))]) [1, 2, 3, 4, 5, 6, 0] rfl ?_
      exact hK66 _ _ _ _ _ _ h
    · replace h := (if_neg c_1).symm.trans h
      refine r_aload_n (pc := 81) (i := 0) dX12_blow_81 rfl 0 rfl ?_
      have o_3 := (wt_12_49 oa0).2
      refine r_getR (pc := 82) fg_12_69 rfl oa0 (wt_12_49 oa0).1 dX12_blow_82 ?_
      refine r_sipush (pc := 85) (v := 271) dX12_blow_85 (by decide +kernel) ?_
      refine r_iload (pc := 88) dX12_blow_88 7 rfl ?_
      refine r_imul (pc := 90) dX12_blow_90 ?_
      refine r_iload (pc := 91) dX12_blow_91 6 rfl ?_
      refine r_iadd (pc := 93) dX12_blow_93 ?_
      obtain ⟨c_4, h⟩ := og h
      refine r_lald (pc := 94) o_3 rfl c_4 rfl dX12_blow_94 ?_
      obtain ⟨v_5, hv_5, h⟩ := ob h
      refine r_nmJ (pc := 95) hv_5 ?_
      refine r_lstore (pc := 95) (lv' := [(10, .long (eJ v_5)), (0, .ref (gA G a0)), (2, .int (eI x2)), (3, .int (eI x3)), (4, .int (eI x4)), (5, .int (eI x5)), (6, .long (eJ y6)), (8, .int (eI x8)), (9, .int (eI x9))]) dX12_blow_95 (Nat.le_of_ble_eq_true rfl) rfl ?_
      refine r_aload_n (pc := 97) (i := 0) dX12_blow_97 rfl 1 rfl ?_
      have o_6 := (wt_12_50 oa0).2
      refine r_getR (pc := 98) fg_12_72 rfl oa0 (wt_12_50 oa0).1 dX12_blow_98 ?_
      refine r_sipush (pc := 101) (v := 271) dX12_blow_101 (by decide +kernel) ?_
      refine r_iload (pc := 104) dX12_blow_104 8 rfl ?_
      refine r_imul (pc := 106) dX12_blow_106 ?_
      refine r_iload (pc := 107) dX12_blow_107 7 rfl ?_
      refine r_iadd (pc := 109) dX12_blow_109 ?_
      refine r_dup2 (pc := 110) dX12_blow_110 rfl rfl ?_
      obtain ⟨c_7, h⟩ := og h
      refine r_lald (pc := 111) o_6 rfl c_7 rfl dX12_blow_111 ?_
      refine r_lload (pc := 112) dX12_blow_112 0 rfl ?_
      refine r_bipush (pc := 114) (v := 10) dX12_blow_114 (by decide +kernel) ?_
      refine r_iload_n (pc := 116) (i := 3) dX12_blow_116 rfl 3 rfl ?_
      refine r_isub (pc := 117) dX12_blow_117 ?_
      refine r_i2l (pc := 118) rfl dX12_blow_118 ?_
      refine r_lmul (pc := 119) dX12_blow_119 ?_
      refine r_ladd (pc := 120) dX12_blow_120 ?_
      obtain ⟨c_8, h⟩ := og h
      obtain ⟨M_9, hM_9, h⟩ := ob h
      refine r_last (pc := 121) o_6 rfl c_8 rfl hM_9 dX12_blow_121 ?_
      refine r_iload (pc := 122) dX12_blow_122 5 rfl ?_
      refine r_if_eq (pc := 124) (tgt := 154) dX12_blow_124 (by decide) rfl (fun c_10 => ?_) (fun c_10 => ?_)
      · replace h := (if_pos c_10).symm.trans h
        refine r_sub (lv' := [(0, .ref (gA G a0)), (2, .int (eI x2)), (3, .int (eI x3)), (4, .int (eI x4)), (5, .int (eI x5)), (6, .long (eJ y6)), (8, .int (eI x8)), (9, .int (eI x9)), (10, .long (eJ v_5))]) [1, 2, 3, 4, 5, 6, 7, 8, 0] rfl ?_
        exact bX12_blow_b154 a0 x1 x2 oa0 _ _ _ _ _ _ _ _ (fun v0 v1 v2 v3 v4 v5 v6 v7 => ih v0 v1 v2 v3 v4 v5 v6 v7) h
      · replace h := (if_neg c_10).symm.trans h
        refine r_iload (pc := 127) dX12_blow_127 8 rfl ?_
        refine r_if_ne (pc := 129) (tgt := 154) dX12_blow_129 (by decide) rfl (fun c_11 => ?_) (fun c_11 => ?_)
        · replace h := (if_neg c_11).symm.trans h
          refine r_sub (lv' := [(0, .ref (gA G a0)), (2, .int (eI x2)), (3, .int (eI x3)), (4, .int (eI x4)), (5, .int (eI x5)), (6, .long (eJ y6)), (8, .int (eI x8)), (9, .int (eI x9)), (10, .long (eJ v_5))]) [1, 2, 3, 4, 5, 6, 7, 8, 0] rfl ?_
          exact bX12_blow_b154 a0 x1 x2 oa0 _ _ _ _ _ _ _ _ (fun v0 v1 v2 v3 v4 v5 v6 v7 => ih v0 v1 v2 v3 v4 v5 v6 v7) h
        · replace h := (if_pos c_11).symm.trans h
          refine r_aload_n (pc := 132) (i := 0) dX12_blow_132 rfl 1 rfl ?_
          have o_12 := (wt_12_50 oa0).2
          refine r_getR (pc := 133) fg_12_72 rfl oa0 (wt_12_50 oa0).1 dX12_blow_133 ?_
          refine r_sipush (pc := 136) (v := 271) dX12_blow_136 (by decide +kernel) ?_
          refine r_iload (pc := 139) dX12_blow_139 7 rfl ?_
          refine r_iadd (pc := 141) dX12_blow_141 ?_
          refine r_dup2 (pc := 142) dX12_blow_142 rfl rfl ?_
          obtain ⟨c_13, h⟩ := og h
          refine r_lald (pc := 143) o_12 rfl c_13 rfl dX12_blow_143 ?_
          refine r_lload (pc := 144) dX12_blow_144 0 rfl ?_
          refine r_iload_n (pc := 146) (i := 3) dX12_blow_146 rfl 3 rfl ?_
          refine r_i2l (pc := 147) rfl dX12_blow_147 ?_
          refine r_lmul (pc := 148) dX12_blow_148 ?_
          refine r_ladd (pc := 149) dX12_blow_149 ?_
          obtain ⟨c_14, h⟩ := og h
          obtain ⟨M_15, hM_15, h⟩ := ob h
          refine r_last (pc := 150) o_12 rfl c_14 rfl hM_15 dX12_blow_150 ?_
          refine r_goto (pc := 151) (tgt := 199) dX12_blow_151 (by decide) ?_
          refine r_sub (lv' := [(0, .ref (gA G a0)), (2, .int (eI x2)), (3, .int (eI x3)), (4, .int (eI x4)), (5, .int (eI x5)), (6, .long (eJ y6)), (8, .int (eI x8)), (9, .int (eI x9))]) [1, 2, 3, 4, 5, 6, 7, 8] rfl ?_
          exact bX12_blow_b199 a0 x1 x2 oa0 _ _ _ _ _ _ _ (fun v0 v1 v2 v3 v4 v5 v6 v7 => ih v0 v1 v2 v3 v4 v5 v6 v7) h
set_option maxHeartbeats 4000000 in
set_option maxRecDepth 100000 in
theorem bX12_blow_b66 {G : GG} (a0 : Nat) (x1 : Int) (x2 : Int) (oa0 : OB L0 a0 12) {res : (Int × MM)} : ∀ (n : Nat) (x3 : Int) (x4 : Int) (x5 : Int) (y6 : Int) (x8 : Int) (M : MM)  (h : sX12_blow_b66 a0 x1 x2 n x3 x4 x5 y6 x8 M = some res), VV G xX12_blow (ZM G xX12_blow (some (.long (eJ res.1))) L0 res.2) L0 M 0 0 66 [(0, .ref (gA G a0)), (2, .int (eI x2)), (3, .int (eI x3)), (4, .int (eI x4)), (5, .int (eI x5)), (6, .long (eJ y6)), (8, .int (eI x8))] [] := by
  intro n
  induction n with
  | zero =>
    intro x3 x4 x5 y6 x8 M h
    rw [sX12_blow_b66] at h
    cases h
  | succ n ih =>
    intro x3 x4 x5 y6 x8 M h
    rw [sX12_blow_b66] at h
    refine r_iload (pc := 66) dX12_blow_66 6 rfl ?_
    refine r_iload_n (pc := 68) (i := 2) dX12_blow_68 rfl 1 rfl ?_
    refine r_icmp_gt (pc := 69) (tgt := 211) dX12_blow_69 (by decide) rfl rfl (fun c_1 => ?_) (fun c_1 => ?_)
    · replace h := (if_pos c_1).symm.trans h
      refine r_iconst (pc := 211) (v := 0) dX12_blow_211 (by decide +kernel) ?_
      refine r_istore (pc := 212) (lv' := [(8, .int (eI 0)), (0, .ref (gA G a0)), (2, .int (eI x2)), (3, .int (eI x3)), (4, .int (eI x4)), (5, .int (eI x5)), (6, .long (eJ y6))]) dX12_blow_212 (Nat.le_of_ble_eq_true rfl) rfl ?_
      refine r_sub (lv' := [(0, .ref (gA G a0)), (6, .long (eJ y6)), (8, .int (eI 0))]) [1, 6, 0] rfl ?_
      exact bX12_blow_b214 a0 x1 x2 oa0 _ _ _ _ h
    · replace h := (if_neg c_1).symm.trans h
      refine r_iconst (pc := 72) (v := 0) dX12_blow_72 (by decide +kernel) ?_
      refine r_istore (pc := 73) (lv' := [(9, .int (eI 0)), (0, .ref (gA G a0)), (2, .int (eI x2)), (3, .int (eI x3)), (4, .int (eI x4)), (5, .int (eI x5)), (6, .long (eJ y6)), (8, .int (eI x8))]) dX12_blow_73 (Nat.le_of_ble_eq_true rfl) rfl ?_
      refine r_sub (lv' := [(0, .ref (gA G a0)), (2, .int (eI x2)), (3, .int (eI x3)), (4, .int (eI x4)), (5, .int (eI x5)), (6, .long (eJ y6)), (8, .int (eI x8)), (9, .int (eI 0))]) [1, 2, 3, 4, 5, 6, 7, 0] rfl ?_
      exact bX12_blow_b75 a0 x1 x2 oa0 (fun v0 v1 v2 v3 v4 v5 v6 => ih v0 v1 v2 v3 v4 v5 v6) _ _ _ _ _ _ _ _ h
set_option maxHeartbeats 4000000 in
set_option maxRecDepth 100000 in
theorem bX12_blow_b41 {G : GG} (a0 : Nat) (x1 : Int) (x2 : Int) (oa0 : OB L0 a0 12) {res : (Int × MM)} : ∀ (n : Nat) (x3 : Int) (x4 : Int) (x5 : Int) (y6 : Int) (x8 : Int) (M : MM)  (h : sX12_blow_b41 a0 x1 x2 n x3 x4 x5 y6 x8 M = some res), VV G xX12_blow (ZM G xX12_blow (some (.long (eJ res.1))) L0 res.2) L0 M 0 0 41 [(0, .ref (gA G a0)), (2, .int (eI x2)), (3, .int (eI x3)), (4, .int (eI x4)), (5, .int (eI x5)), (6, .long (eJ y6)), (8, .int (eI x8))] [] := by
  intro n
  induction n with
  | zero =>
    intro x3 x4 x5 y6 x8 M h
    rw [sX12_blow_b41] at h
    cases h
  | succ n ih =>
    intro x3 x4 x5 y6 x8 M h
    rw [sX12_blow_b41] at h
    refine r_iload (pc := 41) dX12_blow_41 6 rfl ?_
    refine r_sipush (pc := 43) (v := 542) dX12_blow_43 (by decide +kernel) ?_
    refine r_icmp_ge (pc := 46) (tgt := 63) dX12_blow_46 (by decide) rfl wl_542 (fun c_1 => ?_) (fun c_1 => ?_)
    · replace h := (if_pos c_1).symm.trans h
      refine r_iconst (pc := 63) (v := 1) dX12_blow_63 (by decide +kernel) ?_
      refine r_istore (pc := 64) (lv' := [(8, .int (eI 1)), (0, .ref (gA G a0)), (2, .int (eI x2)), (3, .int (eI x3)), (4, .int (eI x4)), (5, .int (eI x5)), (6, .long (eJ y6))]) dX12_blow_64 (Nat.le_of_ble_eq_true rfl) rfl ?_
      refine r_sub (lv' := [(0, .ref (gA G a0)), (2, .int (eI x2)), (3, .int (eI x3)), (4, .int (eI x4)), (5, .int (eI x5)), (6, .long (eJ y6)), (8, .int (eI 1))]) [1, 2, 3, 4, 5, 6, 0] rfl ?_
      exact bX12_blow_b66 a0 x1 x2 oa0 _ _ _ _ _ _ _ h
    · replace h := (if_neg c_1).symm.trans h
      refine r_aload_n (pc := 49) (i := 0) dX12_blow_49 rfl 0 rfl ?_
      have o_2 := (wt_12_50 oa0).2
      refine r_getR (pc := 50) fg_12_72 rfl oa0 (wt_12_50 oa0).1 dX12_blow_50 ?_
      refine r_iload (pc := 53) dX12_blow_53 6 rfl ?_
      refine r_lconst (pc := 55) (v := 0) dX12_blow_55 (by decide +kernel) ?_
      obtain ⟨c_3, h⟩ := og h
      obtain ⟨M_4, hM_4, h⟩ := ob h
      refine r_last (pc := 56) o_2 rfl c_3 rfl hM_4 dX12_blow_56 ?_
      obtain ⟨v_5, hv_5, h⟩ := ob h
      refine r_iinc (pc := 57) (y := v_5) (lv' := [(8, .int (eI v_5)), (0, .ref (gA G a0)), (2, .int (eI x2)), (3, .int (eI x3)), (4, .int (eI x4)), (5, .int (eI x5)), (6, .long (eJ y6))]) dX12_blow_57 6 rfl (Option.some.inj hv_5) (Nat.le_of_ble_eq_true rfl) rfl ?_
      refine r_goto (pc := 60) (tgt := 41) dX12_blow_60 (by decide) ?_
      refine r_sub (lv' := [(0, .ref (gA G a0)), (2, .int (eI x2)), (3, .int (eI x3)), (4, .int (eI x4)), (5, .int (eI x5)), (6, .long (eJ y6)), (8, .int (eI v_5))]) [1, 2, 3, 4, 5, 6, 0] rfl ?_
      exact ih _ _ _ _ _ _ h
set_option maxHeartbeats 4000000 in
set_option maxRecDepth 100000 in
theorem bX12_blow_b33 {G : GG} (a0 : Nat) (x1 : Int) (x2 : Int) (oa0 : OB L0 a0 12) (x3 : Int) (x4 : Int) (x90 : Int) (M : MM) {res : (Int × MM)}  (h : sX12_blow_b33 a0 x1 x2 x3 x4 x90 M = some res) : VV G xX12_blow (ZM G xX12_blow (some (.long (eJ res.1))) L0 res.2) L0 M 0 0 33 [(0, .ref (gA G a0)), (2, .int (eI x2)), (3, .int (eI x3)), (4, .int (eI x4))] [.int (eI x90)] := by
  unfold sX12_blow_b33 at h
  refine r_istore (pc := 33) (lv' := [(5, .int (eI x90)), (0, .ref (gA G a0)), (2, .int (eI x2)), (3, .int (eI x3)), (4, .int (eI x4))]) dX12_blow_33 (Nat.le_of_ble_eq_true rfl) rfl ?_
  refine r_lconst (pc := 35) (v := 0) dX12_blow_35 (by decide +kernel) ?_
  refine r_lstore (pc := 36) (lv' := [(6, .long (eJ 0)), (5, .int (eI x90)), (0, .ref (gA G a0)), (2, .int (eI x2)), (3, .int (eI x3)), (4, .int (eI x4))]) dX12_blow_36 (Nat.le_of_ble_eq_true rfl) rfl ?_
  refine r_iconst (pc := 38) (v := 0) dX12_blow_38 (by decide +kernel) ?_
  refine r_istore (pc := 39) (lv' := [(8, .int (eI 0)), (6, .long (eJ 0)), (5, .int (eI x90)), (0, .ref (gA G a0)), (2, .int (eI x2)), (3, .int (eI x3)), (4, .int (eI x4))]) dX12_blow_39 (Nat.le_of_ble_eq_true rfl) rfl ?_
  refine r_sub (lv' := [(0, .ref (gA G a0)), (2, .int (eI x2)), (3, .int (eI x3)), (4, .int (eI x4)), (5, .int (eI x90)), (6, .long (eJ 0)), (8, .int (eI 0))]) [3, 4, 5, 6, 2, 1, 0] rfl ?_
  exact bX12_blow_b41 a0 x1 x2 oa0 _ _ _ _ _ _ _ h
set_option maxHeartbeats 4000000 in
set_option maxRecDepth 100000 in
theorem bX12_blow_b0 {G : GG} (a0 : Nat) (x1 : Int) (x2 : Int) (oa0 : OB L0 a0 12)  (M : MM) {res : (Int × MM)}  (h : sX12_blow_b0 a0 x1 x2 M = some res) : VV G xX12_blow (ZM G xX12_blow (some (.long (eJ res.1))) L0 res.2) L0 M 0 0 0 [(0, .ref (gA G a0)), (1, .int (eI x1)), (2, .int (eI x2))] [] := by
  unfold sX12_blow_b0 at h
  refine r_aload_n (pc := 0) (i := 0) dX12_blow_0 rfl 0 rfl ?_
  refine r_iload_n (pc := 1) (i := 1) dX12_blow_1 rfl 1 rfl ?_
  refine r_iconst (pc := 2) (v := 2) dX12_blow_2 (by decide +kernel) ?_
  obtain ⟨q_1, hq_1, h⟩ := ob h
  refine r_cV (pc := 3) (Y := xX12_ofChild) (As := [.int (eI x1), .int (eI 2)]) (rest := []) (v := (some (.int (eI q_1)))) (st1 := [.int (eI q_1)]) ck_X12_blow_334 (kX12_ofChild a0 x1 2 M oa0 hq_1) oa0 rfl rfl rfl rfl (Nat.le_of_ble_eq_true rfl) ⟨rfl, rfl⟩ rfl dX12_blow_3 ?_
  refine r_istore_n (pc := 6) (i := 3) (lv' := [(3, .int (eI q_1)), (0, .ref (gA G a0)), (1, .int (eI x1)), (2, .int (eI x2))]) dX12_blow_6 rfl (Nat.le_of_ble_eq_true rfl) rfl ?_
  refine r_aload_n (pc := 7) (i := 0) dX12_blow_7 rfl 1 rfl ?_
  refine r_iload_n (pc := 8) (i := 1) dX12_blow_8 rfl 2 rfl ?_
  refine r_iconst (pc := 9) (v := 1) dX12_blow_9 (by decide +kernel) ?_
  obtain ⟨q_2, hq_2, h⟩ := ob h
  refine r_cV (pc := 10) (Y := xX12_ofChild) (As := [.int (eI x1), .int (eI 1)]) (rest := []) (v := (some (.int (eI q_2)))) (st1 := [.int (eI q_2)]) ck_X12_blow_334 (kX12_ofChild a0 x1 1 M oa0 hq_2) oa0 rfl rfl rfl rfl (Nat.le_of_ble_eq_true rfl) ⟨rfl, rfl⟩ rfl dX12_blow_10 ?_
  refine r_istore (pc := 13) (lv' := [(4, .int (eI q_2)), (3, .int (eI q_1)), (0, .ref (gA G a0)), (1, .int (eI x1)), (2, .int (eI x2))]) dX12_blow_13 (Nat.le_of_ble_eq_true rfl) rfl ?_
  refine r_aload_n (pc := 15) (i := 0) dX12_blow_15 rfl 2 rfl ?_
  refine r_iload_n (pc := 16) (i := 1) dX12_blow_16 rfl 3 rfl ?_
  refine r_iconst (pc := 17) (v := 0) dX12_blow_17 (by decide +kernel) ?_
  obtain ⟨q_3, hq_3, h⟩ := ob h
  refine r_cV (pc := 18) (Y := xX12_ofChild) (As := [.int (eI x1), .int (eI 0)]) (rest := []) (v := (some (.int (eI q_3)))) (st1 := [.int (eI q_3)]) ck_X12_blow_334 (kX12_ofChild a0 x1 0 M oa0 hq_3) oa0 rfl rfl rfl rfl (Nat.le_of_ble_eq_true rfl) ⟨rfl, rfl⟩ rfl dX12_blow_18 ?_
  refine r_aload_n (pc := 21) (i := 0) dX12_blow_21 rfl 2 rfl ?_
  refine r_getI (pc := 22) fg_12_325 rfl oa0 dX12_blow_22 ?_
  refine r_icmp_lt (pc := 25) (tgt := 32) dX12_blow_25 (by decide) rfl rfl (fun c_4 => ?_) (fun c_4 => ?_)
  · replace h := (if_pos c_4).symm.trans h
    refine r_iconst (pc := 32) (v := 0) dX12_blow_32 (by decide +kernel) ?_
    refine r_sub (lv' := [(0, .ref (gA G a0)), (2, .int (eI x2)), (3, .int (eI q_1)), (4, .int (eI q_2))]) [2, 4, 1, 0] rfl ?_
    exact bX12_blow_b33 a0 x1 x2 oa0 _ _ _ _ h
  · replace h := (if_neg c_4).symm.trans h
    refine r_iconst (pc := 28) (v := 1) dX12_blow_28 (by decide +kernel) ?_
    refine r_goto (pc := 29) (tgt := 33) dX12_blow_29 (by decide) ?_
    refine r_sub (lv' := [(0, .ref (gA G a0)), (2, .int (eI x2)), (3, .int (eI q_1)), (4, .int (eI q_2))]) [2, 4, 1, 0] rfl ?_
    exact bX12_blow_b33 a0 x1 x2 oa0 _ _ _ _ h
theorem kX12_blow {G : GG} (a0 : Nat) (x1 : Int) (x2 : Int) (M : MM) {res : (Int × MM)} (oa0 : OB L0 a0 12) (h : sX12_blow a0 x1 x2 M = some res) : CO G xX12_blow [.ref (gA G a0), .int (eI x1), .int (eI x2)] L0 M (some (.long (eJ res.1))) L0 res.2 := CO_of (by decide +kernel) (Nat.le_of_ble_eq_true rfl) (bX12_blow_b0 a0 x1 x2 oa0 M h)
abbrev xX12_turnTo : XX := (yX12_turnTo, cX12_turnTo, 3, none, 0, 0, 0, 0)
def sX12_turnTo_b2 (a0 : Nat) (x1 : Int)  : Nat → Int → MM → Option MM
  | 0, _, _ => none
  | n + 1, x2, M => (if wI x1 < wI x2 then (some (M)) else (if 0 ≤ wI x2 ∧ wI x2 < 542 then (if 0 ≤ wI (271 + x2) ∧ wI (271 + x2) < 542 then (if 0 ≤ wI x2 ∧ wI x2 < 542 then ((some (mU M (gR a0 49) (wI x2).toNat ((M (gR a0 49) (wI x2).toNat) + (M (gR a0 49) (wI (271 + x2)).toNat)))).bind fun M_7 => (if 0 ≤ wI (271 + x2) ∧ wI (271 + x2) < 542 then ((some (mU M_7 (gR a0 49) (wI (271 + x2)).toNat 0)).bind fun M_10 => ((some (x2 + 1)).bind fun v_11 => (sX12_turnTo_b2 a0 x1 n v_11 M_10))) else none)) else none) else none) else none))
def sX12_turnTo_b0 (a0 : Nat) (x1 : Int)   (M : MM) : Option MM := (sX12_turnTo_b2 a0 x1 FU 0 M)
def sX12_turnTo (a0 : Nat) (x1 : Int) (M : MM) : Option MM := sX12_turnTo_b0 a0 x1 M
set_option maxHeartbeats 4000000 in
set_option maxRecDepth 100000 in
theorem bX12_turnTo_b2 {G : GG} (a0 : Nat) (x1 : Int) (oa0 : OB L0 a0 12) {res : MM} : ∀ (n : Nat) (x2 : Int) (M : MM)  (h : sX12_turnTo_b2 a0 x1 n x2 M = some res), VV G xX12_turnTo (ZM G xX12_turnTo (none) L0 res) L0 M 0 0 2 [(0, .ref (gA G a0)), (1, .int (eI x1)), (2, .int (eI x2))] [] := by
  intro n
  induction n with
  | zero =>
    intro x2 M h
    rw [sX12_turnTo_b2] at h
    cases h
  | succ n ih =>
    intro x2 M h
    rw [sX12_turnTo_b2] at h
    refine r_iload_n (pc := 2) (i := 2) dX12_turnTo_2 rfl 2 rfl ?_
    refine r_iload_n (pc := 3) (i := 1) dX12_turnTo_3 rfl 1 rfl ?_
    refine r_icmp_gt (pc := 4) (tgt := 43) dX12_turnTo_4 (by decide) rfl rfl (fun c_1 => ?_) (fun c_1 => ?_)
    · replace h := (if_pos c_1).symm.trans h
      cases h
      exact r_vret (pc := 43) rfl (Nat.le_refl 0) (Nat.le_refl 0) dX12_turnTo_43
    · replace h := (if_neg c_1).symm.trans h
      refine r_aload_n (pc := 7) (i := 0) dX12_turnTo_7 rfl 0 rfl ?_
      have o_2 := (wt_12_49 oa0).2
      refine r_getR (pc := 8) fg_12_69 rfl oa0 (wt_12_49 oa0).1 dX12_turnTo_8 ?_
      refine r_iload_n (pc := 11) (i := 2) dX12_turnTo_11 rfl 2 rfl ?_
      refine r_dup2 (pc := 12) dX12_turnTo_12 rfl rfl ?_
      obtain ⟨c_3, h⟩ := og h
      refine r_lald (pc := 13) o_2 rfl c_3 rfl dX12_turnTo_13 ?_
      refine r_aload_n (pc := 14) (i := 0) dX12_turnTo_14 rfl 0 rfl ?_
      have o_4 := (wt_12_49 oa0).2
      refine r_getR (pc := 15) fg_12_69 rfl oa0 (wt_12_49 oa0).1 dX12_turnTo_15 ?_
      refine r_sipush (pc := 18) (v := 271) dX12_turnTo_18 (by decide +kernel) ?_
      refine r_iload_n (pc := 21) (i := 2) dX12_turnTo_21 rfl 2 rfl ?_
      refine r_iadd (pc := 22) dX12_turnTo_22 ?_
      obtain ⟨c_5, h⟩ := og h
      refine r_lald (pc := 23) o_4 rfl c_5 rfl dX12_turnTo_23 ?_
      refine r_ladd (pc := 24) dX12_turnTo_24 ?_
      obtain ⟨c_6, h⟩ := og h
      obtain ⟨M_7, hM_7, h⟩ := ob h
      refine r_last (pc := 25) o_2 rfl c_6 rfl hM_7 dX12_turnTo_25 ?_
      refine r_aload_n (pc := 26) (i := 0) dX12_turnTo_26 rfl 0 rfl ?_
      have o_8 := (wt_12_49 oa0).2
      refine r_getR (pc := 27) fg_12_69 rfl oa0 (wt_12_49 oa0).1 dX12_turnTo_27 ?_
      refine r_sipush (pc := 30) (v := 271) dX12_turnTo_30 (by decide +kernel) ?_
      refine r_iload_n (pc := 33) (i := 2) dX12_turnTo_33 rfl 2 rfl ?_
      refine r_iadd (pc := 34) dX12_turnTo_34 ?_
      refine r_lconst (pc := 35) (v := 0) dX12_turnTo_35 (by decide +kernel) ?_
      obtain ⟨c_9, h⟩ := og h
      obtain ⟨M_10, hM_10, h⟩ := ob h
      refine r_last (pc := 36) o_8 rfl c_9 rfl hM_10 dX12_turnTo_36 ?_
      obtain ⟨v_11, hv_11, h⟩ := ob h
      refine r_iinc (pc := 37) (y := v_11) (lv' := [(2, .int (eI v_11)), (0, .ref (gA G a0)), (1, .int (eI x1))]) dX12_turnTo_37 2 rfl (Option.some.inj hv_11) (Nat.le_of_ble_eq_true rfl) rfl ?_
      refine r_goto (pc := 40) (tgt := 2) dX12_turnTo_40 (by decide) ?_
      refine r_sub (lv' := [(0, .ref (gA G a0)), (1, .int (eI x1)), (2, .int (eI v_11))]) [1, 2, 0] rfl ?_
      exact ih _ _ h
set_option maxHeartbeats 4000000 in
set_option maxRecDepth 100000 in
theorem bX12_turnTo_b0 {G : GG} (a0 : Nat) (x1 : Int) (oa0 : OB L0 a0 12)  (M : MM) {res : MM}  (h : sX12_turnTo_b0 a0 x1 M = some res) : VV G xX12_turnTo (ZM G xX12_turnTo (none) L0 res) L0 M 0 0 0 [(0, .ref (gA G a0)), (1, .int (eI x1))] [] := by
  unfold sX12_turnTo_b0 at h
  refine r_iconst (pc := 0) (v := 0) dX12_turnTo_0 (by decide +kernel) ?_
  refine r_istore_n (pc := 1) (i := 2) (lv' := [(2, .int (eI 0)), (0, .ref (gA G a0)), (1, .int (eI x1))]) dX12_turnTo_1 rfl (Nat.le_of_ble_eq_true rfl) rfl ?_
  refine r_sub (lv' := [(0, .ref (gA G a0)), (1, .int (eI x1)), (2, .int (eI 0))]) [1, 2, 0] rfl ?_
  exact bX12_turnTo_b2 a0 x1 oa0 _ _ _ h
theorem kX12_turnTo {G : GG} (a0 : Nat) (x1 : Int) (M : MM) {res : MM} (oa0 : OB L0 a0 12) (h : sX12_turnTo a0 x1 M = some res) : CO G xX12_turnTo [.ref (gA G a0), .int (eI x1)] L0 M (none) L0 res := CO_of (by decide +kernel) (Nat.le_of_ble_eq_true rfl) (bX12_turnTo_b0 a0 x1 oa0 M h)
abbrev xX12_standing : XX := (yX12_standing, cX12_standing, 5, (some .long), 0, 0, 0, 0)
def sX12_standing_b5 (a0 : Nat) (x1 : Int) (M : MM)  : Nat → Int → Int → Option Int
  | 0, _, _ => none
  | n + 1, y2, x4 => (if wI x1 < wI x4 then (some (y2)) else (if 0 ≤ wI x4 ∧ wI x4 < 542 then (if 0 ≤ wI (271 + x4) ∧ wI (271 + x4) < 542 then ((some (y2 + ((M (gR a0 49) (wI x4).toNat) + (M (gR a0 49) (wI (271 + x4)).toNat)))).bind fun v_6 => ((some (x4 + 1)).bind fun v_7 => (sX12_standing_b5 a0 x1 M n v_6 v_7))) else none) else none))
def sX12_standing_b0 (a0 : Nat) (x1 : Int) (M : MM)   : Option Int := (sX12_standing_b5 a0 x1 M FU 0 1)
def sX12_standing (a0 : Nat) (x1 : Int) (M : MM) : Option Int := sX12_standing_b0 a0 x1 M
set_option maxHeartbeats 4000000 in
set_option maxRecDepth 100000 in
theorem bX12_standing_b5 {G : GG} (a0 : Nat) (x1 : Int) (M : MM) (oa0 : OB L0 a0 12) {res : Int} : ∀ (n : Nat) (y2 : Int) (x4 : Int)  (h : sX12_standing_b5 a0 x1 M n y2 x4 = some res), VV G xX12_standing (ZM G xX12_standing (some (.long (eJ res))) L0 M) L0 M 0 0 5 [(0, .ref (gA G a0)), (1, .int (eI x1)), (2, .long (eJ y2)), (4, .int (eI x4))] [] := by
  intro n
  induction n with
  | zero =>
    intro y2 x4 h
    rw [sX12_standing_b5] at h
    cases h
  | succ n ih =>
    intro y2 x4 h
    rw [sX12_standing_b5] at h
    refine r_iload (pc := 5) dX12_standing_5 3 rfl ?_
    refine r_iload_n (pc := 7) (i := 1) dX12_standing_7 rfl 1 rfl ?_
    refine r_icmp_gt (pc := 8) (tgt := 39) dX12_standing_8 (by decide) rfl rfl (fun c_1 => ?_) (fun c_1 => ?_)
    · replace h := (if_pos c_1).symm.trans h
      refine r_lload_n (pc := 39) (i := 2) dX12_standing_39 rfl 2 rfl ?_
      cases h
      exact r_lret (pc := 40) rfl (Nat.le_refl 0) (Nat.le_refl 0) dX12_standing_40
    · replace h := (if_neg c_1).symm.trans h
      refine r_lload_n (pc := 11) (i := 2) dX12_standing_11 rfl 2 rfl ?_
      refine r_aload_n (pc := 12) (i := 0) dX12_standing_12 rfl 0 rfl ?_
      have o_2 := (wt_12_49 oa0).2
      refine r_getR (pc := 13) fg_12_69 rfl oa0 (wt_12_49 oa0).1 dX12_standing_13 ?_
      refine r_iload (pc := 16) dX12_standing_16 3 rfl ?_
      obtain ⟨c_3, h⟩ := og h
      refine r_lald (pc := 18) o_2 rfl c_3 rfl dX12_standing_18 ?_
      refine r_aload_n (pc := 19) (i := 0) dX12_standing_19 rfl 0 rfl ?_
      have o_4 := (wt_12_49 oa0).2
      refine r_getR (pc := 20) fg_12_69 rfl oa0 (wt_12_49 oa0).1 dX12_standing_20 ?_
      refine r_sipush (pc := 23) (v := 271) dX12_standing_23 (by decide +kernel) ?_
      refine r_iload (pc := 26) dX12_standing_26 3 rfl ?_
      refine r_iadd (pc := 28) dX12_standing_28 ?_
      obtain ⟨c_5, h⟩ := og h
      refine r_lald (pc := 29) o_4 rfl c_5 rfl dX12_standing_29 ?_
      refine r_ladd (pc := 30) dX12_standing_30 ?_
      refine r_ladd (pc := 31) dX12_standing_31 ?_
      obtain ⟨v_6, hv_6, h⟩ := ob h
      refine r_nmJ (pc := 32) hv_6 ?_
      refine r_lstore_n (pc := 32) (i := 2) (lv' := [(2, .long (eJ v_6)), (0, .ref (gA G a0)), (1, .int (eI x1)), (4, .int (eI x4))]) dX12_standing_32 rfl (Nat.le_of_ble_eq_true rfl) rfl ?_
      obtain ⟨v_7, hv_7, h⟩ := ob h
      refine r_iinc (pc := 33) (y := v_7) (lv' := [(4, .int (eI v_7)), (2, .long (eJ v_6)), (0, .ref (gA G a0)), (1, .int (eI x1))]) dX12_standing_33 3 rfl (Option.some.inj hv_7) (Nat.le_of_ble_eq_true rfl) rfl ?_
      refine r_goto (pc := 36) (tgt := 5) dX12_standing_36 (by decide) ?_
      refine r_sub (lv' := [(0, .ref (gA G a0)), (1, .int (eI x1)), (2, .long (eJ v_6)), (4, .int (eI v_7))]) [2, 3, 1, 0] rfl ?_
      exact ih _ _ h
set_option maxHeartbeats 4000000 in
set_option maxRecDepth 100000 in
theorem bX12_standing_b0 {G : GG} (a0 : Nat) (x1 : Int) (M : MM) (oa0 : OB L0 a0 12)  {res : Int}  (h : sX12_standing_b0 a0 x1 M = some res) : VV G xX12_standing (ZM G xX12_standing (some (.long (eJ res))) L0 M) L0 M 0 0 0 [(0, .ref (gA G a0)), (1, .int (eI x1))] [] := by
  unfold sX12_standing_b0 at h
  refine r_lconst (pc := 0) (v := 0) dX12_standing_0 (by decide +kernel) ?_
  refine r_lstore_n (pc := 1) (i := 2) (lv' := [(2, .long (eJ 0)), (0, .ref (gA G a0)), (1, .int (eI x1))]) dX12_standing_1 rfl (Nat.le_of_ble_eq_true rfl) rfl ?_
  refine r_iconst (pc := 2) (v := 1) dX12_standing_2 (by decide +kernel) ?_
  refine r_istore (pc := 3) (lv' := [(4, .int (eI 1)), (2, .long (eJ 0)), (0, .ref (gA G a0)), (1, .int (eI x1))]) dX12_standing_3 (Nat.le_of_ble_eq_true rfl) rfl ?_
  refine r_sub (lv' := [(0, .ref (gA G a0)), (1, .int (eI x1)), (2, .long (eJ 0)), (4, .int (eI 1))]) [2, 3, 1, 0] rfl ?_
  exact bX12_standing_b5 a0 x1 M oa0 _ _ _ h
theorem kX12_standing {G : GG} (a0 : Nat) (x1 : Int) (M : MM) {res : Int} (oa0 : OB L0 a0 12) (h : sX12_standing a0 x1 M = some res) : CO G xX12_standing [.ref (gA G a0), .int (eI x1)] L0 M (some (.long (eJ res))) L0 M := CO_of (by decide +kernel) (Nat.le_of_ble_eq_true rfl) (bX12_standing_b0 a0 x1 M oa0 h)
abbrev xX12_findChances : XX := (yX12_findChances, cX12_findChances, 8, none, 3, 74, 0, 0)
theorem ck_X12_findChances_409 : CKV xX12_findChances 409 xX12_belly 0 := ⟨⟨tb_i 1820 (by decide +kernel) (by decide +kernel), tb_i 152 (by decide +kernel) (by decide +kernel), tb_i 1823 (by decide +kernel) (by decide +kernel), ⟨by decide +kernel, by decide +kernel, by decide +kernel⟩, by decide, by decide⟩, tb_i 1822 (by decide +kernel) (by decide +kernel), tb_i 79 (by decide +kernel) (by decide +kernel)⟩
theorem ck_X12_findChances_476 : CKV xX12_findChances 476 xX12_turnTo 1 := ⟨⟨tb_i 1960 (by decide +kernel) (by decide +kernel), tb_i 152 (by decide +kernel) (by decide +kernel), tb_i 1963 (by decide +kernel) (by decide +kernel), ⟨by decide +kernel, by decide +kernel, by decide +kernel⟩, by decide, by decide⟩, tb_i 1962 (by decide +kernel) (by decide +kernel), tb_i 101 (by decide +kernel) (by decide +kernel)⟩
theorem ck_X12_findChances_479 : CKV xX12_findChances 479 xX12_standing 1 := ⟨⟨tb_i 1964 (by decide +kernel) (by decide +kernel), tb_i 152 (by decide +kernel) (by decide +kernel), tb_i 1967 (by decide +kernel) (by decide +kernel), ⟨by decide +kernel, by decide +kernel, by decide +kernel⟩, by decide, by decide⟩, tb_i 1966 (by decide +kernel) (by decide +kernel), tb_i 102 (by decide +kernel) (by decide +kernel)⟩
theorem ck_X12_findChances_483 : CKV xX12_findChances 483 xX12_blow 2 := ⟨⟨tb_i 1968 (by decide +kernel) (by decide +kernel), tb_i 152 (by decide +kernel) (by decide +kernel), tb_i 1971 (by decide +kernel) (by decide +kernel), ⟨by decide +kernel, by decide +kernel, by decide +kernel⟩, by decide, by decide⟩, tb_i 1970 (by decide +kernel) (by decide +kernel), tb_i 103 (by decide +kernel) (by decide +kernel)⟩
def sX12_findChances_b155 (a0 : Nat) (x1 : Int) (K118 : Int → Int → Int → MM → Option MM) : Nat → Int → Int → Int → Int → Int → MM → Option MM
  | 0, _, _, _, _, _, _ => none
  | n + 1, x2, x3, x4, y5, x7, M => (if wI (M a0 26) ≤ wI x7 then (if 0 ≤ wI x3 ∧ wI x3 < 8 then (if 0 ≤ wI (M (gR a0 52) (wI x3).toNat) ∧ wI (M (gR a0 52) (wI x3).toNat) < 8 then (if 0 ≤ wI (M (gR a0 52) (wI x3).toNat) ∧ wI (M (gR a0 52) (wI x3).toNat) < 8 then ((some (mU M (gR a0 51) (wI (M (gR a0 52) (wI x3).toNat)).toNat ((M (gR a0 51) (wI (M (gR a0 52) (wI x3).toNat)).toNat) + y5))).bind fun M_7 => ((some (mU M_7 a0 54 ((M_7 a0 54) * 10))).bind fun M_8 => ((some (x4 + 1)).bind fun v_9 => (K118 x2 x3 v_9 M_8)))) else none) else none) else none) else (if 0 ≤ wI x7 ∧ wI x7 < 8 then (if 0 ≤ wI x7 ∧ wI x7 < 8 then ((some (mU M (gR a0 51) (wI x7).toNat ((M (gR a0 51) (wI x7).toNat) * 10))).bind fun M_13 => ((some (x7 + 1)).bind fun v_14 => (sX12_findChances_b155 a0 x1 K118 n x2 x3 x4 y5 v_14 M_13))) else none) else none))
def sX12_findChances_b118 (a0 : Nat) (x1 : Int) (K76 : Int → Int → MM → Option MM) : Nat → Int → Int → Int → MM → Option MM
  | 0, _, _, _, _ => none
  | n + 1, x2, x3, x4, M => (if wI (M a0 27) ≤ wI x4 then ((some (x3 + 1)).bind fun v_2 => (K76 x2 v_2 M)) else (if 0 ≤ wI x3 ∧ wI x3 < 8 then ((sX12_blow a0 (M (gR a0 52) (wI x3).toNat) x2 M).bind fun q_5 => ((some (mU q_5.2 a0 53 ((q_5.2 a0 53) * 10))).bind fun M_6 => (sX12_findChances_b155 a0 x1 (fun x2 x3 x4 M => sX12_findChances_b118 a0 x1 K76 n x2 x3 x4 M) FU x2 x3 x4 (q_5.1) 0 M_6))) else none))
def sX12_findChances_b112 (a0 : Nat) (x1 : Int) (K76 : Int → Int → MM → Option MM) (x2 : Int) (x3 : Int) (a90 : Nat) (y91 : Int) (M : MM) : Option MM := ((some (mU M a90 54 y91)).bind fun M_1 => (sX12_findChances_b118 a0 x1 K76 FU x2 x3 0 M_1))
def sX12_findChances_b76 (a0 : Nat) (x1 : Int)  : Nat → Int → Int → MM → Option MM
  | 0, _, _, _ => none
  | n + 1, x2, x3, M => (if wI (M a0 26) ≤ wI x3 then (if 0 ≤ wI ((M a0 26) - 1) ∧ wI ((M a0 26) - 1) < 8 then (if 0 ≤ wI (M (gR a0 52) (wI ((M a0 26) - 1)).toNat) ∧ wI (M (gR a0 52) (wI ((M a0 26) - 1)).toNat) < 8 then ((some (mU M a0 55 (M (gR a0 51) (wI (M (gR a0 52) (wI ((M a0 26) - 1)).toNat)).toNat))).bind fun M_6 => ((sX12_standing a0 x2 M_6).bind fun q_7 => ((some (mU M_6 a0 56 q_7)).bind fun M_8 => (some (M_8))))) else none) else none) else ((sX12_turnTo a0 x2 M).bind fun q_9 => (if wI x3 = wI ((q_9 a0 26) - 1) then ((sX12_standing a0 x2 q_9).bind fun q_11 => (sX12_findChances_b112 a0 x1 (fun x2 x3 M => sX12_findChances_b76 a0 x1 n x2 x3 M) x2 x3 a0 q_11 q_9)) else (sX12_findChances_b112 a0 x1 (fun x2 x3 M => sX12_findChances_b76 a0 x1 n x2 x3 M) x2 x3 a0 (q_9 a0 54) q_9))))
def sX12_findChances_b55 (a0 : Nat) (x1 : Int)  : Nat → Int → Int → MM → Option MM
  | 0, _, _, _ => none
  | n + 1, x2, x3, M => (if 8 ≤ wI x3 then (sX12_findChances_b76 a0 x1 FU x2 0 M) else (if 0 ≤ wI x3 ∧ wI x3 < 8 then ((some (mU M (gR a0 51) (wI x3).toNat 0)).bind fun M_4 => ((some (x3 + 1)).bind fun v_5 => (sX12_findChances_b55 a0 x1 n x2 v_5 M_4))) else none))
def sX12_findChances_b31 (a0 : Nat) (x1 : Int) (K9 : Int → Int → MM → Option MM) (x2 : Int) (x3 : Int) (b90 : Nat) (x91 : Int) (y92 : Int) (M : MM) : Option MM := (if 0 ≤ wI x91 ∧ wI x91 < 542 then ((some (mU M b90 (wI x91).toNat y92)).bind fun M_2 => ((some (x3 + 1)).bind fun v_3 => (K9 x2 v_3 M_2))) else none)
def sX12_findChances_b9 (a0 : Nat) (x1 : Int)  : Nat → Int → Int → MM → Option MM
  | 0, _, _, _ => none
  | n + 1, x2, x3, M => (if 542 ≤ wI x3 then ((some (mU M a0 53 1)).bind fun M_2 => ((some (mU M_2 a0 54 0)).bind fun M_3 => ((some (mU M_3 a0 55 0)).bind fun M_4 => (sX12_findChances_b55 a0 x1 FU x2 0 M_4)))) else (if wI x3 = wI x2 then (sX12_findChances_b31 a0 x1 (fun x2 x3 M => sX12_findChances_b9 a0 x1 n x2 x3 M) x2 x3 (gR a0 49) x3 1 M) else (sX12_findChances_b31 a0 x1 (fun x2 x3 M => sX12_findChances_b9 a0 x1 n x2 x3 M) x2 x3 (gR a0 49) x3 0 M)))
def sX12_findChances_b0 (a0 : Nat) (x1 : Int)   (M : MM) : Option MM := ((sX12_belly a0 M).bind fun q_1 => (sX12_findChances_b9 a0 x1 FU (q_1 * x1) 0 M))
def sX12_findChances (a0 : Nat) (x1 : Int) (M : MM) : Option MM := sX12_findChances_b0 a0 x1 M
set_option maxHeartbeats 4000000 in
set_option maxRecDepth 100000 in
theorem bX12_findChances_b155 {G : GG} (a0 : Nat) (x1 : Int) (oa0 : OB L0 a0 12) {K118 : Int → Int → Int → MM → Option MM} {res : MM} (hK118 : ∀ (x2 : Int) (x3 : Int) (x4 : Int) (M : MM), K118 x2 x3 x4 M = some res → VV G xX12_findChances (ZM G xX12_findChances (none) L0 res) L0 M 0 0 118 [(0, .ref (gA G a0)), (2, .int (eI x2)), (3, .int (eI x3)), (4, .int (eI x4))] []) : ∀ (n : Nat) (x2 : Int) (x3 : Int) (x4 : Int) (y5 : Int) (x7 : Int) (M : MM)  (h : sX12_findChances_b155 a0 x1 K118 n x2 x3 x4 y5 x7 M = some res), VV G xX12_findChances (ZM G xX12_findChances (none) L0 res) L0 M 0 0 155 [(0, .ref (gA G a0)), (2, .int (eI x2)), (3, .int (eI x3)), (4, .int (eI x4)), (5, .long (eJ y5)), (7, .int (eI x7))] [] := by
  intro n
  induction n with
  | zero =>
    intro x2 x3 x4 y5 x7 M h
    rw [sX12_findChances_b155] at h
    cases h
  | succ n ih =>
    intro x2 x3 x4 y5 x7 M h
    rw [sX12_findChances_b155] at h
    refine r_iload (pc := 155) dX12_findChances_155 5 rfl ?_
    refine r_aload_n (pc := 157) (i := 0) dX12_findChances_157 rfl 0 rfl ?_
    refine r_getI (pc := 158) fg_12_319 rfl oa0 dX12_findChances_158 ?_
    refine r_icmp_ge (pc := 161) (tgt := 183) dX12_findChances_161 (by decide) rfl rfl (fun c_1 => ?_) (fun c_1 => ?_)
    · replace h := (if_pos c_1).symm.trans h
      refine r_aload_n (pc := 183) (i := 0) dX12_findChances_183 rfl 0 rfl ?_
      have o_2 := (wt_12_51 oa0).2
      refine r_getR (pc := 184) fg_12_75 rfl oa0 (wt_12_51 oa0).1 dX12_findChances_184 ?_
      refine r_aload_n (pc := 187) (i := 0) dX12_findChances_187 rfl 0 rfl ?_
      have o_3 := (wt_12_52 oa0).2
      refine r_getR (pc := 188) fg_12_78 rfl oa0 (wt_12_52 oa0).1 dX12_findChances_188 ?_
      refine r_iload_n (pc := 191) (i := 3) dX12_findChances_191 rfl 2 rfl ?_
      obtain ⟨c_4, h⟩ := og h
      refine r_iald (pc := 192) o_3 rfl c_4 rfl dX12_findChances_192 ?_
      refine r_dup2 (pc := 193) dX12_findChances_193 rfl rfl ?_
      obtain ⟨c_5, h⟩ := og h
      refine r_lald (pc := 194) o_2 rfl c_5 rfl dX12_findChances_194 ?_
      refine r_lload (pc := 195) dX12_findChances_195 4 rfl ?_
      refine r_ladd (pc := 197) dX12_findChances_197 ?_
      obtain ⟨c_6, h⟩ := og h
      obtain ⟨M_7, hM_7, h⟩ := ob h
      refine r_last (pc := 198) o_2 rfl c_6 rfl hM_7 dX12_findChances_198 ?_
      refine r_aload_n (pc := 199) (i := 0) dX12_findChances_199 rfl 0 rfl ?_
      refine r_dup (pc := 200) dX12_findChances_200 rfl ?_
      refine r_getJ (pc := 201) fg_12_470 rfl oa0 dX12_findChances_201 ?_
      refine r_ldc2 (pc := 204) (v := 10) kc_12_487 dX12_findChances_204 ?_
      refine r_lmul (pc := 207) dX12_findChances_207 ?_
      obtain ⟨M_8, hM_8, h⟩ := ob h
      refine r_putJ (pc := 208) fg_12_470 rfl oa0 hM_8 rfl rfl dX12_findChances_208 ?_
      obtain ⟨v_9, hv_9, h⟩ := ob h
      refine r_iinc (pc := 211) (y := v_9) (lv' := [(4, .int (eI v_9)), (0, .ref (gA G a0)), (2, .int (eI x2)), (3, .int (eI x3)), (5, .long (eJ y5)), (7, .int (eI x7))]) dX12_findChances_211 3 rfl (Option.some.inj hv_9) (Nat.le_of_ble_eq_true rfl) rfl ?_
      refine r_goto (pc := 214) (tgt := 118) dX12_findChances_214 (by decide) ?_
      refine r_sub (lv' := [(0, .ref (gA G a0)), (2, .int (eI x2)), (3, .int (eI x3)), (4, .int (eI v_9))]) [1, 2, 3, 0] rfl ?_
      exact hK118 _ _ _ _ h
    · replace h := (if_neg c_1).symm.trans h
      refine r_aload_n (pc := 164) (i := 0) dX12_findChances_164 rfl 0 rfl ?_
      have o_10 := (wt_12_51 oa0).2
      refine r_getR (pc := 165) fg_12_75 rfl oa0 (wt_12_51 oa0).1 dX12_findChances_165 ?_
      refine r_iload (pc := 168) dX12_findChances_168 5 rfl ?_
      refine r_dup2 (pc := 170) dX12_findChances_170 rfl rfl ?_
      obtain ⟨c_11, h⟩ := og h
      refine r_lald (pc := 171) o_10 rfl c_11 rfl dX12_findChances_171 ?_
      refine r_ldc2 (pc := 172) (v := 10) kc_12_487 dX12_findChances_172 ?_
      refine r_lmul (pc := 175) dX12_findChances_175 ?_
      obtain ⟨c_12, h⟩ := og h
      obtain ⟨M_13, hM_13, h⟩ := ob h
      refine r_last (pc := 176) o_10 rfl c_12 rfl hM_13 dX12_findChances_176 ?_
      obtain ⟨v_14, hv_14, h⟩ := ob h
      refine r_iinc (pc := 177) (y := v_14) (lv' := [(7, .int (eI v_14)), (0, .ref (gA G a0)), (2, .int (eI x2)), (3, .int (eI x3)), (4, .int (eI x4)), (5, .long (eJ y5))]) dX12_findChances_177 5 rfl (Option.some.inj hv_14) (Nat.le_of_ble_eq_true rfl) rfl ?_
      refine r_goto (pc := 180) (tgt := 155) dX12_findChances_180 (by decide) ?_
      refine r_sub (lv' := [(0, .ref (gA G a0)), (2, .int (eI x2)), (3, .int (eI x3)), (4, .int (eI x4)), (5, .long (eJ y5)), (7, .int (eI v_14))]) [1, 2, 3, 4, 5, 0] rfl ?_
      exact ih _ _ _ _ _ _ h
set_option maxHeartbeats 4000000 in
set_option maxRecDepth 100000 in
theorem bX12_findChances_b118 {G : GG} (a0 : Nat) (x1 : Int) (oa0 : OB L0 a0 12) {K76 : Int → Int → MM → Option MM} {res : MM} (hK76 : ∀ (x2 : Int) (x3 : Int) (M : MM), K76 x2 x3 M = some res → VV G xX12_findChances (ZM G xX12_findChances (none) L0 res) L0 M 0 0 76 [(0, .ref (gA G a0)), (2, .int (eI x2)), (3, .int (eI x3))] []) : ∀ (n : Nat) (x2 : Int) (x3 : Int) (x4 : Int) (M : MM)  (h : sX12_findChances_b118 a0 x1 K76 n x2 x3 x4 M = some res), VV G xX12_findChances (ZM G xX12_findChances (none) L0 res) L0 M 0 0 118 [(0, .ref (gA G a0)), (2, .int (eI x2)), (3, .int (eI x3)), (4, .int (eI x4))] [] := by
  intro n
  induction n with
  | zero =>
    intro x2 x3 x4 M h
    rw [sX12_findChances_b118] at h
    cases h
  | succ n ih =>
    intro x2 x3 x4 M h
    rw [sX12_findChances_b118] at h
    refine r_iload (pc := 118) dX12_findChances_118 3 rfl ?_
    refine r_aload_n (pc := 120) (i := 0) dX12_findChances_120 rfl 0 rfl ?_
    refine r_getI (pc := 121) fg_12_322 rfl oa0 dX12_findChances_121 ?_
    refine r_icmp_ge (pc := 124) (tgt := 217) dX12_findChances_124 (by decide) rfl rfl (fun c_1 => ?_) (fun c_1 => ?_)
    · replace h := (if_pos c_1).symm.trans h
      obtain ⟨v_2, hv_2, h⟩ := ob h
      refine r_iinc (pc := 217) (y := v_2) (lv' := [(3, .int (eI v_2)), (0, .ref (gA G a0)), (2, .int (eI x2)), (4, .int (eI x4))]) dX12_findChances_217 2 rfl (Option.some.inj hv_2) (Nat.le_of_ble_eq_true rfl) rfl ?_
      refine r_goto (pc := 220) (tgt := 76) dX12_findChances_220 (by decide) ?_
      refine r_sub (lv' := [(0, .ref (gA G a0)), (2, .int (eI x2)), (3, .int (eI v_2))]) [1, 2, 0] rfl ?_
      exact hK76 _ _ _ h
    · replace h := (if_neg c_1).symm.trans h
      refine r_aload_n (pc := 127) (i := 0) dX12_findChances_127 rfl 0 rfl ?_
      refine r_aload_n (pc := 128) (i := 0) dX12_findChances_128 rfl 0 rfl ?_
      have o_3 := (wt_12_52 oa0).2
      refine r_getR (pc := 129) fg_12_78 rfl oa0 (wt_12_52 oa0).1 dX12_findChances_129 ?_
      refine r_iload_n (pc := 132) (i := 3) dX12_findChances_132 rfl 2 rfl ?_
      obtain ⟨c_4, h⟩ := og h
      refine r_iald (pc := 133) o_3 rfl c_4 rfl dX12_findChances_133 ?_
      refine r_iload_n (pc := 134) (i := 2) dX12_findChances_134 rfl 1 rfl ?_
      obtain ⟨q_5, hq_5, h⟩ := ob h
      refine r_cV (pc := 135) (Y := xX12_blow) (As := [.int (eI (M (gR a0 52) (wI x3).toNat)), .int (eI x2)]) (rest := []) (v := (some (.long (eJ (q_5.1))))) (st1 := [.long (eJ (q_5.1))]) ck_X12_findChances_483 (kX12_blow a0 (M (gR a0 52) (wI x3).toNat) x2 M oa0 hq_5) oa0 rfl rfl rfl rfl (Nat.le_of_ble_eq_true rfl) ⟨rfl, rfl⟩ rfl dX12_findChances_135 ?_
      refine r_lstore (pc := 138) (lv' := [(5, .long (eJ (q_5.1))), (0, .ref (gA G a0)), (2, .int (eI x2)), (3, .int (eI x3)), (4, .int (eI x4))]) dX12_findChances_138 (Nat.le_of_ble_eq_true rfl) rfl ?_
      refine r_aload_n (pc := 140) (i := 0) dX12_findChances_140 rfl 1 rfl ?_
      refine r_dup (pc := 141) dX12_findChances_141 rfl ?_
      refine r_getJ (pc := 142) fg_12_467 rfl oa0 dX12_findChances_142 ?_
      refine r_ldc2 (pc := 145) (v := 10) kc_12_487 dX12_findChances_145 ?_
      refine r_lmul (pc := 148) dX12_findChances_148 ?_
      obtain ⟨M_6, hM_6, h⟩ := ob h
      refine r_putJ (pc := 149) fg_12_467 rfl oa0 hM_6 rfl rfl dX12_findChances_149 ?_
      refine r_iconst (pc := 152) (v := 0) dX12_findChances_152 (by decide +kernel) ?_
      refine r_istore (pc := 153) (lv' := [(7, .int (eI 0)), (5, .long (eJ (q_5.1))), (0, .ref (gA G a0)), (2, .int (eI x2)), (3, .int (eI x3)), (4, .int (eI x4))]) dX12_findChances_153 (Nat.le_of_ble_eq_true rfl) rfl ?_
      refine r_sub (lv' := [(0, .ref (gA G a0)), (2, .int (eI x2)), (3, .int (eI x3)), (4, .int (eI x4)), (5, .long (eJ (q_5.1))), (7, .int (eI 0))]) [2, 3, 4, 5, 1, 0] rfl ?_
      exact bX12_findChances_b155 a0 x1 oa0 (fun v0 v1 v2 v3 v4 => ih v0 v1 v2 v3 v4) _ _ _ _ _ _ _ h
set_option maxHeartbeats 4000000 in
set_option maxRecDepth 100000 in
theorem bX12_findChances_b112 {G : GG} (a0 : Nat) (x1 : Int) (oa0 : OB L0 a0 12) {K76 : Int → Int → MM → Option MM} (x2 : Int) (x3 : Int) (a90 : Nat) (y91 : Int) (M : MM) {res : MM} (hK76 : ∀ (x2 : Int) (x3 : Int) (M : MM), K76 x2 x3 M = some res → VV G xX12_findChances (ZM G xX12_findChances (none) L0 res) L0 M 0 0 76 [(0, .ref (gA G a0)), (2, .int (eI x2)), (3, .int (eI x3))] []) (oa90 : OB L0 a90 12) (h : sX12_findChances_b112 a0 x1 K76 x2 x3 a90 y91 M = some res) : VV G xX12_findChances (ZM G xX12_findChances (none) L0 res) L0 M 0 0 112 [(0, .ref (gA G a0)), (2, .int (eI x2)), (3, .int (eI x3))] [.long (eJ y91), .ref (gA G a90)] := by
  unfold sX12_findChances_b112 at h
  obtain ⟨M_1, hM_1, h⟩ := ob h
  refine r_putJ (pc := 112) fg_12_470 rfl oa90 hM_1 rfl rfl dX12_findChances_112 ?_
  refine r_iconst (pc := 115) (v := 0) dX12_findChances_115 (by decide +kernel) ?_
  refine r_istore (pc := 116) (lv' := [(4, .int (eI 0)), (0, .ref (gA G a0)), (2, .int (eI x2)), (3, .int (eI x3))]) dX12_findChances_116 (Nat.le_of_ble_eq_true rfl) rfl ?_
  refine r_sub (lv' := [(0, .ref (gA G a0)), (2, .int (eI x2)), (3, .int (eI x3)), (4, .int (eI 0))]) [1, 2, 3, 0] rfl ?_
  exact bX12_findChances_b118 a0 x1 oa0 hK76 _ _ _ _ _ h
set_option maxHeartbeats 4000000 in
set_option maxRecDepth 100000 in
theorem bX12_findChances_b76 {G : GG} (a0 : Nat) (x1 : Int) (oa0 : OB L0 a0 12) {res : MM} : ∀ (n : Nat) (x2 : Int) (x3 : Int) (M : MM)  (h : sX12_findChances_b76 a0 x1 n x2 x3 M = some res), VV G xX12_findChances (ZM G xX12_findChances (none) L0 res) L0 M 0 0 76 [(0, .ref (gA G a0)), (2, .int (eI x2)), (3, .int (eI x3))] [] := by
  intro n
  induction n with
  | zero =>
    intro x2 x3 M h
    rw [sX12_findChances_b76] at h
    cases h
  | succ n ih =>
    intro x2 x3 M h
    rw [sX12_findChances_b76] at h
    refine r_iload_n (pc := 76) (i := 3) dX12_findChances_76 rfl 2 rfl ?_
    refine r_aload_n (pc := 77) (i := 0) dX12_findChances_77 rfl 0 rfl ?_
    refine r_getI (pc := 78) fg_12_319 rfl oa0 dX12_findChances_78 ?_
    refine r_icmp_ge (pc := 81) (tgt := 223) dX12_findChances_81 (by decide) rfl rfl (fun c_1 => ?_) (fun c_1 => ?_)
    · replace h := (if_pos c_1).symm.trans h
      refine r_aload_n (pc := 223) (i := 0) dX12_findChances_223 rfl 0 rfl ?_
      refine r_aload_n (pc := 224) (i := 0) dX12_findChances_224 rfl 0 rfl ?_
      have o_2 := (wt_12_51 oa0).2
      refine r_getR (pc := 225) fg_12_75 rfl oa0 (wt_12_51 oa0).1 dX12_findChances_225 ?_
      refine r_aload_n (pc := 228) (i := 0) dX12_findChances_228 rfl 0 rfl ?_
      have o_3 := (wt_12_52 oa0).2
      refine r_getR (pc := 229) fg_12_78 rfl oa0 (wt_12_52 oa0).1 dX12_findChances_229 ?_
      refine r_aload_n (pc := 232) (i := 0) dX12_findChances_232 rfl 0 rfl ?_
      refine r_getI (pc := 233) fg_12_319 rfl oa0 dX12_findChances_233 ?_
      refine r_iconst (pc := 236) (v := 1) dX12_findChances_236 (by decide +kernel) ?_
      refine r_isub (pc := 237) dX12_findChances_237 ?_
      obtain ⟨c_4, h⟩ := og h
      refine r_iald (pc := 238) o_3 rfl c_4 rfl dX12_findChances_238 ?_
      obtain ⟨c_5, h⟩ := og h
      refine r_lald (pc := 239) o_2 rfl c_5 rfl dX12_findChances_239 ?_
      obtain ⟨M_6, hM_6, h⟩ := ob h
      refine r_putJ (pc := 240) fg_12_473 rfl oa0 hM_6 rfl rfl dX12_findChances_240 ?_
      refine r_aload_n (pc := 243) (i := 0) dX12_findChances_243 rfl 0 rfl ?_
      refine r_aload_n (pc := 244) (i := 0) dX12_findChances_244 rfl 0 rfl ?_
      refine r_iload_n (pc := 245) (i := 2) dX12_findChances_245 rfl 1 rfl ?_
      obtain ⟨q_7, hq_7, h⟩ := ob h
      refine r_cV (pc := 246) (Y := xX12_standing) (As := [.int (eI x2)]) (rest := [.ref (gA G a0)]) (v := (some (.long (eJ q_7)))) (st1 := [.long (eJ q_7), .ref (gA G a0)]) ck_X12_findChances_479 (kX12_standing a0 x2 M_6 oa0 hq_7) oa0 rfl rfl rfl rfl (Nat.le_of_ble_eq_true rfl) ⟨rfl, rfl⟩ rfl dX12_findChances_246 ?_
      obtain ⟨M_8, hM_8, h⟩ := ob h
      refine r_putJ (pc := 249) fg_12_489 rfl oa0 hM_8 rfl rfl dX12_findChances_249 ?_
      cases h
      exact r_vret (pc := 252) rfl (Nat.le_refl 0) (Nat.le_refl 0) dX12_findChances_252
    · replace h := (if_neg c_1).symm.trans h
      refine r_aload_n (pc := 84) (i := 0) dX12_findChances_84 rfl 0 rfl ?_
      refine r_iload_n (pc := 85) (i := 2) dX12_findChances_85 rfl 1 rfl ?_
      obtain ⟨q_9, hq_9, h⟩ := ob h
      refine r_cV (pc := 86) (Y := xX12_turnTo) (As := [.int (eI x2)]) (rest := []) (v := none) (st1 := []) ck_X12_findChances_476 (kX12_turnTo a0 x2 M oa0 hq_9) oa0 rfl rfl rfl rfl (Nat.le_of_ble_eq_true rfl) ⟨rfl, rfl⟩ rfl dX12_findChances_86 ?_
      refine r_aload_n (pc := 89) (i := 0) dX12_findChances_89 rfl 0 rfl ?_
      refine r_iload_n (pc := 90) (i := 3) dX12_findChances_90 rfl 2 rfl ?_
      refine r_aload_n (pc := 91) (i := 0) dX12_findChances_91 rfl 0 rfl ?_
      refine r_getI (pc := 92) fg_12_319 rfl oa0 dX12_findChances_92 ?_
      refine r_iconst (pc := 95) (v := 1) dX12_findChances_95 (by decide +kernel) ?_
      refine r_isub (pc := 96) dX12_findChances_96 ?_
      refine r_icmp_ne (pc := 97) (tgt := 108) dX12_findChances_97 (by decide) rfl rfl (fun c_10 => ?_) (fun c_10 => ?_)
      · replace h := (if_neg c_10).symm.trans h
        refine r_aload_n (pc := 108) (i := 0) dX12_findChances_108 rfl 0 rfl ?_
        refine r_getJ (pc := 109) fg_12_470 rfl oa0 dX12_findChances_109 ?_
        refine r_sub (lv' := [(0, .ref (gA G a0)), (2, .int (eI x2)), (3, .int (eI x3))]) [0, 1, 2] rfl ?_
        exact bX12_findChances_b112 a0 x1 oa0 _ _ _ _ _ (fun v0 v1 v2 v3 => ih v0 v1 v2 v3) oa0 h
      · replace h := (if_pos c_10).symm.trans h
        refine r_aload_n (pc := 100) (i := 0) dX12_findChances_100 rfl 0 rfl ?_
        refine r_iload_n (pc := 101) (i := 2) dX12_findChances_101 rfl 1 rfl ?_
        obtain ⟨q_11, hq_11, h⟩ := ob h
        refine r_cV (pc := 102) (Y := xX12_standing) (As := [.int (eI x2)]) (rest := [.ref (gA G a0)]) (v := (some (.long (eJ q_11)))) (st1 := [.long (eJ q_11), .ref (gA G a0)]) ck_X12_findChances_479 (kX12_standing a0 x2 q_9 oa0 hq_11) oa0 rfl rfl rfl rfl (Nat.le_of_ble_eq_true rfl) ⟨rfl, rfl⟩ rfl dX12_findChances_102 ?_
        refine r_goto (pc := 105) (tgt := 112) dX12_findChances_105 (by decide) ?_
        refine r_sub (lv' := [(0, .ref (gA G a0)), (2, .int (eI x2)), (3, .int (eI x3))]) [0, 1, 2] rfl ?_
        exact bX12_findChances_b112 a0 x1 oa0 _ _ _ _ _ (fun v0 v1 v2 v3 => ih v0 v1 v2 v3) oa0 h
set_option maxHeartbeats 4000000 in
set_option maxRecDepth 100000 in
theorem bX12_findChances_b55 {G : GG} (a0 : Nat) (x1 : Int) (oa0 : OB L0 a0 12) {res : MM} : ∀ (n : Nat) (x2 : Int) (x3 : Int) (M : MM)  (h : sX12_findChances_b55 a0 x1 n x2 x3 M = some res), VV G xX12_findChances (ZM G xX12_findChances (none) L0 res) L0 M 0 0 55 [(0, .ref (gA G a0)), (2, .int (eI x2)), (3, .int (eI x3))] [] := by
  intro n
  induction n with
  | zero =>
    intro x2 x3 M h
    rw [sX12_findChances_b55] at h
    cases h
  | succ n ih =>
    intro x2 x3 M h
    rw [sX12_findChances_b55] at h
    refine r_iload_n (pc := 55) (i := 3) dX12_findChances_55 rfl 2 rfl ?_
    refine r_bipush (pc := 56) (v := 8) dX12_findChances_56 (by decide +kernel) ?_
    refine r_icmp_ge (pc := 58) (tgt := 74) dX12_findChances_58 (by decide) rfl wl_8 (fun c_1 => ?_) (fun c_1 => ?_)
    · replace h := (if_pos c_1).symm.trans h
      refine r_iconst (pc := 74) (v := 0) dX12_findChances_74 (by decide +kernel) ?_
      refine r_istore_n (pc := 75) (i := 3) (lv' := [(3, .int (eI 0)), (0, .ref (gA G a0)), (2, .int (eI x2))]) dX12_findChances_75 rfl (Nat.le_of_ble_eq_true rfl) rfl ?_
      refine r_sub (lv' := [(0, .ref (gA G a0)), (2, .int (eI x2)), (3, .int (eI 0))]) [1, 2, 0] rfl ?_
      exact bX12_findChances_b76 a0 x1 oa0 _ _ _ _ h
    · replace h := (if_neg c_1).symm.trans h
      refine r_aload_n (pc := 61) (i := 0) dX12_findChances_61 rfl 0 rfl ?_
      have o_2 := (wt_12_51 oa0).2
      refine r_getR (pc := 62) fg_12_75 rfl oa0 (wt_12_51 oa0).1 dX12_findChances_62 ?_
      refine r_iload_n (pc := 65) (i := 3) dX12_findChances_65 rfl 2 rfl ?_
      refine r_lconst (pc := 66) (v := 0) dX12_findChances_66 (by decide +kernel) ?_
      obtain ⟨c_3, h⟩ := og h
      obtain ⟨M_4, hM_4, h⟩ := ob h
      refine r_last (pc := 67) o_2 rfl c_3 rfl hM_4 dX12_findChances_67 ?_
      obtain ⟨v_5, hv_5, h⟩ := ob h
      refine r_iinc (pc := 68) (y := v_5) (lv' := [(3, .int (eI v_5)), (0, .ref (gA G a0)), (2, .int (eI x2))]) dX12_findChances_68 2 rfl (Option.some.inj hv_5) (Nat.le_of_ble_eq_true rfl) rfl ?_
      refine r_goto (pc := 71) (tgt := 55) dX12_findChances_71 (by decide) ?_
      refine r_sub (lv' := [(0, .ref (gA G a0)), (2, .int (eI x2)), (3, .int (eI v_5))]) [1, 2, 0] rfl ?_
      exact ih _ _ _ h
set_option maxHeartbeats 4000000 in
set_option maxRecDepth 100000 in
theorem bX12_findChances_b31 {G : GG} (a0 : Nat) (x1 : Int) (oa0 : OB L0 a0 12) {K9 : Int → Int → MM → Option MM} (x2 : Int) (x3 : Int) (b90 : Nat) (x91 : Int) (y92 : Int) (M : MM) {res : MM} (hK9 : ∀ (x2 : Int) (x3 : Int) (M : MM), K9 x2 x3 M = some res → VV G xX12_findChances (ZM G xX12_findChances (none) L0 res) L0 M 0 0 9 [(0, .ref (gA G a0)), (2, .int (eI x2)), (3, .int (eI x3))] []) (ob90 : AR L0 b90 2 542) (h : sX12_findChances_b31 a0 x1 K9 x2 x3 b90 x91 y92 M = some res) : VV G xX12_findChances (ZM G xX12_findChances (none) L0 res) L0 M 0 0 31 [(0, .ref (gA G a0)), (2, .int (eI x2)), (3, .int (eI x3))] [.long (eJ y92), .int (eI x91), .ref (gA G b90)] := by
  unfold sX12_findChances_b31 at h
  obtain ⟨c_1, h⟩ := og h
  obtain ⟨M_2, hM_2, h⟩ := ob h
  refine r_last (pc := 31) ob90 rfl c_1 rfl hM_2 dX12_findChances_31 ?_
  obtain ⟨v_3, hv_3, h⟩ := ob h
  refine r_iinc (pc := 32) (y := v_3) (lv' := [(3, .int (eI v_3)), (0, .ref (gA G a0)), (2, .int (eI x2))]) dX12_findChances_32 2 rfl (Option.some.inj hv_3) (Nat.le_of_ble_eq_true rfl) rfl ?_
  refine r_goto (pc := 35) (tgt := 9) dX12_findChances_35 (by decide) ?_
  refine r_sub (lv' := [(0, .ref (gA G a0)), (2, .int (eI x2)), (3, .int (eI v_3))]) [1, 2, 0] rfl ?_
  exact hK9 _ _ _ h
set_option maxHeartbeats 4000000 in
set_option maxRecDepth 100000 in
theorem bX12_findChances_b9 {G : GG} (a0 : Nat) (x1 : Int) (oa0 : OB L0 a0 12) {res : MM} : ∀ (n : Nat) (x2 : Int) (x3 : Int) (M : MM)  (h : sX12_findChances_b9 a0 x1 n x2 x3 M = some res), VV G xX12_findChances (ZM G xX12_findChances (none) L0 res) L0 M 0 0 9 [(0, .ref (gA G a0)), (2, .int (eI x2)), (3, .int (eI x3))] [] := by
  intro n
  induction n with
  | zero =>
    intro x2 x3 M h
    rw [sX12_findChances_b9] at h
    cases h
  | succ n ih =>
    intro x2 x3 M h
    rw [sX12_findChances_b9] at h
    refine r_iload_n (pc := 9) (i := 3) dX12_findChances_9 rfl 2 rfl ?_
    refine r_sipush (pc := 10) (v := 542) dX12_findChances_10 (by decide +kernel) ?_
    refine r_icmp_ge (pc := 13) (tgt := 38) dX12_findChances_13 (by decide) rfl wl_542 (fun c_1 => ?_) (fun c_1 => ?_)
    · replace h := (if_pos c_1).symm.trans h
      refine r_aload_n (pc := 38) (i := 0) dX12_findChances_38 rfl 0 rfl ?_
      refine r_lconst (pc := 39) (v := 1) dX12_findChances_39 (by decide +kernel) ?_
      obtain ⟨M_2, hM_2, h⟩ := ob h
      refine r_putJ (pc := 40) fg_12_467 rfl oa0 hM_2 rfl rfl dX12_findChances_40 ?_
      refine r_aload_n (pc := 43) (i := 0) dX12_findChances_43 rfl 0 rfl ?_
      refine r_lconst (pc := 44) (v := 0) dX12_findChances_44 (by decide +kernel) ?_
      obtain ⟨M_3, hM_3, h⟩ := ob h
      refine r_putJ (pc := 45) fg_12_470 rfl oa0 hM_3 rfl rfl dX12_findChances_45 ?_
      refine r_aload_n (pc := 48) (i := 0) dX12_findChances_48 rfl 0 rfl ?_
      refine r_lconst (pc := 49) (v := 0) dX12_findChances_49 (by decide +kernel) ?_
      obtain ⟨M_4, hM_4, h⟩ := ob h
      refine r_putJ (pc := 50) fg_12_473 rfl oa0 hM_4 rfl rfl dX12_findChances_50 ?_
      refine r_iconst (pc := 53) (v := 0) dX12_findChances_53 (by decide +kernel) ?_
      refine r_istore_n (pc := 54) (i := 3) (lv' := [(3, .int (eI 0)), (0, .ref (gA G a0)), (2, .int (eI x2))]) dX12_findChances_54 rfl (Nat.le_of_ble_eq_true rfl) rfl ?_
      refine r_sub (lv' := [(0, .ref (gA G a0)), (2, .int (eI x2)), (3, .int (eI 0))]) [1, 2, 0] rfl ?_
      exact bX12_findChances_b55 a0 x1 oa0 _ _ _ _ h
    · replace h := (if_neg c_1).symm.trans h
      refine r_aload_n (pc := 16) (i := 0) dX12_findChances_16 rfl 0 rfl ?_
      have o_5 := (wt_12_49 oa0).2
      refine r_getR (pc := 17) fg_12_69 rfl oa0 (wt_12_49 oa0).1 dX12_findChances_17 ?_
      refine r_iload_n (pc := 20) (i := 3) dX12_findChances_20 rfl 2 rfl ?_
      refine r_iload_n (pc := 21) (i := 3) dX12_findChances_21 rfl 2 rfl ?_
      refine r_iload_n (pc := 22) (i := 2) dX12_findChances_22 rfl 1 rfl ?_
      refine r_icmp_ne (pc := 23) (tgt := 30) dX12_findChances_23 (by decide) rfl rfl (fun c_6 => ?_) (fun c_6 => ?_)
      · replace h := (if_neg c_6).symm.trans h
        refine r_lconst (pc := 30) (v := 0) dX12_findChances_30 (by decide +kernel) ?_
        refine r_sub (lv' := [(0, .ref (gA G a0)), (2, .int (eI x2)), (3, .int (eI x3))]) [0, 1, 2] rfl ?_
        exact bX12_findChances_b31 a0 x1 oa0 _ _ _ _ _ _ (fun v0 v1 v2 v3 => ih v0 v1 v2 v3) o_5 h
      · replace h := (if_pos c_6).symm.trans h
        refine r_lconst (pc := 26) (v := 1) dX12_findChances_26 (by decide +kernel) ?_
        refine r_goto (pc := 27) (tgt := 31) dX12_findChances_27 (by decide) ?_
        refine r_sub (lv' := [(0, .ref (gA G a0)), (2, .int (eI x2)), (3, .int (eI x3))]) [0, 1, 2] rfl ?_
        exact bX12_findChances_b31 a0 x1 oa0 _ _ _ _ _ _ (fun v0 v1 v2 v3 => ih v0 v1 v2 v3) o_5 h
set_option maxHeartbeats 4000000 in
set_option maxRecDepth 100000 in
theorem bX12_findChances_b0 {G : GG} (a0 : Nat) (x1 : Int) (oa0 : OB L0 a0 12)  (M : MM) {res : MM}  (h : sX12_findChances_b0 a0 x1 M = some res) : VV G xX12_findChances (ZM G xX12_findChances (none) L0 res) L0 M 0 0 0 [(0, .ref (gA G a0)), (1, .int (eI x1))] [] := by
  unfold sX12_findChances_b0 at h
  refine r_aload_n (pc := 0) (i := 0) dX12_findChances_0 rfl 0 rfl ?_
  obtain ⟨q_1, hq_1, h⟩ := ob h
  refine r_cV (pc := 1) (Y := xX12_belly) (As := []) (rest := []) (v := (some (.int (eI q_1)))) (st1 := [.int (eI q_1)]) ck_X12_findChances_409 (kX12_belly a0 M oa0 hq_1) oa0 rfl rfl rfl rfl (Nat.le_of_ble_eq_true rfl) ⟨rfl, rfl⟩ rfl dX12_findChances_1 ?_
  refine r_iload_n (pc := 4) (i := 1) dX12_findChances_4 rfl 1 rfl ?_
  refine r_imul (pc := 5) dX12_findChances_5 ?_
  refine r_istore_n (pc := 6) (i := 2) (lv' := [(2, .int (eI (q_1 * x1))), (0, .ref (gA G a0)), (1, .int (eI x1))]) dX12_findChances_6 rfl (Nat.le_of_ble_eq_true rfl) rfl ?_
  refine r_iconst (pc := 7) (v := 0) dX12_findChances_7 (by decide +kernel) ?_
  refine r_istore_n (pc := 8) (i := 3) (lv' := [(3, .int (eI 0)), (2, .int (eI (q_1 * x1))), (0, .ref (gA G a0)), (1, .int (eI x1))]) dX12_findChances_8 rfl (Nat.le_of_ble_eq_true rfl) rfl ?_
  refine r_sub (lv' := [(0, .ref (gA G a0)), (2, .int (eI (q_1 * x1))), (3, .int (eI 0))]) [2, 1, 0] rfl ?_
  exact bX12_findChances_b9 a0 x1 oa0 _ _ _ _ h
theorem kX12_findChances {G : GG} (a0 : Nat) (x1 : Int) (M : MM) {res : MM} (oa0 : OB L0 a0 12) (h : sX12_findChances a0 x1 M = some res) : CO G xX12_findChances [.ref (gA G a0), .int (eI x1)] L0 M (none) L0 res := CO_of (by decide +kernel) (Nat.le_of_ble_eq_true rfl) (bX12_findChances_b0 a0 x1 oa0 M h)
abbrev xX12_chance : XX := (yX12_chance, cX12_chance, 6, (some .long), 4, 101, 0, 0)
theorem ck_X12_chance_105 : CKS xX12_chance 105 xX12_in 3 := ⟨⟨tb_i 1622 (by decide +kernel) (by decide +kernel), tb_i 152 (by decide +kernel) (by decide +kernel), tb_i 1624 (by decide +kernel) (by decide +kernel), ⟨by decide +kernel, by decide +kernel, by decide +kernel⟩, by decide, by decide⟩, tb_i 1623 (by decide +kernel) (by decide +kernel)⟩
theorem ck_X12_chance_328 : CKV xX12_chance 328 xX12_hand 1 := ⟨⟨tb_i 1780 (by decide +kernel) (by decide +kernel), tb_i 152 (by decide +kernel) (by decide +kernel), tb_i 1783 (by decide +kernel) (by decide +kernel), ⟨by decide +kernel, by decide +kernel, by decide +kernel⟩, by decide, by decide⟩, tb_i 1782 (by decide +kernel) (by decide +kernel), tb_i 72 (by decide +kernel) (by decide +kernel)⟩
theorem ck_X12_chance_455 : CKS xX12_chance 455 xX12_least 3 := ⟨⟨tb_i 1916 (by decide +kernel) (by decide +kernel), tb_i 152 (by decide +kernel) (by decide +kernel), tb_i 1918 (by decide +kernel) (by decide +kernel), ⟨by decide +kernel, by decide +kernel, by decide +kernel⟩, by decide, by decide⟩, tb_i 1917 (by decide +kernel) (by decide +kernel)⟩
theorem ck_X12_chance_492 : CKV xX12_chance 492 xX12_canTell 0 := ⟨⟨tb_i 1944 (by decide +kernel) (by decide +kernel), tb_i 152 (by decide +kernel) (by decide +kernel), tb_i 1947 (by decide +kernel) (by decide +kernel), ⟨by decide +kernel, by decide +kernel, by decide +kernel⟩, by decide, by decide⟩, tb_i 1946 (by decide +kernel) (by decide +kernel), tb_i 97 (by decide +kernel) (by decide +kernel)⟩
theorem ck_X12_chance_495 : CKV xX12_chance 495 xX12_layOrder 1 := ⟨⟨tb_i 1948 (by decide +kernel) (by decide +kernel), tb_i 152 (by decide +kernel) (by decide +kernel), tb_i 1951 (by decide +kernel) (by decide +kernel), ⟨by decide +kernel, by decide +kernel, by decide +kernel⟩, by decide, by decide⟩, tb_i 1950 (by decide +kernel) (by decide +kernel), tb_i 98 (by decide +kernel) (by decide +kernel)⟩
theorem ck_X12_chance_498 : CKV xX12_chance 498 xX12_findChances 1 := ⟨⟨tb_i 1956 (by decide +kernel) (by decide +kernel), tb_i 152 (by decide +kernel) (by decide +kernel), tb_i 1959 (by decide +kernel) (by decide +kernel), ⟨by decide +kernel, by decide +kernel, by decide +kernel⟩, by decide, by decide⟩, tb_i 1958 (by decide +kernel) (by decide +kernel), tb_i 100 (by decide +kernel) (by decide +kernel)⟩
def sX12_chance_b122 (a0 : Nat) (x1 : Int) (x2 : Int) (x3 : Int) (x4 : Int) (x5 : Int)  (y90 : Int) (M : MM) : Option (Int × MM) := ((sX12_least y90 (M a0 53) x5).bind fun q_1 => (some ((q_1, M))))
def sX12_chance_b69 (a0 : Nat) (x1 : Int) (x2 : Int) (x3 : Int) (x4 : Int) (x5 : Int)   (M : MM) : Option (Int × MM) := ((sX12_findChances a0 x3 M).bind fun q_1 => (if wI x4 = 0 then (sX12_chance_b122 a0 x1 x2 x3 x4 x5 (q_1 a0 54) q_1) else (if wI x4 = 1 then (sX12_chance_b122 a0 x1 x2 x3 x4 x5 (q_1 a0 56) q_1) else (if wI x4 = 2 then (sX12_chance_b122 a0 x1 x2 x3 x4 x5 (q_1 a0 55) q_1) else (if 0 ≤ wI (x4 - 10) ∧ wI (x4 - 10) < 8 then (sX12_chance_b122 a0 x1 x2 x3 x4 x5 (q_1 (gR a0 51) (wI (x4 - 10)).toNat) q_1) else none)))))
def sX12_chance_b65 (a0 : Nat) (x1 : Int) (x2 : Int) (x3 : Int) (x4 : Int) (x5 : Int)   (M : MM) : Option (Int × MM) := (some (((-1), M)))
def sX12_chance_b0 (a0 : Nat) (x1 : Int) (x2 : Int) (x3 : Int) (x4 : Int) (x5 : Int)   (M : MM) : Option (Int × MM) := ((some (mU M a0 0 0)).bind fun M_1 => (if wI (sX12_in x3 1 9) = 0 then (sX12_chance_b65 a0 x1 x2 x3 x4 x5 M_1) else ((sX12_hand a0 x1 M_1).bind fun q_3 => (if wI (q_3.1) = 0 then (sX12_chance_b65 a0 x1 x2 x3 x4 x5 q_3.2) else (if wI (sX12_canTell a0 q_3.2) = 0 then (sX12_chance_b65 a0 x1 x2 x3 x4 x5 q_3.2) else ((sX12_layOrder a0 x2 q_3.2).bind fun q_6 => (if wI (q_6.1) = 0 then (sX12_chance_b65 a0 x1 x2 x3 x4 x5 q_6.2) else (if wI (sX12_in x4 0 2) = 0 then (if wI (sX12_in x4 10 (9 + (q_6.2 a0 26))) = 0 then (sX12_chance_b65 a0 x1 x2 x3 x4 x5 q_6.2) else (sX12_chance_b69 a0 x1 x2 x3 x4 x5 q_6.2)) else (sX12_chance_b69 a0 x1 x2 x3 x4 x5 q_6.2)))))))))
def sX12_chance (a0 : Nat) (x1 : Int) (x2 : Int) (x3 : Int) (x4 : Int) (x5 : Int) (M : MM) : Option (Int × MM) := sX12_chance_b0 a0 x1 x2 x3 x4 x5 M
set_option maxHeartbeats 4000000 in
set_option maxRecDepth 100000 in
theorem bX12_chance_b122 {G : GG} (a0 : Nat) (x1 : Int) (x2 : Int) (x3 : Int) (x4 : Int) (x5 : Int) (oa0 : OB L0 a0 12) (y90 : Int) (M : MM) {res : (Int × MM)}  (h : sX12_chance_b122 a0 x1 x2 x3 x4 x5 y90 M = some res) : VV G xX12_chance (ZM G xX12_chance (some (.long (eJ res.1))) L0 res.2) L0 M 0 0 122 [(0, .ref (gA G a0)), (5, .int (eI x5))] [.long (eJ y90)] := by
  unfold sX12_chance_b122 at h
  refine r_aload_n (pc := 122) (i := 0) dX12_chance_122 rfl 0 rfl ?_
  refine r_getJ (pc := 123) fg_12_467 rfl oa0 dX12_chance_123 ?_
  refine r_iload (pc := 126) dX12_chance_126 1 rfl ?_
  obtain ⟨q_1, hq_1, h⟩ := ob h
  refine r_cS (pc := 128) (Y := xX12_least) (As := [.long (eJ y90), .long (eJ (M a0 53)), .int (eI x5)]) (rest := []) (v := (some (.long (eJ q_1)))) (st1 := [.long (eJ q_1)]) ck_X12_chance_455 (kX12_least y90 (M a0 53) x5 M  hq_1) rfl rfl (Nat.le_of_ble_eq_true rfl) ⟨rfl, rfl⟩ rfl dX12_chance_128 ?_
  cases h
  exact r_lret (pc := 131) rfl (Nat.le_refl 0) (Nat.le_refl 0) dX12_chance_131
set_option maxHeartbeats 4000000 in
set_option maxRecDepth 100000 in
theorem bX12_chance_b69 {G : GG} (a0 : Nat) (x1 : Int) (x2 : Int) (x3 : Int) (x4 : Int) (x5 : Int) (oa0 : OB L0 a0 12)  (M : MM) {res : (Int × MM)}  (h : sX12_chance_b69 a0 x1 x2 x3 x4 x5 M = some res) : VV G xX12_chance (ZM G xX12_chance (some (.long (eJ res.1))) L0 res.2) L0 M 0 0 69 [(0, .ref (gA G a0)), (3, .int (eI x3)), (4, .int (eI x4)), (5, .int (eI x5))] [] := by
  unfold sX12_chance_b69 at h
  refine r_aload_n (pc := 69) (i := 0) dX12_chance_69 rfl 0 rfl ?_
  refine r_iload_n (pc := 70) (i := 3) dX12_chance_70 rfl 1 rfl ?_
  obtain ⟨q_1, hq_1, h⟩ := ob h
  refine r_cV (pc := 71) (Y := xX12_findChances) (As := [.int (eI x3)]) (rest := []) (v := none) (st1 := []) ck_X12_chance_498 (kX12_findChances a0 x3 M oa0 hq_1) oa0 rfl rfl rfl rfl (Nat.le_of_ble_eq_true rfl) ⟨rfl, rfl⟩ rfl dX12_chance_71 ?_
  refine r_iload (pc := 74) dX12_chance_74 2 rfl ?_
  refine r_if_ne (pc := 76) (tgt := 86) dX12_chance_76 (by decide) rfl (fun c_2 => ?_) (fun c_2 => ?_)
  · replace h := (if_neg c_2).symm.trans h
    refine r_iload (pc := 86) dX12_chance_86 2 rfl ?_
    refine r_iconst (pc := 88) (v := 1) dX12_chance_88 (by decide +kernel) ?_
    refine r_icmp_ne (pc := 89) (tgt := 99) dX12_chance_89 (by decide) rfl wl_1 (fun c_3 => ?_) (fun c_3 => ?_)
    · replace h := (if_neg c_3).symm.trans h
      refine r_iload (pc := 99) dX12_chance_99 2 rfl ?_
      refine r_iconst (pc := 101) (v := 2) dX12_chance_101 (by decide +kernel) ?_
      refine r_icmp_ne (pc := 102) (tgt := 112) dX12_chance_102 (by decide) rfl wl_2 (fun c_4 => ?_) (fun c_4 => ?_)
      · replace h := (if_neg c_4).symm.trans h
        refine r_aload_n (pc := 112) (i := 0) dX12_chance_112 rfl 0 rfl ?_
        have o_5 := (wt_12_51 oa0).2
        refine r_getR (pc := 113) fg_12_75 rfl oa0 (wt_12_51 oa0).1 dX12_chance_113 ?_
        refine r_iload (pc := 116) dX12_chance_116 2 rfl ?_
        refine r_bipush (pc := 118) (v := 10) dX12_chance_118 (by decide +kernel) ?_
        refine r_isub (pc := 120) dX12_chance_120 ?_
        obtain ⟨c_6, h⟩ := og h
        refine r_lald (pc := 121) o_5 rfl c_6 rfl dX12_chance_121 ?_
        refine r_sub (lv' := [(0, .ref (gA G a0)), (5, .int (eI x5))]) [0, 3] rfl ?_
        exact bX12_chance_b122 a0 x1 x2 x3 x4 x5 oa0 _ _ h
      · replace h := (if_pos c_4).symm.trans h
        refine r_aload_n (pc := 105) (i := 0) dX12_chance_105 rfl 0 rfl ?_
        refine r_getJ (pc := 106) fg_12_473 rfl oa0 dX12_chance_106 ?_
        refine r_goto (pc := 109) (tgt := 122) dX12_chance_109 (by decide) ?_
        refine r_sub (lv' := [(0, .ref (gA G a0)), (5, .int (eI x5))]) [0, 3] rfl ?_
        exact bX12_chance_b122 a0 x1 x2 x3 x4 x5 oa0 _ _ h
    · replace h := (if_pos c_3).symm.trans h
      refine r_aload_n (pc := 92) (i := 0) dX12_chance_92 rfl 0 rfl ?_
      refine r_getJ (pc := 93) fg_12_489 rfl oa0 dX12_chance_93 ?_
      refine r_goto (pc := 96) (tgt := 122) dX12_chance_96 (by decide) ?_
      refine r_sub (lv' := [(0, .ref (gA G a0)), (5, .int (eI x5))]) [0, 3] rfl ?_
      exact bX12_chance_b122 a0 x1 x2 x3 x4 x5 oa0 _ _ h
  · replace h := (if_pos c_2).symm.trans h
    refine r_aload_n (pc := 79) (i := 0) dX12_chance_79 rfl 0 rfl ?_
    refine r_getJ (pc := 80) fg_12_470 rfl oa0 dX12_chance_80 ?_
    refine r_goto (pc := 83) (tgt := 122) dX12_chance_83 (by decide) ?_
    refine r_sub (lv' := [(0, .ref (gA G a0)), (5, .int (eI x5))]) [0, 3] rfl ?_
    exact bX12_chance_b122 a0 x1 x2 x3 x4 x5 oa0 _ _ h
set_option maxHeartbeats 4000000 in
set_option maxRecDepth 100000 in
theorem bX12_chance_b65 {G : GG} (a0 : Nat) (x1 : Int) (x2 : Int) (x3 : Int) (x4 : Int) (x5 : Int) (oa0 : OB L0 a0 12)  (M : MM) {res : (Int × MM)}  (h : sX12_chance_b65 a0 x1 x2 x3 x4 x5 M = some res) : VV G xX12_chance (ZM G xX12_chance (some (.long (eJ res.1))) L0 res.2) L0 M 0 0 65 [] [] := by
  unfold sX12_chance_b65 at h
  refine r_ldc2 (pc := 65) (v := (-1)) kc_12_459 dX12_chance_65 ?_
  cases h
  exact r_lret (pc := 68) rfl (Nat.le_refl 0) (Nat.le_refl 0) dX12_chance_68
set_option maxHeartbeats 4000000 in
set_option maxRecDepth 100000 in
theorem bX12_chance_b0 {G : GG} (a0 : Nat) (x1 : Int) (x2 : Int) (x3 : Int) (x4 : Int) (x5 : Int) (oa0 : OB L0 a0 12)  (M : MM) {res : (Int × MM)}  (h : sX12_chance_b0 a0 x1 x2 x3 x4 x5 M = some res) : VV G xX12_chance (ZM G xX12_chance (some (.long (eJ res.1))) L0 res.2) L0 M 0 0 0 [(0, .ref (gA G a0)), (1, .int (eI x1)), (2, .int (eI x2)), (3, .int (eI x3)), (4, .int (eI x4)), (5, .int (eI x5))] [] := by
  unfold sX12_chance_b0 at h
  refine r_aload_n (pc := 0) (i := 0) dX12_chance_0 rfl 0 rfl ?_
  refine r_iconst (pc := 1) (v := 0) dX12_chance_1 (by decide +kernel) ?_
  obtain ⟨M_1, hM_1, h⟩ := ob h
  refine r_putI (pc := 2) fg_12_97 rfl oa0 hM_1 rfl rfl dX12_chance_2 ?_
  refine r_iload_n (pc := 5) (i := 3) dX12_chance_5 rfl 3 rfl ?_
  refine r_iconst (pc := 6) (v := 1) dX12_chance_6 (by decide +kernel) ?_
  refine r_bipush (pc := 7) (v := 9) dX12_chance_7 (by decide +kernel) ?_
  refine r_cS (pc := 9) (Y := xX12_in) (As := [.int (eI x3), .int (eI 1), .int (eI 9)]) (rest := []) (v := (some (.int (eI (sX12_in x3 1 9))))) (st1 := [.int (eI (sX12_in x3 1 9))]) ck_X12_chance_105 (kX12_in x3 1 9 M_1 ) rfl rfl (Nat.le_of_ble_eq_true rfl) ⟨rfl, rfl⟩ rfl dX12_chance_9 ?_
  refine r_if_eq (pc := 12) (tgt := 65) dX12_chance_12 (by decide) rfl (fun c_2 => ?_) (fun c_2 => ?_)
  · replace h := (if_pos c_2).symm.trans h
    refine r_sub (lv' := []) [] rfl ?_
    exact bX12_chance_b65 a0 x1 x2 x3 x4 x5 oa0 _ h
  · replace h := (if_neg c_2).symm.trans h
    refine r_aload_n (pc := 15) (i := 0) dX12_chance_15 rfl 0 rfl ?_
    refine r_iload_n (pc := 16) (i := 1) dX12_chance_16 rfl 1 rfl ?_
    obtain ⟨q_3, hq_3, h⟩ := ob h
    refine r_cV (pc := 17) (Y := xX12_hand) (As := [.int (eI x1)]) (rest := []) (v := (some (.int (eI (q_3.1))))) (st1 := [.int (eI (q_3.1))]) ck_X12_chance_328 (kX12_hand a0 x1 M_1 oa0 hq_3) oa0 rfl rfl rfl rfl (Nat.le_of_ble_eq_true rfl) ⟨rfl, rfl⟩ rfl dX12_chance_17 ?_
    refine r_if_eq (pc := 20) (tgt := 65) dX12_chance_20 (by decide) rfl (fun c_4 => ?_) (fun c_4 => ?_)
    · replace h := (if_pos c_4).symm.trans h
      refine r_sub (lv' := []) [] rfl ?_
      exact bX12_chance_b65 a0 x1 x2 x3 x4 x5 oa0 _ h
    · replace h := (if_neg c_4).symm.trans h
      refine r_aload_n (pc := 23) (i := 0) dX12_chance_23 rfl 0 rfl ?_
      refine r_cV (pc := 24) (Y := xX12_canTell) (As := []) (rest := []) (v := (some (.int (eI (sX12_canTell a0 q_3.2))))) (st1 := [.int (eI (sX12_canTell a0 q_3.2))]) ck_X12_chance_492 (kX12_canTell a0 q_3.2 oa0) oa0 rfl rfl rfl rfl (Nat.le_of_ble_eq_true rfl) ⟨rfl, rfl⟩ rfl dX12_chance_24 ?_
      refine r_if_eq (pc := 27) (tgt := 65) dX12_chance_27 (by decide) rfl (fun c_5 => ?_) (fun c_5 => ?_)
      · replace h := (if_pos c_5).symm.trans h
        refine r_sub (lv' := []) [] rfl ?_
        exact bX12_chance_b65 a0 x1 x2 x3 x4 x5 oa0 _ h
      · replace h := (if_neg c_5).symm.trans h
        refine r_aload_n (pc := 30) (i := 0) dX12_chance_30 rfl 0 rfl ?_
        refine r_iload_n (pc := 31) (i := 2) dX12_chance_31 rfl 2 rfl ?_
        obtain ⟨q_6, hq_6, h⟩ := ob h
        refine r_cV (pc := 32) (Y := xX12_layOrder) (As := [.int (eI x2)]) (rest := []) (v := (some (.int (eI (q_6.1))))) (st1 := [.int (eI (q_6.1))]) ck_X12_chance_495 (kX12_layOrder a0 x2 q_3.2 oa0 hq_6) oa0 rfl rfl rfl rfl (Nat.le_of_ble_eq_true rfl) ⟨rfl, rfl⟩ rfl dX12_chance_32 ?_
        refine r_if_eq (pc := 35) (tgt := 65) dX12_chance_35 (by decide) rfl (fun c_7 => ?_) (fun c_7 => ?_)
        · replace h := (if_pos c_7).symm.trans h
          refine r_sub (lv' := []) [] rfl ?_
          exact bX12_chance_b65 a0 x1 x2 x3 x4 x5 oa0 _ h
        · replace h := (if_neg c_7).symm.trans h
          refine r_iload (pc := 38) dX12_chance_38 4 rfl ?_
          refine r_iconst (pc := 40) (v := 0) dX12_chance_40 (by decide +kernel) ?_
          refine r_iconst (pc := 41) (v := 2) dX12_chance_41 (by decide +kernel) ?_
          refine r_cS (pc := 42) (Y := xX12_in) (As := [.int (eI x4), .int (eI 0), .int (eI 2)]) (rest := []) (v := (some (.int (eI (sX12_in x4 0 2))))) (st1 := [.int (eI (sX12_in x4 0 2))]) ck_X12_chance_105 (kX12_in x4 0 2 q_6.2 ) rfl rfl (Nat.le_of_ble_eq_true rfl) ⟨rfl, rfl⟩ rfl dX12_chance_42 ?_
          refine r_if_ne (pc := 45) (tgt := 69) dX12_chance_45 (by decide) rfl (fun c_8 => ?_) (fun c_8 => ?_)
          · replace h := (if_neg c_8).symm.trans h
            refine r_sub (lv' := [(0, .ref (gA G a0)), (3, .int (eI x3)), (4, .int (eI x4)), (5, .int (eI x5))]) [0, 3, 4, 5] rfl ?_
            exact bX12_chance_b69 a0 x1 x2 x3 x4 x5 oa0 _ h
          · replace h := (if_pos c_8).symm.trans h
            refine r_iload (pc := 48) dX12_chance_48 4 rfl ?_
            refine r_bipush (pc := 50) (v := 10) dX12_chance_50 (by decide +kernel) ?_
            refine r_bipush (pc := 52) (v := 9) dX12_chance_52 (by decide +kernel) ?_
            refine r_aload_n (pc := 54) (i := 0) dX12_chance_54 rfl 0 rfl ?_
            refine r_getI (pc := 55) fg_12_319 rfl oa0 dX12_chance_55 ?_
            refine r_iadd (pc := 58) dX12_chance_58 ?_
            refine r_cS (pc := 59) (Y := xX12_in) (As := [.int (eI x4), .int (eI 10), .int (eI (9 + (q_6.2 a0 26)))]) (rest := []) (v := (some (.int (eI (sX12_in x4 10 (9 + (q_6.2 a0 26))))))) (st1 := [.int (eI (sX12_in x4 10 (9 + (q_6.2 a0 26))))]) ck_X12_chance_105 (kX12_in x4 10 (9 + (q_6.2 a0 26)) q_6.2 ) rfl rfl (Nat.le_of_ble_eq_true rfl) ⟨rfl, rfl⟩ rfl dX12_chance_59 ?_
            refine r_if_ne (pc := 62) (tgt := 69) dX12_chance_62 (by decide) rfl (fun c_9 => ?_) (fun c_9 => ?_)
            · replace h := (if_neg c_9).symm.trans h
              refine r_sub (lv' := [(0, .ref (gA G a0)), (3, .int (eI x3)), (4, .int (eI x4)), (5, .int (eI x5))]) [0, 3, 4, 5] rfl ?_
              exact bX12_chance_b69 a0 x1 x2 x3 x4 x5 oa0 _ h
            · replace h := (if_pos c_9).symm.trans h
              refine r_sub (lv' := []) [] rfl ?_
              exact bX12_chance_b65 a0 x1 x2 x3 x4 x5 oa0 _ h
theorem kX12_chance {G : GG} (a0 : Nat) (x1 : Int) (x2 : Int) (x3 : Int) (x4 : Int) (x5 : Int) (M : MM) {res : (Int × MM)} (oa0 : OB L0 a0 12) (h : sX12_chance a0 x1 x2 x3 x4 x5 M = some res) : CO G xX12_chance [.ref (gA G a0), .int (eI x1), .int (eI x2), .int (eI x3), .int (eI x4), .int (eI x5)] L0 M (some (.long (eJ res.1))) L0 res.2 := CO_of (by decide +kernel) (Nat.le_of_ble_eq_true rfl) (bX12_chance_b0 a0 x1 x2 x3 x4 x5 oa0 M h)
abbrev xX12_tens : XX := (yX12_tens, cX12_tens, 4, (some .long), 0, 0, 0, 0)
def sX12_tens_b4 (x0 : Int)  : Nat → Int → Int → Option Int
  | 0, _, _ => none
  | n + 1, y1, x3 => (if wI x0 ≤ wI x3 then (some (y1)) else ((some (x3 + 1)).bind fun v_2 => (sX12_tens_b4 x0 n (y1 * 10) v_2)))
def sX12_tens_b0 (x0 : Int)   : Option Int := (sX12_tens_b4 x0 FU 1 0)
def sX12_tens (x0 : Int) : Option Int := sX12_tens_b0 x0
set_option maxHeartbeats 4000000 in
set_option maxRecDepth 100000 in
theorem bX12_tens_b4 {G : GG} (x0 : Int) (M : MM)  {res : Int} : ∀ (n : Nat) (y1 : Int) (x3 : Int)  (h : sX12_tens_b4 x0 n y1 x3 = some res), VV G xX12_tens (ZM G xX12_tens (some (.long (eJ res))) L0 M) L0 M 0 0 4 [(0, .int (eI x0)), (1, .long (eJ y1)), (3, .int (eI x3))] [] := by
  intro n
  induction n with
  | zero =>
    intro y1 x3 h
    rw [sX12_tens_b4] at h
    cases h
  | succ n ih =>
    intro y1 x3 h
    rw [sX12_tens_b4] at h
    refine r_iload_n (pc := 4) (i := 3) dX12_tens_4 rfl 2 rfl ?_
    refine r_iload_n (pc := 5) (i := 0) dX12_tens_5 rfl 0 rfl ?_
    refine r_icmp_ge (pc := 6) (tgt := 21) dX12_tens_6 (by decide) rfl rfl (fun c_1 => ?_) (fun c_1 => ?_)
    · replace h := (if_pos c_1).symm.trans h
      refine r_lload_n (pc := 21) (i := 1) dX12_tens_21 rfl 1 rfl ?_
      cases h
      exact r_lret (pc := 22) rfl (Nat.le_refl 0) (Nat.le_refl 0) dX12_tens_22
    · replace h := (if_neg c_1).symm.trans h
      refine r_lload_n (pc := 9) (i := 1) dX12_tens_9 rfl 1 rfl ?_
      refine r_ldc2 (pc := 10) (v := 10) kc_12_487 dX12_tens_10 ?_
      refine r_lmul (pc := 13) dX12_tens_13 ?_
      refine r_lstore_n (pc := 14) (i := 1) (lv' := [(1, .long (eJ (y1 * 10))), (0, .int (eI x0)), (3, .int (eI x3))]) dX12_tens_14 rfl (Nat.le_of_ble_eq_true rfl) rfl ?_
      obtain ⟨v_2, hv_2, h⟩ := ob h
      refine r_iinc (pc := 15) (y := v_2) (lv' := [(3, .int (eI v_2)), (1, .long (eJ (y1 * 10))), (0, .int (eI x0))]) dX12_tens_15 2 rfl (Option.some.inj hv_2) (Nat.le_of_ble_eq_true rfl) rfl ?_
      refine r_goto (pc := 18) (tgt := 4) dX12_tens_18 (by decide) ?_
      refine r_sub (lv' := [(0, .int (eI x0)), (1, .long (eJ (y1 * 10))), (3, .int (eI v_2))]) [2, 1, 0] rfl ?_
      exact ih _ _ h
set_option maxHeartbeats 4000000 in
set_option maxRecDepth 100000 in
theorem bX12_tens_b0 {G : GG} (x0 : Int) (M : MM)   {res : Int}  (h : sX12_tens_b0 x0 = some res) : VV G xX12_tens (ZM G xX12_tens (some (.long (eJ res))) L0 M) L0 M 0 0 0 [(0, .int (eI x0))] [] := by
  unfold sX12_tens_b0 at h
  refine r_lconst (pc := 0) (v := 1) dX12_tens_0 (by decide +kernel) ?_
  refine r_lstore_n (pc := 1) (i := 1) (lv' := [(1, .long (eJ 1)), (0, .int (eI x0))]) dX12_tens_1 rfl (Nat.le_of_ble_eq_true rfl) rfl ?_
  refine r_iconst (pc := 2) (v := 0) dX12_tens_2 (by decide +kernel) ?_
  refine r_istore_n (pc := 3) (i := 3) (lv' := [(3, .int (eI 0)), (1, .long (eJ 1)), (0, .int (eI x0))]) dX12_tens_3 rfl (Nat.le_of_ble_eq_true rfl) rfl ?_
  refine r_sub (lv' := [(0, .int (eI x0)), (1, .long (eJ 1)), (3, .int (eI 0))]) [2, 1, 0] rfl ?_
  exact bX12_tens_b4 x0 M _ _ _ h
theorem kX12_tens {G : GG} (x0 : Int) (M : MM) {res : Int}  (h : sX12_tens x0 = some res) : CO G xX12_tens [.int (eI x0)] L0 M (some (.long (eJ res))) L0 M := CO_of (by decide +kernel) (Nat.le_of_ble_eq_true rfl) (bX12_tens_b0 x0 M h)
abbrev xX12_ifTaken : XX := (yX12_ifTaken, cX12_ifTaken, 5, (some .long), 2, 43, 0, 0)
theorem ck_X12_ifTaken_334 : CKV xX12_ifTaken 334 xX12_ofChild 2 := ⟨⟨tb_i 1796 (by decide +kernel) (by decide +kernel), tb_i 152 (by decide +kernel) (by decide +kernel), tb_i 1799 (by decide +kernel) (by decide +kernel), ⟨by decide +kernel, by decide +kernel, by decide +kernel⟩, by decide, by decide⟩, tb_i 1798 (by decide +kernel) (by decide +kernel), tb_i 75 (by decide +kernel) (by decide +kernel)⟩
theorem ck_X12_ifTaken_501 : CKS xX12_ifTaken 501 xX12_tens 1 := ⟨⟨tb_i 1985 (by decide +kernel) (by decide +kernel), tb_i 152 (by decide +kernel) (by decide +kernel), tb_i 1987 (by decide +kernel) (by decide +kernel), ⟨by decide +kernel, by decide +kernel, by decide +kernel⟩, by decide, by decide⟩, tb_i 1986 (by decide +kernel) (by decide +kernel)⟩
def sX12_ifTaken_b0 (a0 : Nat) (x1 : Int) (x2 : Int) (x3 : Int) (M : MM)   : Option Int := ((sX12_ofChild a0 x1 1 M).bind fun q_1 => (if wI q_1 < wI x3 then (if 0 ≤ wI (((31 * (x2 + 1)) + x3) - q_1) ∧ wI (((31 * (x2 + 1)) + x3) - q_1) < 496 then (some ((M (gR a0 57) (wI (((31 * (x2 + 1)) + x3) - q_1)).toNat))) else none) else (if wI x1 = wI ((M a0 26) - 1) then ((sX12_tens ((((M a0 26) * (M a0 27)) - x2) - 1)).bind fun q_6 => (some (q_6))) else (some (0)))))
def sX12_ifTaken (a0 : Nat) (x1 : Int) (x2 : Int) (x3 : Int) (M : MM) : Option Int := sX12_ifTaken_b0 a0 x1 x2 x3 M
set_option maxHeartbeats 4000000 in
set_option maxRecDepth 100000 in
theorem bX12_ifTaken_b0 {G : GG} (a0 : Nat) (x1 : Int) (x2 : Int) (x3 : Int) (M : MM) (oa0 : OB L0 a0 12)  {res : Int}  (h : sX12_ifTaken_b0 a0 x1 x2 x3 M = some res) : VV G xX12_ifTaken (ZM G xX12_ifTaken (some (.long (eJ res))) L0 M) L0 M 0 0 0 [(0, .ref (gA G a0)), (1, .int (eI x1)), (2, .int (eI x2)), (3, .int (eI x3))] [] := by
  unfold sX12_ifTaken_b0 at h
  refine r_aload_n (pc := 0) (i := 0) dX12_ifTaken_0 rfl 0 rfl ?_
  refine r_iload_n (pc := 1) (i := 1) dX12_ifTaken_1 rfl 1 rfl ?_
  refine r_iconst (pc := 2) (v := 1) dX12_ifTaken_2 (by decide +kernel) ?_
  obtain ⟨q_1, hq_1, h⟩ := ob h
  refine r_cV (pc := 3) (Y := xX12_ofChild) (As := [.int (eI x1), .int (eI 1)]) (rest := []) (v := (some (.int (eI q_1)))) (st1 := [.int (eI q_1)]) ck_X12_ifTaken_334 (kX12_ofChild a0 x1 1 M oa0 hq_1) oa0 rfl rfl rfl rfl (Nat.le_of_ble_eq_true rfl) ⟨rfl, rfl⟩ rfl dX12_ifTaken_3 ?_
  refine r_istore (pc := 6) (lv' := [(4, .int (eI q_1)), (0, .ref (gA G a0)), (1, .int (eI x1)), (2, .int (eI x2)), (3, .int (eI x3))]) dX12_ifTaken_6 (Nat.le_of_ble_eq_true rfl) rfl ?_
  refine r_iload (pc := 8) dX12_ifTaken_8 0 rfl ?_
  refine r_iload_n (pc := 10) (i := 3) dX12_ifTaken_10 rfl 4 rfl ?_
  refine r_icmp_lt (pc := 11) (tgt := 45) dX12_ifTaken_11 (by decide) rfl rfl (fun c_2 => ?_) (fun c_2 => ?_)
  · replace h := (if_pos c_2).symm.trans h
    refine r_aload_n (pc := 45) (i := 0) dX12_ifTaken_45 rfl 1 rfl ?_
    have o_3 := (wt_12_57 oa0).2
    refine r_getR (pc := 46) fg_12_81 rfl oa0 (wt_12_57 oa0).1 dX12_ifTaken_46 ?_
    refine r_bipush (pc := 49) (v := 31) dX12_ifTaken_49 (by decide +kernel) ?_
    refine r_iload_n (pc := 51) (i := 2) dX12_ifTaken_51 rfl 3 rfl ?_
    refine r_iconst (pc := 52) (v := 1) dX12_ifTaken_52 (by decide +kernel) ?_
    refine r_iadd (pc := 53) dX12_ifTaken_53 ?_
    refine r_imul (pc := 54) dX12_ifTaken_54 ?_
    refine r_iload_n (pc := 55) (i := 3) dX12_ifTaken_55 rfl 4 rfl ?_
    refine r_iadd (pc := 56) dX12_ifTaken_56 ?_
    refine r_iload (pc := 57) dX12_ifTaken_57 0 rfl ?_
    refine r_isub (pc := 59) dX12_ifTaken_59 ?_
    obtain ⟨c_4, h⟩ := og h
    refine r_lald (pc := 60) o_3 rfl c_4 rfl dX12_ifTaken_60 ?_
    cases h
    exact r_lret (pc := 61) rfl (Nat.le_refl 0) (Nat.le_refl 0) dX12_ifTaken_61
  · replace h := (if_neg c_2).symm.trans h
    refine r_iload_n (pc := 14) (i := 1) dX12_ifTaken_14 rfl 2 rfl ?_
    refine r_aload_n (pc := 15) (i := 0) dX12_ifTaken_15 rfl 1 rfl ?_
    refine r_getI (pc := 16) fg_12_319 rfl oa0 dX12_ifTaken_16 ?_
    refine r_iconst (pc := 19) (v := 1) dX12_ifTaken_19 (by decide +kernel) ?_
    refine r_isub (pc := 20) dX12_ifTaken_20 ?_
    refine r_icmp_ne (pc := 21) (tgt := 43) dX12_ifTaken_21 (by decide) rfl rfl (fun c_5 => ?_) (fun c_5 => ?_)
    · replace h := (if_neg c_5).symm.trans h
      refine r_lconst (pc := 43) (v := 0) dX12_ifTaken_43 (by decide +kernel) ?_
      cases h
      exact r_lret (pc := 44) rfl (Nat.le_refl 0) (Nat.le_refl 0) dX12_ifTaken_44
    · replace h := (if_pos c_5).symm.trans h
      refine r_aload_n (pc := 24) (i := 0) dX12_ifTaken_24 rfl 1 rfl ?_
      refine r_getI (pc := 25) fg_12_319 rfl oa0 dX12_ifTaken_25 ?_
      refine r_aload_n (pc := 28) (i := 0) dX12_ifTaken_28 rfl 1 rfl ?_
      refine r_getI (pc := 29) fg_12_322 rfl oa0 dX12_ifTaken_29 ?_
      refine r_imul (pc := 32) dX12_ifTaken_32 ?_
      refine r_iload_n (pc := 33) (i := 2) dX12_ifTaken_33 rfl 3 rfl ?_
      refine r_isub (pc := 34) dX12_ifTaken_34 ?_
      refine r_iconst (pc := 35) (v := 1) dX12_ifTaken_35 (by decide +kernel) ?_
      refine r_isub (pc := 36) dX12_ifTaken_36 ?_
      obtain ⟨q_6, hq_6, h⟩ := ob h
      refine r_cS (pc := 37) (Y := xX12_tens) (As := [.int (eI ((((M a0 26) * (M a0 27)) - x2) - 1))]) (rest := []) (v := (some (.long (eJ q_6)))) (st1 := [.long (eJ q_6)]) ck_X12_ifTaken_501 (kX12_tens ((((M a0 26) * (M a0 27)) - x2) - 1) M  hq_6) rfl rfl (Nat.le_of_ble_eq_true rfl) ⟨rfl, rfl⟩ rfl dX12_ifTaken_37 ?_
      refine r_goto (pc := 40) (tgt := 44) dX12_ifTaken_40 (by decide) ?_
      cases h
      exact r_lret (pc := 44) rfl (Nat.le_refl 0) (Nat.le_refl 0) dX12_ifTaken_44
theorem kX12_ifTaken {G : GG} (a0 : Nat) (x1 : Int) (x2 : Int) (x3 : Int) (M : MM) {res : Int} (oa0 : OB L0 a0 12) (h : sX12_ifTaken a0 x1 x2 x3 M = some res) : CO G xX12_ifTaken [.ref (gA G a0), .int (eI x1), .int (eI x2), .int (eI x3)] L0 M (some (.long (eJ res))) L0 M := CO_of (by decide +kernel) (Nat.le_of_ble_eq_true rfl) (bX12_ifTaken_b0 a0 x1 x2 x3 M oa0 h)
abbrev xX12_findWorth : XX := (yX12_findWorth, cX12_findWorth, 10, none, 3, 67, 0, 0)
theorem ck_X12_findWorth_334 : CKV xX12_findWorth 334 xX12_ofChild 2 := ⟨⟨tb_i 1796 (by decide +kernel) (by decide +kernel), tb_i 152 (by decide +kernel) (by decide +kernel), tb_i 1799 (by decide +kernel) (by decide +kernel), ⟨by decide +kernel, by decide +kernel, by decide +kernel⟩, by decide, by decide⟩, tb_i 1798 (by decide +kernel) (by decide +kernel), tb_i 75 (by decide +kernel) (by decide +kernel)⟩
theorem ck_X12_findWorth_504 : CKV xX12_findWorth 504 xX12_ifTaken 3 := ⟨⟨tb_i 1981 (by decide +kernel) (by decide +kernel), tb_i 152 (by decide +kernel) (by decide +kernel), tb_i 1984 (by decide +kernel) (by decide +kernel), ⟨by decide +kernel, by decide +kernel, by decide +kernel⟩, by decide, by decide⟩, tb_i 1983 (by decide +kernel) (by decide +kernel), tb_i 105 (by decide +kernel) (by decide +kernel)⟩
def sX12_findWorth_b133 (a0 : Nat) (K62 : Int → Int → Int → Int → MM → Option MM) (x2 : Int) (x3 : Int) (x4 : Int) (x5 : Int) (b90 : Nat) (x91 : Int) (y92 : Int) (y93 : Int) (y94 : Int) (M : MM) : Option MM := (if 0 ≤ wI x91 ∧ wI x91 < 496 then ((some (mU M b90 (wI x91).toNat (y92 + (y93 * y94)))).bind fun M_2 => ((some (x5 + 1)).bind fun v_3 => (K62 x2 x3 x4 v_3 M_2))) else none)
def sX12_findWorth_b62 (a0 : Nat) (K40 : Int → MM → Option MM) : Nat → Int → Int → Int → Int → MM → Option MM
  | 0, _, _, _, _, _ => none
  | n + 1, x2, x3, x4, x5, M => (if 30 < wI x5 then ((some (x2 + (-1))).bind fun v_2 => (K40 v_2 M)) else (if 0 ≤ wI ((31 * (x2 + 1)) + x5) ∧ wI ((31 * (x2 + 1)) + x5) < 496 then ((some (M (gR a0 57) (wI ((31 * (x2 + 1)) + x5)).toNat)).bind fun v_5 => ((sX12_ifTaken a0 x3 x2 x5 M).bind fun q_6 => (if wJ q_6 ≤ wJ v_5 then (sX12_findWorth_b133 a0 (fun x2 x3 x4 x5 M => sX12_findWorth_b62 a0 K40 n x2 x3 x4 x5 M) x2 x3 x4 x5 (gR a0 57) ((31 * x2) + x5) ((wI (10 - x4)) * v_5) (wI x4) v_5 M) else (sX12_findWorth_b133 a0 (fun x2 x3 x4 x5 M => sX12_findWorth_b62 a0 K40 n x2 x3 x4 x5 M) x2 x3 x4 x5 (gR a0 57) ((31 * x2) + x5) ((wI (10 - x4)) * v_5) (wI x4) q_6 M)))) else none))
def sX12_findWorth_b40 (a0 : Nat)  : Nat → Int → MM → Option MM
  | 0, _, _ => none
  | n + 1, x2, M => (if wI x2 < 0 then (some (M)) else (if wI (M a0 27) ≠ 0 then ((some (Int.tdiv (wI x2) (wI (M a0 27)))).bind fun v_3 => ((sX12_ofChild a0 v_3 2 M).bind fun q_4 => (sX12_findWorth_b62 a0 (fun x2 M => sX12_findWorth_b40 a0 n x2 M) FU x2 v_3 q_4 1 M))) else none))
def sX12_findWorth_b12 (a0 : Nat)  : Nat → Int → Int → MM → Option MM
  | 0, _, _, _ => none
  | n + 1, x1, x2, M => (if 30 < wI x2 then (sX12_findWorth_b40 a0 FU (x1 - 1) M) else (if 0 ≤ wI ((31 * x1) + x2) ∧ wI ((31 * x1) + x2) < 496 then ((some (mU M (gR a0 57) (wI ((31 * x1) + x2)).toNat 0)).bind fun M_4 => ((some (x2 + 1)).bind fun v_5 => (sX12_findWorth_b12 a0 n x1 v_5 M_4))) else none))
def sX12_findWorth_b0 (a0 : Nat)   (M : MM) : Option MM := (sX12_findWorth_b12 a0 FU ((M a0 26) * (M a0 27)) 0 M)
def sX12_findWorth (a0 : Nat) (M : MM) : Option MM := sX12_findWorth_b0 a0 M
set_option maxHeartbeats 4000000 in
set_option maxRecDepth 100000 in
theorem bX12_findWorth_b133 {G : GG} (a0 : Nat) (oa0 : OB L0 a0 12) {K62 : Int → Int → Int → Int → MM → Option MM} (x2 : Int) (x3 : Int) (x4 : Int) (x5 : Int) (b90 : Nat) (x91 : Int) (y92 : Int) (y93 : Int) (y94 : Int) (M : MM) {res : MM} (hK62 : ∀ (x2 : Int) (x3 : Int) (x4 : Int) (x5 : Int) (M : MM), K62 x2 x3 x4 x5 M = some res → VV G xX12_findWorth (ZM G xX12_findWorth (none) L0 res) L0 M 0 0 62 [(0, .ref (gA G a0)), (2, .int (eI x2)), (3, .int (eI x3)), (4, .int (eI x4)), (5, .int (eI x5))] []) (ob90 : AR L0 b90 2 496) (h : sX12_findWorth_b133 a0 K62 x2 x3 x4 x5 b90 x91 y92 y93 y94 M = some res) : VV G xX12_findWorth (ZM G xX12_findWorth (none) L0 res) L0 M 0 0 133 [(0, .ref (gA G a0)), (2, .int (eI x2)), (3, .int (eI x3)), (4, .int (eI x4)), (5, .int (eI x5))] [.long (eJ y94), .long (eJ y93), .long (eJ y92), .int (eI x91), .ref (gA G b90)] := by
  unfold sX12_findWorth_b133 at h
  refine r_lmul (pc := 133) dX12_findWorth_133 ?_
  refine r_ladd (pc := 134) dX12_findWorth_134 ?_
  obtain ⟨c_1, h⟩ := og h
  obtain ⟨M_2, hM_2, h⟩ := ob h
  refine r_last (pc := 135) ob90 rfl c_1 rfl hM_2 dX12_findWorth_135 ?_
  obtain ⟨v_3, hv_3, h⟩ := ob h
  refine r_iinc (pc := 136) (y := v_3) (lv' := [(5, .int (eI v_3)), (0, .ref (gA G a0)), (2, .int (eI x2)), (3, .int (eI x3)), (4, .int (eI x4))]) dX12_findWorth_136 4 rfl (Option.some.inj hv_3) (Nat.le_of_ble_eq_true rfl) rfl ?_
  refine r_goto (pc := 139) (tgt := 62) dX12_findWorth_139 (by decide) ?_
  refine r_sub (lv' := [(0, .ref (gA G a0)), (2, .int (eI x2)), (3, .int (eI x3)), (4, .int (eI x4)), (5, .int (eI v_3))]) [1, 2, 3, 4, 0] rfl ?_
  exact hK62 _ _ _ _ _ h
set_option maxHeartbeats 4000000 in
set_option maxRecDepth 100000 in
theorem bX12_findWorth_b62 {G : GG} (a0 : Nat) (oa0 : OB L0 a0 12) {K40 : Int → MM → Option MM} {res : MM} (hK40 : ∀ (x2 : Int) (M : MM), K40 x2 M = some res → VV G xX12_findWorth (ZM G xX12_findWorth (none) L0 res) L0 M 0 0 40 [(0, .ref (gA G a0)), (2, .int (eI x2))] []) : ∀ (n : Nat) (x2 : Int) (x3 : Int) (x4 : Int) (x5 : Int) (M : MM)  (h : sX12_findWorth_b62 a0 K40 n x2 x3 x4 x5 M = some res), VV G xX12_findWorth (ZM G xX12_findWorth (none) L0 res) L0 M 0 0 62 [(0, .ref (gA G a0)), (2, .int (eI x2)), (3, .int (eI x3)), (4, .int (eI x4)), (5, .int (eI x5))] [] := by
  intro n
  induction n with
  | zero =>
    intro x2 x3 x4 x5 M h
    rw [sX12_findWorth_b62] at h
    cases h
  | succ n ih =>
    intro x2 x3 x4 x5 M h
    rw [sX12_findWorth_b62] at h
    refine r_iload (pc := 62) dX12_findWorth_62 4 rfl ?_
    refine r_bipush (pc := 64) (v := 30) dX12_findWorth_64 (by decide +kernel) ?_
    refine r_icmp_gt (pc := 66) (tgt := 142) dX12_findWorth_66 (by decide) rfl wl_30 (fun c_1 => ?_) (fun c_1 => ?_)
    · replace h := (if_pos c_1).symm.trans h
      obtain ⟨v_2, hv_2, h⟩ := ob h
      refine r_iinc (pc := 142) (y := v_2) (lv' := [(2, .int (eI v_2)), (0, .ref (gA G a0)), (3, .int (eI x3)), (4, .int (eI x4)), (5, .int (eI x5))]) dX12_findWorth_142 1 rfl (Option.some.inj hv_2) (Nat.le_of_ble_eq_true rfl) rfl ?_
      refine r_goto (pc := 145) (tgt := 40) dX12_findWorth_145 (by decide) ?_
      refine r_sub (lv' := [(0, .ref (gA G a0)), (2, .int (eI v_2))]) [1, 0] rfl ?_
      exact hK40 _ _ h
    · replace h := (if_neg c_1).symm.trans h
      refine r_aload_n (pc := 69) (i := 0) dX12_findWorth_69 rfl 0 rfl ?_
      have o_3 := (wt_12_57 oa0).2
      refine r_getR (pc := 70) fg_12_81 rfl oa0 (wt_12_57 oa0).1 dX12_findWorth_70 ?_
      refine r_bipush (pc := 73) (v := 31) dX12_findWorth_73 (by decide +kernel) ?_
      refine r_iload_n (pc := 75) (i := 2) dX12_findWorth_75 rfl 1 rfl ?_
      refine r_iconst (pc := 76) (v := 1) dX12_findWorth_76 (by decide +kernel) ?_
      refine r_iadd (pc := 77) dX12_findWorth_77 ?_
      refine r_imul (pc := 78) dX12_findWorth_78 ?_
      refine r_iload (pc := 79) dX12_findWorth_79 4 rfl ?_
      refine r_iadd (pc := 81) dX12_findWorth_81 ?_
      obtain ⟨c_4, h⟩ := og h
      refine r_lald (pc := 82) o_3 rfl c_4 rfl dX12_findWorth_82 ?_
      obtain ⟨v_5, hv_5, h⟩ := ob h
      refine r_nmJ (pc := 83) hv_5 ?_
      refine r_lstore (pc := 83) (lv' := [(6, .long (eJ v_5)), (0, .ref (gA G a0)), (2, .int (eI x2)), (3, .int (eI x3)), (4, .int (eI x4)), (5, .int (eI x5))]) dX12_findWorth_83 (Nat.le_of_ble_eq_true rfl) rfl ?_
      refine r_aload_n (pc := 85) (i := 0) dX12_findWorth_85 rfl 1 rfl ?_
      refine r_iload_n (pc := 86) (i := 3) dX12_findWorth_86 rfl 3 rfl ?_
      refine r_iload_n (pc := 87) (i := 2) dX12_findWorth_87 rfl 2 rfl ?_
      refine r_iload (pc := 88) dX12_findWorth_88 5 rfl ?_
      obtain ⟨q_6, hq_6, h⟩ := ob h
      refine r_cV (pc := 90) (Y := xX12_ifTaken) (As := [.int (eI x3), .int (eI x2), .int (eI x5)]) (rest := []) (v := (some (.long (eJ q_6)))) (st1 := [.long (eJ q_6)]) ck_X12_findWorth_504 (kX12_ifTaken a0 x3 x2 x5 M oa0 hq_6) oa0 rfl rfl rfl rfl (Nat.le_of_ble_eq_true rfl) ⟨rfl, rfl⟩ rfl dX12_findWorth_90 ?_
      refine r_lstore (pc := 93) (lv' := [(8, .long (eJ q_6)), (6, .long (eJ v_5)), (0, .ref (gA G a0)), (2, .int (eI x2)), (3, .int (eI x3)), (4, .int (eI x4)), (5, .int (eI x5))]) dX12_findWorth_93 (Nat.le_of_ble_eq_true rfl) rfl ?_
      refine r_aload_n (pc := 95) (i := 0) dX12_findWorth_95 rfl 2 rfl ?_
      have o_7 := (wt_12_57 oa0).2
      refine r_getR (pc := 96) fg_12_81 rfl oa0 (wt_12_57 oa0).1 dX12_findWorth_96 ?_
      refine r_bipush (pc := 99) (v := 31) dX12_findWorth_99 (by decide +kernel) ?_
      refine r_iload_n (pc := 101) (i := 2) dX12_findWorth_101 rfl 3 rfl ?_
      refine r_imul (pc := 102) dX12_findWorth_102 ?_
      refine r_iload (pc := 103) dX12_findWorth_103 6 rfl ?_
      refine r_iadd (pc := 105) dX12_findWorth_105 ?_
      refine r_bipush (pc := 106) (v := 10) dX12_findWorth_106 (by decide +kernel) ?_
      refine r_iload (pc := 108) dX12_findWorth_108 5 rfl ?_
      refine r_isub (pc := 110) dX12_findWorth_110 ?_
      refine r_i2l (pc := 111) rfl dX12_findWorth_111 ?_
      refine r_lload (pc := 112) dX12_findWorth_112 1 rfl ?_
      refine r_lmul (pc := 114) dX12_findWorth_114 ?_
      refine r_iload (pc := 115) dX12_findWorth_115 5 rfl ?_
      refine r_i2l (pc := 117) rfl dX12_findWorth_117 ?_
      refine r_lload (pc := 118) dX12_findWorth_118 0 rfl ?_
      refine r_lload (pc := 120) dX12_findWorth_120 1 rfl ?_
      refine r_lcmp_le (pc := 122) (tgt := 131) dX12_findWorth_122 dX12_findWorth_123 (by decide) rfl rfl (fun c_8 => ?_) (fun c_8 => ?_)
      · replace h := (if_pos c_8).symm.trans h
        refine r_lload (pc := 131) dX12_findWorth_131 1 rfl ?_
        refine r_sub (lv' := [(0, .ref (gA G a0)), (2, .int (eI x2)), (3, .int (eI x3)), (4, .int (eI x4)), (5, .int (eI x5))]) [2, 3, 4, 5, 6] rfl ?_
        exact bX12_findWorth_b133 a0 oa0 _ _ _ _ _ _ _ _ _ _ (fun v0 v1 v2 v3 v4 v5 => ih v0 v1 v2 v3 v4 v5) o_7 h
      · replace h := (if_neg c_8).symm.trans h
        refine r_lload (pc := 126) dX12_findWorth_126 0 rfl ?_
        refine r_goto (pc := 128) (tgt := 133) dX12_findWorth_128 (by decide) ?_
        refine r_sub (lv' := [(0, .ref (gA G a0)), (2, .int (eI x2)), (3, .int (eI x3)), (4, .int (eI x4)), (5, .int (eI x5))]) [2, 3, 4, 5, 6] rfl ?_
        exact bX12_findWorth_b133 a0 oa0 _ _ _ _ _ _ _ _ _ _ (fun v0 v1 v2 v3 v4 v5 => ih v0 v1 v2 v3 v4 v5) o_7 h
set_option maxHeartbeats 4000000 in
set_option maxRecDepth 100000 in
theorem bX12_findWorth_b40 {G : GG} (a0 : Nat) (oa0 : OB L0 a0 12) {res : MM} : ∀ (n : Nat) (x2 : Int) (M : MM)  (h : sX12_findWorth_b40 a0 n x2 M = some res), VV G xX12_findWorth (ZM G xX12_findWorth (none) L0 res) L0 M 0 0 40 [(0, .ref (gA G a0)), (2, .int (eI x2))] [] := by
  intro n
  induction n with
  | zero =>
    intro x2 M h
    rw [sX12_findWorth_b40] at h
    cases h
  | succ n ih =>
    intro x2 M h
    rw [sX12_findWorth_b40] at h
    refine r_iload_n (pc := 40) (i := 2) dX12_findWorth_40 rfl 1 rfl ?_
    refine r_if_lt (pc := 41) (tgt := 148) dX12_findWorth_41 (by decide) rfl (fun c_1 => ?_) (fun c_1 => ?_)
    · replace h := (if_pos c_1).symm.trans h
      cases h
      exact r_vret (pc := 148) rfl (Nat.le_refl 0) (Nat.le_refl 0) dX12_findWorth_148
    · replace h := (if_neg c_1).symm.trans h
      refine r_iload_n (pc := 44) (i := 2) dX12_findWorth_44 rfl 1 rfl ?_
      refine r_aload_n (pc := 45) (i := 0) dX12_findWorth_45 rfl 0 rfl ?_
      refine r_getI (pc := 46) fg_12_322 rfl oa0 dX12_findWorth_46 ?_
      obtain ⟨c_2, h⟩ := og h
      refine r_idiv (pc := 49) dX12_findWorth_49 rfl rfl c_2 ?_
      obtain ⟨v_3, hv_3, h⟩ := ob h
      refine r_nmI (pc := 50) hv_3 ?_
      refine r_istore_n (pc := 50) (i := 3) (lv' := [(3, .int (eI v_3)), (0, .ref (gA G a0)), (2, .int (eI x2))]) dX12_findWorth_50 rfl (Nat.le_of_ble_eq_true rfl) rfl ?_
      refine r_aload_n (pc := 51) (i := 0) dX12_findWorth_51 rfl 1 rfl ?_
      refine r_iload_n (pc := 52) (i := 3) dX12_findWorth_52 rfl 0 rfl ?_
      refine r_iconst (pc := 53) (v := 2) dX12_findWorth_53 (by decide +kernel) ?_
      obtain ⟨q_4, hq_4, h⟩ := ob h
      refine r_cV (pc := 54) (Y := xX12_ofChild) (As := [.int (eI v_3), .int (eI 2)]) (rest := []) (v := (some (.int (eI q_4)))) (st1 := [.int (eI q_4)]) ck_X12_findWorth_334 (kX12_ofChild a0 v_3 2 M oa0 hq_4) oa0 rfl rfl rfl rfl (Nat.le_of_ble_eq_true rfl) ⟨rfl, rfl⟩ rfl dX12_findWorth_54 ?_
      refine r_istore (pc := 57) (lv' := [(4, .int (eI q_4)), (3, .int (eI v_3)), (0, .ref (gA G a0)), (2, .int (eI x2))]) dX12_findWorth_57 (Nat.le_of_ble_eq_true rfl) rfl ?_
      refine r_iconst (pc := 59) (v := 1) dX12_findWorth_59 (by decide +kernel) ?_
      refine r_istore (pc := 60) (lv' := [(5, .int (eI 1)), (4, .int (eI q_4)), (3, .int (eI v_3)), (0, .ref (gA G a0)), (2, .int (eI x2))]) dX12_findWorth_60 (Nat.le_of_ble_eq_true rfl) rfl ?_
      refine r_sub (lv' := [(0, .ref (gA G a0)), (2, .int (eI x2)), (3, .int (eI v_3)), (4, .int (eI q_4)), (5, .int (eI 1))]) [3, 4, 2, 1, 0] rfl ?_
      exact bX12_findWorth_b62 a0 oa0 (fun v0 v1 v2 => ih v0 v1 v2) _ _ _ _ _ _ h
set_option maxHeartbeats 4000000 in
set_option maxRecDepth 100000 in
theorem bX12_findWorth_b12 {G : GG} (a0 : Nat) (oa0 : OB L0 a0 12) {res : MM} : ∀ (n : Nat) (x1 : Int) (x2 : Int) (M : MM)  (h : sX12_findWorth_b12 a0 n x1 x2 M = some res), VV G xX12_findWorth (ZM G xX12_findWorth (none) L0 res) L0 M 0 0 12 [(0, .ref (gA G a0)), (1, .int (eI x1)), (2, .int (eI x2))] [] := by
  intro n
  induction n with
  | zero =>
    intro x1 x2 M h
    rw [sX12_findWorth_b12] at h
    cases h
  | succ n ih =>
    intro x1 x2 M h
    rw [sX12_findWorth_b12] at h
    refine r_iload_n (pc := 12) (i := 2) dX12_findWorth_12 rfl 2 rfl ?_
    refine r_bipush (pc := 13) (v := 30) dX12_findWorth_13 (by decide +kernel) ?_
    refine r_icmp_gt (pc := 15) (tgt := 36) dX12_findWorth_15 (by decide) rfl wl_30 (fun c_1 => ?_) (fun c_1 => ?_)
    · replace h := (if_pos c_1).symm.trans h
      refine r_iload_n (pc := 36) (i := 1) dX12_findWorth_36 rfl 1 rfl ?_
      refine r_iconst (pc := 37) (v := 1) dX12_findWorth_37 (by decide +kernel) ?_
      refine r_isub (pc := 38) dX12_findWorth_38 ?_
      refine r_istore_n (pc := 39) (i := 2) (lv' := [(2, .int (eI (x1 - 1))), (0, .ref (gA G a0)), (1, .int (eI x1))]) dX12_findWorth_39 rfl (Nat.le_of_ble_eq_true rfl) rfl ?_
      refine r_sub (lv' := [(0, .ref (gA G a0)), (2, .int (eI (x1 - 1)))]) [1, 0] rfl ?_
      exact bX12_findWorth_b40 a0 oa0 _ _ _ h
    · replace h := (if_neg c_1).symm.trans h
      refine r_aload_n (pc := 18) (i := 0) dX12_findWorth_18 rfl 0 rfl ?_
      have o_2 := (wt_12_57 oa0).2
      refine r_getR (pc := 19) fg_12_81 rfl oa0 (wt_12_57 oa0).1 dX12_findWorth_19 ?_
      refine r_bipush (pc := 22) (v := 31) dX12_findWorth_22 (by decide +kernel) ?_
      refine r_iload_n (pc := 24) (i := 1) dX12_findWorth_24 rfl 1 rfl ?_
      refine r_imul (pc := 25) dX12_findWorth_25 ?_
      refine r_iload_n (pc := 26) (i := 2) dX12_findWorth_26 rfl 2 rfl ?_
      refine r_iadd (pc := 27) dX12_findWorth_27 ?_
      refine r_lconst (pc := 28) (v := 0) dX12_findWorth_28 (by decide +kernel) ?_
      obtain ⟨c_3, h⟩ := og h
      obtain ⟨M_4, hM_4, h⟩ := ob h
      refine r_last (pc := 29) o_2 rfl c_3 rfl hM_4 dX12_findWorth_29 ?_
      obtain ⟨v_5, hv_5, h⟩ := ob h
      refine r_iinc (pc := 30) (y := v_5) (lv' := [(2, .int (eI v_5)), (0, .ref (gA G a0)), (1, .int (eI x1))]) dX12_findWorth_30 2 rfl (Option.some.inj hv_5) (Nat.le_of_ble_eq_true rfl) rfl ?_
      refine r_goto (pc := 33) (tgt := 12) dX12_findWorth_33 (by decide) ?_
      refine r_sub (lv' := [(0, .ref (gA G a0)), (1, .int (eI x1)), (2, .int (eI v_5))]) [1, 2, 0] rfl ?_
      exact ih _ _ _ h
set_option maxHeartbeats 4000000 in
set_option maxRecDepth 100000 in
theorem bX12_findWorth_b0 {G : GG} (a0 : Nat) (oa0 : OB L0 a0 12)  (M : MM) {res : MM}  (h : sX12_findWorth_b0 a0 M = some res) : VV G xX12_findWorth (ZM G xX12_findWorth (none) L0 res) L0 M 0 0 0 [(0, .ref (gA G a0))] [] := by
  unfold sX12_findWorth_b0 at h
  refine r_aload_n (pc := 0) (i := 0) dX12_findWorth_0 rfl 0 rfl ?_
  refine r_getI (pc := 1) fg_12_319 rfl oa0 dX12_findWorth_1 ?_
  refine r_aload_n (pc := 4) (i := 0) dX12_findWorth_4 rfl 0 rfl ?_
  refine r_getI (pc := 5) fg_12_322 rfl oa0 dX12_findWorth_5 ?_
  refine r_imul (pc := 8) dX12_findWorth_8 ?_
  refine r_istore_n (pc := 9) (i := 1) (lv' := [(1, .int (eI ((M a0 26) * (M a0 27)))), (0, .ref (gA G a0))]) dX12_findWorth_9 rfl (Nat.le_of_ble_eq_true rfl) rfl ?_
  refine r_iconst (pc := 10) (v := 0) dX12_findWorth_10 (by decide +kernel) ?_
  refine r_istore_n (pc := 11) (i := 2) (lv' := [(2, .int (eI 0)), (1, .int (eI ((M a0 26) * (M a0 27)))), (0, .ref (gA G a0))]) dX12_findWorth_11 rfl (Nat.le_of_ble_eq_true rfl) rfl ?_
  refine r_sub (lv' := [(0, .ref (gA G a0)), (1, .int (eI ((M a0 26) * (M a0 27)))), (2, .int (eI 0))]) [2, 1, 0] rfl ?_
  exact bX12_findWorth_b12 a0 oa0 _ _ _ _ h
theorem kX12_findWorth {G : GG} (a0 : Nat) (M : MM) {res : MM} (oa0 : OB L0 a0 12) (h : sX12_findWorth a0 M = some res) : CO G xX12_findWorth [.ref (gA G a0)] L0 M (none) L0 res := CO_of (by decide +kernel) (Nat.le_of_ble_eq_true rfl) (bX12_findWorth_b0 a0 oa0 M h)
abbrev xX12_uncle : XX := (yX12_uncle, cX12_uncle, 3, (some .long), 4, 96, 0, 0)
theorem ck_X12_uncle_328 : CKV xX12_uncle 328 xX12_hand 1 := ⟨⟨tb_i 1780 (by decide +kernel) (by decide +kernel), tb_i 152 (by decide +kernel) (by decide +kernel), tb_i 1783 (by decide +kernel) (by decide +kernel), ⟨by decide +kernel, by decide +kernel, by decide +kernel⟩, by decide, by decide⟩, tb_i 1782 (by decide +kernel) (by decide +kernel), tb_i 72 (by decide +kernel) (by decide +kernel)⟩
theorem ck_X12_uncle_409 : CKV xX12_uncle 409 xX12_belly 0 := ⟨⟨tb_i 1820 (by decide +kernel) (by decide +kernel), tb_i 152 (by decide +kernel) (by decide +kernel), tb_i 1823 (by decide +kernel) (by decide +kernel), ⟨by decide +kernel, by decide +kernel, by decide +kernel⟩, by decide, by decide⟩, tb_i 1822 (by decide +kernel) (by decide +kernel), tb_i 79 (by decide +kernel) (by decide +kernel)⟩
theorem ck_X12_uncle_455 : CKS xX12_uncle 455 xX12_least 3 := ⟨⟨tb_i 1916 (by decide +kernel) (by decide +kernel), tb_i 152 (by decide +kernel) (by decide +kernel), tb_i 1918 (by decide +kernel) (by decide +kernel), ⟨by decide +kernel, by decide +kernel, by decide +kernel⟩, by decide, by decide⟩, tb_i 1917 (by decide +kernel) (by decide +kernel)⟩
theorem ck_X12_uncle_492 : CKV xX12_uncle 492 xX12_canTell 0 := ⟨⟨tb_i 1944 (by decide +kernel) (by decide +kernel), tb_i 152 (by decide +kernel) (by decide +kernel), tb_i 1947 (by decide +kernel) (by decide +kernel), ⟨by decide +kernel, by decide +kernel, by decide +kernel⟩, by decide, by decide⟩, tb_i 1946 (by decide +kernel) (by decide +kernel), tb_i 97 (by decide +kernel) (by decide +kernel)⟩
theorem ck_X12_uncle_501 : CKS xX12_uncle 501 xX12_tens 1 := ⟨⟨tb_i 1985 (by decide +kernel) (by decide +kernel), tb_i 152 (by decide +kernel) (by decide +kernel), tb_i 1987 (by decide +kernel) (by decide +kernel), ⟨by decide +kernel, by decide +kernel, by decide +kernel⟩, by decide, by decide⟩, tb_i 1986 (by decide +kernel) (by decide +kernel)⟩
theorem ck_X12_uncle_508 : CKV xX12_uncle 508 xX12_findWorth 0 := ⟨⟨tb_i 1977 (by decide +kernel) (by decide +kernel), tb_i 152 (by decide +kernel) (by decide +kernel), tb_i 1980 (by decide +kernel) (by decide +kernel), ⟨by decide +kernel, by decide +kernel, by decide +kernel⟩, by decide, by decide⟩, tb_i 1979 (by decide +kernel) (by decide +kernel), tb_i 104 (by decide +kernel) (by decide +kernel)⟩
def sX12_uncle_b20 (a0 : Nat) (x1 : Int) (x2 : Int)   (M : MM) : Option (Int × MM) := (some (((-1), M)))
def sX12_uncle_b0 (a0 : Nat) (x1 : Int) (x2 : Int)   (M : MM) : Option (Int × MM) := ((some (mU M a0 0 0)).bind fun M_1 => ((sX12_hand a0 x1 M_1).bind fun q_2 => (if wI (q_2.1) = 0 then (sX12_uncle_b20 a0 x1 x2 q_2.2) else (if wI (sX12_canTell a0 q_2.2) = 0 then (sX12_uncle_b20 a0 x1 x2 q_2.2) else ((sX12_findWorth a0 q_2.2).bind fun q_5 => ((sX12_belly a0 q_5).bind fun q_7 => (if 0 ≤ wI q_7 ∧ wI q_7 < 496 then ((sX12_tens ((q_5 a0 26) * (q_5 a0 27))).bind fun q_9 => ((sX12_least (q_5 (gR a0 57) (wI q_7).toNat) q_9 x2).bind fun q_10 => (some ((q_10, q_5))))) else none)))))))
def sX12_uncle (a0 : Nat) (x1 : Int) (x2 : Int) (M : MM) : Option (Int × MM) := sX12_uncle_b0 a0 x1 x2 M
set_option maxHeartbeats 4000000 in
set_option maxRecDepth 100000 in
theorem bX12_uncle_b20 {G : GG} (a0 : Nat) (x1 : Int) (x2 : Int) (oa0 : OB L0 a0 12)  (M : MM) {res : (Int × MM)}  (h : sX12_uncle_b20 a0 x1 x2 M = some res) : VV G xX12_uncle (ZM G xX12_uncle (some (.long (eJ res.1))) L0 res.2) L0 M 0 0 20 [] [] := by
  unfold sX12_uncle_b20 at h
  refine r_ldc2 (pc := 20) (v := (-1)) kc_12_459 dX12_uncle_20 ?_
  cases h
  exact r_lret (pc := 23) rfl (Nat.le_refl 0) (Nat.le_refl 0) dX12_uncle_23
set_option maxHeartbeats 4000000 in
set_option maxRecDepth 100000 in
theorem bX12_uncle_b0 {G : GG} (a0 : Nat) (x1 : Int) (x2 : Int) (oa0 : OB L0 a0 12)  (M : MM) {res : (Int × MM)}  (h : sX12_uncle_b0 a0 x1 x2 M = some res) : VV G xX12_uncle (ZM G xX12_uncle (some (.long (eJ res.1))) L0 res.2) L0 M 0 0 0 [(0, .ref (gA G a0)), (1, .int (eI x1)), (2, .int (eI x2))] [] := by
  unfold sX12_uncle_b0 at h
  refine r_aload_n (pc := 0) (i := 0) dX12_uncle_0 rfl 0 rfl ?_
  refine r_iconst (pc := 1) (v := 0) dX12_uncle_1 (by decide +kernel) ?_
  obtain ⟨M_1, hM_1, h⟩ := ob h
  refine r_putI (pc := 2) fg_12_97 rfl oa0 hM_1 rfl rfl dX12_uncle_2 ?_
  refine r_aload_n (pc := 5) (i := 0) dX12_uncle_5 rfl 0 rfl ?_
  refine r_iload_n (pc := 6) (i := 1) dX12_uncle_6 rfl 1 rfl ?_
  obtain ⟨q_2, hq_2, h⟩ := ob h
  refine r_cV (pc := 7) (Y := xX12_hand) (As := [.int (eI x1)]) (rest := []) (v := (some (.int (eI (q_2.1))))) (st1 := [.int (eI (q_2.1))]) ck_X12_uncle_328 (kX12_hand a0 x1 M_1 oa0 hq_2) oa0 rfl rfl rfl rfl (Nat.le_of_ble_eq_true rfl) ⟨rfl, rfl⟩ rfl dX12_uncle_7 ?_
  refine r_if_eq (pc := 10) (tgt := 20) dX12_uncle_10 (by decide) rfl (fun c_3 => ?_) (fun c_3 => ?_)
  · replace h := (if_pos c_3).symm.trans h
    refine r_sub (lv' := []) [] rfl ?_
    exact bX12_uncle_b20 a0 x1 x2 oa0 _ h
  · replace h := (if_neg c_3).symm.trans h
    refine r_aload_n (pc := 13) (i := 0) dX12_uncle_13 rfl 0 rfl ?_
    refine r_cV (pc := 14) (Y := xX12_canTell) (As := []) (rest := []) (v := (some (.int (eI (sX12_canTell a0 q_2.2))))) (st1 := [.int (eI (sX12_canTell a0 q_2.2))]) ck_X12_uncle_492 (kX12_canTell a0 q_2.2 oa0) oa0 rfl rfl rfl rfl (Nat.le_of_ble_eq_true rfl) ⟨rfl, rfl⟩ rfl dX12_uncle_14 ?_
    refine r_if_ne (pc := 17) (tgt := 24) dX12_uncle_17 (by decide) rfl (fun c_4 => ?_) (fun c_4 => ?_)
    · replace h := (if_neg c_4).symm.trans h
      refine r_aload_n (pc := 24) (i := 0) dX12_uncle_24 rfl 0 rfl ?_
      obtain ⟨q_5, hq_5, h⟩ := ob h
      refine r_cV (pc := 25) (Y := xX12_findWorth) (As := []) (rest := []) (v := none) (st1 := []) ck_X12_uncle_508 (kX12_findWorth a0 q_2.2 oa0 hq_5) oa0 rfl rfl rfl rfl (Nat.le_of_ble_eq_true rfl) ⟨rfl, rfl⟩ rfl dX12_uncle_25 ?_
      refine r_aload_n (pc := 28) (i := 0) dX12_uncle_28 rfl 0 rfl ?_
      have o_6 := (wt_12_57 oa0).2
      refine r_getR (pc := 29) fg_12_81 rfl oa0 (wt_12_57 oa0).1 dX12_uncle_29 ?_
      refine r_aload_n (pc := 32) (i := 0) dX12_uncle_32 rfl 0 rfl ?_
      obtain ⟨q_7, hq_7, h⟩ := ob h
      refine r_cV (pc := 33) (Y := xX12_belly) (As := []) (rest := [.ref (gA G (gR a0 57))]) (v := (some (.int (eI q_7)))) (st1 := [.int (eI q_7), .ref (gA G (gR a0 57))]) ck_X12_uncle_409 (kX12_belly a0 q_5 oa0 hq_7) oa0 rfl rfl rfl rfl (Nat.le_of_ble_eq_true rfl) ⟨rfl, rfl⟩ rfl dX12_uncle_33 ?_
      obtain ⟨c_8, h⟩ := og h
      refine r_lald (pc := 36) o_6 rfl c_8 rfl dX12_uncle_36 ?_
      refine r_aload_n (pc := 37) (i := 0) dX12_uncle_37 rfl 0 rfl ?_
      refine r_getI (pc := 38) fg_12_319 rfl oa0 dX12_uncle_38 ?_
      refine r_aload_n (pc := 41) (i := 0) dX12_uncle_41 rfl 0 rfl ?_
      refine r_getI (pc := 42) fg_12_322 rfl oa0 dX12_uncle_42 ?_
      refine r_imul (pc := 45) dX12_uncle_45 ?_
      obtain ⟨q_9, hq_9, h⟩ := ob h
      refine r_cS (pc := 46) (Y := xX12_tens) (As := [.int (eI ((q_5 a0 26) * (q_5 a0 27)))]) (rest := [.long (eJ (q_5 (gR a0 57) (wI q_7).toNat))]) (v := (some (.long (eJ q_9)))) (st1 := [.long (eJ q_9), .long (eJ (q_5 (gR a0 57) (wI q_7).toNat))]) ck_X12_uncle_501 (kX12_tens ((q_5 a0 26) * (q_5 a0 27)) q_5  hq_9) rfl rfl (Nat.le_of_ble_eq_true rfl) ⟨rfl, rfl⟩ rfl dX12_uncle_46 ?_
      refine r_iload_n (pc := 49) (i := 2) dX12_uncle_49 rfl 2 rfl ?_
      obtain ⟨q_10, hq_10, h⟩ := ob h
      refine r_cS (pc := 50) (Y := xX12_least) (As := [.long (eJ (q_5 (gR a0 57) (wI q_7).toNat)), .long (eJ q_9), .int (eI x2)]) (rest := []) (v := (some (.long (eJ q_10)))) (st1 := [.long (eJ q_10)]) ck_X12_uncle_455 (kX12_least (q_5 (gR a0 57) (wI q_7).toNat) q_9 x2 q_5  hq_10) rfl rfl (Nat.le_of_ble_eq_true rfl) ⟨rfl, rfl⟩ rfl dX12_uncle_50 ?_
      cases h
      exact r_lret (pc := 53) rfl (Nat.le_refl 0) (Nat.le_refl 0) dX12_uncle_53
    · replace h := (if_pos c_4).symm.trans h
      refine r_sub (lv' := []) [] rfl ?_
      exact bX12_uncle_b20 a0 x1 x2 oa0 _ h
theorem kX12_uncle {G : GG} (a0 : Nat) (x1 : Int) (x2 : Int) (M : MM) {res : (Int × MM)} (oa0 : OB L0 a0 12) (h : sX12_uncle a0 x1 x2 M = some res) : CO G xX12_uncle [.ref (gA G a0), .int (eI x1), .int (eI x2)] L0 M (some (.long (eJ res.1))) L0 res.2 := CO_of (by decide +kernel) (Nat.le_of_ble_eq_true rfl) (bX12_uncle_b0 a0 x1 x2 oa0 M h)
abbrev xX12_lifts : XX := (yX12_lifts, cX12_lifts, 6, (some .int), 4, 96, 0, 0)
theorem ck_X12_lifts_105 : CKS xX12_lifts 105 xX12_in 3 := ⟨⟨tb_i 1622 (by decide +kernel) (by decide +kernel), tb_i 152 (by decide +kernel) (by decide +kernel), tb_i 1624 (by decide +kernel) (by decide +kernel), ⟨by decide +kernel, by decide +kernel, by decide +kernel⟩, by decide, by decide⟩, tb_i 1623 (by decide +kernel) (by decide +kernel)⟩
theorem ck_X12_lifts_328 : CKV xX12_lifts 328 xX12_hand 1 := ⟨⟨tb_i 1780 (by decide +kernel) (by decide +kernel), tb_i 152 (by decide +kernel) (by decide +kernel), tb_i 1783 (by decide +kernel) (by decide +kernel), ⟨by decide +kernel, by decide +kernel, by decide +kernel⟩, by decide, by decide⟩, tb_i 1782 (by decide +kernel) (by decide +kernel), tb_i 72 (by decide +kernel) (by decide +kernel)⟩
theorem ck_X12_lifts_331 : CKV xX12_lifts 331 xX12_isChild 1 := ⟨⟨tb_i 1792 (by decide +kernel) (by decide +kernel), tb_i 152 (by decide +kernel) (by decide +kernel), tb_i 1795 (by decide +kernel) (by decide +kernel), ⟨by decide +kernel, by decide +kernel, by decide +kernel⟩, by decide, by decide⟩, tb_i 1794 (by decide +kernel) (by decide +kernel), tb_i 74 (by decide +kernel) (by decide +kernel)⟩
theorem ck_X12_lifts_492 : CKV xX12_lifts 492 xX12_canTell 0 := ⟨⟨tb_i 1944 (by decide +kernel) (by decide +kernel), tb_i 152 (by decide +kernel) (by decide +kernel), tb_i 1947 (by decide +kernel) (by decide +kernel), ⟨by decide +kernel, by decide +kernel, by decide +kernel⟩, by decide, by decide⟩, tb_i 1946 (by decide +kernel) (by decide +kernel), tb_i 97 (by decide +kernel) (by decide +kernel)⟩
theorem ck_X12_lifts_504 : CKV xX12_lifts 504 xX12_ifTaken 3 := ⟨⟨tb_i 1981 (by decide +kernel) (by decide +kernel), tb_i 152 (by decide +kernel) (by decide +kernel), tb_i 1984 (by decide +kernel) (by decide +kernel), ⟨by decide +kernel, by decide +kernel, by decide +kernel⟩, by decide, by decide⟩, tb_i 1983 (by decide +kernel) (by decide +kernel), tb_i 105 (by decide +kernel) (by decide +kernel)⟩
theorem ck_X12_lifts_508 : CKV xX12_lifts 508 xX12_findWorth 0 := ⟨⟨tb_i 1977 (by decide +kernel) (by decide +kernel), tb_i 152 (by decide +kernel) (by decide +kernel), tb_i 1980 (by decide +kernel) (by decide +kernel), ⟨by decide +kernel, by decide +kernel, by decide +kernel⟩, by decide, by decide⟩, tb_i 1979 (by decide +kernel) (by decide +kernel), tb_i 104 (by decide +kernel) (by decide +kernel)⟩
def sX12_lifts_b0 (a0 : Nat) (x1 : Int) (x2 : Int) (x3 : Int) (x4 : Int)   (M : MM) : Option (Int × MM) := ((some (mU M a0 0 0)).bind fun M_1 => ((sX12_hand a0 x1 M_1).bind fun q_2 => (if wI (q_2.1) = 0 then (some (((-1), q_2.2))) else (if wI (sX12_canTell a0 q_2.2) = 0 then (some (((-1), q_2.2))) else ((sX12_isChild a0 x2 q_2.2).bind fun q_5 => (if wI q_5 = 0 then (some (((-1), q_2.2))) else (if wI (sX12_in x3 0 ((q_2.2 a0 27) - 1)) = 0 then (some (((-1), q_2.2))) else (if wI (sX12_in x4 1 30) = 0 then (some (((-1), q_2.2))) else ((sX12_findWorth a0 q_2.2).bind fun q_9 => (if 0 ≤ wI ((31 * (((x2 * (q_9 a0 27)) + x3) + 1)) + x4) ∧ wI ((31 * (((x2 * (q_9 a0 27)) + x3) + 1)) + x4) < 496 then ((sX12_ifTaken a0 x2 ((x2 * (q_9 a0 27)) + x3) x4 q_9).bind fun q_12 => (if wJ (q_9 (gR a0 57) (wI ((31 * (((x2 * (q_9 a0 27)) + x3) + 1)) + x4)).toNat) ≤ wJ q_12 then (some ((0, q_9))) else (some ((1, q_9))))) else none))))))))))
def sX12_lifts (a0 : Nat) (x1 : Int) (x2 : Int) (x3 : Int) (x4 : Int) (M : MM) : Option (Int × MM) := sX12_lifts_b0 a0 x1 x2 x3 x4 M
set_option maxHeartbeats 4000000 in
set_option maxRecDepth 100000 in
theorem bX12_lifts_b0 {G : GG} (a0 : Nat) (x1 : Int) (x2 : Int) (x3 : Int) (x4 : Int) (oa0 : OB L0 a0 12)  (M : MM) {res : (Int × MM)}  (h : sX12_lifts_b0 a0 x1 x2 x3 x4 M = some res) : VV G xX12_lifts (ZM G xX12_lifts (some (.int (eI res.1))) L0 res.2) L0 M 0 0 0 [(0, .ref (gA G a0)), (1, .int (eI x1)), (2, .int (eI x2)), (3, .int (eI x3)), (4, .int (eI x4))] [] := by
  unfold sX12_lifts_b0 at h
  refine r_aload_n (pc := 0) (i := 0) dX12_lifts_0 rfl 0 rfl ?_
  refine r_iconst (pc := 1) (v := 0) dX12_lifts_1 (by decide +kernel) ?_
  obtain ⟨M_1, hM_1, h⟩ := ob h
  refine r_putI (pc := 2) fg_12_97 rfl oa0 hM_1 rfl rfl dX12_lifts_2 ?_
  refine r_aload_n (pc := 5) (i := 0) dX12_lifts_5 rfl 0 rfl ?_
  refine r_iload_n (pc := 6) (i := 1) dX12_lifts_6 rfl 1 rfl ?_
  obtain ⟨q_2, hq_2, h⟩ := ob h
  refine r_cV (pc := 7) (Y := xX12_hand) (As := [.int (eI x1)]) (rest := []) (v := (some (.int (eI (q_2.1))))) (st1 := [.int (eI (q_2.1))]) ck_X12_lifts_328 (kX12_hand a0 x1 M_1 oa0 hq_2) oa0 rfl rfl rfl rfl (Nat.le_of_ble_eq_true rfl) ⟨rfl, rfl⟩ rfl dX12_lifts_7 ?_
  refine r_if_eq (pc := 10) (tgt := 53) dX12_lifts_10 (by decide) rfl (fun c_3 => ?_) (fun c_3 => ?_)
  · replace h := (if_pos c_3).symm.trans h
    refine r_iconst (pc := 53) (v := (-1)) dX12_lifts_53 (by decide +kernel) ?_
    cases h
    exact r_iret (pc := 54) rfl rfl (Nat.le_refl 0) (Nat.le_refl 0) dX12_lifts_54
  · replace h := (if_neg c_3).symm.trans h
    refine r_aload_n (pc := 13) (i := 0) dX12_lifts_13 rfl 0 rfl ?_
    refine r_cV (pc := 14) (Y := xX12_canTell) (As := []) (rest := []) (v := (some (.int (eI (sX12_canTell a0 q_2.2))))) (st1 := [.int (eI (sX12_canTell a0 q_2.2))]) ck_X12_lifts_492 (kX12_canTell a0 q_2.2 oa0) oa0 rfl rfl rfl rfl (Nat.le_of_ble_eq_true rfl) ⟨rfl, rfl⟩ rfl dX12_lifts_14 ?_
    refine r_if_eq (pc := 17) (tgt := 53) dX12_lifts_17 (by decide) rfl (fun c_4 => ?_) (fun c_4 => ?_)
    · replace h := (if_pos c_4).symm.trans h
      refine r_iconst (pc := 53) (v := (-1)) dX12_lifts_53 (by decide +kernel) ?_
      cases h
      exact r_iret (pc := 54) rfl rfl (Nat.le_refl 0) (Nat.le_refl 0) dX12_lifts_54
    · replace h := (if_neg c_4).symm.trans h
      refine r_aload_n (pc := 20) (i := 0) dX12_lifts_20 rfl 0 rfl ?_
      refine r_iload_n (pc := 21) (i := 2) dX12_lifts_21 rfl 2 rfl ?_
      obtain ⟨q_5, hq_5, h⟩ := ob h
      refine r_cV (pc := 22) (Y := xX12_isChild) (As := [.int (eI x2)]) (rest := []) (v := (some (.int (eI q_5)))) (st1 := [.int (eI q_5)]) ck_X12_lifts_331 (kX12_isChild a0 x2 q_2.2 oa0 hq_5) oa0 rfl rfl rfl rfl (Nat.le_of_ble_eq_true rfl) ⟨rfl, rfl⟩ rfl dX12_lifts_22 ?_
      refine r_if_eq (pc := 25) (tgt := 53) dX12_lifts_25 (by decide) rfl (fun c_6 => ?_) (fun c_6 => ?_)
      · replace h := (if_pos c_6).symm.trans h
        refine r_iconst (pc := 53) (v := (-1)) dX12_lifts_53 (by decide +kernel) ?_
        cases h
        exact r_iret (pc := 54) rfl rfl (Nat.le_refl 0) (Nat.le_refl 0) dX12_lifts_54
      · replace h := (if_neg c_6).symm.trans h
        refine r_iload_n (pc := 28) (i := 3) dX12_lifts_28 rfl 3 rfl ?_
        refine r_iconst (pc := 29) (v := 0) dX12_lifts_29 (by decide +kernel) ?_
        refine r_aload_n (pc := 30) (i := 0) dX12_lifts_30 rfl 0 rfl ?_
        refine r_getI (pc := 31) fg_12_322 rfl oa0 dX12_lifts_31 ?_
        refine r_iconst (pc := 34) (v := 1) dX12_lifts_34 (by decide +kernel) ?_
        refine r_isub (pc := 35) dX12_lifts_35 ?_
        refine r_cS (pc := 36) (Y := xX12_in) (As := [.int (eI x3), .int (eI 0), .int (eI ((q_2.2 a0 27) - 1))]) (rest := []) (v := (some (.int (eI (sX12_in x3 0 ((q_2.2 a0 27) - 1)))))) (st1 := [.int (eI (sX12_in x3 0 ((q_2.2 a0 27) - 1)))]) ck_X12_lifts_105 (kX12_in x3 0 ((q_2.2 a0 27) - 1) q_2.2 ) rfl rfl (Nat.le_of_ble_eq_true rfl) ⟨rfl, rfl⟩ rfl dX12_lifts_36 ?_
        refine r_if_eq (pc := 39) (tgt := 53) dX12_lifts_39 (by decide) rfl (fun c_7 => ?_) (fun c_7 => ?_)
        · replace h := (if_pos c_7).symm.trans h
          refine r_iconst (pc := 53) (v := (-1)) dX12_lifts_53 (by decide +kernel) ?_
          cases h
          exact r_iret (pc := 54) rfl rfl (Nat.le_refl 0) (Nat.le_refl 0) dX12_lifts_54
        · replace h := (if_neg c_7).symm.trans h
          refine r_iload (pc := 42) dX12_lifts_42 4 rfl ?_
          refine r_iconst (pc := 44) (v := 1) dX12_lifts_44 (by decide +kernel) ?_
          refine r_bipush (pc := 45) (v := 30) dX12_lifts_45 (by decide +kernel) ?_
          refine r_cS (pc := 47) (Y := xX12_in) (As := [.int (eI x4), .int (eI 1), .int (eI 30)]) (rest := []) (v := (some (.int (eI (sX12_in x4 1 30))))) (st1 := [.int (eI (sX12_in x4 1 30))]) ck_X12_lifts_105 (kX12_in x4 1 30 q_2.2 ) rfl rfl (Nat.le_of_ble_eq_true rfl) ⟨rfl, rfl⟩ rfl dX12_lifts_47 ?_
          refine r_if_ne (pc := 50) (tgt := 55) dX12_lifts_50 (by decide) rfl (fun c_8 => ?_) (fun c_8 => ?_)
          · replace h := (if_neg c_8).symm.trans h
            refine r_aload_n (pc := 55) (i := 0) dX12_lifts_55 rfl 0 rfl ?_
            obtain ⟨q_9, hq_9, h⟩ := ob h
            refine r_cV (pc := 56) (Y := xX12_findWorth) (As := []) (rest := []) (v := none) (st1 := []) ck_X12_lifts_508 (kX12_findWorth a0 q_2.2 oa0 hq_9) oa0 rfl rfl rfl rfl (Nat.le_of_ble_eq_true rfl) ⟨rfl, rfl⟩ rfl dX12_lifts_56 ?_
            refine r_iload_n (pc := 59) (i := 2) dX12_lifts_59 rfl 2 rfl ?_
            refine r_aload_n (pc := 60) (i := 0) dX12_lifts_60 rfl 0 rfl ?_
            refine r_getI (pc := 61) fg_12_322 rfl oa0 dX12_lifts_61 ?_
            refine r_imul (pc := 64) dX12_lifts_64 ?_
            refine r_iload_n (pc := 65) (i := 3) dX12_lifts_65 rfl 3 rfl ?_
            refine r_iadd (pc := 66) dX12_lifts_66 ?_
            refine r_istore (pc := 67) (lv' := [(5, .int (eI ((x2 * (q_9 a0 27)) + x3))), (0, .ref (gA G a0)), (1, .int (eI x1)), (2, .int (eI x2)), (3, .int (eI x3)), (4, .int (eI x4))]) dX12_lifts_67 (Nat.le_of_ble_eq_true rfl) rfl ?_
            refine r_aload_n (pc := 69) (i := 0) dX12_lifts_69 rfl 1 rfl ?_
            have o_10 := (wt_12_57 oa0).2
            refine r_getR (pc := 70) fg_12_81 rfl oa0 (wt_12_57 oa0).1 dX12_lifts_70 ?_
            refine r_bipush (pc := 73) (v := 31) dX12_lifts_73 (by decide +kernel) ?_
            refine r_iload (pc := 75) dX12_lifts_75 0 rfl ?_
            refine r_iconst (pc := 77) (v := 1) dX12_lifts_77 (by decide +kernel) ?_
            refine r_iadd (pc := 78) dX12_lifts_78 ?_
            refine r_imul (pc := 79) dX12_lifts_79 ?_
            refine r_iload (pc := 80) dX12_lifts_80 5 rfl ?_
            refine r_iadd (pc := 82) dX12_lifts_82 ?_
            obtain ⟨c_11, h⟩ := og h
            refine r_lald (pc := 83) o_10 rfl c_11 rfl dX12_lifts_83 ?_
            refine r_aload_n (pc := 84) (i := 0) dX12_lifts_84 rfl 1 rfl ?_
            refine r_iload_n (pc := 85) (i := 2) dX12_lifts_85 rfl 3 rfl ?_
            refine r_iload (pc := 86) dX12_lifts_86 0 rfl ?_
            refine r_iload (pc := 88) dX12_lifts_88 5 rfl ?_
            obtain ⟨q_12, hq_12, h⟩ := ob h
            refine r_cV (pc := 90) (Y := xX12_ifTaken) (As := [.int (eI x2), .int (eI ((x2 * (q_9 a0 27)) + x3)), .int (eI x4)]) (rest := [.long (eJ (q_9 (gR a0 57) (wI ((31 * (((x2 * (q_9 a0 27)) + x3) + 1)) + x4)).toNat))]) (v := (some (.long (eJ q_12)))) (st1 := [.long (eJ q_12), .long (eJ (q_9 (gR a0 57) (wI ((31 * (((x2 * (q_9 a0 27)) + x3) + 1)) + x4)).toNat))]) ck_X12_lifts_504 (kX12_ifTaken a0 x2 ((x2 * (q_9 a0 27)) + x3) x4 q_9 oa0 hq_12) oa0 rfl rfl rfl rfl (Nat.le_of_ble_eq_true rfl) ⟨rfl, rfl⟩ rfl dX12_lifts_90 ?_
            refine r_lcmp_le (pc := 93) (tgt := 101) dX12_lifts_93 dX12_lifts_94 (by decide) rfl rfl (fun c_13 => ?_) (fun c_13 => ?_)
            · replace h := (if_pos c_13).symm.trans h
              refine r_iconst (pc := 101) (v := 0) dX12_lifts_101 (by decide +kernel) ?_
              cases h
              exact r_iret (pc := 102) rfl rfl (Nat.le_refl 0) (Nat.le_refl 0) dX12_lifts_102
            · replace h := (if_neg c_13).symm.trans h
              refine r_iconst (pc := 97) (v := 1) dX12_lifts_97 (by decide +kernel) ?_
              refine r_goto (pc := 98) (tgt := 102) dX12_lifts_98 (by decide) ?_
              cases h
              exact r_iret (pc := 102) rfl rfl (Nat.le_refl 0) (Nat.le_refl 0) dX12_lifts_102
          · replace h := (if_pos c_8).symm.trans h
            refine r_iconst (pc := 53) (v := (-1)) dX12_lifts_53 (by decide +kernel) ?_
            cases h
            exact r_iret (pc := 54) rfl rfl (Nat.le_refl 0) (Nat.le_refl 0) dX12_lifts_54
theorem kX12_lifts {G : GG} (a0 : Nat) (x1 : Int) (x2 : Int) (x3 : Int) (x4 : Int) (M : MM) {res : (Int × MM)} (oa0 : OB L0 a0 12) (h : sX12_lifts a0 x1 x2 x3 x4 M = some res) : CO G xX12_lifts [.ref (gA G a0), .int (eI x1), .int (eI x2), .int (eI x3), .int (eI x4)] L0 M (some (.int (eI res.1))) L0 res.2 := CO_of (by decide +kernel) (Nat.le_of_ble_eq_true rfl) (bX12_lifts_b0 a0 x1 x2 x3 x4 oa0 M h)
abbrev xX12_turn : XX := (yX12_turn, cX12_turn, 4, none, 0, 0, 0, 0)
def sX12_turn_b0 (a0 : Nat) (x1 : Int) (x2 : Int)   (M : MM) : Option MM := (if 0 ≤ wI x1 ∧ wI x1 < 8 then (if 0 ≤ wI x2 ∧ wI x2 < 8 then (if 0 ≤ wI x1 ∧ wI x1 < 8 then ((some (mU M (gR a0 52) (wI x1).toNat (M (gR a0 52) (wI x2).toNat))).bind fun M_7 => (if 0 ≤ wI x2 ∧ wI x2 < 8 then ((some (mU M_7 (gR a0 52) (wI x2).toNat (M (gR a0 52) (wI x1).toNat))).bind fun M_10 => (some (M_10))) else none)) else none) else none) else none)
def sX12_turn (a0 : Nat) (x1 : Int) (x2 : Int) (M : MM) : Option MM := sX12_turn_b0 a0 x1 x2 M
set_option maxHeartbeats 4000000 in
set_option maxRecDepth 100000 in
theorem bX12_turn_b0 {G : GG} (a0 : Nat) (x1 : Int) (x2 : Int) (oa0 : OB L0 a0 12)  (M : MM) {res : MM}  (h : sX12_turn_b0 a0 x1 x2 M = some res) : VV G xX12_turn (ZM G xX12_turn (none) L0 res) L0 M 0 0 0 [(0, .ref (gA G a0)), (1, .int (eI x1)), (2, .int (eI x2))] [] := by
  unfold sX12_turn_b0 at h
  refine r_aload_n (pc := 0) (i := 0) dX12_turn_0 rfl 0 rfl ?_
  have o_1 := (wt_12_52 oa0).2
  refine r_getR (pc := 1) fg_12_78 rfl oa0 (wt_12_52 oa0).1 dX12_turn_1 ?_
  refine r_iload_n (pc := 4) (i := 1) dX12_turn_4 rfl 1 rfl ?_
  obtain ⟨c_2, h⟩ := og h
  refine r_iald (pc := 5) o_1 rfl c_2 rfl dX12_turn_5 ?_
  refine r_istore_n (pc := 6) (i := 3) (lv' := [(3, .int (eI (M (gR a0 52) (wI x1).toNat))), (0, .ref (gA G a0)), (1, .int (eI x1)), (2, .int (eI x2))]) dX12_turn_6 rfl (Nat.le_of_ble_eq_true rfl) rfl ?_
  refine r_aload_n (pc := 7) (i := 0) dX12_turn_7 rfl 1 rfl ?_
  have o_3 := (wt_12_52 oa0).2
  refine r_getR (pc := 8) fg_12_78 rfl oa0 (wt_12_52 oa0).1 dX12_turn_8 ?_
  refine r_iload_n (pc := 11) (i := 1) dX12_turn_11 rfl 2 rfl ?_
  refine r_aload_n (pc := 12) (i := 0) dX12_turn_12 rfl 1 rfl ?_
  have o_4 := (wt_12_52 oa0).2
  refine r_getR (pc := 13) fg_12_78 rfl oa0 (wt_12_52 oa0).1 dX12_turn_13 ?_
  refine r_iload_n (pc := 16) (i := 2) dX12_turn_16 rfl 3 rfl ?_
  obtain ⟨c_5, h⟩ := og h
  refine r_iald (pc := 17) o_4 rfl c_5 rfl dX12_turn_17 ?_
  obtain ⟨c_6, h⟩ := og h
  obtain ⟨M_7, hM_7, h⟩ := ob h
  refine r_iast (pc := 18) o_3 rfl c_6 rfl hM_7 dX12_turn_18 ?_
  refine r_aload_n (pc := 19) (i := 0) dX12_turn_19 rfl 1 rfl ?_
  have o_8 := (wt_12_52 oa0).2
  refine r_getR (pc := 20) fg_12_78 rfl oa0 (wt_12_52 oa0).1 dX12_turn_20 ?_
  refine r_iload_n (pc := 23) (i := 2) dX12_turn_23 rfl 3 rfl ?_
  refine r_iload_n (pc := 24) (i := 3) dX12_turn_24 rfl 0 rfl ?_
  obtain ⟨c_9, h⟩ := og h
  obtain ⟨M_10, hM_10, h⟩ := ob h
  refine r_iast (pc := 25) o_8 rfl c_9 rfl hM_10 dX12_turn_25 ?_
  cases h
  exact r_vret (pc := 26) rfl (Nat.le_refl 0) (Nat.le_refl 0) dX12_turn_26
theorem kX12_turn {G : GG} (a0 : Nat) (x1 : Int) (x2 : Int) (M : MM) {res : MM} (oa0 : OB L0 a0 12) (h : sX12_turn a0 x1 x2 M = some res) : CO G xX12_turn [.ref (gA G a0), .int (eI x1), .int (eI x2)] L0 M (none) L0 res := CO_of (by decide +kernel) (Nat.le_of_ble_eq_true rfl) (bX12_turn_b0 a0 x1 x2 oa0 M h)
abbrev xX12_nextOrder : XX := (yX12_nextOrder, cX12_nextOrder, 5, (some .boolean), 1, 23, 0, 0)
theorem ck_X12_nextOrder_511 : CKV xX12_nextOrder 511 xX12_turn 2 := ⟨⟨tb_i 2008 (by decide +kernel) (by decide +kernel), tb_i 152 (by decide +kernel) (by decide +kernel), tb_i 2011 (by decide +kernel) (by decide +kernel), ⟨by decide +kernel, by decide +kernel, by decide +kernel⟩, by decide, by decide⟩, tb_i 2010 (by decide +kernel) (by decide +kernel), tb_i 109 (by decide +kernel) (by decide +kernel)⟩
def sX12_nextOrder_b86 (a0 : Nat)  : Nat → Int → Int → MM → Option (Int × MM)
  | 0, _, _, _ => none
  | n + 1, x3, x4, M => (if wI x4 ≤ wI x3 then (some ((1, M))) else ((sX12_turn a0 x3 x4 M).bind fun q_2 => ((some (x3 + 1)).bind fun v_3 => ((some (x4 + (-1))).bind fun v_4 => (sX12_nextOrder_b86 a0 n v_3 v_4 q_2)))))
def sX12_nextOrder_b47 (a0 : Nat)  : Nat → Int → Int → MM → Option (Int × MM)
  | 0, _, _, _ => none
  | n + 1, x1, x2, M => (if 0 ≤ wI x2 ∧ wI x2 < 8 then (if 0 ≤ wI x1 ∧ wI x1 < 8 then (if wI (M (gR a0 52) (wI x1).toNat) ≤ wI (M (gR a0 52) (wI x2).toNat) then ((sX12_turn a0 x1 x2 M).bind fun q_6 => (sX12_nextOrder_b86 a0 FU (x1 + 1) ((q_6 a0 26) - 1) q_6)) else ((some (x2 + (-1))).bind fun v_7 => (sX12_nextOrder_b47 a0 n x1 v_7 M))) else none) else none)
def sX12_nextOrder_b34 (a0 : Nat)  (x1 : Int) (M : MM) : Option (Int × MM) := (if 0 ≤ wI x1 then (sX12_nextOrder_b47 a0 FU x1 ((M a0 26) - 1) M) else (some ((0, M))))
def sX12_nextOrder_b7 (a0 : Nat)  : Nat → Int → MM → Option (Int × MM)
  | 0, _, _ => none
  | n + 1, x1, M => (if wI x1 < 0 then (sX12_nextOrder_b34 a0 x1 M) else (if 0 ≤ wI x1 ∧ wI x1 < 8 then (if 0 ≤ wI (x1 + 1) ∧ wI (x1 + 1) < 8 then (if wI (M (gR a0 52) (wI x1).toNat) ≤ wI (M (gR a0 52) (wI (x1 + 1)).toNat) then (sX12_nextOrder_b34 a0 x1 M) else ((some (x1 + (-1))).bind fun v_7 => (sX12_nextOrder_b7 a0 n v_7 M))) else none) else none))
def sX12_nextOrder_b0 (a0 : Nat)   (M : MM) : Option (Int × MM) := (sX12_nextOrder_b7 a0 FU ((M a0 26) - 2) M)
def sX12_nextOrder (a0 : Nat) (M : MM) : Option (Int × MM) := sX12_nextOrder_b0 a0 M
set_option maxHeartbeats 4000000 in
set_option maxRecDepth 100000 in
theorem bX12_nextOrder_b86 {G : GG} (a0 : Nat) (oa0 : OB L0 a0 12) {res : (Int × MM)} : ∀ (n : Nat) (x3 : Int) (x4 : Int) (M : MM)  (h : sX12_nextOrder_b86 a0 n x3 x4 M = some res), VV G xX12_nextOrder (ZM G xX12_nextOrder (some (.int (eI res.1))) L0 res.2) L0 M 0 0 86 [(0, .ref (gA G a0)), (3, .int (eI x3)), (4, .int (eI x4))] [] := by
  intro n
  induction n with
  | zero =>
    intro x3 x4 M h
    rw [sX12_nextOrder_b86] at h
    cases h
  | succ n ih =>
    intro x3 x4 M h
    rw [sX12_nextOrder_b86] at h
    refine r_iload_n (pc := 86) (i := 3) dX12_nextOrder_86 rfl 1 rfl ?_
    refine r_iload (pc := 87) dX12_nextOrder_87 2 rfl ?_
    refine r_icmp_ge (pc := 89) (tgt := 108) dX12_nextOrder_89 (by decide) rfl rfl (fun c_1 => ?_) (fun c_1 => ?_)
    · replace h := (if_pos c_1).symm.trans h
      refine r_iconst (pc := 108) (v := 1) dX12_nextOrder_108 (by decide +kernel) ?_
      cases h
      exact r_iret (pc := 109) rfl (zn_ok (Or.inr rfl)).1 (Nat.le_refl 0) (Nat.le_refl 0) dX12_nextOrder_109
    · replace h := (if_neg c_1).symm.trans h
      refine r_aload_n (pc := 92) (i := 0) dX12_nextOrder_92 rfl 0 rfl ?_
      refine r_iload_n (pc := 93) (i := 3) dX12_nextOrder_93 rfl 1 rfl ?_
      refine r_iload (pc := 94) dX12_nextOrder_94 2 rfl ?_
      obtain ⟨q_2, hq_2, h⟩ := ob h
      refine r_cV (pc := 96) (Y := xX12_turn) (As := [.int (eI x3), .int (eI x4)]) (rest := []) (v := none) (st1 := []) ck_X12_nextOrder_511 (kX12_turn a0 x3 x4 M oa0 hq_2) oa0 rfl rfl rfl rfl (Nat.le_of_ble_eq_true rfl) ⟨rfl, rfl⟩ rfl dX12_nextOrder_96 ?_
      obtain ⟨v_3, hv_3, h⟩ := ob h
      refine r_iinc (pc := 99) (y := v_3) (lv' := [(3, .int (eI v_3)), (0, .ref (gA G a0)), (4, .int (eI x4))]) dX12_nextOrder_99 1 rfl (Option.some.inj hv_3) (Nat.le_of_ble_eq_true rfl) rfl ?_
      obtain ⟨v_4, hv_4, h⟩ := ob h
      refine r_iinc (pc := 102) (y := v_4) (lv' := [(4, .int (eI v_4)), (3, .int (eI v_3)), (0, .ref (gA G a0))]) dX12_nextOrder_102 2 rfl (Option.some.inj hv_4) (Nat.le_of_ble_eq_true rfl) rfl ?_
      refine r_goto (pc := 105) (tgt := 86) dX12_nextOrder_105 (by decide) ?_
      refine r_sub (lv' := [(0, .ref (gA G a0)), (3, .int (eI v_3)), (4, .int (eI v_4))]) [2, 1, 0] rfl ?_
      exact ih _ _ _ h
set_option maxHeartbeats 4000000 in
set_option maxRecDepth 100000 in
theorem bX12_nextOrder_b47 {G : GG} (a0 : Nat) (oa0 : OB L0 a0 12) {res : (Int × MM)} : ∀ (n : Nat) (x1 : Int) (x2 : Int) (M : MM)  (h : sX12_nextOrder_b47 a0 n x1 x2 M = some res), VV G xX12_nextOrder (ZM G xX12_nextOrder (some (.int (eI res.1))) L0 res.2) L0 M 0 0 47 [(0, .ref (gA G a0)), (1, .int (eI x1)), (2, .int (eI x2))] [] := by
  intro n
  induction n with
  | zero =>
    intro x1 x2 M h
    rw [sX12_nextOrder_b47] at h
    cases h
  | succ n ih =>
    intro x1 x2 M h
    rw [sX12_nextOrder_b47] at h
    refine r_aload_n (pc := 47) (i := 0) dX12_nextOrder_47 rfl 0 rfl ?_
    have o_1 := (wt_12_52 oa0).2
    refine r_getR (pc := 48) fg_12_78 rfl oa0 (wt_12_52 oa0).1 dX12_nextOrder_48 ?_
    refine r_iload_n (pc := 51) (i := 2) dX12_nextOrder_51 rfl 2 rfl ?_
    obtain ⟨c_2, h⟩ := og h
    refine r_iald (pc := 52) o_1 rfl c_2 rfl dX12_nextOrder_52 ?_
    refine r_aload_n (pc := 53) (i := 0) dX12_nextOrder_53 rfl 0 rfl ?_
    have o_3 := (wt_12_52 oa0).2
    refine r_getR (pc := 54) fg_12_78 rfl oa0 (wt_12_52 oa0).1 dX12_nextOrder_54 ?_
    refine r_iload_n (pc := 57) (i := 1) dX12_nextOrder_57 rfl 1 rfl ?_
    obtain ⟨c_4, h⟩ := og h
    refine r_iald (pc := 58) o_3 rfl c_4 rfl dX12_nextOrder_58 ?_
    refine r_icmp_ge (pc := 59) (tgt := 68) dX12_nextOrder_59 (by decide) rfl rfl (fun c_5 => ?_) (fun c_5 => ?_)
    · replace h := (if_pos c_5).symm.trans h
      refine r_aload_n (pc := 68) (i := 0) dX12_nextOrder_68 rfl 0 rfl ?_
      refine r_iload_n (pc := 69) (i := 1) dX12_nextOrder_69 rfl 1 rfl ?_
      refine r_iload_n (pc := 70) (i := 2) dX12_nextOrder_70 rfl 2 rfl ?_
      obtain ⟨q_6, hq_6, h⟩ := ob h
      refine r_cV (pc := 71) (Y := xX12_turn) (As := [.int (eI x1), .int (eI x2)]) (rest := []) (v := none) (st1 := []) ck_X12_nextOrder_511 (kX12_turn a0 x1 x2 M oa0 hq_6) oa0 rfl rfl rfl rfl (Nat.le_of_ble_eq_true rfl) ⟨rfl, rfl⟩ rfl dX12_nextOrder_71 ?_
      refine r_iload_n (pc := 74) (i := 1) dX12_nextOrder_74 rfl 1 rfl ?_
      refine r_iconst (pc := 75) (v := 1) dX12_nextOrder_75 (by decide +kernel) ?_
      refine r_iadd (pc := 76) dX12_nextOrder_76 ?_
      refine r_istore_n (pc := 77) (i := 3) (lv' := [(3, .int (eI (x1 + 1))), (0, .ref (gA G a0)), (1, .int (eI x1)), (2, .int (eI x2))]) dX12_nextOrder_77 rfl (Nat.le_of_ble_eq_true rfl) rfl ?_
      refine r_aload_n (pc := 78) (i := 0) dX12_nextOrder_78 rfl 1 rfl ?_
      refine r_getI (pc := 79) fg_12_319 rfl oa0 dX12_nextOrder_79 ?_
      refine r_iconst (pc := 82) (v := 1) dX12_nextOrder_82 (by decide +kernel) ?_
      refine r_isub (pc := 83) dX12_nextOrder_83 ?_
      refine r_istore (pc := 84) (lv' := [(4, .int (eI ((q_6 a0 26) - 1))), (3, .int (eI (x1 + 1))), (0, .ref (gA G a0)), (1, .int (eI x1)), (2, .int (eI x2))]) dX12_nextOrder_84 (Nat.le_of_ble_eq_true rfl) rfl ?_
      refine r_sub (lv' := [(0, .ref (gA G a0)), (3, .int (eI (x1 + 1))), (4, .int (eI ((q_6 a0 26) - 1)))]) [2, 1, 0] rfl ?_
      exact bX12_nextOrder_b86 a0 oa0 _ _ _ _ h
    · replace h := (if_neg c_5).symm.trans h
      obtain ⟨v_7, hv_7, h⟩ := ob h
      refine r_iinc (pc := 62) (y := v_7) (lv' := [(2, .int (eI v_7)), (0, .ref (gA G a0)), (1, .int (eI x1))]) dX12_nextOrder_62 2 rfl (Option.some.inj hv_7) (Nat.le_of_ble_eq_true rfl) rfl ?_
      refine r_goto (pc := 65) (tgt := 47) dX12_nextOrder_65 (by decide) ?_
      refine r_sub (lv' := [(0, .ref (gA G a0)), (1, .int (eI x1)), (2, .int (eI v_7))]) [1, 2, 0] rfl ?_
      exact ih _ _ _ h
set_option maxHeartbeats 4000000 in
set_option maxRecDepth 100000 in
theorem bX12_nextOrder_b34 {G : GG} (a0 : Nat) (oa0 : OB L0 a0 12) (x1 : Int) (M : MM) {res : (Int × MM)}  (h : sX12_nextOrder_b34 a0 x1 M = some res) : VV G xX12_nextOrder (ZM G xX12_nextOrder (some (.int (eI res.1))) L0 res.2) L0 M 0 0 34 [(0, .ref (gA G a0)), (1, .int (eI x1))] [] := by
  unfold sX12_nextOrder_b34 at h
  refine r_iload_n (pc := 34) (i := 1) dX12_nextOrder_34 rfl 1 rfl ?_
  refine r_if_ge (pc := 35) (tgt := 40) dX12_nextOrder_35 (by decide) rfl (fun c_1 => ?_) (fun c_1 => ?_)
  · replace h := (if_pos c_1).symm.trans h
    refine r_aload_n (pc := 40) (i := 0) dX12_nextOrder_40 rfl 0 rfl ?_
    refine r_getI (pc := 41) fg_12_319 rfl oa0 dX12_nextOrder_41 ?_
    refine r_iconst (pc := 44) (v := 1) dX12_nextOrder_44 (by decide +kernel) ?_
    refine r_isub (pc := 45) dX12_nextOrder_45 ?_
    refine r_istore_n (pc := 46) (i := 2) (lv' := [(2, .int (eI ((M a0 26) - 1))), (0, .ref (gA G a0)), (1, .int (eI x1))]) dX12_nextOrder_46 rfl (Nat.le_of_ble_eq_true rfl) rfl ?_
    refine r_sub (lv' := [(0, .ref (gA G a0)), (1, .int (eI x1)), (2, .int (eI ((M a0 26) - 1)))]) [1, 2, 0] rfl ?_
    exact bX12_nextOrder_b47 a0 oa0 _ _ _ _ h
  · replace h := (if_neg c_1).symm.trans h
    refine r_iconst (pc := 38) (v := 0) dX12_nextOrder_38 (by decide +kernel) ?_
    cases h
    exact r_iret (pc := 39) rfl (zn_ok (Or.inl rfl)).1 (Nat.le_refl 0) (Nat.le_refl 0) dX12_nextOrder_39
set_option maxHeartbeats 4000000 in
set_option maxRecDepth 100000 in
theorem bX12_nextOrder_b7 {G : GG} (a0 : Nat) (oa0 : OB L0 a0 12) {res : (Int × MM)} : ∀ (n : Nat) (x1 : Int) (M : MM)  (h : sX12_nextOrder_b7 a0 n x1 M = some res), VV G xX12_nextOrder (ZM G xX12_nextOrder (some (.int (eI res.1))) L0 res.2) L0 M 0 0 7 [(0, .ref (gA G a0)), (1, .int (eI x1))] [] := by
  intro n
  induction n with
  | zero =>
    intro x1 M h
    rw [sX12_nextOrder_b7] at h
    cases h
  | succ n ih =>
    intro x1 M h
    rw [sX12_nextOrder_b7] at h
    refine r_iload_n (pc := 7) (i := 1) dX12_nextOrder_7 rfl 1 rfl ?_
    refine r_if_lt (pc := 8) (tgt := 34) dX12_nextOrder_8 (by decide) rfl (fun c_1 => ?_) (fun c_1 => ?_)
    · replace h := (if_pos c_1).symm.trans h
      refine r_sub (lv' := [(0, .ref (gA G a0)), (1, .int (eI x1))]) [0, 1] rfl ?_
      exact bX12_nextOrder_b34 a0 oa0 _ _ h
    · replace h := (if_neg c_1).symm.trans h
      refine r_aload_n (pc := 11) (i := 0) dX12_nextOrder_11 rfl 0 rfl ?_
      have o_2 := (wt_12_52 oa0).2
      refine r_getR (pc := 12) fg_12_78 rfl oa0 (wt_12_52 oa0).1 dX12_nextOrder_12 ?_
      refine r_iload_n (pc := 15) (i := 1) dX12_nextOrder_15 rfl 1 rfl ?_
      obtain ⟨c_3, h⟩ := og h
      refine r_iald (pc := 16) o_2 rfl c_3 rfl dX12_nextOrder_16 ?_
      refine r_aload_n (pc := 17) (i := 0) dX12_nextOrder_17 rfl 0 rfl ?_
      have o_4 := (wt_12_52 oa0).2
      refine r_getR (pc := 18) fg_12_78 rfl oa0 (wt_12_52 oa0).1 dX12_nextOrder_18 ?_
      refine r_iload_n (pc := 21) (i := 1) dX12_nextOrder_21 rfl 1 rfl ?_
      refine r_iconst (pc := 22) (v := 1) dX12_nextOrder_22 (by decide +kernel) ?_
      refine r_iadd (pc := 23) dX12_nextOrder_23 ?_
      obtain ⟨c_5, h⟩ := og h
      refine r_iald (pc := 24) o_4 rfl c_5 rfl dX12_nextOrder_24 ?_
      refine r_icmp_le (pc := 25) (tgt := 34) dX12_nextOrder_25 (by decide) rfl rfl (fun c_6 => ?_) (fun c_6 => ?_)
      · replace h := (if_pos c_6).symm.trans h
        refine r_sub (lv' := [(0, .ref (gA G a0)), (1, .int (eI x1))]) [0, 1] rfl ?_
        exact bX12_nextOrder_b34 a0 oa0 _ _ h
      · replace h := (if_neg c_6).symm.trans h
        obtain ⟨v_7, hv_7, h⟩ := ob h
        refine r_iinc (pc := 28) (y := v_7) (lv' := [(1, .int (eI v_7)), (0, .ref (gA G a0))]) dX12_nextOrder_28 1 rfl (Option.some.inj hv_7) (Nat.le_of_ble_eq_true rfl) rfl ?_
        refine r_goto (pc := 31) (tgt := 7) dX12_nextOrder_31 (by decide) ?_
        refine r_sub (lv' := [(0, .ref (gA G a0)), (1, .int (eI v_7))]) [1, 0] rfl ?_
        exact ih _ _ h
set_option maxHeartbeats 4000000 in
set_option maxRecDepth 100000 in
theorem bX12_nextOrder_b0 {G : GG} (a0 : Nat) (oa0 : OB L0 a0 12)  (M : MM) {res : (Int × MM)}  (h : sX12_nextOrder_b0 a0 M = some res) : VV G xX12_nextOrder (ZM G xX12_nextOrder (some (.int (eI res.1))) L0 res.2) L0 M 0 0 0 [(0, .ref (gA G a0))] [] := by
  unfold sX12_nextOrder_b0 at h
  refine r_aload_n (pc := 0) (i := 0) dX12_nextOrder_0 rfl 0 rfl ?_
  refine r_getI (pc := 1) fg_12_319 rfl oa0 dX12_nextOrder_1 ?_
  refine r_iconst (pc := 4) (v := 2) dX12_nextOrder_4 (by decide +kernel) ?_
  refine r_isub (pc := 5) dX12_nextOrder_5 ?_
  refine r_istore_n (pc := 6) (i := 1) (lv' := [(1, .int (eI ((M a0 26) - 2))), (0, .ref (gA G a0))]) dX12_nextOrder_6 rfl (Nat.le_of_ble_eq_true rfl) rfl ?_
  refine r_sub (lv' := [(0, .ref (gA G a0)), (1, .int (eI ((M a0 26) - 2)))]) [1, 0] rfl ?_
  exact bX12_nextOrder_b7 a0 oa0 _ _ _ h
theorem kX12_nextOrder {G : GG} (a0 : Nat) (M : MM) {res : (Int × MM)} (oa0 : OB L0 a0 12) (h : sX12_nextOrder a0 M = some res) : CO G xX12_nextOrder [.ref (gA G a0)] L0 M (some (.int (eI res.1))) L0 res.2 := CO_of (by decide +kernel) (Nat.le_of_ble_eq_true rfl) (bX12_nextOrder_b0 a0 oa0 M h)
abbrev xX12_orderNow : XX := (yX12_orderNow, cX12_orderNow, 3, (some .int), 0, 0, 0, 0)
def sX12_orderNow_b4 (a0 : Nat) (M : MM)  : Nat → Int → Int → Option Int
  | 0, _, _ => none
  | n + 1, x1, x2 => (if wI (M a0 26) ≤ wI x2 then (some (x1)) else (if 0 ≤ wI x2 ∧ wI x2 < 8 then ((some (oI (x1 * 2 ^ (Int.toNat 3)) (M (gR a0 52) (wI x2).toNat))).bind fun v_4 => ((some (x2 + 1)).bind fun v_5 => (sX12_orderNow_b4 a0 M n v_4 v_5))) else none))
def sX12_orderNow_b0 (a0 : Nat) (M : MM)   : Option Int := (sX12_orderNow_b4 a0 M FU 0 0)
def sX12_orderNow (a0 : Nat) (M : MM) : Option Int := sX12_orderNow_b0 a0 M
set_option maxHeartbeats 4000000 in
set_option maxRecDepth 100000 in
theorem bX12_orderNow_b4 {G : GG} (a0 : Nat) (M : MM) (oa0 : OB L0 a0 12) {res : Int} : ∀ (n : Nat) (x1 : Int) (x2 : Int)  (h : sX12_orderNow_b4 a0 M n x1 x2 = some res), VV G xX12_orderNow (ZM G xX12_orderNow (some (.int (eI res))) L0 M) L0 M 0 0 4 [(0, .ref (gA G a0)), (1, .int (eI x1)), (2, .int (eI x2))] [] := by
  intro n
  induction n with
  | zero =>
    intro x1 x2 h
    rw [sX12_orderNow_b4] at h
    cases h
  | succ n ih =>
    intro x1 x2 h
    rw [sX12_orderNow_b4] at h
    refine r_iload_n (pc := 4) (i := 2) dX12_orderNow_4 rfl 2 rfl ?_
    refine r_aload_n (pc := 5) (i := 0) dX12_orderNow_5 rfl 0 rfl ?_
    refine r_getI (pc := 6) fg_12_319 rfl oa0 dX12_orderNow_6 ?_
    refine r_icmp_ge (pc := 9) (tgt := 29) dX12_orderNow_9 (by decide) rfl rfl (fun c_1 => ?_) (fun c_1 => ?_)
    · replace h := (if_pos c_1).symm.trans h
      refine r_iload_n (pc := 29) (i := 1) dX12_orderNow_29 rfl 1 rfl ?_
      cases h
      exact r_iret (pc := 30) rfl rfl (Nat.le_refl 0) (Nat.le_refl 0) dX12_orderNow_30
    · replace h := (if_neg c_1).symm.trans h
      refine r_iload_n (pc := 12) (i := 1) dX12_orderNow_12 rfl 1 rfl ?_
      refine r_iconst (pc := 13) (v := 3) dX12_orderNow_13 (by decide +kernel) ?_
      refine r_ishl (pc := 14) wl_3 ⟨by decide, by decide⟩ dX12_orderNow_14 ?_
      refine r_aload_n (pc := 15) (i := 0) dX12_orderNow_15 rfl 0 rfl ?_
      have o_2 := (wt_12_52 oa0).2
      refine r_getR (pc := 16) fg_12_78 rfl oa0 (wt_12_52 oa0).1 dX12_orderNow_16 ?_
      refine r_iload_n (pc := 19) (i := 2) dX12_orderNow_19 rfl 2 rfl ?_
      obtain ⟨c_3, h⟩ := og h
      refine r_iald (pc := 20) o_2 rfl c_3 rfl dX12_orderNow_20 ?_
      refine r_ior (pc := 21) dX12_orderNow_21 ?_
      obtain ⟨v_4, hv_4, h⟩ := ob h
      refine r_nmI (pc := 22) hv_4 ?_
      refine r_istore_n (pc := 22) (i := 1) (lv' := [(1, .int (eI v_4)), (0, .ref (gA G a0)), (2, .int (eI x2))]) dX12_orderNow_22 rfl (Nat.le_of_ble_eq_true rfl) rfl ?_
      obtain ⟨v_5, hv_5, h⟩ := ob h
      refine r_iinc (pc := 23) (y := v_5) (lv' := [(2, .int (eI v_5)), (1, .int (eI v_4)), (0, .ref (gA G a0))]) dX12_orderNow_23 2 rfl (Option.some.inj hv_5) (Nat.le_of_ble_eq_true rfl) rfl ?_
      refine r_goto (pc := 26) (tgt := 4) dX12_orderNow_26 (by decide) ?_
      refine r_sub (lv' := [(0, .ref (gA G a0)), (1, .int (eI v_4)), (2, .int (eI v_5))]) [2, 1, 0] rfl ?_
      exact ih _ _ h
set_option maxHeartbeats 4000000 in
set_option maxRecDepth 100000 in
theorem bX12_orderNow_b0 {G : GG} (a0 : Nat) (M : MM) (oa0 : OB L0 a0 12)  {res : Int}  (h : sX12_orderNow_b0 a0 M = some res) : VV G xX12_orderNow (ZM G xX12_orderNow (some (.int (eI res))) L0 M) L0 M 0 0 0 [(0, .ref (gA G a0))] [] := by
  unfold sX12_orderNow_b0 at h
  refine r_iconst (pc := 0) (v := 0) dX12_orderNow_0 (by decide +kernel) ?_
  refine r_istore_n (pc := 1) (i := 1) (lv' := [(1, .int (eI 0)), (0, .ref (gA G a0))]) dX12_orderNow_1 rfl (Nat.le_of_ble_eq_true rfl) rfl ?_
  refine r_iconst (pc := 2) (v := 0) dX12_orderNow_2 (by decide +kernel) ?_
  refine r_istore_n (pc := 3) (i := 2) (lv' := [(2, .int (eI 0)), (1, .int (eI 0)), (0, .ref (gA G a0))]) dX12_orderNow_3 rfl (Nat.le_of_ble_eq_true rfl) rfl ?_
  refine r_sub (lv' := [(0, .ref (gA G a0)), (1, .int (eI 0)), (2, .int (eI 0))]) [2, 1, 0] rfl ?_
  exact bX12_orderNow_b4 a0 M oa0 _ _ _ h
theorem kX12_orderNow {G : GG} (a0 : Nat) (M : MM) {res : Int} (oa0 : OB L0 a0 12) (h : sX12_orderNow a0 M = some res) : CO G xX12_orderNow [.ref (gA G a0)] L0 M (some (.int (eI res))) L0 M := CO_of (by decide +kernel) (Nat.le_of_ble_eq_true rfl) (bX12_orderNow_b0 a0 M oa0 h)
abbrev xX12_uneven : XX := (yX12_uneven, cX12_uneven, 6, (some .long), 0, 0, 0, 0)
def sX12_uneven_b73 (a0 : Nat) (M : MM) (K17 : Int → Int → Int → Option Int) (y1 : Int) (x5 : Int) (y90 : Int) : Option Int := ((some (x5 + 1)).bind fun v_1 => (K17 y1 y90 v_1))
def sX12_uneven_b49 (a0 : Nat) (M : MM) (K17 : Int → Int → Int → Option Int) (y3 : Int) (x5 : Int) (y90 : Int) : Option Int := (if 0 ≤ wI x5 ∧ wI x5 < 8 then (if wJ (M (gR a0 51) (wI x5).toNat) ≤ wJ y3 then (sX12_uneven_b73 a0 M K17 y90 x5 y3) else (if 0 ≤ wI x5 ∧ wI x5 < 8 then (sX12_uneven_b73 a0 M K17 y90 x5 (M (gR a0 51) (wI x5).toNat)) else none)) else none)
def sX12_uneven_b17 (a0 : Nat) (M : MM)  : Nat → Int → Int → Int → Option Int
  | 0, _, _, _ => none
  | n + 1, y1, y3, x5 => (if wI (M a0 26) ≤ wI x5 then (some ((y3 - y1))) else (if 0 ≤ wI x5 ∧ wI x5 < 8 then (if wJ y1 ≤ wJ (M (gR a0 51) (wI x5).toNat) then (sX12_uneven_b49 a0 M (fun y1 y3 x5 => sX12_uneven_b17 a0 M n y1 y3 x5) y3 x5 y1) else (if 0 ≤ wI x5 ∧ wI x5 < 8 then (sX12_uneven_b49 a0 M (fun y1 y3 x5 => sX12_uneven_b17 a0 M n y1 y3 x5) y3 x5 (M (gR a0 51) (wI x5).toNat)) else none)) else none))
def sX12_uneven_b0 (a0 : Nat) (M : MM)   : Option Int := (sX12_uneven_b17 a0 M FU (M (gR a0 51) 0) (M (gR a0 51) 0) 1)
def sX12_uneven (a0 : Nat) (M : MM) : Option Int := sX12_uneven_b0 a0 M
set_option maxHeartbeats 4000000 in
set_option maxRecDepth 100000 in
theorem bX12_uneven_b73 {G : GG} (a0 : Nat) (M : MM) (oa0 : OB L0 a0 12) {K17 : Int → Int → Int → Option Int} (y1 : Int) (x5 : Int) (y90 : Int) {res : Int} (hK17 : ∀ (y1 : Int) (y3 : Int) (x5 : Int), K17 y1 y3 x5 = some res → VV G xX12_uneven (ZM G xX12_uneven (some (.long (eJ res))) L0 M) L0 M 0 0 17 [(0, .ref (gA G a0)), (1, .long (eJ y1)), (3, .long (eJ y3)), (5, .int (eI x5))] [])  (h : sX12_uneven_b73 a0 M K17 y1 x5 y90 = some res) : VV G xX12_uneven (ZM G xX12_uneven (some (.long (eJ res))) L0 M) L0 M 0 0 73 [(0, .ref (gA G a0)), (1, .long (eJ y1)), (5, .int (eI x5))] [.long (eJ y90)] := by
  unfold sX12_uneven_b73 at h
  refine r_lstore_n (pc := 73) (i := 3) (lv' := [(3, .long (eJ y90)), (0, .ref (gA G a0)), (1, .long (eJ y1)), (5, .int (eI x5))]) dX12_uneven_73 rfl (Nat.le_of_ble_eq_true rfl) rfl ?_
  obtain ⟨v_1, hv_1, h⟩ := ob h
  refine r_iinc (pc := 74) (y := v_1) (lv' := [(5, .int (eI v_1)), (3, .long (eJ y90)), (0, .ref (gA G a0)), (1, .long (eJ y1))]) dX12_uneven_74 3 rfl (Option.some.inj hv_1) (Nat.le_of_ble_eq_true rfl) rfl ?_
  refine r_goto (pc := 77) (tgt := 17) dX12_uneven_77 (by decide) ?_
  refine r_sub (lv' := [(0, .ref (gA G a0)), (1, .long (eJ y1)), (3, .long (eJ y90)), (5, .int (eI v_1))]) [2, 3, 1, 0] rfl ?_
  exact hK17 _ _ _ h
set_option maxHeartbeats 4000000 in
set_option maxRecDepth 100000 in
theorem bX12_uneven_b49 {G : GG} (a0 : Nat) (M : MM) (oa0 : OB L0 a0 12) {K17 : Int → Int → Int → Option Int} (y3 : Int) (x5 : Int) (y90 : Int) {res : Int} (hK17 : ∀ (y1 : Int) (y3 : Int) (x5 : Int), K17 y1 y3 x5 = some res → VV G xX12_uneven (ZM G xX12_uneven (some (.long (eJ res))) L0 M) L0 M 0 0 17 [(0, .ref (gA G a0)), (1, .long (eJ y1)), (3, .long (eJ y3)), (5, .int (eI x5))] [])  (h : sX12_uneven_b49 a0 M K17 y3 x5 y90 = some res) : VV G xX12_uneven (ZM G xX12_uneven (some (.long (eJ res))) L0 M) L0 M 0 0 49 [(0, .ref (gA G a0)), (3, .long (eJ y3)), (5, .int (eI x5))] [.long (eJ y90)] := by
  unfold sX12_uneven_b49 at h
  refine r_lstore_n (pc := 49) (i := 1) (lv' := [(1, .long (eJ y90)), (0, .ref (gA G a0)), (3, .long (eJ y3)), (5, .int (eI x5))]) dX12_uneven_49 rfl (Nat.le_of_ble_eq_true rfl) rfl ?_
  refine r_aload_n (pc := 50) (i := 0) dX12_uneven_50 rfl 1 rfl ?_
  have o_1 := (wt_12_51 oa0).2
  refine r_getR (pc := 51) fg_12_75 rfl oa0 (wt_12_51 oa0).1 dX12_uneven_51 ?_
  refine r_iload (pc := 54) dX12_uneven_54 3 rfl ?_
  obtain ⟨c_2, h⟩ := og h
  refine r_lald (pc := 56) o_1 rfl c_2 rfl dX12_uneven_56 ?_
  refine r_lload_n (pc := 57) (i := 3) dX12_uneven_57 rfl 2 rfl ?_
  refine r_lcmp_le (pc := 58) (tgt := 72) dX12_uneven_58 dX12_uneven_59 (by decide) rfl rfl (fun c_3 => ?_) (fun c_3 => ?_)
  · replace h := (if_pos c_3).symm.trans h
    refine r_lload_n (pc := 72) (i := 3) dX12_uneven_72 rfl 2 rfl ?_
    refine r_sub (lv' := [(0, .ref (gA G a0)), (1, .long (eJ y90)), (5, .int (eI x5))]) [1, 0, 3] rfl ?_
    exact bX12_uneven_b73 a0 M oa0 _ _ _ hK17 h
  · replace h := (if_neg c_3).symm.trans h
    refine r_aload_n (pc := 62) (i := 0) dX12_uneven_62 rfl 1 rfl ?_
    have o_4 := (wt_12_51 oa0).2
    refine r_getR (pc := 63) fg_12_75 rfl oa0 (wt_12_51 oa0).1 dX12_uneven_63 ?_
    refine r_iload (pc := 66) dX12_uneven_66 3 rfl ?_
    obtain ⟨c_5, h⟩ := og h
    refine r_lald (pc := 68) o_4 rfl c_5 rfl dX12_uneven_68 ?_
    refine r_goto (pc := 69) (tgt := 73) dX12_uneven_69 (by decide) ?_
    refine r_sub (lv' := [(0, .ref (gA G a0)), (1, .long (eJ y90)), (5, .int (eI x5))]) [1, 0, 3] rfl ?_
    exact bX12_uneven_b73 a0 M oa0 _ _ _ hK17 h
set_option maxHeartbeats 4000000 in
set_option maxRecDepth 100000 in
theorem bX12_uneven_b17 {G : GG} (a0 : Nat) (M : MM) (oa0 : OB L0 a0 12) {res : Int} : ∀ (n : Nat) (y1 : Int) (y3 : Int) (x5 : Int)  (h : sX12_uneven_b17 a0 M n y1 y3 x5 = some res), VV G xX12_uneven (ZM G xX12_uneven (some (.long (eJ res))) L0 M) L0 M 0 0 17 [(0, .ref (gA G a0)), (1, .long (eJ y1)), (3, .long (eJ y3)), (5, .int (eI x5))] [] := by
  intro n
  induction n with
  | zero =>
    intro y1 y3 x5 h
    rw [sX12_uneven_b17] at h
    cases h
  | succ n ih =>
    intro y1 y3 x5 h
    rw [sX12_uneven_b17] at h
    refine r_iload (pc := 17) dX12_uneven_17 3 rfl ?_
    refine r_aload_n (pc := 19) (i := 0) dX12_uneven_19 rfl 0 rfl ?_
    refine r_getI (pc := 20) fg_12_319 rfl oa0 dX12_uneven_20 ?_
    refine r_icmp_ge (pc := 23) (tgt := 80) dX12_uneven_23 (by decide) rfl rfl (fun c_1 => ?_) (fun c_1 => ?_)
    · replace h := (if_pos c_1).symm.trans h
      refine r_lload_n (pc := 80) (i := 3) dX12_uneven_80 rfl 2 rfl ?_
      refine r_lload_n (pc := 81) (i := 1) dX12_uneven_81 rfl 1 rfl ?_
      refine r_lsub (pc := 82) dX12_uneven_82 ?_
      cases h
      exact r_lret (pc := 83) rfl (Nat.le_refl 0) (Nat.le_refl 0) dX12_uneven_83
    · replace h := (if_neg c_1).symm.trans h
      refine r_aload_n (pc := 26) (i := 0) dX12_uneven_26 rfl 0 rfl ?_
      have o_2 := (wt_12_51 oa0).2
      refine r_getR (pc := 27) fg_12_75 rfl oa0 (wt_12_51 oa0).1 dX12_uneven_27 ?_
      refine r_iload (pc := 30) dX12_uneven_30 3 rfl ?_
      obtain ⟨c_3, h⟩ := og h
      refine r_lald (pc := 32) o_2 rfl c_3 rfl dX12_uneven_32 ?_
      refine r_lload_n (pc := 33) (i := 1) dX12_uneven_33 rfl 1 rfl ?_
      refine r_lcmp_ge (pc := 34) (tgt := 48) dX12_uneven_34 dX12_uneven_35 (by decide) rfl rfl (fun c_4 => ?_) (fun c_4 => ?_)
      · replace h := (if_pos c_4).symm.trans h
        refine r_lload_n (pc := 48) (i := 1) dX12_uneven_48 rfl 1 rfl ?_
        refine r_sub (lv' := [(0, .ref (gA G a0)), (3, .long (eJ y3)), (5, .int (eI x5))]) [0, 2, 3] rfl ?_
        exact bX12_uneven_b49 a0 M oa0 _ _ _ (fun v0 v1 v2 v3 => ih v0 v1 v2 v3) h
      · replace h := (if_neg c_4).symm.trans h
        refine r_aload_n (pc := 38) (i := 0) dX12_uneven_38 rfl 0 rfl ?_
        have o_5 := (wt_12_51 oa0).2
        refine r_getR (pc := 39) fg_12_75 rfl oa0 (wt_12_51 oa0).1 dX12_uneven_39 ?_
        refine r_iload (pc := 42) dX12_uneven_42 3 rfl ?_
        obtain ⟨c_6, h⟩ := og h
        refine r_lald (pc := 44) o_5 rfl c_6 rfl dX12_uneven_44 ?_
        refine r_goto (pc := 45) (tgt := 49) dX12_uneven_45 (by decide) ?_
        refine r_sub (lv' := [(0, .ref (gA G a0)), (3, .long (eJ y3)), (5, .int (eI x5))]) [0, 2, 3] rfl ?_
        exact bX12_uneven_b49 a0 M oa0 _ _ _ (fun v0 v1 v2 v3 => ih v0 v1 v2 v3) h
set_option maxHeartbeats 4000000 in
set_option maxRecDepth 100000 in
theorem bX12_uneven_b0 {G : GG} (a0 : Nat) (M : MM) (oa0 : OB L0 a0 12)  {res : Int}  (h : sX12_uneven_b0 a0 M = some res) : VV G xX12_uneven (ZM G xX12_uneven (some (.long (eJ res))) L0 M) L0 M 0 0 0 [(0, .ref (gA G a0))] [] := by
  unfold sX12_uneven_b0 at h
  refine r_aload_n (pc := 0) (i := 0) dX12_uneven_0 rfl 0 rfl ?_
  have o_1 := (wt_12_51 oa0).2
  refine r_getR (pc := 1) fg_12_75 rfl oa0 (wt_12_51 oa0).1 dX12_uneven_1 ?_
  refine r_iconst (pc := 4) (v := 0) dX12_uneven_4 (by decide +kernel) ?_
  refine r_lald (pc := 5) o_1 wl_0 ⟨by decide, by decide⟩ rfl dX12_uneven_5 ?_
  refine r_lstore_n (pc := 6) (i := 1) (lv' := [(1, .long (eJ (M (gR a0 51) 0))), (0, .ref (gA G a0))]) dX12_uneven_6 rfl (Nat.le_of_ble_eq_true rfl) rfl ?_
  refine r_aload_n (pc := 7) (i := 0) dX12_uneven_7 rfl 1 rfl ?_
  have o_2 := (wt_12_51 oa0).2
  refine r_getR (pc := 8) fg_12_75 rfl oa0 (wt_12_51 oa0).1 dX12_uneven_8 ?_
  refine r_iconst (pc := 11) (v := 0) dX12_uneven_11 (by decide +kernel) ?_
  refine r_lald (pc := 12) o_2 wl_0 ⟨by decide, by decide⟩ rfl dX12_uneven_12 ?_
  refine r_lstore_n (pc := 13) (i := 3) (lv' := [(3, .long (eJ (M (gR a0 51) 0))), (1, .long (eJ (M (gR a0 51) 0))), (0, .ref (gA G a0))]) dX12_uneven_13 rfl (Nat.le_of_ble_eq_true rfl) rfl ?_
  refine r_iconst (pc := 14) (v := 1) dX12_uneven_14 (by decide +kernel) ?_
  refine r_istore (pc := 15) (lv' := [(5, .int (eI 1)), (3, .long (eJ (M (gR a0 51) 0))), (1, .long (eJ (M (gR a0 51) 0))), (0, .ref (gA G a0))]) dX12_uneven_15 (Nat.le_of_ble_eq_true rfl) rfl ?_
  refine r_sub (lv' := [(0, .ref (gA G a0)), (1, .long (eJ (M (gR a0 51) 0))), (3, .long (eJ (M (gR a0 51) 0))), (5, .int (eI 1))]) [3, 2, 1, 0] rfl ?_
  exact bX12_uneven_b17 a0 M oa0 _ _ _ _ h
theorem kX12_uneven {G : GG} (a0 : Nat) (M : MM) {res : Int} (oa0 : OB L0 a0 12) (h : sX12_uneven a0 M = some res) : CO G xX12_uneven [.ref (gA G a0)] L0 M (some (.long (eJ res))) L0 M := CO_of (by decide +kernel) (Nat.le_of_ble_eq_true rfl) (bX12_uneven_b0 a0 M oa0 h)
abbrev xX12_fair : XX := (yX12_fair, cX12_fair, 6, (some .int), 4, 101, 0, 0)
theorem ck_X12_fair_328 : CKV xX12_fair 328 xX12_hand 1 := ⟨⟨tb_i 1780 (by decide +kernel) (by decide +kernel), tb_i 152 (by decide +kernel) (by decide +kernel), tb_i 1783 (by decide +kernel) (by decide +kernel), ⟨by decide +kernel, by decide +kernel, by decide +kernel⟩, by decide, by decide⟩, tb_i 1782 (by decide +kernel) (by decide +kernel), tb_i 72 (by decide +kernel) (by decide +kernel)⟩
theorem ck_X12_fair_464 : CKV xX12_fair 464 xX12_plain 0 := ⟨⟨tb_i 1952 (by decide +kernel) (by decide +kernel), tb_i 152 (by decide +kernel) (by decide +kernel), tb_i 1955 (by decide +kernel) (by decide +kernel), ⟨by decide +kernel, by decide +kernel, by decide +kernel⟩, by decide, by decide⟩, tb_i 1954 (by decide +kernel) (by decide +kernel), tb_i 99 (by decide +kernel) (by decide +kernel)⟩
theorem ck_X12_fair_492 : CKV xX12_fair 492 xX12_canTell 0 := ⟨⟨tb_i 1944 (by decide +kernel) (by decide +kernel), tb_i 152 (by decide +kernel) (by decide +kernel), tb_i 1947 (by decide +kernel) (by decide +kernel), ⟨by decide +kernel, by decide +kernel, by decide +kernel⟩, by decide, by decide⟩, tb_i 1946 (by decide +kernel) (by decide +kernel), tb_i 97 (by decide +kernel) (by decide +kernel)⟩
theorem ck_X12_fair_498 : CKV xX12_fair 498 xX12_findChances 1 := ⟨⟨tb_i 1956 (by decide +kernel) (by decide +kernel), tb_i 152 (by decide +kernel) (by decide +kernel), tb_i 1959 (by decide +kernel) (by decide +kernel), ⟨by decide +kernel, by decide +kernel, by decide +kernel⟩, by decide, by decide⟩, tb_i 1958 (by decide +kernel) (by decide +kernel), tb_i 100 (by decide +kernel) (by decide +kernel)⟩
theorem ck_X12_fair_514 : CKV xX12_fair 514 xX12_uneven 0 := ⟨⟨tb_i 1996 (by decide +kernel) (by decide +kernel), tb_i 152 (by decide +kernel) (by decide +kernel), tb_i 1999 (by decide +kernel) (by decide +kernel), ⟨by decide +kernel, by decide +kernel, by decide +kernel⟩, by decide, by decide⟩, tb_i 1998 (by decide +kernel) (by decide +kernel), tb_i 106 (by decide +kernel) (by decide +kernel)⟩
theorem ck_X12_fair_518 : CKV xX12_fair 518 xX12_orderNow 0 := ⟨⟨tb_i 2000 (by decide +kernel) (by decide +kernel), tb_i 152 (by decide +kernel) (by decide +kernel), tb_i 2003 (by decide +kernel) (by decide +kernel), ⟨by decide +kernel, by decide +kernel, by decide +kernel⟩, by decide, by decide⟩, tb_i 2002 (by decide +kernel) (by decide +kernel), tb_i 107 (by decide +kernel) (by decide +kernel)⟩
theorem ck_X12_fair_521 : CKV xX12_fair 521 xX12_nextOrder 0 := ⟨⟨tb_i 2004 (by decide +kernel) (by decide +kernel), tb_i 152 (by decide +kernel) (by decide +kernel), tb_i 2007 (by decide +kernel) (by decide +kernel), ⟨by decide +kernel, by decide +kernel, by decide +kernel⟩, by decide, by decide⟩, tb_i 2006 (by decide +kernel) (by decide +kernel), tb_i 108 (by decide +kernel) (by decide +kernel)⟩
def sX12_fair_b75 (a0 : Nat) (x1 : Int) (K41 : Int → Int → Int → MM → Option (Int × MM)) (x2 : Int) (y3 : Int) (M : MM) : Option (Int × MM) := ((sX12_nextOrder a0 M).bind fun q_1 => (K41 x2 y3 (q_1.1) q_1.2))
def sX12_fair_b65 (a0 : Nat) (x1 : Int) (K41 : Int → Int → Int → MM → Option (Int × MM))  (M : MM) : Option (Int × MM) := ((sX12_orderNow a0 M).bind fun q_1 => ((sX12_uneven a0 M).bind fun q_2 => (sX12_fair_b75 a0 x1 K41 q_1 q_2 M)))
def sX12_fair_b41 (a0 : Nat) (x1 : Int)  : Nat → Int → Int → Int → MM → Option (Int × MM)
  | 0, _, _, _, _ => none
  | n + 1, x2, y3, x5, M => (if wI x5 = 0 then (some ((x2, M))) else ((sX12_findChances a0 1 M).bind fun q_2 => (if wI x2 = (-1) then (sX12_fair_b65 a0 x1 (fun x2 y3 x5 M => sX12_fair_b41 a0 x1 n x2 y3 x5 M) q_2) else ((sX12_uneven a0 q_2).bind fun q_4 => (if wJ y3 ≤ wJ q_4 then (sX12_fair_b75 a0 x1 (fun x2 y3 x5 M => sX12_fair_b41 a0 x1 n x2 y3 x5 M) x2 y3 q_2) else (sX12_fair_b65 a0 x1 (fun x2 y3 x5 M => sX12_fair_b41 a0 x1 n x2 y3 x5 M) q_2))))))
def sX12_fair_b0 (a0 : Nat) (x1 : Int)   (M : MM) : Option (Int × MM) := ((some (mU M a0 0 0)).bind fun M_1 => ((sX12_hand a0 x1 M_1).bind fun q_2 => (if wI (q_2.1) = 0 then (some (((-1), q_2.2))) else (if 5 < wI (q_2.2 a0 26) then (some (((-1), q_2.2))) else (if wI (sX12_canTell a0 q_2.2) = 0 then (some (((-1), q_2.2))) else ((sX12_plain a0 q_2.2).bind fun q_6 => (sX12_fair_b41 a0 x1 FU (-1) 0 1 q_6)))))))
def sX12_fair (a0 : Nat) (x1 : Int) (M : MM) : Option (Int × MM) := sX12_fair_b0 a0 x1 M
set_option maxHeartbeats 4000000 in
set_option maxRecDepth 100000 in
theorem bX12_fair_b75 {G : GG} (a0 : Nat) (x1 : Int) (oa0 : OB L0 a0 12) {K41 : Int → Int → Int → MM → Option (Int × MM)} (x2 : Int) (y3 : Int) (M : MM) {res : (Int × MM)} (hK41 : ∀ (x2 : Int) (y3 : Int) (x5 : Int) (M : MM), K41 x2 y3 x5 M = some res → VV G xX12_fair (ZM G xX12_fair (some (.int (eI res.1))) L0 res.2) L0 M 0 0 41 [(0, .ref (gA G a0)), (2, .int (eI x2)), (3, .long (eJ y3)), (5, .int (eI x5))] [])  (h : sX12_fair_b75 a0 x1 K41 x2 y3 M = some res) : VV G xX12_fair (ZM G xX12_fair (some (.int (eI res.1))) L0 res.2) L0 M 0 0 75 [(0, .ref (gA G a0)), (2, .int (eI x2)), (3, .long (eJ y3))] [] := by
  unfold sX12_fair_b75 at h
  refine r_aload_n (pc := 75) (i := 0) dX12_fair_75 rfl 0 rfl ?_
  obtain ⟨q_1, hq_1, h⟩ := ob h
  refine r_cV (pc := 76) (Y := xX12_nextOrder) (As := []) (rest := []) (v := (some (.int (eI (q_1.1))))) (st1 := [.int (eI (q_1.1))]) ck_X12_fair_521 (kX12_nextOrder a0 M oa0 hq_1) oa0 rfl rfl rfl rfl (Nat.le_of_ble_eq_true rfl) ⟨rfl, rfl⟩ rfl dX12_fair_76 ?_
  refine r_istore (pc := 79) (lv' := [(5, .int (eI (q_1.1))), (0, .ref (gA G a0)), (2, .int (eI x2)), (3, .long (eJ y3))]) dX12_fair_79 (Nat.le_of_ble_eq_true rfl) rfl ?_
  refine r_goto (pc := 81) (tgt := 41) dX12_fair_81 (by decide) ?_
  refine r_sub (lv' := [(0, .ref (gA G a0)), (2, .int (eI x2)), (3, .long (eJ y3)), (5, .int (eI (q_1.1)))]) [1, 2, 3, 0] rfl ?_
  exact hK41 _ _ _ _ h
set_option maxHeartbeats 4000000 in
set_option maxRecDepth 100000 in
theorem bX12_fair_b65 {G : GG} (a0 : Nat) (x1 : Int) (oa0 : OB L0 a0 12) {K41 : Int → Int → Int → MM → Option (Int × MM)}  (M : MM) {res : (Int × MM)} (hK41 : ∀ (x2 : Int) (y3 : Int) (x5 : Int) (M : MM), K41 x2 y3 x5 M = some res → VV G xX12_fair (ZM G xX12_fair (some (.int (eI res.1))) L0 res.2) L0 M 0 0 41 [(0, .ref (gA G a0)), (2, .int (eI x2)), (3, .long (eJ y3)), (5, .int (eI x5))] [])  (h : sX12_fair_b65 a0 x1 K41 M = some res) : VV G xX12_fair (ZM G xX12_fair (some (.int (eI res.1))) L0 res.2) L0 M 0 0 65 [(0, .ref (gA G a0))] [] := by
  unfold sX12_fair_b65 at h
  refine r_aload_n (pc := 65) (i := 0) dX12_fair_65 rfl 0 rfl ?_
  obtain ⟨q_1, hq_1, h⟩ := ob h
  refine r_cV (pc := 66) (Y := xX12_orderNow) (As := []) (rest := []) (v := (some (.int (eI q_1)))) (st1 := [.int (eI q_1)]) ck_X12_fair_518 (kX12_orderNow a0 M oa0 hq_1) oa0 rfl rfl rfl rfl (Nat.le_of_ble_eq_true rfl) ⟨rfl, rfl⟩ rfl dX12_fair_66 ?_
  refine r_istore_n (pc := 69) (i := 2) (lv' := [(2, .int (eI q_1)), (0, .ref (gA G a0))]) dX12_fair_69 rfl (Nat.le_of_ble_eq_true rfl) rfl ?_
  refine r_aload_n (pc := 70) (i := 0) dX12_fair_70 rfl 1 rfl ?_
  obtain ⟨q_2, hq_2, h⟩ := ob h
  refine r_cV (pc := 71) (Y := xX12_uneven) (As := []) (rest := []) (v := (some (.long (eJ q_2)))) (st1 := [.long (eJ q_2)]) ck_X12_fair_514 (kX12_uneven a0 M oa0 hq_2) oa0 rfl rfl rfl rfl (Nat.le_of_ble_eq_true rfl) ⟨rfl, rfl⟩ rfl dX12_fair_71 ?_
  refine r_lstore_n (pc := 74) (i := 3) (lv' := [(3, .long (eJ q_2)), (2, .int (eI q_1)), (0, .ref (gA G a0))]) dX12_fair_74 rfl (Nat.le_of_ble_eq_true rfl) rfl ?_
  refine r_sub (lv' := [(0, .ref (gA G a0)), (2, .int (eI q_1)), (3, .long (eJ q_2))]) [2, 1, 0] rfl ?_
  exact bX12_fair_b75 a0 x1 oa0 _ _ _ hK41 h
set_option maxHeartbeats 4000000 in
set_option maxRecDepth 100000 in
theorem bX12_fair_b41 {G : GG} (a0 : Nat) (x1 : Int) (oa0 : OB L0 a0 12) {res : (Int × MM)} : ∀ (n : Nat) (x2 : Int) (y3 : Int) (x5 : Int) (M : MM)  (h : sX12_fair_b41 a0 x1 n x2 y3 x5 M = some res), VV G xX12_fair (ZM G xX12_fair (some (.int (eI res.1))) L0 res.2) L0 M 0 0 41 [(0, .ref (gA G a0)), (2, .int (eI x2)), (3, .long (eJ y3)), (5, .int (eI x5))] [] := by
  intro n
  induction n with
  | zero =>
    intro x2 y3 x5 M h
    rw [sX12_fair_b41] at h
    cases h
  | succ n ih =>
    intro x2 y3 x5 M h
    rw [sX12_fair_b41] at h
    refine r_iload (pc := 41) dX12_fair_41 3 rfl ?_
    refine r_if_eq (pc := 43) (tgt := 84) dX12_fair_43 (by decide) rfl (fun c_1 => ?_) (fun c_1 => ?_)
    · replace h := (if_pos c_1).symm.trans h
      refine r_iload_n (pc := 84) (i := 2) dX12_fair_84 rfl 1 rfl ?_
      cases h
      exact r_iret (pc := 85) rfl rfl (Nat.le_refl 0) (Nat.le_refl 0) dX12_fair_85
    · replace h := (if_neg c_1).symm.trans h
      refine r_aload_n (pc := 46) (i := 0) dX12_fair_46 rfl 0 rfl ?_
      refine r_iconst (pc := 47) (v := 1) dX12_fair_47 (by decide +kernel) ?_
      obtain ⟨q_2, hq_2, h⟩ := ob h
      refine r_cV (pc := 48) (Y := xX12_findChances) (As := [.int (eI 1)]) (rest := []) (v := none) (st1 := []) ck_X12_fair_498 (kX12_findChances a0 1 M oa0 hq_2) oa0 rfl rfl rfl rfl (Nat.le_of_ble_eq_true rfl) ⟨rfl, rfl⟩ rfl dX12_fair_48 ?_
      refine r_iload_n (pc := 51) (i := 2) dX12_fair_51 rfl 1 rfl ?_
      refine r_iconst (pc := 52) (v := (-1)) dX12_fair_52 (by decide +kernel) ?_
      refine r_icmp_eq (pc := 53) (tgt := 65) dX12_fair_53 (by decide) rfl wl_m1 (fun c_3 => ?_) (fun c_3 => ?_)
      · replace h := (if_pos c_3).symm.trans h
        refine r_sub (lv' := [(0, .ref (gA G a0))]) [0] rfl ?_
        exact bX12_fair_b65 a0 x1 oa0 _ (fun v0 v1 v2 v3 v4 => ih v0 v1 v2 v3 v4) h
      · replace h := (if_neg c_3).symm.trans h
        refine r_aload_n (pc := 56) (i := 0) dX12_fair_56 rfl 0 rfl ?_
        obtain ⟨q_4, hq_4, h⟩ := ob h
        refine r_cV (pc := 57) (Y := xX12_uneven) (As := []) (rest := []) (v := (some (.long (eJ q_4)))) (st1 := [.long (eJ q_4)]) ck_X12_fair_514 (kX12_uneven a0 q_2 oa0 hq_4) oa0 rfl rfl rfl rfl (Nat.le_of_ble_eq_true rfl) ⟨rfl, rfl⟩ rfl dX12_fair_57 ?_
        refine r_lload_n (pc := 60) (i := 3) dX12_fair_60 rfl 2 rfl ?_
        refine r_lcmp_ge (pc := 61) (tgt := 75) dX12_fair_61 dX12_fair_62 (by decide) rfl rfl (fun c_5 => ?_) (fun c_5 => ?_)
        · replace h := (if_pos c_5).symm.trans h
          refine r_sub (lv' := [(0, .ref (gA G a0)), (2, .int (eI x2)), (3, .long (eJ y3))]) [0, 1, 2] rfl ?_
          exact bX12_fair_b75 a0 x1 oa0 _ _ _ (fun v0 v1 v2 v3 v4 => ih v0 v1 v2 v3 v4) h
        · replace h := (if_neg c_5).symm.trans h
          refine r_sub (lv' := [(0, .ref (gA G a0))]) [0] rfl ?_
          exact bX12_fair_b65 a0 x1 oa0 _ (fun v0 v1 v2 v3 v4 => ih v0 v1 v2 v3 v4) h
set_option maxHeartbeats 4000000 in
set_option maxRecDepth 100000 in
theorem bX12_fair_b0 {G : GG} (a0 : Nat) (x1 : Int) (oa0 : OB L0 a0 12)  (M : MM) {res : (Int × MM)}  (h : sX12_fair_b0 a0 x1 M = some res) : VV G xX12_fair (ZM G xX12_fair (some (.int (eI res.1))) L0 res.2) L0 M 0 0 0 [(0, .ref (gA G a0)), (1, .int (eI x1))] [] := by
  unfold sX12_fair_b0 at h
  refine r_aload_n (pc := 0) (i := 0) dX12_fair_0 rfl 0 rfl ?_
  refine r_iconst (pc := 1) (v := 0) dX12_fair_1 (by decide +kernel) ?_
  obtain ⟨M_1, hM_1, h⟩ := ob h
  refine r_putI (pc := 2) fg_12_97 rfl oa0 hM_1 rfl rfl dX12_fair_2 ?_
  refine r_aload_n (pc := 5) (i := 0) dX12_fair_5 rfl 0 rfl ?_
  refine r_iload_n (pc := 6) (i := 1) dX12_fair_6 rfl 1 rfl ?_
  obtain ⟨q_2, hq_2, h⟩ := ob h
  refine r_cV (pc := 7) (Y := xX12_hand) (As := [.int (eI x1)]) (rest := []) (v := (some (.int (eI (q_2.1))))) (st1 := [.int (eI (q_2.1))]) ck_X12_fair_328 (kX12_hand a0 x1 M_1 oa0 hq_2) oa0 rfl rfl rfl rfl (Nat.le_of_ble_eq_true rfl) ⟨rfl, rfl⟩ rfl dX12_fair_7 ?_
  refine r_if_eq (pc := 10) (tgt := 28) dX12_fair_10 (by decide) rfl (fun c_3 => ?_) (fun c_3 => ?_)
  · replace h := (if_pos c_3).symm.trans h
    refine r_iconst (pc := 28) (v := (-1)) dX12_fair_28 (by decide +kernel) ?_
    cases h
    exact r_iret (pc := 29) rfl rfl (Nat.le_refl 0) (Nat.le_refl 0) dX12_fair_29
  · replace h := (if_neg c_3).symm.trans h
    refine r_aload_n (pc := 13) (i := 0) dX12_fair_13 rfl 0 rfl ?_
    refine r_getI (pc := 14) fg_12_319 rfl oa0 dX12_fair_14 ?_
    refine r_iconst (pc := 17) (v := 5) dX12_fair_17 (by decide +kernel) ?_
    refine r_icmp_gt (pc := 18) (tgt := 28) dX12_fair_18 (by decide) rfl wl_5 (fun c_4 => ?_) (fun c_4 => ?_)
    · replace h := (if_pos c_4).symm.trans h
      refine r_iconst (pc := 28) (v := (-1)) dX12_fair_28 (by decide +kernel) ?_
      cases h
      exact r_iret (pc := 29) rfl rfl (Nat.le_refl 0) (Nat.le_refl 0) dX12_fair_29
    · replace h := (if_neg c_4).symm.trans h
      refine r_aload_n (pc := 21) (i := 0) dX12_fair_21 rfl 0 rfl ?_
      refine r_cV (pc := 22) (Y := xX12_canTell) (As := []) (rest := []) (v := (some (.int (eI (sX12_canTell a0 q_2.2))))) (st1 := [.int (eI (sX12_canTell a0 q_2.2))]) ck_X12_fair_492 (kX12_canTell a0 q_2.2 oa0) oa0 rfl rfl rfl rfl (Nat.le_of_ble_eq_true rfl) ⟨rfl, rfl⟩ rfl dX12_fair_22 ?_
      refine r_if_ne (pc := 25) (tgt := 30) dX12_fair_25 (by decide) rfl (fun c_5 => ?_) (fun c_5 => ?_)
      · replace h := (if_neg c_5).symm.trans h
        refine r_aload_n (pc := 30) (i := 0) dX12_fair_30 rfl 0 rfl ?_
        obtain ⟨q_6, hq_6, h⟩ := ob h
        refine r_cV (pc := 31) (Y := xX12_plain) (As := []) (rest := []) (v := none) (st1 := []) ck_X12_fair_464 (kX12_plain a0 q_2.2 oa0 hq_6) oa0 rfl rfl rfl rfl (Nat.le_of_ble_eq_true rfl) ⟨rfl, rfl⟩ rfl dX12_fair_31 ?_
        refine r_iconst (pc := 34) (v := (-1)) dX12_fair_34 (by decide +kernel) ?_
        refine r_istore_n (pc := 35) (i := 2) (lv' := [(2, .int (eI (-1))), (0, .ref (gA G a0)), (1, .int (eI x1))]) dX12_fair_35 rfl (Nat.le_of_ble_eq_true rfl) rfl ?_
        refine r_lconst (pc := 36) (v := 0) dX12_fair_36 (by decide +kernel) ?_
        refine r_lstore_n (pc := 37) (i := 3) (lv' := [(3, .long (eJ 0)), (2, .int (eI (-1))), (0, .ref (gA G a0)), (1, .int (eI x1))]) dX12_fair_37 rfl (Nat.le_of_ble_eq_true rfl) rfl ?_
        refine r_iconst (pc := 38) (v := 1) dX12_fair_38 (by decide +kernel) ?_
        refine r_istore (pc := 39) (lv' := [(5, .int (eI 1)), (3, .long (eJ 0)), (2, .int (eI (-1))), (0, .ref (gA G a0)), (1, .int (eI x1))]) dX12_fair_39 (Nat.le_of_ble_eq_true rfl) rfl ?_
        refine r_sub (lv' := [(0, .ref (gA G a0)), (2, .int (eI (-1))), (3, .long (eJ 0)), (5, .int (eI 1))]) [3, 2, 1, 0] rfl ?_
        exact bX12_fair_b41 a0 x1 oa0 _ _ _ _ _ h
      · replace h := (if_pos c_5).symm.trans h
        refine r_iconst (pc := 28) (v := (-1)) dX12_fair_28 (by decide +kernel) ?_
        cases h
        exact r_iret (pc := 29) rfl rfl (Nat.le_refl 0) (Nat.le_refl 0) dX12_fair_29
theorem kX12_fair {G : GG} (a0 : Nat) (x1 : Int) (M : MM) {res : (Int × MM)} (oa0 : OB L0 a0 12) (h : sX12_fair a0 x1 M = some res) : CO G xX12_fair [.ref (gA G a0), .int (eI x1)] L0 M (some (.int (eI res.1))) L0 res.2 := CO_of (by decide +kernel) (Nat.le_of_ble_eq_true rfl) (bX12_fair_b0 a0 x1 oa0 M h)
abbrev xX12_thick : XX := (yX12_thick, cX12_thick, 6, (some .int), 4, 101, 0, 0)
theorem ck_X12_thick_328 : CKV xX12_thick 328 xX12_hand 1 := ⟨⟨tb_i 1780 (by decide +kernel) (by decide +kernel), tb_i 152 (by decide +kernel) (by decide +kernel), tb_i 1783 (by decide +kernel) (by decide +kernel), ⟨by decide +kernel, by decide +kernel, by decide +kernel⟩, by decide, by decide⟩, tb_i 1782 (by decide +kernel) (by decide +kernel), tb_i 72 (by decide +kernel) (by decide +kernel)⟩
theorem ck_X12_thick_464 : CKV xX12_thick 464 xX12_plain 0 := ⟨⟨tb_i 1952 (by decide +kernel) (by decide +kernel), tb_i 152 (by decide +kernel) (by decide +kernel), tb_i 1955 (by decide +kernel) (by decide +kernel), ⟨by decide +kernel, by decide +kernel, by decide +kernel⟩, by decide, by decide⟩, tb_i 1954 (by decide +kernel) (by decide +kernel), tb_i 99 (by decide +kernel) (by decide +kernel)⟩
theorem ck_X12_thick_492 : CKV xX12_thick 492 xX12_canTell 0 := ⟨⟨tb_i 1944 (by decide +kernel) (by decide +kernel), tb_i 152 (by decide +kernel) (by decide +kernel), tb_i 1947 (by decide +kernel) (by decide +kernel), ⟨by decide +kernel, by decide +kernel, by decide +kernel⟩, by decide, by decide⟩, tb_i 1946 (by decide +kernel) (by decide +kernel), tb_i 97 (by decide +kernel) (by decide +kernel)⟩
theorem ck_X12_thick_498 : CKV xX12_thick 498 xX12_findChances 1 := ⟨⟨tb_i 1956 (by decide +kernel) (by decide +kernel), tb_i 152 (by decide +kernel) (by decide +kernel), tb_i 1959 (by decide +kernel) (by decide +kernel), ⟨by decide +kernel, by decide +kernel, by decide +kernel⟩, by decide, by decide⟩, tb_i 1958 (by decide +kernel) (by decide +kernel), tb_i 100 (by decide +kernel) (by decide +kernel)⟩
def sX12_thick_b81 (a0 : Nat) (x1 : Int) (K35 : Int → Int → Int → MM → Option (Int × MM)) (x2 : Int) (x5 : Int) (y90 : Int) (M : MM) : Option (Int × MM) := ((some (x5 + 1)).bind fun v_1 => (K35 x2 y90 v_1 M))
def sX12_thick_b63 (a0 : Nat) (x1 : Int) (K35 : Int → Int → Int → MM → Option (Int × MM)) (y3 : Int) (x5 : Int) (x90 : Int) (M : MM) : Option (Int × MM) := (if wJ (M a0 55) ≤ wJ y3 then (sX12_thick_b81 a0 x1 K35 x90 x5 y3 M) else (sX12_thick_b81 a0 x1 K35 x90 x5 (M a0 55) M))
def sX12_thick_b35 (a0 : Nat) (x1 : Int)  : Nat → Int → Int → Int → MM → Option (Int × MM)
  | 0, _, _, _, _ => none
  | n + 1, x2, y3, x5, M => (if 9 < wI x5 then (some ((x2, M))) else ((sX12_findChances a0 x5 M).bind fun q_2 => (if wJ (q_2 a0 55) ≤ wJ y3 then (sX12_thick_b63 a0 x1 (fun x2 y3 x5 M => sX12_thick_b35 a0 x1 n x2 y3 x5 M) y3 x5 x2 q_2) else (sX12_thick_b63 a0 x1 (fun x2 y3 x5 M => sX12_thick_b35 a0 x1 n x2 y3 x5 M) y3 x5 x5 q_2))))
def sX12_thick_b0 (a0 : Nat) (x1 : Int)   (M : MM) : Option (Int × MM) := ((some (mU M a0 0 0)).bind fun M_1 => ((sX12_hand a0 x1 M_1).bind fun q_2 => (if wI (q_2.1) = 0 then (some (((-1), q_2.2))) else (if wI (sX12_canTell a0 q_2.2) = 0 then (some (((-1), q_2.2))) else ((sX12_plain a0 q_2.2).bind fun q_5 => (sX12_thick_b35 a0 x1 FU 1 (-1) 1 q_5))))))
def sX12_thick (a0 : Nat) (x1 : Int) (M : MM) : Option (Int × MM) := sX12_thick_b0 a0 x1 M
set_option maxHeartbeats 4000000 in
set_option maxRecDepth 100000 in
theorem bX12_thick_b81 {G : GG} (a0 : Nat) (x1 : Int) (oa0 : OB L0 a0 12) {K35 : Int → Int → Int → MM → Option (Int × MM)} (x2 : Int) (x5 : Int) (y90 : Int) (M : MM) {res : (Int × MM)} (hK35 : ∀ (x2 : Int) (y3 : Int) (x5 : Int) (M : MM), K35 x2 y3 x5 M = some res → VV G xX12_thick (ZM G xX12_thick (some (.int (eI res.1))) L0 res.2) L0 M 0 0 35 [(0, .ref (gA G a0)), (2, .int (eI x2)), (3, .long (eJ y3)), (5, .int (eI x5))] [])  (h : sX12_thick_b81 a0 x1 K35 x2 x5 y90 M = some res) : VV G xX12_thick (ZM G xX12_thick (some (.int (eI res.1))) L0 res.2) L0 M 0 0 81 [(0, .ref (gA G a0)), (2, .int (eI x2)), (5, .int (eI x5))] [.long (eJ y90)] := by
  unfold sX12_thick_b81 at h
  refine r_lstore_n (pc := 81) (i := 3) (lv' := [(3, .long (eJ y90)), (0, .ref (gA G a0)), (2, .int (eI x2)), (5, .int (eI x5))]) dX12_thick_81 rfl (Nat.le_of_ble_eq_true rfl) rfl ?_
  obtain ⟨v_1, hv_1, h⟩ := ob h
  refine r_iinc (pc := 82) (y := v_1) (lv' := [(5, .int (eI v_1)), (3, .long (eJ y90)), (0, .ref (gA G a0)), (2, .int (eI x2))]) dX12_thick_82 3 rfl (Option.some.inj hv_1) (Nat.le_of_ble_eq_true rfl) rfl ?_
  refine r_goto (pc := 85) (tgt := 35) dX12_thick_85 (by decide) ?_
  refine r_sub (lv' := [(0, .ref (gA G a0)), (2, .int (eI x2)), (3, .long (eJ y90)), (5, .int (eI v_1))]) [2, 3, 1, 0] rfl ?_
  exact hK35 _ _ _ _ h
set_option maxHeartbeats 4000000 in
set_option maxRecDepth 100000 in
theorem bX12_thick_b63 {G : GG} (a0 : Nat) (x1 : Int) (oa0 : OB L0 a0 12) {K35 : Int → Int → Int → MM → Option (Int × MM)} (y3 : Int) (x5 : Int) (x90 : Int) (M : MM) {res : (Int × MM)} (hK35 : ∀ (x2 : Int) (y3 : Int) (x5 : Int) (M : MM), K35 x2 y3 x5 M = some res → VV G xX12_thick (ZM G xX12_thick (some (.int (eI res.1))) L0 res.2) L0 M 0 0 35 [(0, .ref (gA G a0)), (2, .int (eI x2)), (3, .long (eJ y3)), (5, .int (eI x5))] [])  (h : sX12_thick_b63 a0 x1 K35 y3 x5 x90 M = some res) : VV G xX12_thick (ZM G xX12_thick (some (.int (eI res.1))) L0 res.2) L0 M 0 0 63 [(0, .ref (gA G a0)), (3, .long (eJ y3)), (5, .int (eI x5))] [.int (eI x90)] := by
  unfold sX12_thick_b63 at h
  refine r_istore_n (pc := 63) (i := 2) (lv' := [(2, .int (eI x90)), (0, .ref (gA G a0)), (3, .long (eJ y3)), (5, .int (eI x5))]) dX12_thick_63 rfl (Nat.le_of_ble_eq_true rfl) rfl ?_
  refine r_aload_n (pc := 64) (i := 0) dX12_thick_64 rfl 1 rfl ?_
  refine r_getJ (pc := 65) fg_12_473 rfl oa0 dX12_thick_65 ?_
  refine r_lload_n (pc := 68) (i := 3) dX12_thick_68 rfl 2 rfl ?_
  refine r_lcmp_le (pc := 69) (tgt := 80) dX12_thick_69 dX12_thick_70 (by decide) rfl rfl (fun c_1 => ?_) (fun c_1 => ?_)
  · replace h := (if_pos c_1).symm.trans h
    refine r_lload_n (pc := 80) (i := 3) dX12_thick_80 rfl 2 rfl ?_
    refine r_sub (lv' := [(0, .ref (gA G a0)), (2, .int (eI x90)), (5, .int (eI x5))]) [1, 0, 3] rfl ?_
    exact bX12_thick_b81 a0 x1 oa0 _ _ _ _ hK35 h
  · replace h := (if_neg c_1).symm.trans h
    refine r_aload_n (pc := 73) (i := 0) dX12_thick_73 rfl 1 rfl ?_
    refine r_getJ (pc := 74) fg_12_473 rfl oa0 dX12_thick_74 ?_
    refine r_goto (pc := 77) (tgt := 81) dX12_thick_77 (by decide) ?_
    refine r_sub (lv' := [(0, .ref (gA G a0)), (2, .int (eI x90)), (5, .int (eI x5))]) [1, 0, 3] rfl ?_
    exact bX12_thick_b81 a0 x1 oa0 _ _ _ _ hK35 h
set_option maxHeartbeats 4000000 in
set_option maxRecDepth 100000 in
theorem bX12_thick_b35 {G : GG} (a0 : Nat) (x1 : Int) (oa0 : OB L0 a0 12) {res : (Int × MM)} : ∀ (n : Nat) (x2 : Int) (y3 : Int) (x5 : Int) (M : MM)  (h : sX12_thick_b35 a0 x1 n x2 y3 x5 M = some res), VV G xX12_thick (ZM G xX12_thick (some (.int (eI res.1))) L0 res.2) L0 M 0 0 35 [(0, .ref (gA G a0)), (2, .int (eI x2)), (3, .long (eJ y3)), (5, .int (eI x5))] [] := by
  intro n
  induction n with
  | zero =>
    intro x2 y3 x5 M h
    rw [sX12_thick_b35] at h
    cases h
  | succ n ih =>
    intro x2 y3 x5 M h
    rw [sX12_thick_b35] at h
    refine r_iload (pc := 35) dX12_thick_35 3 rfl ?_
    refine r_bipush (pc := 37) (v := 9) dX12_thick_37 (by decide +kernel) ?_
    refine r_icmp_gt (pc := 39) (tgt := 88) dX12_thick_39 (by decide) rfl wl_9 (fun c_1 => ?_) (fun c_1 => ?_)
    · replace h := (if_pos c_1).symm.trans h
      refine r_iload_n (pc := 88) (i := 2) dX12_thick_88 rfl 1 rfl ?_
      cases h
      exact r_iret (pc := 89) rfl rfl (Nat.le_refl 0) (Nat.le_refl 0) dX12_thick_89
    · replace h := (if_neg c_1).symm.trans h
      refine r_aload_n (pc := 42) (i := 0) dX12_thick_42 rfl 0 rfl ?_
      refine r_iload (pc := 43) dX12_thick_43 3 rfl ?_
      obtain ⟨q_2, hq_2, h⟩ := ob h
      refine r_cV (pc := 45) (Y := xX12_findChances) (As := [.int (eI x5)]) (rest := []) (v := none) (st1 := []) ck_X12_thick_498 (kX12_findChances a0 x5 M oa0 hq_2) oa0 rfl rfl rfl rfl (Nat.le_of_ble_eq_true rfl) ⟨rfl, rfl⟩ rfl dX12_thick_45 ?_
      refine r_aload_n (pc := 48) (i := 0) dX12_thick_48 rfl 0 rfl ?_
      refine r_getJ (pc := 49) fg_12_473 rfl oa0 dX12_thick_49 ?_
      refine r_lload_n (pc := 52) (i := 3) dX12_thick_52 rfl 2 rfl ?_
      refine r_lcmp_le (pc := 53) (tgt := 62) dX12_thick_53 dX12_thick_54 (by decide) rfl rfl (fun c_3 => ?_) (fun c_3 => ?_)
      · replace h := (if_pos c_3).symm.trans h
        refine r_iload_n (pc := 62) (i := 2) dX12_thick_62 rfl 1 rfl ?_
        refine r_sub (lv' := [(0, .ref (gA G a0)), (3, .long (eJ y3)), (5, .int (eI x5))]) [0, 2, 3] rfl ?_
        exact bX12_thick_b63 a0 x1 oa0 _ _ _ _ (fun v0 v1 v2 v3 v4 => ih v0 v1 v2 v3 v4) h
      · replace h := (if_neg c_3).symm.trans h
        refine r_iload (pc := 57) dX12_thick_57 3 rfl ?_
        refine r_goto (pc := 59) (tgt := 63) dX12_thick_59 (by decide) ?_
        refine r_sub (lv' := [(0, .ref (gA G a0)), (3, .long (eJ y3)), (5, .int (eI x5))]) [0, 2, 3] rfl ?_
        exact bX12_thick_b63 a0 x1 oa0 _ _ _ _ (fun v0 v1 v2 v3 v4 => ih v0 v1 v2 v3 v4) h
set_option maxHeartbeats 4000000 in
set_option maxRecDepth 100000 in
theorem bX12_thick_b0 {G : GG} (a0 : Nat) (x1 : Int) (oa0 : OB L0 a0 12)  (M : MM) {res : (Int × MM)}  (h : sX12_thick_b0 a0 x1 M = some res) : VV G xX12_thick (ZM G xX12_thick (some (.int (eI res.1))) L0 res.2) L0 M 0 0 0 [(0, .ref (gA G a0)), (1, .int (eI x1))] [] := by
  unfold sX12_thick_b0 at h
  refine r_aload_n (pc := 0) (i := 0) dX12_thick_0 rfl 0 rfl ?_
  refine r_iconst (pc := 1) (v := 0) dX12_thick_1 (by decide +kernel) ?_
  obtain ⟨M_1, hM_1, h⟩ := ob h
  refine r_putI (pc := 2) fg_12_97 rfl oa0 hM_1 rfl rfl dX12_thick_2 ?_
  refine r_aload_n (pc := 5) (i := 0) dX12_thick_5 rfl 0 rfl ?_
  refine r_iload_n (pc := 6) (i := 1) dX12_thick_6 rfl 1 rfl ?_
  obtain ⟨q_2, hq_2, h⟩ := ob h
  refine r_cV (pc := 7) (Y := xX12_hand) (As := [.int (eI x1)]) (rest := []) (v := (some (.int (eI (q_2.1))))) (st1 := [.int (eI (q_2.1))]) ck_X12_thick_328 (kX12_hand a0 x1 M_1 oa0 hq_2) oa0 rfl rfl rfl rfl (Nat.le_of_ble_eq_true rfl) ⟨rfl, rfl⟩ rfl dX12_thick_7 ?_
  refine r_if_eq (pc := 10) (tgt := 20) dX12_thick_10 (by decide) rfl (fun c_3 => ?_) (fun c_3 => ?_)
  · replace h := (if_pos c_3).symm.trans h
    refine r_iconst (pc := 20) (v := (-1)) dX12_thick_20 (by decide +kernel) ?_
    cases h
    exact r_iret (pc := 21) rfl rfl (Nat.le_refl 0) (Nat.le_refl 0) dX12_thick_21
  · replace h := (if_neg c_3).symm.trans h
    refine r_aload_n (pc := 13) (i := 0) dX12_thick_13 rfl 0 rfl ?_
    refine r_cV (pc := 14) (Y := xX12_canTell) (As := []) (rest := []) (v := (some (.int (eI (sX12_canTell a0 q_2.2))))) (st1 := [.int (eI (sX12_canTell a0 q_2.2))]) ck_X12_thick_492 (kX12_canTell a0 q_2.2 oa0) oa0 rfl rfl rfl rfl (Nat.le_of_ble_eq_true rfl) ⟨rfl, rfl⟩ rfl dX12_thick_14 ?_
    refine r_if_ne (pc := 17) (tgt := 22) dX12_thick_17 (by decide) rfl (fun c_4 => ?_) (fun c_4 => ?_)
    · replace h := (if_neg c_4).symm.trans h
      refine r_aload_n (pc := 22) (i := 0) dX12_thick_22 rfl 0 rfl ?_
      obtain ⟨q_5, hq_5, h⟩ := ob h
      refine r_cV (pc := 23) (Y := xX12_plain) (As := []) (rest := []) (v := none) (st1 := []) ck_X12_thick_464 (kX12_plain a0 q_2.2 oa0 hq_5) oa0 rfl rfl rfl rfl (Nat.le_of_ble_eq_true rfl) ⟨rfl, rfl⟩ rfl dX12_thick_23 ?_
      refine r_iconst (pc := 26) (v := 1) dX12_thick_26 (by decide +kernel) ?_
      refine r_istore_n (pc := 27) (i := 2) (lv' := [(2, .int (eI 1)), (0, .ref (gA G a0)), (1, .int (eI x1))]) dX12_thick_27 rfl (Nat.le_of_ble_eq_true rfl) rfl ?_
      refine r_ldc2 (pc := 28) (v := (-1)) kc_12_459 dX12_thick_28 ?_
      refine r_lstore_n (pc := 31) (i := 3) (lv' := [(3, .long (eJ (-1))), (2, .int (eI 1)), (0, .ref (gA G a0)), (1, .int (eI x1))]) dX12_thick_31 rfl (Nat.le_of_ble_eq_true rfl) rfl ?_
      refine r_iconst (pc := 32) (v := 1) dX12_thick_32 (by decide +kernel) ?_
      refine r_istore (pc := 33) (lv' := [(5, .int (eI 1)), (3, .long (eJ (-1))), (2, .int (eI 1)), (0, .ref (gA G a0)), (1, .int (eI x1))]) dX12_thick_33 (Nat.le_of_ble_eq_true rfl) rfl ?_
      refine r_sub (lv' := [(0, .ref (gA G a0)), (2, .int (eI 1)), (3, .long (eJ (-1))), (5, .int (eI 1))]) [3, 2, 1, 0] rfl ?_
      exact bX12_thick_b35 a0 x1 oa0 _ _ _ _ _ h
    · replace h := (if_pos c_4).symm.trans h
      refine r_iconst (pc := 20) (v := (-1)) dX12_thick_20 (by decide +kernel) ?_
      cases h
      exact r_iret (pc := 21) rfl rfl (Nat.le_refl 0) (Nat.le_refl 0) dX12_thick_21
theorem kX12_thick {G : GG} (a0 : Nat) (x1 : Int) (M : MM) {res : (Int × MM)} (oa0 : OB L0 a0 12) (h : sX12_thick a0 x1 M = some res) : CO G xX12_thick [.ref (gA G a0), .int (eI x1)] L0 M (some (.int (eI res.1))) L0 res.2 := CO_of (by decide +kernel) (Nat.le_of_ble_eq_true rfl) (bX12_thick_b0 a0 x1 oa0 M h)
abbrev xX12_stepsTo : XX := (yX12_stepsTo, cX12_stepsTo, 2, (some .int), 1, 21, 0, 0)
theorem ck_X12_stepsTo_167 : CKS xX12_stepsTo 167 xX12_greater 2 := ⟨⟨tb_i 1700 (by decide +kernel) (by decide +kernel), tb_i 152 (by decide +kernel) (by decide +kernel), tb_i 1702 (by decide +kernel) (by decide +kernel), ⟨by decide +kernel, by decide +kernel, by decide +kernel⟩, by decide, by decide⟩, tb_i 1701 (by decide +kernel) (by decide +kernel)⟩
theorem ck_X12_stepsTo_379 : CKS xX12_stepsTo 379 xX12_size 1 := ⟨⟨tb_i 1851 (by decide +kernel) (by decide +kernel), tb_i 152 (by decide +kernel) (by decide +kernel), tb_i 1853 (by decide +kernel) (by decide +kernel), ⟨by decide +kernel, by decide +kernel, by decide +kernel⟩, by decide, by decide⟩, tb_i 1852 (by decide +kernel) (by decide +kernel)⟩
def sX12_stepsTo_b0 (x0 : Int) (x1 : Int)   : Int := (sX12_greater (sX12_size ((Int.tdiv (wI x0) 5) - (Int.tdiv (wI x1) 5))) (sX12_size ((Int.tmod (wI x0) 5) - (Int.tmod (wI x1) 5))))
def sX12_stepsTo (x0 : Int) (x1 : Int) : Int := sX12_stepsTo_b0 x0 x1
set_option maxHeartbeats 4000000 in
set_option maxRecDepth 100000 in
theorem bX12_stepsTo_b0 {G : GG} (x0 : Int) (x1 : Int) (M : MM)   {res : Int}  (h : sX12_stepsTo_b0 x0 x1 = res) : VV G xX12_stepsTo (ZM G xX12_stepsTo (some (.int (eI res))) L0 M) L0 M 0 0 0 [(0, .int (eI x0)), (1, .int (eI x1))] [] := by
  unfold sX12_stepsTo_b0 at h
  refine r_iload_n (pc := 0) (i := 0) dX12_stepsTo_0 rfl 0 rfl ?_
  refine r_iconst (pc := 1) (v := 5) dX12_stepsTo_1 (by decide +kernel) ?_
  refine r_idiv (pc := 2) dX12_stepsTo_2 rfl wl_5 (by decide) ?_
  refine r_iload_n (pc := 3) (i := 1) dX12_stepsTo_3 rfl 1 rfl ?_
  refine r_iconst (pc := 4) (v := 5) dX12_stepsTo_4 (by decide +kernel) ?_
  refine r_idiv (pc := 5) dX12_stepsTo_5 rfl wl_5 (by decide) ?_
  refine r_isub (pc := 6) dX12_stepsTo_6 ?_
  refine r_cS (pc := 7) (Y := xX12_size) (As := [.int (eI ((Int.tdiv (wI x0) 5) - (Int.tdiv (wI x1) 5)))]) (rest := []) (v := (some (.int (eI (sX12_size ((Int.tdiv (wI x0) 5) - (Int.tdiv (wI x1) 5))))))) (st1 := [.int (eI (sX12_size ((Int.tdiv (wI x0) 5) - (Int.tdiv (wI x1) 5))))]) ck_X12_stepsTo_379 (kX12_size ((Int.tdiv (wI x0) 5) - (Int.tdiv (wI x1) 5)) M ) rfl rfl (Nat.le_of_ble_eq_true rfl) ⟨rfl, rfl⟩ rfl dX12_stepsTo_7 ?_
  refine r_iload_n (pc := 10) (i := 0) dX12_stepsTo_10 rfl 0 rfl ?_
  refine r_iconst (pc := 11) (v := 5) dX12_stepsTo_11 (by decide +kernel) ?_
  refine r_irem (pc := 12) dX12_stepsTo_12 rfl wl_5 (by decide) ?_
  refine r_iload_n (pc := 13) (i := 1) dX12_stepsTo_13 rfl 1 rfl ?_
  refine r_iconst (pc := 14) (v := 5) dX12_stepsTo_14 (by decide +kernel) ?_
  refine r_irem (pc := 15) dX12_stepsTo_15 rfl wl_5 (by decide) ?_
  refine r_isub (pc := 16) dX12_stepsTo_16 ?_
  refine r_cS (pc := 17) (Y := xX12_size) (As := [.int (eI ((Int.tmod (wI x0) 5) - (Int.tmod (wI x1) 5)))]) (rest := [.int (eI (sX12_size ((Int.tdiv (wI x0) 5) - (Int.tdiv (wI x1) 5))))]) (v := (some (.int (eI (sX12_size ((Int.tmod (wI x0) 5) - (Int.tmod (wI x1) 5))))))) (st1 := [.int (eI (sX12_size ((Int.tmod (wI x0) 5) - (Int.tmod (wI x1) 5)))), .int (eI (sX12_size ((Int.tdiv (wI x0) 5) - (Int.tdiv (wI x1) 5))))]) ck_X12_stepsTo_379 (kX12_size ((Int.tmod (wI x0) 5) - (Int.tmod (wI x1) 5)) M ) rfl rfl (Nat.le_of_ble_eq_true rfl) ⟨rfl, rfl⟩ rfl dX12_stepsTo_17 ?_
  refine r_cS (pc := 20) (Y := xX12_greater) (As := [.int (eI (sX12_size ((Int.tdiv (wI x0) 5) - (Int.tdiv (wI x1) 5)))), .int (eI (sX12_size ((Int.tmod (wI x0) 5) - (Int.tmod (wI x1) 5))))]) (rest := []) (v := (some (.int (eI (sX12_greater (sX12_size ((Int.tdiv (wI x0) 5) - (Int.tdiv (wI x1) 5))) (sX12_size ((Int.tmod (wI x0) 5) - (Int.tmod (wI x1) 5)))))))) (st1 := [.int (eI (sX12_greater (sX12_size ((Int.tdiv (wI x0) 5) - (Int.tdiv (wI x1) 5))) (sX12_size ((Int.tmod (wI x0) 5) - (Int.tmod (wI x1) 5)))))]) ck_X12_stepsTo_167 (kX12_greater (sX12_size ((Int.tdiv (wI x0) 5) - (Int.tdiv (wI x1) 5))) (sX12_size ((Int.tmod (wI x0) 5) - (Int.tmod (wI x1) 5))) M ) rfl rfl (Nat.le_of_ble_eq_true rfl) ⟨rfl, rfl⟩ rfl dX12_stepsTo_20 ?_
  cases h
  exact r_iret (pc := 23) rfl rfl (Nat.le_refl 0) (Nat.le_refl 0) dX12_stepsTo_23
theorem kX12_stepsTo {G : GG} (x0 : Int) (x1 : Int) (M : MM)  : CO G xX12_stepsTo [.int (eI x0), .int (eI x1)] L0 M (some (.int (eI (sX12_stepsTo x0 x1)))) L0 M := CO_of (by decide +kernel) (Nat.le_of_ble_eq_true rfl) (bX12_stepsTo_b0 x0 x1 M rfl)
abbrev xX12_ringOf : XX := (yX12_ringOf, cX12_ringOf, 1, (some .int), 2, 42, 0, 0)
theorem ck_X12_ringOf_524 : CKS xX12_ringOf 524 xX12_stepsTo 2 := ⟨⟨tb_i 2027 (by decide +kernel) (by decide +kernel), tb_i 152 (by decide +kernel) (by decide +kernel), tb_i 2029 (by decide +kernel) (by decide +kernel), ⟨by decide +kernel, by decide +kernel, by decide +kernel⟩, by decide, by decide⟩, tb_i 2028 (by decide +kernel) (by decide +kernel)⟩
def sX12_ringOf_b0 (x0 : Int)   : Int := (sX12_stepsTo x0 12)
def sX12_ringOf (x0 : Int) : Int := sX12_ringOf_b0 x0
set_option maxHeartbeats 4000000 in
set_option maxRecDepth 100000 in
theorem bX12_ringOf_b0 {G : GG} (x0 : Int) (M : MM)   {res : Int}  (h : sX12_ringOf_b0 x0 = res) : VV G xX12_ringOf (ZM G xX12_ringOf (some (.int (eI res))) L0 M) L0 M 0 0 0 [(0, .int (eI x0))] [] := by
  unfold sX12_ringOf_b0 at h
  refine r_iload_n (pc := 0) (i := 0) dX12_ringOf_0 rfl 0 rfl ?_
  refine r_bipush (pc := 1) (v := 12) dX12_ringOf_1 (by decide +kernel) ?_
  refine r_cS (pc := 3) (Y := xX12_stepsTo) (As := [.int (eI x0), .int (eI 12)]) (rest := []) (v := (some (.int (eI (sX12_stepsTo x0 12))))) (st1 := [.int (eI (sX12_stepsTo x0 12))]) ck_X12_ringOf_524 (kX12_stepsTo x0 12 M ) rfl rfl (Nat.le_of_ble_eq_true rfl) ⟨rfl, rfl⟩ rfl dX12_ringOf_3 ?_
  cases h
  exact r_iret (pc := 6) rfl rfl (Nat.le_refl 0) (Nat.le_refl 0) dX12_ringOf_6
theorem kX12_ringOf {G : GG} (x0 : Int) (M : MM)  : CO G xX12_ringOf [.int (eI x0)] L0 M (some (.int (eI (sX12_ringOf x0)))) L0 M := CO_of (by decide +kernel) (Nat.le_of_ble_eq_true rfl) (bX12_ringOf_b0 x0 M rfl)
abbrev xX12_sideOf : XX := (yX12_sideOf, cX12_sideOf, 3, (some .int), 1, 20, 0, 0)
theorem ck_X12_sideOf_379 : CKS xX12_sideOf 379 xX12_size 1 := ⟨⟨tb_i 1851 (by decide +kernel) (by decide +kernel), tb_i 152 (by decide +kernel) (by decide +kernel), tb_i 1853 (by decide +kernel) (by decide +kernel), ⟨by decide +kernel, by decide +kernel, by decide +kernel⟩, by decide, by decide⟩, tb_i 1852 (by decide +kernel) (by decide +kernel)⟩
def sX12_sideOf_b0 (x0 : Int)   : Int := (if wI (sX12_size (2 - (Int.tdiv (wI x0) 5))) < wI (2 * (sX12_size ((Int.tmod (wI x0) 5) - 2))) then (if wI (sX12_size ((Int.tmod (wI x0) 5) - 2)) < wI (2 * (sX12_size (2 - (Int.tdiv (wI x0) 5)))) then (if wI (2 - (Int.tdiv (wI x0) 5)) ≤ 0 then (if wI ((Int.tmod (wI x0) 5) - 2) ≤ 0 then 5 else 3) else (if wI ((Int.tmod (wI x0) 5) - 2) ≤ 0 then 7 else 1)) else (if wI ((Int.tmod (wI x0) 5) - 2) ≤ 0 then 6 else 2)) else (if wI (2 - (Int.tdiv (wI x0) 5)) ≤ 0 then 4 else 0))
def sX12_sideOf (x0 : Int) : Int := sX12_sideOf_b0 x0
set_option maxHeartbeats 4000000 in
set_option maxRecDepth 100000 in
theorem bX12_sideOf_b0 {G : GG} (x0 : Int) (M : MM)   {res : Int}  (h : sX12_sideOf_b0 x0 = res) : VV G xX12_sideOf (ZM G xX12_sideOf (some (.int (eI res))) L0 M) L0 M 0 0 0 [(0, .int (eI x0))] [] := by
  unfold sX12_sideOf_b0 at h
  refine r_iconst (pc := 0) (v := 2) dX12_sideOf_0 (by decide +kernel) ?_
  refine r_iload_n (pc := 1) (i := 0) dX12_sideOf_1 rfl 0 rfl ?_
  refine r_iconst (pc := 2) (v := 5) dX12_sideOf_2 (by decide +kernel) ?_
  refine r_idiv (pc := 3) dX12_sideOf_3 rfl wl_5 (by decide) ?_
  refine r_isub (pc := 4) dX12_sideOf_4 ?_
  refine r_istore_n (pc := 5) (i := 1) (lv' := [(1, .int (eI (2 - (Int.tdiv (wI x0) 5)))), (0, .int (eI x0))]) dX12_sideOf_5 rfl (Nat.le_of_ble_eq_true rfl) rfl ?_
  refine r_iload_n (pc := 6) (i := 0) dX12_sideOf_6 rfl 1 rfl ?_
  refine r_iconst (pc := 7) (v := 5) dX12_sideOf_7 (by decide +kernel) ?_
  refine r_irem (pc := 8) dX12_sideOf_8 rfl wl_5 (by decide) ?_
  refine r_iconst (pc := 9) (v := 2) dX12_sideOf_9 (by decide +kernel) ?_
  refine r_isub (pc := 10) dX12_sideOf_10 ?_
  refine r_istore_n (pc := 11) (i := 2) (lv' := [(2, .int (eI ((Int.tmod (wI x0) 5) - 2))), (1, .int (eI (2 - (Int.tdiv (wI x0) 5)))), (0, .int (eI x0))]) dX12_sideOf_11 rfl (Nat.le_of_ble_eq_true rfl) rfl ?_
  refine r_iload_n (pc := 12) (i := 1) dX12_sideOf_12 rfl 1 rfl ?_
  refine r_cS (pc := 13) (Y := xX12_size) (As := [.int (eI (2 - (Int.tdiv (wI x0) 5)))]) (rest := []) (v := (some (.int (eI (sX12_size (2 - (Int.tdiv (wI x0) 5))))))) (st1 := [.int (eI (sX12_size (2 - (Int.tdiv (wI x0) 5))))]) ck_X12_sideOf_379 (kX12_size (2 - (Int.tdiv (wI x0) 5)) M ) rfl rfl (Nat.le_of_ble_eq_true rfl) ⟨rfl, rfl⟩ rfl dX12_sideOf_13 ?_
  refine r_iconst (pc := 16) (v := 2) dX12_sideOf_16 (by decide +kernel) ?_
  refine r_iload_n (pc := 17) (i := 2) dX12_sideOf_17 rfl 0 rfl ?_
  refine r_cS (pc := 18) (Y := xX12_size) (As := [.int (eI ((Int.tmod (wI x0) 5) - 2))]) (rest := [.int (eI 2), .int (eI (sX12_size (2 - (Int.tdiv (wI x0) 5))))]) (v := (some (.int (eI (sX12_size ((Int.tmod (wI x0) 5) - 2)))))) (st1 := [.int (eI (sX12_size ((Int.tmod (wI x0) 5) - 2))), .int (eI 2), .int (eI (sX12_size (2 - (Int.tdiv (wI x0) 5))))]) ck_X12_sideOf_379 (kX12_size ((Int.tmod (wI x0) 5) - 2) M ) rfl rfl (Nat.le_of_ble_eq_true rfl) ⟨rfl, rfl⟩ rfl dX12_sideOf_18 ?_
  refine r_imul (pc := 21) dX12_sideOf_21 ?_
  refine r_icmp_lt (pc := 22) (tgt := 35) dX12_sideOf_22 (by decide) rfl rfl (fun c_1 => ?_) (fun c_1 => ?_)
  · replace h := (if_pos c_1).symm.trans h
    refine r_iload_n (pc := 35) (i := 2) dX12_sideOf_35 rfl 0 rfl ?_
    refine r_cS (pc := 36) (Y := xX12_size) (As := [.int (eI ((Int.tmod (wI x0) 5) - 2))]) (rest := []) (v := (some (.int (eI (sX12_size ((Int.tmod (wI x0) 5) - 2)))))) (st1 := [.int (eI (sX12_size ((Int.tmod (wI x0) 5) - 2)))]) ck_X12_sideOf_379 (kX12_size ((Int.tmod (wI x0) 5) - 2) M ) rfl rfl (Nat.le_of_ble_eq_true rfl) ⟨rfl, rfl⟩ rfl dX12_sideOf_36 ?_
    refine r_iconst (pc := 39) (v := 2) dX12_sideOf_39 (by decide +kernel) ?_
    refine r_iload_n (pc := 40) (i := 1) dX12_sideOf_40 rfl 1 rfl ?_
    refine r_cS (pc := 41) (Y := xX12_size) (As := [.int (eI (2 - (Int.tdiv (wI x0) 5)))]) (rest := [.int (eI 2), .int (eI (sX12_size ((Int.tmod (wI x0) 5) - 2)))]) (v := (some (.int (eI (sX12_size (2 - (Int.tdiv (wI x0) 5))))))) (st1 := [.int (eI (sX12_size (2 - (Int.tdiv (wI x0) 5)))), .int (eI 2), .int (eI (sX12_size ((Int.tmod (wI x0) 5) - 2)))]) ck_X12_sideOf_379 (kX12_size (2 - (Int.tdiv (wI x0) 5)) M ) rfl rfl (Nat.le_of_ble_eq_true rfl) ⟨rfl, rfl⟩ rfl dX12_sideOf_41 ?_
    refine r_imul (pc := 44) dX12_sideOf_44 ?_
    refine r_icmp_lt (pc := 45) (tgt := 59) dX12_sideOf_45 (by decide) rfl rfl (fun c_2 => ?_) (fun c_2 => ?_)
    · replace h := (if_pos c_2).symm.trans h
      refine r_iload_n (pc := 59) (i := 1) dX12_sideOf_59 rfl 1 rfl ?_
      refine r_if_le (pc := 60) (tgt := 76) dX12_sideOf_60 (by decide) rfl (fun c_3 => ?_) (fun c_3 => ?_)
      · replace h := (if_pos c_3).symm.trans h
        refine r_iload_n (pc := 76) (i := 2) dX12_sideOf_76 rfl 0 rfl ?_
        refine r_if_le (pc := 77) (tgt := 84) dX12_sideOf_77 (by decide) rfl (fun c_4 => ?_) (fun c_4 => ?_)
        · replace h := (if_pos c_4).symm.trans h
          refine r_iconst (pc := 84) (v := 5) dX12_sideOf_84 (by decide +kernel) ?_
          cases h
          exact r_iret (pc := 85) rfl rfl (Nat.le_refl 0) (Nat.le_refl 0) dX12_sideOf_85
        · replace h := (if_neg c_4).symm.trans h
          refine r_iconst (pc := 80) (v := 3) dX12_sideOf_80 (by decide +kernel) ?_
          refine r_goto (pc := 81) (tgt := 85) dX12_sideOf_81 (by decide) ?_
          cases h
          exact r_iret (pc := 85) rfl rfl (Nat.le_refl 0) (Nat.le_refl 0) dX12_sideOf_85
      · replace h := (if_neg c_3).symm.trans h
        refine r_iload_n (pc := 63) (i := 2) dX12_sideOf_63 rfl 0 rfl ?_
        refine r_if_le (pc := 64) (tgt := 71) dX12_sideOf_64 (by decide) rfl (fun c_5 => ?_) (fun c_5 => ?_)
        · replace h := (if_pos c_5).symm.trans h
          refine r_bipush (pc := 71) (v := 7) dX12_sideOf_71 (by decide +kernel) ?_
          refine r_goto (pc := 73) (tgt := 85) dX12_sideOf_73 (by decide) ?_
          cases h
          exact r_iret (pc := 85) rfl rfl (Nat.le_refl 0) (Nat.le_refl 0) dX12_sideOf_85
        · replace h := (if_neg c_5).symm.trans h
          refine r_iconst (pc := 67) (v := 1) dX12_sideOf_67 (by decide +kernel) ?_
          refine r_goto (pc := 68) (tgt := 85) dX12_sideOf_68 (by decide) ?_
          cases h
          exact r_iret (pc := 85) rfl rfl (Nat.le_refl 0) (Nat.le_refl 0) dX12_sideOf_85
    · replace h := (if_neg c_2).symm.trans h
      refine r_iload_n (pc := 48) (i := 2) dX12_sideOf_48 rfl 0 rfl ?_
      refine r_if_le (pc := 49) (tgt := 56) dX12_sideOf_49 (by decide) rfl (fun c_6 => ?_) (fun c_6 => ?_)
      · replace h := (if_pos c_6).symm.trans h
        refine r_bipush (pc := 56) (v := 6) dX12_sideOf_56 (by decide +kernel) ?_
        cases h
        exact r_iret (pc := 58) rfl rfl (Nat.le_refl 0) (Nat.le_refl 0) dX12_sideOf_58
      · replace h := (if_neg c_6).symm.trans h
        refine r_iconst (pc := 52) (v := 2) dX12_sideOf_52 (by decide +kernel) ?_
        refine r_goto (pc := 53) (tgt := 58) dX12_sideOf_53 (by decide) ?_
        cases h
        exact r_iret (pc := 58) rfl rfl (Nat.le_refl 0) (Nat.le_refl 0) dX12_sideOf_58
  · replace h := (if_neg c_1).symm.trans h
    refine r_iload_n (pc := 25) (i := 1) dX12_sideOf_25 rfl 1 rfl ?_
    refine r_if_le (pc := 26) (tgt := 33) dX12_sideOf_26 (by decide) rfl (fun c_7 => ?_) (fun c_7 => ?_)
    · replace h := (if_pos c_7).symm.trans h
      refine r_iconst (pc := 33) (v := 4) dX12_sideOf_33 (by decide +kernel) ?_
      cases h
      exact r_iret (pc := 34) rfl rfl (Nat.le_refl 0) (Nat.le_refl 0) dX12_sideOf_34
    · replace h := (if_neg c_7).symm.trans h
      refine r_iconst (pc := 29) (v := 0) dX12_sideOf_29 (by decide +kernel) ?_
      refine r_goto (pc := 30) (tgt := 34) dX12_sideOf_30 (by decide) ?_
      cases h
      exact r_iret (pc := 34) rfl rfl (Nat.le_refl 0) (Nat.le_refl 0) dX12_sideOf_34
theorem kX12_sideOf {G : GG} (x0 : Int) (M : MM)  : CO G xX12_sideOf [.int (eI x0)] L0 M (some (.int (eI (sX12_sideOf x0)))) L0 M := CO_of (by decide +kernel) (Nat.le_of_ble_eq_true rfl) (bX12_sideOf_b0 x0 M rfl)
abbrev xX12_wayTo : XX := (yX12_wayTo, cX12_wayTo, 3, (some .int), 2, 42, 0, 0)
theorem ck_X12_wayTo_313 : CKV xX12_wayTo 313 xX12_of 1 := ⟨⟨tb_i 1784 (by decide +kernel) (by decide +kernel), tb_i 152 (by decide +kernel) (by decide +kernel), tb_i 1787 (by decide +kernel) (by decide +kernel), ⟨by decide +kernel, by decide +kernel, by decide +kernel⟩, by decide, by decide⟩, tb_i 1786 (by decide +kernel) (by decide +kernel), tb_i 73 (by decide +kernel) (by decide +kernel)⟩
theorem ck_X12_wayTo_524 : CKS xX12_wayTo 524 xX12_stepsTo 2 := ⟨⟨tb_i 2027 (by decide +kernel) (by decide +kernel), tb_i 152 (by decide +kernel) (by decide +kernel), tb_i 2029 (by decide +kernel) (by decide +kernel), ⟨by decide +kernel, by decide +kernel, by decide +kernel⟩, by decide, by decide⟩, tb_i 2028 (by decide +kernel) (by decide +kernel)⟩
def sX12_wayTo_b0 (a0 : Nat) (x1 : Int) (x2 : Int) (M : MM)   : Option Int := (if wI x1 = wI (M a0 58) then ((sX12_of a0 5 M).bind fun q_4 => (some (((sX12_stepsTo 12 x2) + q_4)))) else (if 0 ≤ wI x1 ∧ wI x1 < 8 then (some ((sX12_stepsTo (M (gR a0 59) (wI x1).toNat) x2))) else none))
def sX12_wayTo (a0 : Nat) (x1 : Int) (x2 : Int) (M : MM) : Option Int := sX12_wayTo_b0 a0 x1 x2 M
set_option maxHeartbeats 4000000 in
set_option maxRecDepth 100000 in
theorem bX12_wayTo_b0 {G : GG} (a0 : Nat) (x1 : Int) (x2 : Int) (M : MM) (oa0 : OB L0 a0 12)  {res : Int}  (h : sX12_wayTo_b0 a0 x1 x2 M = some res) : VV G xX12_wayTo (ZM G xX12_wayTo (some (.int (eI res))) L0 M) L0 M 0 0 0 [(0, .ref (gA G a0)), (1, .int (eI x1)), (2, .int (eI x2))] [] := by
  unfold sX12_wayTo_b0 at h
  refine r_iload_n (pc := 0) (i := 1) dX12_wayTo_0 rfl 1 rfl ?_
  refine r_aload_n (pc := 1) (i := 0) dX12_wayTo_1 rfl 0 rfl ?_
  refine r_getI (pc := 2) fg_12_527 rfl oa0 dX12_wayTo_2 ?_
  refine r_icmp_ne (pc := 5) (tgt := 23) dX12_wayTo_5 (by decide) rfl rfl (fun c_1 => ?_) (fun c_1 => ?_)
  · replace h := (if_neg c_1).symm.trans h
    refine r_aload_n (pc := 23) (i := 0) dX12_wayTo_23 rfl 0 rfl ?_
    have o_2 := (wt_12_59 oa0).2
    refine r_getR (pc := 24) fg_12_84 rfl oa0 (wt_12_59 oa0).1 dX12_wayTo_24 ?_
    refine r_iload_n (pc := 27) (i := 1) dX12_wayTo_27 rfl 1 rfl ?_
    obtain ⟨c_3, h⟩ := og h
    refine r_iald (pc := 28) o_2 rfl c_3 rfl dX12_wayTo_28 ?_
    refine r_iload_n (pc := 29) (i := 2) dX12_wayTo_29 rfl 2 rfl ?_
    refine r_cS (pc := 30) (Y := xX12_stepsTo) (As := [.int (eI (M (gR a0 59) (wI x1).toNat)), .int (eI x2)]) (rest := []) (v := (some (.int (eI (sX12_stepsTo (M (gR a0 59) (wI x1).toNat) x2))))) (st1 := [.int (eI (sX12_stepsTo (M (gR a0 59) (wI x1).toNat) x2))]) ck_X12_wayTo_524 (kX12_stepsTo (M (gR a0 59) (wI x1).toNat) x2 M ) rfl rfl (Nat.le_of_ble_eq_true rfl) ⟨rfl, rfl⟩ rfl dX12_wayTo_30 ?_
    cases h
    exact r_iret (pc := 33) rfl rfl (Nat.le_refl 0) (Nat.le_refl 0) dX12_wayTo_33
  · replace h := (if_pos c_1).symm.trans h
    refine r_bipush (pc := 8) (v := 12) dX12_wayTo_8 (by decide +kernel) ?_
    refine r_iload_n (pc := 10) (i := 2) dX12_wayTo_10 rfl 2 rfl ?_
    refine r_cS (pc := 11) (Y := xX12_stepsTo) (As := [.int (eI 12), .int (eI x2)]) (rest := []) (v := (some (.int (eI (sX12_stepsTo 12 x2))))) (st1 := [.int (eI (sX12_stepsTo 12 x2))]) ck_X12_wayTo_524 (kX12_stepsTo 12 x2 M ) rfl rfl (Nat.le_of_ble_eq_true rfl) ⟨rfl, rfl⟩ rfl dX12_wayTo_11 ?_
    refine r_aload_n (pc := 14) (i := 0) dX12_wayTo_14 rfl 0 rfl ?_
    refine r_iconst (pc := 15) (v := 5) dX12_wayTo_15 (by decide +kernel) ?_
    obtain ⟨q_4, hq_4, h⟩ := ob h
    refine r_cV (pc := 16) (Y := xX12_of) (As := [.int (eI 5)]) (rest := [.int (eI (sX12_stepsTo 12 x2))]) (v := (some (.int (eI q_4)))) (st1 := [.int (eI q_4), .int (eI (sX12_stepsTo 12 x2))]) ck_X12_wayTo_313 (kX12_of a0 5 M oa0 hq_4) oa0 rfl rfl rfl rfl (Nat.le_of_ble_eq_true rfl) ⟨rfl, rfl⟩ rfl dX12_wayTo_16 ?_
    refine r_iadd (pc := 19) dX12_wayTo_19 ?_
    refine r_goto (pc := 20) (tgt := 33) dX12_wayTo_20 (by decide) ?_
    cases h
    exact r_iret (pc := 33) rfl rfl (Nat.le_refl 0) (Nat.le_refl 0) dX12_wayTo_33
theorem kX12_wayTo {G : GG} (a0 : Nat) (x1 : Int) (x2 : Int) (M : MM) {res : Int} (oa0 : OB L0 a0 12) (h : sX12_wayTo a0 x1 x2 M = some res) : CO G xX12_wayTo [.ref (gA G a0), .int (eI x1), .int (eI x2)] L0 M (some (.int (eI res))) L0 M := CO_of (by decide +kernel) (Nat.le_of_ble_eq_true rfl) (bX12_wayTo_b0 a0 x1 x2 M oa0 h)
abbrev xX12_picks : XX := (yX12_picks, cX12_picks, 5, (some .int), 3, 64, 0, 0)
theorem ck_X12_picks_334 : CKV xX12_picks 334 xX12_ofChild 2 := ⟨⟨tb_i 1796 (by decide +kernel) (by decide +kernel), tb_i 152 (by decide +kernel) (by decide +kernel), tb_i 1799 (by decide +kernel) (by decide +kernel), ⟨by decide +kernel, by decide +kernel, by decide +kernel⟩, by decide, by decide⟩, tb_i 1798 (by decide +kernel) (by decide +kernel), tb_i 75 (by decide +kernel) (by decide +kernel)⟩
theorem ck_X12_picks_530 : CKV xX12_picks 530 xX12_wayTo 2 := ⟨⟨tb_i 2037 (by decide +kernel) (by decide +kernel), tb_i 152 (by decide +kernel) (by decide +kernel), tb_i 2040 (by decide +kernel) (by decide +kernel), ⟨by decide +kernel, by decide +kernel, by decide +kernel⟩, by decide, by decide⟩, tb_i 2039 (by decide +kernel) (by decide +kernel), tb_i 112 (by decide +kernel) (by decide +kernel)⟩
def sX12_picks_b57 (a0 : Nat) (x1 : Int) (M : MM) (K4 : Int → Int → Option Int) (x3 : Int) (x90 : Int) : Option Int := ((some (x3 + 1)).bind fun v_1 => (K4 x90 v_1))
def sX12_picks_b56 (a0 : Nat) (x1 : Int) (M : MM) (K4 : Int → Int → Option Int) (x2 : Int) (x3 : Int) : Option Int := (sX12_picks_b57 a0 x1 M K4 x3 x2)
def sX12_picks_b52 (a0 : Nat) (x1 : Int) (M : MM) (K4 : Int → Int → Option Int) (x3 : Int) : Option Int := (sX12_picks_b57 a0 x1 M K4 x3 x3)
def sX12_picks_b4 (a0 : Nat) (x1 : Int) (M : MM)  : Nat → Int → Int → Option Int
  | 0, _, _ => none
  | n + 1, x2, x3 => (if wI (M a0 26) ≤ wI x3 then (some (x2)) else ((sX12_wayTo a0 x3 x1 M).bind fun q_2 => ((sX12_wayTo a0 x2 x1 M).bind fun q_3 => (if wI (q_2 - q_3) < 0 then (sX12_picks_b52 a0 x1 M (fun x2 x3 => sX12_picks_b4 a0 x1 M n x2 x3) x3) else (if wI (q_2 - q_3) = 0 then ((sX12_ofChild a0 x3 3 M).bind fun q_6 => ((sX12_ofChild a0 x2 3 M).bind fun q_7 => (if wI q_6 ≤ wI q_7 then (sX12_picks_b56 a0 x1 M (fun x2 x3 => sX12_picks_b4 a0 x1 M n x2 x3) x2 x3) else (sX12_picks_b52 a0 x1 M (fun x2 x3 => sX12_picks_b4 a0 x1 M n x2 x3) x3)))) else (sX12_picks_b56 a0 x1 M (fun x2 x3 => sX12_picks_b4 a0 x1 M n x2 x3) x2 x3))))))
def sX12_picks_b0 (a0 : Nat) (x1 : Int) (M : MM)   : Option Int := (sX12_picks_b4 a0 x1 M FU 0 1)
def sX12_picks (a0 : Nat) (x1 : Int) (M : MM) : Option Int := sX12_picks_b0 a0 x1 M
set_option maxHeartbeats 4000000 in
set_option maxRecDepth 100000 in
theorem bX12_picks_b57 {G : GG} (a0 : Nat) (x1 : Int) (M : MM) (oa0 : OB L0 a0 12) {K4 : Int → Int → Option Int} (x3 : Int) (x90 : Int) {res : Int} (hK4 : ∀ (x2 : Int) (x3 : Int), K4 x2 x3 = some res → VV G xX12_picks (ZM G xX12_picks (some (.int (eI res))) L0 M) L0 M 0 0 4 [(0, .ref (gA G a0)), (1, .int (eI x1)), (2, .int (eI x2)), (3, .int (eI x3))] [])  (h : sX12_picks_b57 a0 x1 M K4 x3 x90 = some res) : VV G xX12_picks (ZM G xX12_picks (some (.int (eI res))) L0 M) L0 M 0 0 57 [(0, .ref (gA G a0)), (1, .int (eI x1)), (3, .int (eI x3))] [.int (eI x90)] := by
  unfold sX12_picks_b57 at h
  refine r_istore_n (pc := 57) (i := 2) (lv' := [(2, .int (eI x90)), (0, .ref (gA G a0)), (1, .int (eI x1)), (3, .int (eI x3))]) dX12_picks_57 rfl (Nat.le_of_ble_eq_true rfl) rfl ?_
  obtain ⟨v_1, hv_1, h⟩ := ob h
  refine r_iinc (pc := 58) (y := v_1) (lv' := [(3, .int (eI v_1)), (2, .int (eI x90)), (0, .ref (gA G a0)), (1, .int (eI x1))]) dX12_picks_58 3 rfl (Option.some.inj hv_1) (Nat.le_of_ble_eq_true rfl) rfl ?_
  refine r_goto (pc := 61) (tgt := 4) dX12_picks_61 (by decide) ?_
  refine r_sub (lv' := [(0, .ref (gA G a0)), (1, .int (eI x1)), (2, .int (eI x90)), (3, .int (eI v_1))]) [2, 3, 1, 0] rfl ?_
  exact hK4 _ _ h
set_option maxHeartbeats 4000000 in
set_option maxRecDepth 100000 in
theorem bX12_picks_b56 {G : GG} (a0 : Nat) (x1 : Int) (M : MM) (oa0 : OB L0 a0 12) {K4 : Int → Int → Option Int} (x2 : Int) (x3 : Int) {res : Int} (hK4 : ∀ (x2 : Int) (x3 : Int), K4 x2 x3 = some res → VV G xX12_picks (ZM G xX12_picks (some (.int (eI res))) L0 M) L0 M 0 0 4 [(0, .ref (gA G a0)), (1, .int (eI x1)), (2, .int (eI x2)), (3, .int (eI x3))] [])  (h : sX12_picks_b56 a0 x1 M K4 x2 x3 = some res) : VV G xX12_picks (ZM G xX12_picks (some (.int (eI res))) L0 M) L0 M 0 0 56 [(0, .ref (gA G a0)), (1, .int (eI x1)), (2, .int (eI x2)), (3, .int (eI x3))] [] := by
  unfold sX12_picks_b56 at h
  refine r_iload_n (pc := 56) (i := 2) dX12_picks_56 rfl 2 rfl ?_
  refine r_sub (lv' := [(0, .ref (gA G a0)), (1, .int (eI x1)), (3, .int (eI x3))]) [0, 1, 3] rfl ?_
  exact bX12_picks_b57 a0 x1 M oa0 _ _ hK4 h
set_option maxHeartbeats 4000000 in
set_option maxRecDepth 100000 in
theorem bX12_picks_b52 {G : GG} (a0 : Nat) (x1 : Int) (M : MM) (oa0 : OB L0 a0 12) {K4 : Int → Int → Option Int} (x3 : Int) {res : Int} (hK4 : ∀ (x2 : Int) (x3 : Int), K4 x2 x3 = some res → VV G xX12_picks (ZM G xX12_picks (some (.int (eI res))) L0 M) L0 M 0 0 4 [(0, .ref (gA G a0)), (1, .int (eI x1)), (2, .int (eI x2)), (3, .int (eI x3))] [])  (h : sX12_picks_b52 a0 x1 M K4 x3 = some res) : VV G xX12_picks (ZM G xX12_picks (some (.int (eI res))) L0 M) L0 M 0 0 52 [(0, .ref (gA G a0)), (1, .int (eI x1)), (3, .int (eI x3))] [] := by
  unfold sX12_picks_b52 at h
  refine r_iload_n (pc := 52) (i := 3) dX12_picks_52 rfl 2 rfl ?_
  refine r_goto (pc := 53) (tgt := 57) dX12_picks_53 (by decide) ?_
  refine r_sub (lv' := [(0, .ref (gA G a0)), (1, .int (eI x1)), (3, .int (eI x3))]) [0, 1, 2] rfl ?_
  exact bX12_picks_b57 a0 x1 M oa0 _ _ hK4 h
set_option maxHeartbeats 4000000 in
set_option maxRecDepth 100000 in
theorem bX12_picks_b4 {G : GG} (a0 : Nat) (x1 : Int) (M : MM) (oa0 : OB L0 a0 12) {res : Int} : ∀ (n : Nat) (x2 : Int) (x3 : Int)  (h : sX12_picks_b4 a0 x1 M n x2 x3 = some res), VV G xX12_picks (ZM G xX12_picks (some (.int (eI res))) L0 M) L0 M 0 0 4 [(0, .ref (gA G a0)), (1, .int (eI x1)), (2, .int (eI x2)), (3, .int (eI x3))] [] := by
  intro n
  induction n with
  | zero =>
    intro x2 x3 h
    rw [sX12_picks_b4] at h
    cases h
  | succ n ih =>
    intro x2 x3 h
    rw [sX12_picks_b4] at h
    refine r_iload_n (pc := 4) (i := 3) dX12_picks_4 rfl 3 rfl ?_
    refine r_aload_n (pc := 5) (i := 0) dX12_picks_5 rfl 0 rfl ?_
    refine r_getI (pc := 6) fg_12_319 rfl oa0 dX12_picks_6 ?_
    refine r_icmp_ge (pc := 9) (tgt := 64) dX12_picks_9 (by decide) rfl rfl (fun c_1 => ?_) (fun c_1 => ?_)
    · replace h := (if_pos c_1).symm.trans h
      refine r_iload_n (pc := 64) (i := 2) dX12_picks_64 rfl 2 rfl ?_
      cases h
      exact r_iret (pc := 65) rfl rfl (Nat.le_refl 0) (Nat.le_refl 0) dX12_picks_65
    · replace h := (if_neg c_1).symm.trans h
      refine r_aload_n (pc := 12) (i := 0) dX12_picks_12 rfl 0 rfl ?_
      refine r_iload_n (pc := 13) (i := 3) dX12_picks_13 rfl 3 rfl ?_
      refine r_iload_n (pc := 14) (i := 1) dX12_picks_14 rfl 1 rfl ?_
      obtain ⟨q_2, hq_2, h⟩ := ob h
      refine r_cV (pc := 15) (Y := xX12_wayTo) (As := [.int (eI x3), .int (eI x1)]) (rest := []) (v := (some (.int (eI q_2)))) (st1 := [.int (eI q_2)]) ck_X12_picks_530 (kX12_wayTo a0 x3 x1 M oa0 hq_2) oa0 rfl rfl rfl rfl (Nat.le_of_ble_eq_true rfl) ⟨rfl, rfl⟩ rfl dX12_picks_15 ?_
      refine r_aload_n (pc := 18) (i := 0) dX12_picks_18 rfl 0 rfl ?_
      refine r_iload_n (pc := 19) (i := 2) dX12_picks_19 rfl 2 rfl ?_
      refine r_iload_n (pc := 20) (i := 1) dX12_picks_20 rfl 1 rfl ?_
      obtain ⟨q_3, hq_3, h⟩ := ob h
      refine r_cV (pc := 21) (Y := xX12_wayTo) (As := [.int (eI x2), .int (eI x1)]) (rest := [.int (eI q_2)]) (v := (some (.int (eI q_3)))) (st1 := [.int (eI q_3), .int (eI q_2)]) ck_X12_picks_530 (kX12_wayTo a0 x2 x1 M oa0 hq_3) oa0 rfl rfl rfl rfl (Nat.le_of_ble_eq_true rfl) ⟨rfl, rfl⟩ rfl dX12_picks_21 ?_
      refine r_isub (pc := 24) dX12_picks_24 ?_
      refine r_istore (pc := 25) (lv' := [(4, .int (eI (q_2 - q_3))), (0, .ref (gA G a0)), (1, .int (eI x1)), (2, .int (eI x2)), (3, .int (eI x3))]) dX12_picks_25 (Nat.le_of_ble_eq_true rfl) rfl ?_
      refine r_iload (pc := 27) dX12_picks_27 0 rfl ?_
      refine r_if_lt (pc := 29) (tgt := 52) dX12_picks_29 (by decide) rfl (fun c_4 => ?_) (fun c_4 => ?_)
      · replace h := (if_pos c_4).symm.trans h
        refine r_sub (lv' := [(0, .ref (gA G a0)), (1, .int (eI x1)), (3, .int (eI x3))]) [1, 2, 4] rfl ?_
        exact bX12_picks_b52 a0 x1 M oa0 _ (fun v0 v1 v2 => ih v0 v1 v2) h
      · replace h := (if_neg c_4).symm.trans h
        refine r_iload (pc := 32) dX12_picks_32 0 rfl ?_
        refine r_if_ne (pc := 34) (tgt := 56) dX12_picks_34 (by decide) rfl (fun c_5 => ?_) (fun c_5 => ?_)
        · replace h := (if_neg c_5).symm.trans h
          refine r_sub (lv' := [(0, .ref (gA G a0)), (1, .int (eI x1)), (2, .int (eI x2)), (3, .int (eI x3))]) [1, 2, 3, 4] rfl ?_
          exact bX12_picks_b56 a0 x1 M oa0 _ _ (fun v0 v1 v2 => ih v0 v1 v2) h
        · replace h := (if_pos c_5).symm.trans h
          refine r_aload_n (pc := 37) (i := 0) dX12_picks_37 rfl 1 rfl ?_
          refine r_iload_n (pc := 38) (i := 3) dX12_picks_38 rfl 4 rfl ?_
          refine r_iconst (pc := 39) (v := 3) dX12_picks_39 (by decide +kernel) ?_
          obtain ⟨q_6, hq_6, h⟩ := ob h
          refine r_cV (pc := 40) (Y := xX12_ofChild) (As := [.int (eI x3), .int (eI 3)]) (rest := []) (v := (some (.int (eI q_6)))) (st1 := [.int (eI q_6)]) ck_X12_picks_334 (kX12_ofChild a0 x3 3 M oa0 hq_6) oa0 rfl rfl rfl rfl (Nat.le_of_ble_eq_true rfl) ⟨rfl, rfl⟩ rfl dX12_picks_40 ?_
          refine r_aload_n (pc := 43) (i := 0) dX12_picks_43 rfl 1 rfl ?_
          refine r_iload_n (pc := 44) (i := 2) dX12_picks_44 rfl 3 rfl ?_
          refine r_iconst (pc := 45) (v := 3) dX12_picks_45 (by decide +kernel) ?_
          obtain ⟨q_7, hq_7, h⟩ := ob h
          refine r_cV (pc := 46) (Y := xX12_ofChild) (As := [.int (eI x2), .int (eI 3)]) (rest := [.int (eI q_6)]) (v := (some (.int (eI q_7)))) (st1 := [.int (eI q_7), .int (eI q_6)]) ck_X12_picks_334 (kX12_ofChild a0 x2 3 M oa0 hq_7) oa0 rfl rfl rfl rfl (Nat.le_of_ble_eq_true rfl) ⟨rfl, rfl⟩ rfl dX12_picks_46 ?_
          refine r_icmp_le (pc := 49) (tgt := 56) dX12_picks_49 (by decide) rfl rfl (fun c_8 => ?_) (fun c_8 => ?_)
          · replace h := (if_pos c_8).symm.trans h
            refine r_sub (lv' := [(0, .ref (gA G a0)), (1, .int (eI x1)), (2, .int (eI x2)), (3, .int (eI x3))]) [1, 2, 3, 4] rfl ?_
            exact bX12_picks_b56 a0 x1 M oa0 _ _ (fun v0 v1 v2 => ih v0 v1 v2) h
          · replace h := (if_neg c_8).symm.trans h
            refine r_sub (lv' := [(0, .ref (gA G a0)), (1, .int (eI x1)), (3, .int (eI x3))]) [1, 2, 4] rfl ?_
            exact bX12_picks_b52 a0 x1 M oa0 _ (fun v0 v1 v2 => ih v0 v1 v2) h
set_option maxHeartbeats 4000000 in
set_option maxRecDepth 100000 in
theorem bX12_picks_b0 {G : GG} (a0 : Nat) (x1 : Int) (M : MM) (oa0 : OB L0 a0 12)  {res : Int}  (h : sX12_picks_b0 a0 x1 M = some res) : VV G xX12_picks (ZM G xX12_picks (some (.int (eI res))) L0 M) L0 M 0 0 0 [(0, .ref (gA G a0)), (1, .int (eI x1))] [] := by
  unfold sX12_picks_b0 at h
  refine r_iconst (pc := 0) (v := 0) dX12_picks_0 (by decide +kernel) ?_
  refine r_istore_n (pc := 1) (i := 2) (lv' := [(2, .int (eI 0)), (0, .ref (gA G a0)), (1, .int (eI x1))]) dX12_picks_1 rfl (Nat.le_of_ble_eq_true rfl) rfl ?_
  refine r_iconst (pc := 2) (v := 1) dX12_picks_2 (by decide +kernel) ?_
  refine r_istore_n (pc := 3) (i := 3) (lv' := [(3, .int (eI 1)), (2, .int (eI 0)), (0, .ref (gA G a0)), (1, .int (eI x1))]) dX12_picks_3 rfl (Nat.le_of_ble_eq_true rfl) rfl ?_
  refine r_sub (lv' := [(0, .ref (gA G a0)), (1, .int (eI x1)), (2, .int (eI 0)), (3, .int (eI 1))]) [2, 3, 1, 0] rfl ?_
  exact bX12_picks_b4 a0 x1 M oa0 _ _ _ h
theorem kX12_picks {G : GG} (a0 : Nat) (x1 : Int) (M : MM) {res : Int} (oa0 : OB L0 a0 12) (h : sX12_picks a0 x1 M = some res) : CO G xX12_picks [.ref (gA G a0), .int (eI x1)] L0 M (some (.int (eI res))) L0 M := CO_of (by decide +kernel) (Nat.le_of_ble_eq_true rfl) (bX12_picks_b0 a0 x1 M oa0 h)
