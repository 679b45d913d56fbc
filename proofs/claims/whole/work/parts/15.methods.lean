abbrev xX12_fails : XX := (yX12_fails, cX12_fails, 1, (some .boolean), 0, 0, 0, 0)
def sX12_fails_b0 (a0 : Nat)   (M : MM) : Option (Int × MM) := ((some (mU M a0 17 (M a0 13))).bind fun M_1 => (some ((0, M_1))))
def sX12_fails (a0 : Nat) (M : MM) : Option (Int × MM) := sX12_fails_b0 a0 M
set_option maxHeartbeats 4000000 in
set_option maxRecDepth 100000 in
theorem bX12_fails_b0 {G : GG} (a0 : Nat) (oa0 : OB L0 a0 12)  (M : MM) {res : (Int × MM)}  (h : sX12_fails_b0 a0 M = some res) : VV G xX12_fails (ZM G xX12_fails (some (.int (eI res.1))) L0 res.2) L0 M 0 0 0 [(0, .ref (gA G a0))] [] := by
  unfold sX12_fails_b0 at h
  refine r_aload_n (pc := 0) (i := 0) dX12_fails_0 rfl 0 rfl ?_
  refine r_aload_n (pc := 1) (i := 0) dX12_fails_1 rfl 0 rfl ?_
  refine r_getI (pc := 2) fg_12_123 rfl oa0 dX12_fails_2 ?_
  obtain ⟨M_1, hM_1, h⟩ := ob h
  refine r_putI (pc := 5) fg_12_136 rfl oa0 hM_1 rfl rfl dX12_fails_5 ?_
  refine r_iconst (pc := 8) (v := 0) dX12_fails_8 (by decide +kernel) ?_
  cases h
  exact r_iret (pc := 9) rfl (zn_ok (Or.inl rfl)).1 (Nat.le_refl 0) (Nat.le_refl 0) dX12_fails_9
theorem kX12_fails {G : GG} (a0 : Nat) (M : MM) {res : (Int × MM)} (oa0 : OB L0 a0 12) (h : sX12_fails a0 M = some res) : CO G xX12_fails [.ref (gA G a0)] L0 M (some (.int (eI res.1))) L0 res.2 := CO_of (by decide +kernel) (Nat.le_of_ble_eq_true rfl) (bX12_fails_b0 a0 oa0 M h)
abbrev xX12_later : XX := (yX12_later, cX12_later, 3, none, 0, 0, 0, 0)
def sX12_later_b31 (a0 : Nat) (x1 : Int) (x2 : Int)   (M : MM) : Option MM := ((some (mU M a0 18 x1)).bind fun M_1 => ((some (mU M_1 a0 19 x2)).bind fun M_2 => (some (M_2))))
def sX12_later_b0 (a0 : Nat) (x1 : Int) (x2 : Int)   (M : MM) : Option MM := (if wI (M a0 18) = 0 then (sX12_later_b31 a0 x1 x2 M) else (if wI x2 < wI (M a0 19) then (sX12_later_b31 a0 x1 x2 M) else (if wI x2 = wI (M a0 19) then (if wI (M a0 18) ≤ wI x1 then (some (M)) else (sX12_later_b31 a0 x1 x2 M)) else (some (M)))))
def sX12_later (a0 : Nat) (x1 : Int) (x2 : Int) (M : MM) : Option MM := sX12_later_b0 a0 x1 x2 M
set_option maxHeartbeats 4000000 in
set_option maxRecDepth 100000 in
theorem bX12_later_b31 {G : GG} (a0 : Nat) (x1 : Int) (x2 : Int) (oa0 : OB L0 a0 12)  (M : MM) {res : MM}  (h : sX12_later_b31 a0 x1 x2 M = some res) : VV G xX12_later (ZM G xX12_later (none) L0 res) L0 M 0 0 31 [(0, .ref (gA G a0)), (1, .int (eI x1)), (2, .int (eI x2))] [] := by
  unfold sX12_later_b31 at h
  refine r_aload_n (pc := 31) (i := 0) dX12_later_31 rfl 0 rfl ?_
  refine r_iload_n (pc := 32) (i := 1) dX12_later_32 rfl 1 rfl ?_
  obtain ⟨M_1, hM_1, h⟩ := ob h
  refine r_putI (pc := 33) fg_12_139 rfl oa0 hM_1 rfl rfl dX12_later_33 ?_
  refine r_aload_n (pc := 36) (i := 0) dX12_later_36 rfl 0 rfl ?_
  refine r_iload_n (pc := 37) (i := 2) dX12_later_37 rfl 2 rfl ?_
  obtain ⟨M_2, hM_2, h⟩ := ob h
  refine r_putI (pc := 38) fg_12_142 rfl oa0 hM_2 rfl rfl dX12_later_38 ?_
  cases h
  exact r_vret (pc := 41) rfl (Nat.le_refl 0) (Nat.le_refl 0) dX12_later_41
set_option maxHeartbeats 4000000 in
set_option maxRecDepth 100000 in
theorem bX12_later_b0 {G : GG} (a0 : Nat) (x1 : Int) (x2 : Int) (oa0 : OB L0 a0 12)  (M : MM) {res : MM}  (h : sX12_later_b0 a0 x1 x2 M = some res) : VV G xX12_later (ZM G xX12_later (none) L0 res) L0 M 0 0 0 [(0, .ref (gA G a0)), (1, .int (eI x1)), (2, .int (eI x2))] [] := by
  unfold sX12_later_b0 at h
  refine r_aload_n (pc := 0) (i := 0) dX12_later_0 rfl 0 rfl ?_
  refine r_getI (pc := 1) fg_12_139 rfl oa0 dX12_later_1 ?_
  refine r_if_eq (pc := 4) (tgt := 31) dX12_later_4 (by decide) rfl (fun c_1 => ?_) (fun c_1 => ?_)
  · replace h := (if_pos c_1).symm.trans h
    refine r_sub (lv' := [(0, .ref (gA G a0)), (1, .int (eI x1)), (2, .int (eI x2))]) [0, 1, 2] rfl ?_
    exact bX12_later_b31 a0 x1 x2 oa0 _ h
  · replace h := (if_neg c_1).symm.trans h
    refine r_iload_n (pc := 7) (i := 2) dX12_later_7 rfl 2 rfl ?_
    refine r_aload_n (pc := 8) (i := 0) dX12_later_8 rfl 0 rfl ?_
    refine r_getI (pc := 9) fg_12_142 rfl oa0 dX12_later_9 ?_
    refine r_icmp_lt (pc := 12) (tgt := 31) dX12_later_12 (by decide) rfl rfl (fun c_2 => ?_) (fun c_2 => ?_)
    · replace h := (if_pos c_2).symm.trans h
      refine r_sub (lv' := [(0, .ref (gA G a0)), (1, .int (eI x1)), (2, .int (eI x2))]) [0, 1, 2] rfl ?_
      exact bX12_later_b31 a0 x1 x2 oa0 _ h
    · replace h := (if_neg c_2).symm.trans h
      refine r_iload_n (pc := 15) (i := 2) dX12_later_15 rfl 2 rfl ?_
      refine r_aload_n (pc := 16) (i := 0) dX12_later_16 rfl 0 rfl ?_
      refine r_getI (pc := 17) fg_12_142 rfl oa0 dX12_later_17 ?_
      refine r_icmp_ne (pc := 20) (tgt := 41) dX12_later_20 (by decide) rfl rfl (fun c_3 => ?_) (fun c_3 => ?_)
      · replace h := (if_neg c_3).symm.trans h
        cases h
        exact r_vret (pc := 41) rfl (Nat.le_refl 0) (Nat.le_refl 0) dX12_later_41
      · replace h := (if_pos c_3).symm.trans h
        refine r_iload_n (pc := 23) (i := 1) dX12_later_23 rfl 1 rfl ?_
        refine r_aload_n (pc := 24) (i := 0) dX12_later_24 rfl 0 rfl ?_
        refine r_getI (pc := 25) fg_12_139 rfl oa0 dX12_later_25 ?_
        refine r_icmp_ge (pc := 28) (tgt := 41) dX12_later_28 (by decide) rfl rfl (fun c_4 => ?_) (fun c_4 => ?_)
        · replace h := (if_pos c_4).symm.trans h
          cases h
          exact r_vret (pc := 41) rfl (Nat.le_refl 0) (Nat.le_refl 0) dX12_later_41
        · replace h := (if_neg c_4).symm.trans h
          refine r_sub (lv' := [(0, .ref (gA G a0)), (1, .int (eI x1)), (2, .int (eI x2))]) [0, 1, 2] rfl ?_
          exact bX12_later_b31 a0 x1 x2 oa0 _ h
theorem kX12_later {G : GG} (a0 : Nat) (x1 : Int) (x2 : Int) (M : MM) {res : MM} (oa0 : OB L0 a0 12) (h : sX12_later a0 x1 x2 M = some res) : CO G xX12_later [.ref (gA G a0), .int (eI x1), .int (eI x2)] L0 M (none) L0 res := CO_of (by decide +kernel) (Nat.le_of_ble_eq_true rfl) (bX12_later_b0 a0 x1 x2 oa0 M h)
abbrev xX12_takeBut : XX := (yX12_takeBut, cX12_takeBut, 5, (some .boolean), 2, 44, 0, 0)
theorem ck_X12_takeBut_105 : CKS xX12_takeBut 105 xX12_in 3 := ⟨⟨tb_i 1622 (by decide +kernel) (by decide +kernel), tb_i 152 (by decide +kernel) (by decide +kernel), tb_i 1624 (by decide +kernel) (by decide +kernel), ⟨by decide +kernel, by decide +kernel, by decide +kernel⟩, by decide, by decide⟩, tb_i 1623 (by decide +kernel) (by decide +kernel)⟩
theorem ck_X12_takeBut_145 : CKV xX12_takeBut 145 xX12_fails 0 := ⟨⟨tb_i 1676 (by decide +kernel) (by decide +kernel), tb_i 152 (by decide +kernel) (by decide +kernel), tb_i 1679 (by decide +kernel) (by decide +kernel), ⟨by decide +kernel, by decide +kernel, by decide +kernel⟩, by decide, by decide⟩, tb_i 1678 (by decide +kernel) (by decide +kernel), tb_i 55 (by decide +kernel) (by decide +kernel)⟩
theorem ck_X12_takeBut_149 : CKV xX12_takeBut 149 xX12_later 2 := ⟨⟨tb_i 1684 (by decide +kernel) (by decide +kernel), tb_i 152 (by decide +kernel) (by decide +kernel), tb_i 1687 (by decide +kernel) (by decide +kernel), ⟨by decide +kernel, by decide +kernel, by decide +kernel⟩, by decide, by decide⟩, tb_i 1686 (by decide +kernel) (by decide +kernel), tb_i 57 (by decide +kernel) (by decide +kernel)⟩
theorem ck_X12_takeBut_157 : CKV xX12_takeBut 157 xX12_token 0 := ⟨⟨tb_i 1641 (by decide +kernel) (by decide +kernel), tb_i 152 (by decide +kernel) (by decide +kernel), tb_i 1644 (by decide +kernel) (by decide +kernel), ⟨by decide +kernel, by decide +kernel, by decide +kernel⟩, by decide, by decide⟩, tb_i 1643 (by decide +kernel) (by decide +kernel), tb_i 50 (by decide +kernel) (by decide +kernel)⟩
def sX12_takeBut_b58 (a0 : Nat) (x1 : Int) (x2 : Int) (x3 : Int) (x4 : Int)   (M : MM) : Option (Int × MM) := ((sX12_token a0 M).bind fun q_1 => (some ((1, q_1))))
def sX12_takeBut_b44 (a0 : Nat) (x1 : Int) (x2 : Int) (x3 : Int) (x4 : Int)   (M : MM) : Option (Int × MM) := ((sX12_later a0 2 (M a0 13) M).bind fun q_1 => ((some (mU q_1 a0 23 0)).bind fun M_2 => (sX12_takeBut_b58 a0 x1 x2 x3 x4 M_2)))
def sX12_takeBut_b0 (a0 : Nat) (x1 : Int) (x2 : Int) (x3 : Int) (x4 : Int)   (M : MM) : Option (Int × MM) := (if wI (M a0 14) = 3 then (if 0 ≤ wI x1 ∧ wI x1 < 4 then ((some (mU M (gR a0 21) (wI x1).toNat (M a0 15))).bind fun M_4 => (if wI (sX12_in (M_4 a0 15) x2 x3) = 0 then (sX12_takeBut_b44 a0 x1 x2 x3 x4 M_4) else (if wI (M_4 a0 15) = wI x4 then (sX12_takeBut_b44 a0 x1 x2 x3 x4 M_4) else (sX12_takeBut_b58 a0 x1 x2 x3 x4 M_4)))) else none) else ((sX12_fails a0 M).bind fun q_7 => (if (q_7.1) = 0 ∨ (q_7.1) = 1 then (some (((q_7.1), q_7.2))) else none)))
def sX12_takeBut (a0 : Nat) (x1 : Int) (x2 : Int) (x3 : Int) (x4 : Int) (M : MM) : Option (Int × MM) := sX12_takeBut_b0 a0 x1 x2 x3 x4 M
set_option maxHeartbeats 4000000 in
set_option maxRecDepth 100000 in
theorem bX12_takeBut_b58 {G : GG} (a0 : Nat) (x1 : Int) (x2 : Int) (x3 : Int) (x4 : Int) (oa0 : OB L0 a0 12)  (M : MM) {res : (Int × MM)}  (h : sX12_takeBut_b58 a0 x1 x2 x3 x4 M = some res) : VV G xX12_takeBut (ZM G xX12_takeBut (some (.int (eI res.1))) L0 res.2) L0 M 0 0 58 [(0, .ref (gA G a0))] [] := by
  unfold sX12_takeBut_b58 at h
  refine r_aload_n (pc := 58) (i := 0) dX12_takeBut_58 rfl 0 rfl ?_
  obtain ⟨q_1, hq_1, h⟩ := ob h
  refine r_cV (pc := 59) (Y := xX12_token) (As := []) (rest := []) (v := none) (st1 := []) ck_X12_takeBut_157 (kX12_token a0 M oa0 hq_1) oa0 rfl rfl rfl rfl (Nat.le_of_ble_eq_true rfl) ⟨rfl, rfl⟩ rfl dX12_takeBut_59 ?_
  refine r_iconst (pc := 62) (v := 1) dX12_takeBut_62 (by decide +kernel) ?_
  cases h
  exact r_iret (pc := 63) rfl (zn_ok (Or.inr rfl)).1 (Nat.le_refl 0) (Nat.le_refl 0) dX12_takeBut_63
set_option maxHeartbeats 4000000 in
set_option maxRecDepth 100000 in
theorem bX12_takeBut_b44 {G : GG} (a0 : Nat) (x1 : Int) (x2 : Int) (x3 : Int) (x4 : Int) (oa0 : OB L0 a0 12)  (M : MM) {res : (Int × MM)}  (h : sX12_takeBut_b44 a0 x1 x2 x3 x4 M = some res) : VV G xX12_takeBut (ZM G xX12_takeBut (some (.int (eI res.1))) L0 res.2) L0 M 0 0 44 [(0, .ref (gA G a0))] [] := by
  unfold sX12_takeBut_b44 at h
  refine r_aload_n (pc := 44) (i := 0) dX12_takeBut_44 rfl 0 rfl ?_
  refine r_iconst (pc := 45) (v := 2) dX12_takeBut_45 (by decide +kernel) ?_
  refine r_aload_n (pc := 46) (i := 0) dX12_takeBut_46 rfl 0 rfl ?_
  refine r_getI (pc := 47) fg_12_123 rfl oa0 dX12_takeBut_47 ?_
  obtain ⟨q_1, hq_1, h⟩ := ob h
  refine r_cV (pc := 50) (Y := xX12_later) (As := [.int (eI 2), .int (eI (M a0 13))]) (rest := []) (v := none) (st1 := []) ck_X12_takeBut_149 (kX12_later a0 2 (M a0 13) M oa0 hq_1) oa0 rfl rfl rfl rfl (Nat.le_of_ble_eq_true rfl) ⟨rfl, rfl⟩ rfl dX12_takeBut_50 ?_
  refine r_aload_n (pc := 53) (i := 0) dX12_takeBut_53 rfl 0 rfl ?_
  refine r_iconst (pc := 54) (v := 0) dX12_takeBut_54 (by decide +kernel) ?_
  obtain ⟨M_2, hM_2, h⟩ := ob h
  refine r_putI (pc := 55) fg_12_153 rfl oa0 hM_2 (by decide +kernel) (by decide +kernel) dX12_takeBut_55 ?_
  refine r_sub (lv' := [(0, .ref (gA G a0))]) [0] rfl ?_
  exact bX12_takeBut_b58 a0 x1 x2 x3 x4 oa0 _ h
set_option maxHeartbeats 4000000 in
set_option maxRecDepth 100000 in
theorem bX12_takeBut_b0 {G : GG} (a0 : Nat) (x1 : Int) (x2 : Int) (x3 : Int) (x4 : Int) (oa0 : OB L0 a0 12)  (M : MM) {res : (Int × MM)}  (h : sX12_takeBut_b0 a0 x1 x2 x3 x4 M = some res) : VV G xX12_takeBut (ZM G xX12_takeBut (some (.int (eI res.1))) L0 res.2) L0 M 0 0 0 [(0, .ref (gA G a0)), (1, .int (eI x1)), (2, .int (eI x2)), (3, .int (eI x3)), (4, .int (eI x4))] [] := by
  unfold sX12_takeBut_b0 at h
  refine r_aload_n (pc := 0) (i := 0) dX12_takeBut_0 rfl 0 rfl ?_
  refine r_getI (pc := 1) fg_12_130 rfl oa0 dX12_takeBut_1 ?_
  refine r_iconst (pc := 4) (v := 3) dX12_takeBut_4 (by decide +kernel) ?_
  refine r_icmp_eq (pc := 5) (tgt := 13) dX12_takeBut_5 (by decide) rfl wl_3 (fun c_1 => ?_) (fun c_1 => ?_)
  · replace h := (if_pos c_1).symm.trans h
    refine r_aload_n (pc := 13) (i := 0) dX12_takeBut_13 rfl 0 rfl ?_
    have o_2 := (wt_12_21 oa0).2
    refine r_getR (pc := 14) fg_12_44 rfl oa0 (wt_12_21 oa0).1 dX12_takeBut_14 ?_
    refine r_iload_n (pc := 17) (i := 1) dX12_takeBut_17 rfl 1 rfl ?_
    refine r_aload_n (pc := 18) (i := 0) dX12_takeBut_18 rfl 0 rfl ?_
    refine r_getI (pc := 19) fg_12_133 rfl oa0 dX12_takeBut_19 ?_
    obtain ⟨c_3, h⟩ := og h
    obtain ⟨M_4, hM_4, h⟩ := ob h
    refine r_iast (pc := 22) o_2 rfl c_3 rfl hM_4 dX12_takeBut_22 ?_
    refine r_aload_n (pc := 23) (i := 0) dX12_takeBut_23 rfl 0 rfl ?_
    refine r_getI (pc := 24) fg_12_133 rfl oa0 dX12_takeBut_24 ?_
    refine r_iload_n (pc := 27) (i := 2) dX12_takeBut_27 rfl 2 rfl ?_
    refine r_iload_n (pc := 28) (i := 3) dX12_takeBut_28 rfl 3 rfl ?_
    refine r_cS (pc := 29) (Y := xX12_in) (As := [.int (eI (M_4 a0 15)), .int (eI x2), .int (eI x3)]) (rest := []) (v := (some (.int (eI (sX12_in (M_4 a0 15) x2 x3))))) (st1 := [.int (eI (sX12_in (M_4 a0 15) x2 x3))]) ck_X12_takeBut_105 (kX12_in (M_4 a0 15) x2 x3 M_4 ) rfl rfl (Nat.le_of_ble_eq_true rfl) ⟨rfl, rfl⟩ rfl dX12_takeBut_29 ?_
    refine r_if_eq (pc := 32) (tgt := 44) dX12_takeBut_32 (by decide) rfl (fun c_5 => ?_) (fun c_5 => ?_)
    · replace h := (if_pos c_5).symm.trans h
      refine r_sub (lv' := [(0, .ref (gA G a0))]) [0] rfl ?_
      exact bX12_takeBut_b44 a0 x1 x2 x3 x4 oa0 _ h
    · replace h := (if_neg c_5).symm.trans h
      refine r_aload_n (pc := 35) (i := 0) dX12_takeBut_35 rfl 0 rfl ?_
      refine r_getI (pc := 36) fg_12_133 rfl oa0 dX12_takeBut_36 ?_
      refine r_iload (pc := 39) dX12_takeBut_39 4 rfl ?_
      refine r_icmp_ne (pc := 41) (tgt := 58) dX12_takeBut_41 (by decide) rfl rfl (fun c_6 => ?_) (fun c_6 => ?_)
      · replace h := (if_neg c_6).symm.trans h
        refine r_sub (lv' := [(0, .ref (gA G a0))]) [0] rfl ?_
        exact bX12_takeBut_b58 a0 x1 x2 x3 x4 oa0 _ h
      · replace h := (if_pos c_6).symm.trans h
        refine r_sub (lv' := [(0, .ref (gA G a0))]) [0] rfl ?_
        exact bX12_takeBut_b44 a0 x1 x2 x3 x4 oa0 _ h
  · replace h := (if_neg c_1).symm.trans h
    refine r_aload_n (pc := 8) (i := 0) dX12_takeBut_8 rfl 0 rfl ?_
    obtain ⟨q_7, hq_7, h⟩ := ob h
    refine r_cV (pc := 9) (Y := xX12_fails) (As := []) (rest := []) (v := (some (.int (eI (q_7.1))))) (st1 := [.int (eI (q_7.1))]) ck_X12_takeBut_145 (kX12_fails a0 M oa0 hq_7) oa0 rfl rfl rfl rfl (Nat.le_of_ble_eq_true rfl) ⟨rfl, rfl⟩ rfl dX12_takeBut_9 ?_
    obtain ⟨c_8, h⟩ := og h
    cases h
    exact r_iret (pc := 12) rfl (zn_ok c_8).1 (Nat.le_refl 0) (Nat.le_refl 0) dX12_takeBut_12
theorem kX12_takeBut {G : GG} (a0 : Nat) (x1 : Int) (x2 : Int) (x3 : Int) (x4 : Int) (M : MM) {res : (Int × MM)} (oa0 : OB L0 a0 12) (h : sX12_takeBut a0 x1 x2 x3 x4 M = some res) : CO G xX12_takeBut [.ref (gA G a0), .int (eI x1), .int (eI x2), .int (eI x3), .int (eI x4)] L0 M (some (.int (eI res.1))) L0 res.2 := CO_of (by decide +kernel) (Nat.le_of_ble_eq_true rfl) (bX12_takeBut_b0 a0 x1 x2 x3 x4 oa0 M h)
abbrev xX12_take : XX := (yX12_take, cX12_take, 4, (some .boolean), 3, 68, 0, 0)
theorem ck_X12_take_160 : CKV xX12_take 160 xX12_takeBut 4 := ⟨⟨tb_i 1696 (by decide +kernel) (by decide +kernel), tb_i 152 (by decide +kernel) (by decide +kernel), tb_i 1699 (by decide +kernel) (by decide +kernel), ⟨by decide +kernel, by decide +kernel, by decide +kernel⟩, by decide, by decide⟩, tb_i 1698 (by decide +kernel) (by decide +kernel), tb_i 60 (by decide +kernel) (by decide +kernel)⟩
def sX12_take_b0 (a0 : Nat) (x1 : Int) (x2 : Int) (x3 : Int)   (M : MM) : Option (Int × MM) := ((sX12_takeBut a0 x1 x2 x3 (-1) M).bind fun q_1 => (if (q_1.1) = 0 ∨ (q_1.1) = 1 then (some (((q_1.1), q_1.2))) else none))
def sX12_take (a0 : Nat) (x1 : Int) (x2 : Int) (x3 : Int) (M : MM) : Option (Int × MM) := sX12_take_b0 a0 x1 x2 x3 M
set_option maxHeartbeats 4000000 in
set_option maxRecDepth 100000 in
theorem bX12_take_b0 {G : GG} (a0 : Nat) (x1 : Int) (x2 : Int) (x3 : Int) (oa0 : OB L0 a0 12)  (M : MM) {res : (Int × MM)}  (h : sX12_take_b0 a0 x1 x2 x3 M = some res) : VV G xX12_take (ZM G xX12_take (some (.int (eI res.1))) L0 res.2) L0 M 0 0 0 [(0, .ref (gA G a0)), (1, .int (eI x1)), (2, .int (eI x2)), (3, .int (eI x3))] [] := by
  unfold sX12_take_b0 at h
  refine r_aload_n (pc := 0) (i := 0) dX12_take_0 rfl 0 rfl ?_
  refine r_iload_n (pc := 1) (i := 1) dX12_take_1 rfl 1 rfl ?_
  refine r_iload_n (pc := 2) (i := 2) dX12_take_2 rfl 2 rfl ?_
  refine r_iload_n (pc := 3) (i := 3) dX12_take_3 rfl 3 rfl ?_
  refine r_iconst (pc := 4) (v := (-1)) dX12_take_4 (by decide +kernel) ?_
  obtain ⟨q_1, hq_1, h⟩ := ob h
  refine r_cV (pc := 5) (Y := xX12_takeBut) (As := [.int (eI x1), .int (eI x2), .int (eI x3), .int (eI (-1))]) (rest := []) (v := (some (.int (eI (q_1.1))))) (st1 := [.int (eI (q_1.1))]) ck_X12_take_160 (kX12_takeBut a0 x1 x2 x3 (-1) M oa0 hq_1) oa0 rfl rfl rfl rfl (Nat.le_of_ble_eq_true rfl) ⟨rfl, rfl⟩ rfl dX12_take_5 ?_
  obtain ⟨c_2, h⟩ := og h
  cases h
  exact r_iret (pc := 8) rfl (zn_ok c_2).1 (Nat.le_refl 0) (Nat.le_refl 0) dX12_take_8
theorem kX12_take {G : GG} (a0 : Nat) (x1 : Int) (x2 : Int) (x3 : Int) (M : MM) {res : (Int × MM)} (oa0 : OB L0 a0 12) (h : sX12_take a0 x1 x2 x3 M = some res) : CO G xX12_take [.ref (gA G a0), .int (eI x1), .int (eI x2), .int (eI x3)] L0 M (some (.int (eI res.1))) L0 res.2 := CO_of (by decide +kernel) (Nat.le_of_ble_eq_true rfl) (bX12_take_b0 a0 x1 x2 x3 oa0 M h)
abbrev xX12_takeChild : XX := (yX12_takeChild, cX12_takeChild, 4, (some .boolean), 3, 68, 0, 0)
theorem ck_X12_takeChild_160 : CKV xX12_takeChild 160 xX12_takeBut 4 := ⟨⟨tb_i 1696 (by decide +kernel) (by decide +kernel), tb_i 152 (by decide +kernel) (by decide +kernel), tb_i 1699 (by decide +kernel) (by decide +kernel), ⟨by decide +kernel, by decide +kernel, by decide +kernel⟩, by decide, by decide⟩, tb_i 1698 (by decide +kernel) (by decide +kernel), tb_i 60 (by decide +kernel) (by decide +kernel)⟩
theorem ck_X12_takeChild_167 : CKS xX12_takeChild 167 xX12_greater 2 := ⟨⟨tb_i 1700 (by decide +kernel) (by decide +kernel), tb_i 152 (by decide +kernel) (by decide +kernel), tb_i 1702 (by decide +kernel) (by decide +kernel), ⟨by decide +kernel, by decide +kernel, by decide +kernel⟩, by decide, by decide⟩, tb_i 1701 (by decide +kernel) (by decide +kernel)⟩
def sX12_takeChild_b35 (a0 : Nat) (x1 : Int) (x2 : Int)  (x3 : Int) (a90 : Nat) (x91 : Int) (M : MM) : Option (Int × MM) := ((some (mU M a90 22 x91)).bind fun M_1 => (if x3 = 0 ∨ x3 = 1 then (some ((x3, M_1))) else none))
def sX12_takeChild_b0 (a0 : Nat) (x1 : Int) (x2 : Int)   (M : MM) : Option (Int × MM) := ((sX12_takeBut a0 x1 0 7 x2 M).bind fun q_1 => (if wI (q_1.1) = 0 then (sX12_takeChild_b35 a0 x1 x2 (q_1.1) a0 (q_1.2 a0 22) q_1.2) else (if 0 ≤ wI x1 ∧ wI x1 < 4 then (sX12_takeChild_b35 a0 x1 x2 (q_1.1) a0 (sX12_greater (q_1.2 a0 22) (q_1.2 (gR a0 21) (wI x1).toNat)) q_1.2) else none)))
def sX12_takeChild (a0 : Nat) (x1 : Int) (x2 : Int) (M : MM) : Option (Int × MM) := sX12_takeChild_b0 a0 x1 x2 M
set_option maxHeartbeats 4000000 in
set_option maxRecDepth 100000 in
theorem bX12_takeChild_b35 {G : GG} (a0 : Nat) (x1 : Int) (x2 : Int) (oa0 : OB L0 a0 12) (x3 : Int) (a90 : Nat) (x91 : Int) (M : MM) {res : (Int × MM)} (oa90 : OB L0 a90 12) (h : sX12_takeChild_b35 a0 x1 x2 x3 a90 x91 M = some res) : VV G xX12_takeChild (ZM G xX12_takeChild (some (.int (eI res.1))) L0 res.2) L0 M 0 0 35 [(3, .int (eI x3))] [.int (eI x91), .ref (gA G a90)] := by
  unfold sX12_takeChild_b35 at h
  obtain ⟨M_1, hM_1, h⟩ := ob h
  refine r_putI (pc := 35) fg_12_164 rfl oa90 hM_1 rfl rfl dX12_takeChild_35 ?_
  refine r_iload_n (pc := 38) (i := 3) dX12_takeChild_38 rfl 0 rfl ?_
  obtain ⟨c_2, h⟩ := og h
  cases h
  exact r_iret (pc := 39) rfl (zn_ok c_2).1 (Nat.le_refl 0) (Nat.le_refl 0) dX12_takeChild_39
set_option maxHeartbeats 4000000 in
set_option maxRecDepth 100000 in
theorem bX12_takeChild_b0 {G : GG} (a0 : Nat) (x1 : Int) (x2 : Int) (oa0 : OB L0 a0 12)  (M : MM) {res : (Int × MM)}  (h : sX12_takeChild_b0 a0 x1 x2 M = some res) : VV G xX12_takeChild (ZM G xX12_takeChild (some (.int (eI res.1))) L0 res.2) L0 M 0 0 0 [(0, .ref (gA G a0)), (1, .int (eI x1)), (2, .int (eI x2))] [] := by
  unfold sX12_takeChild_b0 at h
  refine r_aload_n (pc := 0) (i := 0) dX12_takeChild_0 rfl 0 rfl ?_
  refine r_iload_n (pc := 1) (i := 1) dX12_takeChild_1 rfl 1 rfl ?_
  refine r_iconst (pc := 2) (v := 0) dX12_takeChild_2 (by decide +kernel) ?_
  refine r_bipush (pc := 3) (v := 7) dX12_takeChild_3 (by decide +kernel) ?_
  refine r_iload_n (pc := 5) (i := 2) dX12_takeChild_5 rfl 2 rfl ?_
  obtain ⟨q_1, hq_1, h⟩ := ob h
  refine r_cV (pc := 6) (Y := xX12_takeBut) (As := [.int (eI x1), .int (eI 0), .int (eI 7), .int (eI x2)]) (rest := []) (v := (some (.int (eI (q_1.1))))) (st1 := [.int (eI (q_1.1))]) ck_X12_takeChild_160 (kX12_takeBut a0 x1 0 7 x2 M oa0 hq_1) oa0 rfl rfl rfl rfl (Nat.le_of_ble_eq_true rfl) ⟨rfl, rfl⟩ rfl dX12_takeChild_6 ?_
  refine r_istore_n (pc := 9) (i := 3) (lv' := [(3, .int (eI (q_1.1))), (0, .ref (gA G a0)), (1, .int (eI x1)), (2, .int (eI x2))]) dX12_takeChild_9 rfl (Nat.le_of_ble_eq_true rfl) rfl ?_
  refine r_aload_n (pc := 10) (i := 0) dX12_takeChild_10 rfl 1 rfl ?_
  refine r_iload_n (pc := 11) (i := 3) dX12_takeChild_11 rfl 0 rfl ?_
  refine r_if_eq (pc := 12) (tgt := 31) dX12_takeChild_12 (by decide) rfl (fun c_2 => ?_) (fun c_2 => ?_)
  · replace h := (if_pos c_2).symm.trans h
    refine r_aload_n (pc := 31) (i := 0) dX12_takeChild_31 rfl 1 rfl ?_
    refine r_getI (pc := 32) fg_12_164 rfl oa0 dX12_takeChild_32 ?_
    refine r_sub (lv' := [(3, .int (eI (q_1.1)))]) [0] rfl ?_
    exact bX12_takeChild_b35 a0 x1 x2 oa0 _ _ _ _ oa0 h
  · replace h := (if_neg c_2).symm.trans h
    refine r_aload_n (pc := 15) (i := 0) dX12_takeChild_15 rfl 1 rfl ?_
    refine r_getI (pc := 16) fg_12_164 rfl oa0 dX12_takeChild_16 ?_
    refine r_aload_n (pc := 19) (i := 0) dX12_takeChild_19 rfl 1 rfl ?_
    have o_3 := (wt_12_21 oa0).2
    refine r_getR (pc := 20) fg_12_44 rfl oa0 (wt_12_21 oa0).1 dX12_takeChild_20 ?_
    refine r_iload_n (pc := 23) (i := 1) dX12_takeChild_23 rfl 2 rfl ?_
    obtain ⟨c_4, h⟩ := og h
    refine r_iald (pc := 24) o_3 rfl c_4 rfl dX12_takeChild_24 ?_
    refine r_cS (pc := 25) (Y := xX12_greater) (As := [.int (eI (q_1.2 a0 22)), .int (eI (q_1.2 (gR a0 21) (wI x1).toNat))]) (rest := [.ref (gA G a0)]) (v := (some (.int (eI (sX12_greater (q_1.2 a0 22) (q_1.2 (gR a0 21) (wI x1).toNat)))))) (st1 := [.int (eI (sX12_greater (q_1.2 a0 22) (q_1.2 (gR a0 21) (wI x1).toNat))), .ref (gA G a0)]) ck_X12_takeChild_167 (kX12_greater (q_1.2 a0 22) (q_1.2 (gR a0 21) (wI x1).toNat) q_1.2 ) rfl rfl (Nat.le_of_ble_eq_true rfl) ⟨rfl, rfl⟩ rfl dX12_takeChild_25 ?_
    refine r_goto (pc := 28) (tgt := 35) dX12_takeChild_28 (by decide) ?_
    refine r_sub (lv' := [(3, .int (eI (q_1.1)))]) [0] rfl ?_
    exact bX12_takeChild_b35 a0 x1 x2 oa0 _ _ _ _ oa0 h
theorem kX12_takeChild {G : GG} (a0 : Nat) (x1 : Int) (x2 : Int) (M : MM) {res : (Int × MM)} (oa0 : OB L0 a0 12) (h : sX12_takeChild a0 x1 x2 M = some res) : CO G xX12_takeChild [.ref (gA G a0), .int (eI x1), .int (eI x2)] L0 M (some (.int (eI res.1))) L0 res.2 := CO_of (by decide +kernel) (Nat.le_of_ble_eq_true rfl) (bX12_takeChild_b0 a0 x1 x2 oa0 M h)
abbrev xX12_full : XX := (yX12_full, cX12_full, 4, none, 1, 22, 0, 0)
theorem ck_X12_full_149 : CKV xX12_full 149 xX12_later 2 := ⟨⟨tb_i 1684 (by decide +kernel) (by decide +kernel), tb_i 152 (by decide +kernel) (by decide +kernel), tb_i 1687 (by decide +kernel) (by decide +kernel), ⟨by decide +kernel, by decide +kernel, by decide +kernel⟩, by decide, by decide⟩, tb_i 1686 (by decide +kernel) (by decide +kernel), tb_i 57 (by decide +kernel) (by decide +kernel)⟩
def sX12_full_b0 (a0 : Nat) (x1 : Int) (x2 : Int) (x3 : Int)   (M : MM) : Option MM := (if 0 ≤ wI x1 ∧ wI x1 < 132 then (if wI (M (gR a0 20) (wI x1).toNat) = wI x2 then ((sX12_later a0 3 x3 M).bind fun q_4 => (some (q_4))) else (some (M))) else none)
def sX12_full (a0 : Nat) (x1 : Int) (x2 : Int) (x3 : Int) (M : MM) : Option MM := sX12_full_b0 a0 x1 x2 x3 M
set_option maxHeartbeats 4000000 in
set_option maxRecDepth 100000 in
theorem bX12_full_b0 {G : GG} (a0 : Nat) (x1 : Int) (x2 : Int) (x3 : Int) (oa0 : OB L0 a0 12)  (M : MM) {res : MM}  (h : sX12_full_b0 a0 x1 x2 x3 M = some res) : VV G xX12_full (ZM G xX12_full (none) L0 res) L0 M 0 0 0 [(0, .ref (gA G a0)), (1, .int (eI x1)), (2, .int (eI x2)), (3, .int (eI x3))] [] := by
  unfold sX12_full_b0 at h
  refine r_aload_n (pc := 0) (i := 0) dX12_full_0 rfl 0 rfl ?_
  have o_1 := (wt_12_20 oa0).2
  refine r_getR (pc := 1) fg_12_41 rfl oa0 (wt_12_20 oa0).1 dX12_full_1 ?_
  refine r_iload_n (pc := 4) (i := 1) dX12_full_4 rfl 1 rfl ?_
  obtain ⟨c_2, h⟩ := og h
  refine r_iald (pc := 5) o_1 rfl c_2 rfl dX12_full_5 ?_
  refine r_iload_n (pc := 6) (i := 2) dX12_full_6 rfl 2 rfl ?_
  refine r_icmp_ne (pc := 7) (tgt := 16) dX12_full_7 (by decide) rfl rfl (fun c_3 => ?_) (fun c_3 => ?_)
  · replace h := (if_neg c_3).symm.trans h
    cases h
    exact r_vret (pc := 16) rfl (Nat.le_refl 0) (Nat.le_refl 0) dX12_full_16
  · replace h := (if_pos c_3).symm.trans h
    refine r_aload_n (pc := 10) (i := 0) dX12_full_10 rfl 0 rfl ?_
    refine r_iconst (pc := 11) (v := 3) dX12_full_11 (by decide +kernel) ?_
    refine r_iload_n (pc := 12) (i := 3) dX12_full_12 rfl 3 rfl ?_
    obtain ⟨q_4, hq_4, h⟩ := ob h
    refine r_cV (pc := 13) (Y := xX12_later) (As := [.int (eI 3), .int (eI x3)]) (rest := []) (v := none) (st1 := []) ck_X12_full_149 (kX12_later a0 3 x3 M oa0 hq_4) oa0 rfl rfl rfl rfl (Nat.le_of_ble_eq_true rfl) ⟨rfl, rfl⟩ rfl dX12_full_13 ?_
    cases h
    exact r_vret (pc := 16) rfl (Nat.le_refl 0) (Nat.le_refl 0) dX12_full_16
theorem kX12_full {G : GG} (a0 : Nat) (x1 : Int) (x2 : Int) (x3 : Int) (M : MM) {res : MM} (oa0 : OB L0 a0 12) (h : sX12_full a0 x1 x2 x3 M = some res) : CO G xX12_full [.ref (gA G a0), .int (eI x1), .int (eI x2), .int (eI x3)] L0 M (none) L0 res := CO_of (by decide +kernel) (Nat.le_of_ble_eq_true rfl) (bX12_full_b0 a0 x1 x2 x3 oa0 M h)
abbrev xX12_keep : XX := (yX12_keep, cX12_keep, 7, none, 0, 0, 0, 0)
def sX12_keep_b19 (a0 : Nat) (x1 : Int) (x2 : Int) (x3 : Int) (x4 : Int)  : Nat → Int → Int → MM → Option MM
  | 0, _, _, _ => none
  | n + 1, x5, x6, M => (if wI x3 ≤ wI x6 then (if 0 ≤ wI x1 ∧ wI x1 < 132 then (if 0 ≤ wI x1 ∧ wI x1 < 132 then ((some (mU M (gR a0 20) (wI x1).toNat ((M (gR a0 20) (wI x1).toNat) + 1))).bind fun M_5 => (some (M_5))) else none) else none) else (if 0 ≤ wI x6 ∧ wI x6 < 4 then (if 0 ≤ wI ((x2 + (x3 * x5)) + x6) ∧ wI ((x2 + (x3 * x5)) + x6) < 132 then ((some (mU M (gR a0 20) (wI ((x2 + (x3 * x5)) + x6)).toNat (M (gR a0 21) (wI x6).toNat))).bind fun M_10 => ((some (x6 + 1)).bind fun v_11 => (sX12_keep_b19 a0 x1 x2 x3 x4 n x5 v_11 M_10))) else none) else none))
def sX12_keep_b0 (a0 : Nat) (x1 : Int) (x2 : Int) (x3 : Int) (x4 : Int)   (M : MM) : Option MM := (if 0 ≤ wI x1 ∧ wI x1 < 132 then (if wI (M (gR a0 20) (wI x1).toNat) = wI x4 then (some (M)) else (sX12_keep_b19 a0 x1 x2 x3 x4 FU (M (gR a0 20) (wI x1).toNat) 0 M)) else none)
def sX12_keep (a0 : Nat) (x1 : Int) (x2 : Int) (x3 : Int) (x4 : Int) (M : MM) : Option MM := sX12_keep_b0 a0 x1 x2 x3 x4 M
set_option maxHeartbeats 4000000 in
set_option maxRecDepth 100000 in
theorem bX12_keep_b19 {G : GG} (a0 : Nat) (x1 : Int) (x2 : Int) (x3 : Int) (x4 : Int) (oa0 : OB L0 a0 12) {res : MM} : ∀ (n : Nat) (x5 : Int) (x6 : Int) (M : MM)  (h : sX12_keep_b19 a0 x1 x2 x3 x4 n x5 x6 M = some res), VV G xX12_keep (ZM G xX12_keep (none) L0 res) L0 M 0 0 19 [(0, .ref (gA G a0)), (1, .int (eI x1)), (2, .int (eI x2)), (3, .int (eI x3)), (5, .int (eI x5)), (6, .int (eI x6))] [] := by
  intro n
  induction n with
  | zero =>
    intro x5 x6 M h
    rw [sX12_keep_b19] at h
    cases h
  | succ n ih =>
    intro x5 x6 M h
    rw [sX12_keep_b19] at h
    refine r_iload (pc := 19) dX12_keep_19 5 rfl ?_
    refine r_iload_n (pc := 21) (i := 3) dX12_keep_21 rfl 3 rfl ?_
    refine r_icmp_ge (pc := 22) (tgt := 52) dX12_keep_22 (by decide) rfl rfl (fun c_1 => ?_) (fun c_1 => ?_)
    · replace h := (if_pos c_1).symm.trans h
      refine r_aload_n (pc := 52) (i := 0) dX12_keep_52 rfl 0 rfl ?_
      have o_2 := (wt_12_20 oa0).2
      refine r_getR (pc := 53) fg_12_41 rfl oa0 (wt_12_20 oa0).1 dX12_keep_53 ?_
      refine r_iload_n (pc := 56) (i := 1) dX12_keep_56 rfl 1 rfl ?_
      refine r_dup2 (pc := 57) dX12_keep_57 rfl rfl ?_
      obtain ⟨c_3, h⟩ := og h
      refine r_iald (pc := 58) o_2 rfl c_3 rfl dX12_keep_58 ?_
      refine r_iconst (pc := 59) (v := 1) dX12_keep_59 (by decide +kernel) ?_
      refine r_iadd (pc := 60) dX12_keep_60 ?_
      obtain ⟨c_4, h⟩ := og h
      obtain ⟨M_5, hM_5, h⟩ := ob h
      refine r_iast (pc := 61) o_2 rfl c_4 rfl hM_5 dX12_keep_61 ?_
      cases h
      exact r_vret (pc := 62) rfl (Nat.le_refl 0) (Nat.le_refl 0) dX12_keep_62
    · replace h := (if_neg c_1).symm.trans h
      refine r_aload_n (pc := 25) (i := 0) dX12_keep_25 rfl 0 rfl ?_
      have o_6 := (wt_12_20 oa0).2
      refine r_getR (pc := 26) fg_12_41 rfl oa0 (wt_12_20 oa0).1 dX12_keep_26 ?_
      refine r_iload_n (pc := 29) (i := 2) dX12_keep_29 rfl 2 rfl ?_
      refine r_iload_n (pc := 30) (i := 3) dX12_keep_30 rfl 3 rfl ?_
      refine r_iload (pc := 31) dX12_keep_31 4 rfl ?_
      refine r_imul (pc := 33) dX12_keep_33 ?_
      refine r_iadd (pc := 34) dX12_keep_34 ?_
      refine r_iload (pc := 35) dX12_keep_35 5 rfl ?_
      refine r_iadd (pc := 37) dX12_keep_37 ?_
      refine r_aload_n (pc := 38) (i := 0) dX12_keep_38 rfl 0 rfl ?_
      have o_7 := (wt_12_21 oa0).2
      refine r_getR (pc := 39) fg_12_44 rfl oa0 (wt_12_21 oa0).1 dX12_keep_39 ?_
      refine r_iload (pc := 42) dX12_keep_42 5 rfl ?_
      obtain ⟨c_8, h⟩ := og h
      refine r_iald (pc := 44) o_7 rfl c_8 rfl dX12_keep_44 ?_
      obtain ⟨c_9, h⟩ := og h
      obtain ⟨M_10, hM_10, h⟩ := ob h
      refine r_iast (pc := 45) o_6 rfl c_9 rfl hM_10 dX12_keep_45 ?_
      obtain ⟨v_11, hv_11, h⟩ := ob h
      refine r_iinc (pc := 46) (y := v_11) (lv' := [(6, .int (eI v_11)), (0, .ref (gA G a0)), (1, .int (eI x1)), (2, .int (eI x2)), (3, .int (eI x3)), (5, .int (eI x5))]) dX12_keep_46 5 rfl (Option.some.inj hv_11) (Nat.le_of_ble_eq_true rfl) rfl ?_
      refine r_goto (pc := 49) (tgt := 19) dX12_keep_49 (by decide) ?_
      refine r_sub (lv' := [(0, .ref (gA G a0)), (1, .int (eI x1)), (2, .int (eI x2)), (3, .int (eI x3)), (5, .int (eI x5)), (6, .int (eI v_11))]) [1, 2, 3, 4, 5, 0] rfl ?_
      exact ih _ _ _ h
set_option maxHeartbeats 4000000 in
set_option maxRecDepth 100000 in
theorem bX12_keep_b0 {G : GG} (a0 : Nat) (x1 : Int) (x2 : Int) (x3 : Int) (x4 : Int) (oa0 : OB L0 a0 12)  (M : MM) {res : MM}  (h : sX12_keep_b0 a0 x1 x2 x3 x4 M = some res) : VV G xX12_keep (ZM G xX12_keep (none) L0 res) L0 M 0 0 0 [(0, .ref (gA G a0)), (1, .int (eI x1)), (2, .int (eI x2)), (3, .int (eI x3)), (4, .int (eI x4))] [] := by
  unfold sX12_keep_b0 at h
  refine r_aload_n (pc := 0) (i := 0) dX12_keep_0 rfl 0 rfl ?_
  have o_1 := (wt_12_20 oa0).2
  refine r_getR (pc := 1) fg_12_41 rfl oa0 (wt_12_20 oa0).1 dX12_keep_1 ?_
  refine r_iload_n (pc := 4) (i := 1) dX12_keep_4 rfl 1 rfl ?_
  obtain ⟨c_2, h⟩ := og h
  refine r_iald (pc := 5) o_1 rfl c_2 rfl dX12_keep_5 ?_
  refine r_istore (pc := 6) (lv' := [(5, .int (eI (M (gR a0 20) (wI x1).toNat))), (0, .ref (gA G a0)), (1, .int (eI x1)), (2, .int (eI x2)), (3, .int (eI x3)), (4, .int (eI x4))]) dX12_keep_6 (Nat.le_of_ble_eq_true rfl) rfl ?_
  refine r_iload (pc := 8) dX12_keep_8 0 rfl ?_
  refine r_iload (pc := 10) dX12_keep_10 5 rfl ?_
  refine r_icmp_ne (pc := 12) (tgt := 16) dX12_keep_12 (by decide) rfl rfl (fun c_3 => ?_) (fun c_3 => ?_)
  · replace h := (if_neg c_3).symm.trans h
    refine r_iconst (pc := 16) (v := 0) dX12_keep_16 (by decide +kernel) ?_
    refine r_istore (pc := 17) (lv' := [(6, .int (eI 0)), (5, .int (eI (M (gR a0 20) (wI x1).toNat))), (0, .ref (gA G a0)), (1, .int (eI x1)), (2, .int (eI x2)), (3, .int (eI x3)), (4, .int (eI x4))]) dX12_keep_17 (Nat.le_of_ble_eq_true rfl) rfl ?_
    refine r_sub (lv' := [(0, .ref (gA G a0)), (1, .int (eI x1)), (2, .int (eI x2)), (3, .int (eI x3)), (5, .int (eI (M (gR a0 20) (wI x1).toNat))), (6, .int (eI 0))]) [2, 3, 4, 5, 1, 0] rfl ?_
    exact bX12_keep_b19 a0 x1 x2 x3 x4 oa0 _ _ _ _ h
  · replace h := (if_pos c_3).symm.trans h
    cases h
    exact r_vret (pc := 15) rfl (Nat.le_refl 0) (Nat.le_refl 0) dX12_keep_15
theorem kX12_keep {G : GG} (a0 : Nat) (x1 : Int) (x2 : Int) (x3 : Int) (x4 : Int) (M : MM) {res : MM} (oa0 : OB L0 a0 12) (h : sX12_keep a0 x1 x2 x3 x4 M = some res) : CO G xX12_keep [.ref (gA G a0), .int (eI x1), .int (eI x2), .int (eI x3), .int (eI x4)] L0 M (none) L0 res := CO_of (by decide +kernel) (Nat.le_of_ble_eq_true rfl) (bX12_keep_b0 a0 x1 x2 x3 x4 oa0 M h)
abbrev xX12_plainOf : XX := (yX12_plainOf, cX12_plainOf, 2, (some .int), 0, 0, 0, 0)
def sX12_plainOf_b0 (y0 : Int)   : Int := (if wJ y0 = 422726039411 then 2 else (if wJ y0 = 1818846836 then 3 else (if wJ y0 = 126956639450227 then 4 else (if wJ y0 = 27691674476046181 then 5 else (if wJ y0 = 495874302827 then 6 else (-1))))))
def sX12_plainOf (y0 : Int) : Int := sX12_plainOf_b0 y0
set_option maxHeartbeats 4000000 in
set_option maxRecDepth 100000 in
theorem bX12_plainOf_b0 {G : GG} (y0 : Int) (M : MM)   {res : Int}  (h : sX12_plainOf_b0 y0 = res) : VV G xX12_plainOf (ZM G xX12_plainOf (some (.int (eI res))) L0 M) L0 M 0 0 0 [(0, .long (eJ y0))] [] := by
  unfold sX12_plainOf_b0 at h
  refine r_lload_n (pc := 0) (i := 0) dX12_plainOf_0 rfl 0 rfl ?_
  refine r_ldc2 (pc := 1) (v := 422726039411) kc_12_171 dX12_plainOf_1 ?_
  refine r_lcmp_ne (pc := 4) (tgt := 12) dX12_plainOf_4 dX12_plainOf_5 (by decide) rfl wj_422726039411 (fun c_1 => ?_) (fun c_1 => ?_)
  · replace h := (if_neg c_1).symm.trans h
    refine r_lload_n (pc := 12) (i := 0) dX12_plainOf_12 rfl 0 rfl ?_
    refine r_ldc2 (pc := 13) (v := 1818846836) kc_12_173 dX12_plainOf_13 ?_
    refine r_lcmp_ne (pc := 16) (tgt := 24) dX12_plainOf_16 dX12_plainOf_17 (by decide) rfl wj_1818846836 (fun c_2 => ?_) (fun c_2 => ?_)
    · replace h := (if_neg c_2).symm.trans h
      refine r_lload_n (pc := 24) (i := 0) dX12_plainOf_24 rfl 0 rfl ?_
      refine r_ldc2 (pc := 25) (v := 126956639450227) kc_12_175 dX12_plainOf_25 ?_
      refine r_lcmp_ne (pc := 28) (tgt := 36) dX12_plainOf_28 dX12_plainOf_29 (by decide) rfl wj_126956639450227 (fun c_3 => ?_) (fun c_3 => ?_)
      · replace h := (if_neg c_3).symm.trans h
        refine r_lload_n (pc := 36) (i := 0) dX12_plainOf_36 rfl 0 rfl ?_
        refine r_ldc2 (pc := 37) (v := 27691674476046181) kc_12_177 dX12_plainOf_37 ?_
        refine r_lcmp_ne (pc := 40) (tgt := 48) dX12_plainOf_40 dX12_plainOf_41 (by decide) rfl wj_27691674476046181 (fun c_4 => ?_) (fun c_4 => ?_)
        · replace h := (if_neg c_4).symm.trans h
          refine r_lload_n (pc := 48) (i := 0) dX12_plainOf_48 rfl 0 rfl ?_
          refine r_ldc2 (pc := 49) (v := 495874302827) kc_12_179 dX12_plainOf_49 ?_
          refine r_lcmp_ne (pc := 52) (tgt := 61) dX12_plainOf_52 dX12_plainOf_53 (by decide) rfl wj_495874302827 (fun c_5 => ?_) (fun c_5 => ?_)
          · replace h := (if_neg c_5).symm.trans h
            refine r_iconst (pc := 61) (v := (-1)) dX12_plainOf_61 (by decide +kernel) ?_
            cases h
            exact r_iret (pc := 62) rfl rfl (Nat.le_refl 0) (Nat.le_refl 0) dX12_plainOf_62
          · replace h := (if_pos c_5).symm.trans h
            refine r_bipush (pc := 56) (v := 6) dX12_plainOf_56 (by decide +kernel) ?_
            refine r_goto (pc := 58) (tgt := 62) dX12_plainOf_58 (by decide) ?_
            cases h
            exact r_iret (pc := 62) rfl rfl (Nat.le_refl 0) (Nat.le_refl 0) dX12_plainOf_62
        · replace h := (if_pos c_4).symm.trans h
          refine r_iconst (pc := 44) (v := 5) dX12_plainOf_44 (by decide +kernel) ?_
          refine r_goto (pc := 45) (tgt := 62) dX12_plainOf_45 (by decide) ?_
          cases h
          exact r_iret (pc := 62) rfl rfl (Nat.le_refl 0) (Nat.le_refl 0) dX12_plainOf_62
      · replace h := (if_pos c_3).symm.trans h
        refine r_iconst (pc := 32) (v := 4) dX12_plainOf_32 (by decide +kernel) ?_
        refine r_goto (pc := 33) (tgt := 62) dX12_plainOf_33 (by decide) ?_
        cases h
        exact r_iret (pc := 62) rfl rfl (Nat.le_refl 0) (Nat.le_refl 0) dX12_plainOf_62
    · replace h := (if_pos c_2).symm.trans h
      refine r_iconst (pc := 20) (v := 3) dX12_plainOf_20 (by decide +kernel) ?_
      refine r_goto (pc := 21) (tgt := 62) dX12_plainOf_21 (by decide) ?_
      cases h
      exact r_iret (pc := 62) rfl rfl (Nat.le_refl 0) (Nat.le_refl 0) dX12_plainOf_62
  · replace h := (if_pos c_1).symm.trans h
    refine r_iconst (pc := 8) (v := 2) dX12_plainOf_8 (by decide +kernel) ?_
    refine r_goto (pc := 9) (tgt := 62) dX12_plainOf_9 (by decide) ?_
    cases h
    exact r_iret (pc := 62) rfl rfl (Nat.le_refl 0) (Nat.le_refl 0) dX12_plainOf_62
theorem kX12_plainOf {G : GG} (y0 : Int) (M : MM)  : CO G xX12_plainOf [.long (eJ y0)] L0 M (some (.int (eI (sX12_plainOf y0)))) L0 M := CO_of (by decide +kernel) (Nat.le_of_ble_eq_true rfl) (bX12_plainOf_b0 y0 M rfl)
abbrev xX12_lowOf : XX := (yX12_lowOf, cX12_lowOf, 1, (some .int), 0, 0, 0, 0)
def sX12_lowOf_b0 (x0 : Int)   : Int := (if wI x0 = 2 then 1 else (if wI x0 = 3 then 3 else 0))
def sX12_lowOf (x0 : Int) : Int := sX12_lowOf_b0 x0
set_option maxHeartbeats 4000000 in
set_option maxRecDepth 100000 in
theorem bX12_lowOf_b0 {G : GG} (x0 : Int) (M : MM)   {res : Int}  (h : sX12_lowOf_b0 x0 = res) : VV G xX12_lowOf (ZM G xX12_lowOf (some (.int (eI res))) L0 M) L0 M 0 0 0 [(0, .int (eI x0))] [] := by
  unfold sX12_lowOf_b0 at h
  refine r_iload_n (pc := 0) (i := 0) dX12_lowOf_0 rfl 0 rfl ?_
  refine r_iconst (pc := 1) (v := 2) dX12_lowOf_1 (by decide +kernel) ?_
  refine r_icmp_ne (pc := 2) (tgt := 9) dX12_lowOf_2 (by decide) rfl wl_2 (fun c_1 => ?_) (fun c_1 => ?_)
  · replace h := (if_neg c_1).symm.trans h
    refine r_iload_n (pc := 9) (i := 0) dX12_lowOf_9 rfl 0 rfl ?_
    refine r_iconst (pc := 10) (v := 3) dX12_lowOf_10 (by decide +kernel) ?_
    refine r_icmp_ne (pc := 11) (tgt := 18) dX12_lowOf_11 (by decide) rfl wl_3 (fun c_2 => ?_) (fun c_2 => ?_)
    · replace h := (if_neg c_2).symm.trans h
      refine r_iconst (pc := 18) (v := 0) dX12_lowOf_18 (by decide +kernel) ?_
      cases h
      exact r_iret (pc := 19) rfl rfl (Nat.le_refl 0) (Nat.le_refl 0) dX12_lowOf_19
    · replace h := (if_pos c_2).symm.trans h
      refine r_iconst (pc := 14) (v := 3) dX12_lowOf_14 (by decide +kernel) ?_
      refine r_goto (pc := 15) (tgt := 19) dX12_lowOf_15 (by decide) ?_
      cases h
      exact r_iret (pc := 19) rfl rfl (Nat.le_refl 0) (Nat.le_refl 0) dX12_lowOf_19
  · replace h := (if_pos c_1).symm.trans h
    refine r_iconst (pc := 5) (v := 1) dX12_lowOf_5 (by decide +kernel) ?_
    refine r_goto (pc := 6) (tgt := 19) dX12_lowOf_6 (by decide) ?_
    cases h
    exact r_iret (pc := 19) rfl rfl (Nat.le_refl 0) (Nat.le_refl 0) dX12_lowOf_19
theorem kX12_lowOf {G : GG} (x0 : Int) (M : MM)  : CO G xX12_lowOf [.int (eI x0)] L0 M (some (.int (eI (sX12_lowOf x0)))) L0 M := CO_of (by decide +kernel) (Nat.le_of_ble_eq_true rfl) (bX12_lowOf_b0 x0 M rfl)
abbrev xX12_highOf : XX := (yX12_highOf, cX12_highOf, 1, (some .int), 0, 0, 0, 0)
def sX12_highOf_b0 (x0 : Int)   : Int := (if wI x0 = 2 then 5 else (if wI x0 = 3 then 16 else (if wI x0 = 4 then 60 else (if wI x0 = 5 then 9 else 3))))
def sX12_highOf (x0 : Int) : Int := sX12_highOf_b0 x0
set_option maxHeartbeats 4000000 in
set_option maxRecDepth 100000 in
theorem bX12_highOf_b0 {G : GG} (x0 : Int) (M : MM)   {res : Int}  (h : sX12_highOf_b0 x0 = res) : VV G xX12_highOf (ZM G xX12_highOf (some (.int (eI res))) L0 M) L0 M 0 0 0 [(0, .int (eI x0))] [] := by
  unfold sX12_highOf_b0 at h
  refine r_iload_n (pc := 0) (i := 0) dX12_highOf_0 rfl 0 rfl ?_
  refine r_iconst (pc := 1) (v := 2) dX12_highOf_1 (by decide +kernel) ?_
  refine r_icmp_ne (pc := 2) (tgt := 9) dX12_highOf_2 (by decide) rfl wl_2 (fun c_1 => ?_) (fun c_1 => ?_)
  · replace h := (if_neg c_1).symm.trans h
    refine r_iload_n (pc := 9) (i := 0) dX12_highOf_9 rfl 0 rfl ?_
    refine r_iconst (pc := 10) (v := 3) dX12_highOf_10 (by decide +kernel) ?_
    refine r_icmp_ne (pc := 11) (tgt := 19) dX12_highOf_11 (by decide) rfl wl_3 (fun c_2 => ?_) (fun c_2 => ?_)
    · replace h := (if_neg c_2).symm.trans h
      refine r_iload_n (pc := 19) (i := 0) dX12_highOf_19 rfl 0 rfl ?_
      refine r_iconst (pc := 20) (v := 4) dX12_highOf_20 (by decide +kernel) ?_
      refine r_icmp_ne (pc := 21) (tgt := 29) dX12_highOf_21 (by decide) rfl wl_4 (fun c_3 => ?_) (fun c_3 => ?_)
      · replace h := (if_neg c_3).symm.trans h
        refine r_iload_n (pc := 29) (i := 0) dX12_highOf_29 rfl 0 rfl ?_
        refine r_iconst (pc := 30) (v := 5) dX12_highOf_30 (by decide +kernel) ?_
        refine r_icmp_ne (pc := 31) (tgt := 39) dX12_highOf_31 (by decide) rfl wl_5 (fun c_4 => ?_) (fun c_4 => ?_)
        · replace h := (if_neg c_4).symm.trans h
          refine r_iconst (pc := 39) (v := 3) dX12_highOf_39 (by decide +kernel) ?_
          cases h
          exact r_iret (pc := 40) rfl rfl (Nat.le_refl 0) (Nat.le_refl 0) dX12_highOf_40
        · replace h := (if_pos c_4).symm.trans h
          refine r_bipush (pc := 34) (v := 9) dX12_highOf_34 (by decide +kernel) ?_
          refine r_goto (pc := 36) (tgt := 40) dX12_highOf_36 (by decide) ?_
          cases h
          exact r_iret (pc := 40) rfl rfl (Nat.le_refl 0) (Nat.le_refl 0) dX12_highOf_40
      · replace h := (if_pos c_3).symm.trans h
        refine r_bipush (pc := 24) (v := 60) dX12_highOf_24 (by decide +kernel) ?_
        refine r_goto (pc := 26) (tgt := 40) dX12_highOf_26 (by decide) ?_
        cases h
        exact r_iret (pc := 40) rfl rfl (Nat.le_refl 0) (Nat.le_refl 0) dX12_highOf_40
    · replace h := (if_pos c_2).symm.trans h
      refine r_bipush (pc := 14) (v := 16) dX12_highOf_14 (by decide +kernel) ?_
      refine r_goto (pc := 16) (tgt := 40) dX12_highOf_16 (by decide) ?_
      cases h
      exact r_iret (pc := 40) rfl rfl (Nat.le_refl 0) (Nat.le_refl 0) dX12_highOf_40
  · replace h := (if_pos c_1).symm.trans h
    refine r_iconst (pc := 5) (v := 5) dX12_highOf_5 (by decide +kernel) ?_
    refine r_goto (pc := 6) (tgt := 40) dX12_highOf_6 (by decide) ?_
    cases h
    exact r_iret (pc := 40) rfl rfl (Nat.le_refl 0) (Nat.le_refl 0) dX12_highOf_40
theorem kX12_highOf {G : GG} (x0 : Int) (M : MM)  : CO G xX12_highOf [.int (eI x0)] L0 M (some (.int (eI (sX12_highOf x0)))) L0 M := CO_of (by decide +kernel) (Nat.le_of_ble_eq_true rfl) (bX12_highOf_b0 x0 M rfl)
abbrev xX12_childLine : XX := (yX12_childLine, cX12_childLine, 2, (some .boolean), 4, 91, 0, 0)
theorem ck_X12_childLine_181 : CKV xX12_childLine 181 xX12_take 3 := ⟨⟨tb_i 1703 (by decide +kernel) (by decide +kernel), tb_i 152 (by decide +kernel) (by decide +kernel), tb_i 1706 (by decide +kernel) (by decide +kernel), ⟨by decide +kernel, by decide +kernel, by decide +kernel⟩, by decide, by decide⟩, tb_i 1705 (by decide +kernel) (by decide +kernel), tb_i 61 (by decide +kernel) (by decide +kernel)⟩
def sX12_childLine_b59 (a0 : Nat)  : Nat → Int → MM → Option (Int × MM)
  | 0, _, _ => none
  | n + 1, x1, M => (if 4 ≤ wI x1 then ((some (mU M (gR a0 20) 1 ((M (gR a0 20) 1) + 1))).bind fun M_3 => (some ((1, M_3)))) else (if 0 ≤ wI x1 ∧ wI x1 < 4 then (if 0 ≤ wI ((28 + (13 * (M (gR a0 20) 1))) + x1) ∧ wI ((28 + (13 * (M (gR a0 20) 1))) + x1) < 132 then ((some (mU M (gR a0 20) (wI ((28 + (13 * (M (gR a0 20) 1))) + x1)).toNat (M (gR a0 21) (wI x1).toNat))).bind fun M_9 => ((some (x1 + 1)).bind fun v_10 => (sX12_childLine_b59 a0 n v_10 M_9))) else none) else none))
def sX12_childLine_b0 (a0 : Nat)   (M : MM) : Option (Int × MM) := ((sX12_take a0 0 3 15 M).bind fun q_1 => (if wI (q_1.1) = 0 then (some ((0, q_1.2))) else ((sX12_take a0 1 1 9 q_1.2).bind fun q_3 => (if wI (q_3.1) = 0 then (some ((0, q_3.2))) else ((sX12_take a0 2 0 10 q_3.2).bind fun q_5 => (if wI (q_5.1) = 0 then (some ((0, q_5.2))) else ((sX12_take a0 3 0 9 q_5.2).bind fun q_7 => (if wI (q_7.1) = 0 then (some ((0, q_7.2))) else (if 8 ≤ wI (q_7.2 (gR a0 20) 1) then (some ((1, q_7.2))) else (sX12_childLine_b59 a0 FU 0 q_7.2))))))))))
def sX12_childLine (a0 : Nat) (M : MM) : Option (Int × MM) := sX12_childLine_b0 a0 M
set_option maxHeartbeats 4000000 in
set_option maxRecDepth 100000 in
theorem bX12_childLine_b59 {G : GG} (a0 : Nat) (oa0 : OB L0 a0 12) {res : (Int × MM)} : ∀ (n : Nat) (x1 : Int) (M : MM)  (h : sX12_childLine_b59 a0 n x1 M = some res), VV G xX12_childLine (ZM G xX12_childLine (some (.int (eI res.1))) L0 res.2) L0 M 0 0 59 [(0, .ref (gA G a0)), (1, .int (eI x1))] [] := by
  intro n
  induction n with
  | zero =>
    intro x1 M h
    rw [sX12_childLine_b59] at h
    cases h
  | succ n ih =>
    intro x1 M h
    rw [sX12_childLine_b59] at h
    refine r_iload_n (pc := 59) (i := 1) dX12_childLine_59 rfl 1 rfl ?_
    refine r_iconst (pc := 60) (v := 4) dX12_childLine_60 (by decide +kernel) ?_
    refine r_icmp_ge (pc := 61) (tgt := 95) dX12_childLine_61 (by decide) rfl wl_4 (fun c_1 => ?_) (fun c_1 => ?_)
    · replace h := (if_pos c_1).symm.trans h
      refine r_aload_n (pc := 95) (i := 0) dX12_childLine_95 rfl 0 rfl ?_
      have o_2 := (wt_12_20 oa0).2
      refine r_getR (pc := 96) fg_12_41 rfl oa0 (wt_12_20 oa0).1 dX12_childLine_96 ?_
      refine r_iconst (pc := 99) (v := 1) dX12_childLine_99 (by decide +kernel) ?_
      refine r_dup2 (pc := 100) dX12_childLine_100 rfl rfl ?_
      refine r_iald (pc := 101) o_2 wl_1 ⟨by decide, by decide⟩ rfl dX12_childLine_101 ?_
      refine r_iconst (pc := 102) (v := 1) dX12_childLine_102 (by decide +kernel) ?_
      refine r_iadd (pc := 103) dX12_childLine_103 ?_
      obtain ⟨M_3, hM_3, h⟩ := ob h
      refine r_iast (pc := 104) o_2 wl_1 ⟨by decide, by decide⟩ rfl hM_3 dX12_childLine_104 ?_
      refine r_iconst (pc := 105) (v := 1) dX12_childLine_105 (by decide +kernel) ?_
      cases h
      exact r_iret (pc := 106) rfl (zn_ok (Or.inr rfl)).1 (Nat.le_refl 0) (Nat.le_refl 0) dX12_childLine_106
    · replace h := (if_neg c_1).symm.trans h
      refine r_aload_n (pc := 64) (i := 0) dX12_childLine_64 rfl 0 rfl ?_
      have o_4 := (wt_12_20 oa0).2
      refine r_getR (pc := 65) fg_12_41 rfl oa0 (wt_12_20 oa0).1 dX12_childLine_65 ?_
      refine r_bipush (pc := 68) (v := 28) dX12_childLine_68 (by decide +kernel) ?_
      refine r_bipush (pc := 70) (v := 13) dX12_childLine_70 (by decide +kernel) ?_
      refine r_aload_n (pc := 72) (i := 0) dX12_childLine_72 rfl 0 rfl ?_
      have o_5 := (wt_12_20 oa0).2
      refine r_getR (pc := 73) fg_12_41 rfl oa0 (wt_12_20 oa0).1 dX12_childLine_73 ?_
      refine r_iconst (pc := 76) (v := 1) dX12_childLine_76 (by decide +kernel) ?_
      refine r_iald (pc := 77) o_5 wl_1 ⟨by decide, by decide⟩ rfl dX12_childLine_77 ?_
      refine r_imul (pc := 78) dX12_childLine_78 ?_
      refine r_iadd (pc := 79) dX12_childLine_79 ?_
      refine r_iload_n (pc := 80) (i := 1) dX12_childLine_80 rfl 1 rfl ?_
      refine r_iadd (pc := 81) dX12_childLine_81 ?_
      refine r_aload_n (pc := 82) (i := 0) dX12_childLine_82 rfl 0 rfl ?_
      have o_6 := (wt_12_21 oa0).2
      refine r_getR (pc := 83) fg_12_44 rfl oa0 (wt_12_21 oa0).1 dX12_childLine_83 ?_
      refine r_iload_n (pc := 86) (i := 1) dX12_childLine_86 rfl 1 rfl ?_
      obtain ⟨c_7, h⟩ := og h
      refine r_iald (pc := 87) o_6 rfl c_7 rfl dX12_childLine_87 ?_
      obtain ⟨c_8, h⟩ := og h
      obtain ⟨M_9, hM_9, h⟩ := ob h
      refine r_iast (pc := 88) o_4 rfl c_8 rfl hM_9 dX12_childLine_88 ?_
      obtain ⟨v_10, hv_10, h⟩ := ob h
      refine r_iinc (pc := 89) (y := v_10) (lv' := [(1, .int (eI v_10)), (0, .ref (gA G a0))]) dX12_childLine_89 1 rfl (Option.some.inj hv_10) (Nat.le_of_ble_eq_true rfl) rfl ?_
      refine r_goto (pc := 92) (tgt := 59) dX12_childLine_92 (by decide) ?_
      refine r_sub (lv' := [(0, .ref (gA G a0)), (1, .int (eI v_10))]) [1, 0] rfl ?_
      exact ih _ _ h
set_option maxHeartbeats 4000000 in
set_option maxRecDepth 100000 in
theorem bX12_childLine_b0 {G : GG} (a0 : Nat) (oa0 : OB L0 a0 12)  (M : MM) {res : (Int × MM)}  (h : sX12_childLine_b0 a0 M = some res) : VV G xX12_childLine (ZM G xX12_childLine (some (.int (eI res.1))) L0 res.2) L0 M 0 0 0 [(0, .ref (gA G a0))] [] := by
  unfold sX12_childLine_b0 at h
  refine r_aload_n (pc := 0) (i := 0) dX12_childLine_0 rfl 0 rfl ?_
  refine r_iconst (pc := 1) (v := 0) dX12_childLine_1 (by decide +kernel) ?_
  refine r_iconst (pc := 2) (v := 3) dX12_childLine_2 (by decide +kernel) ?_
  refine r_bipush (pc := 3) (v := 15) dX12_childLine_3 (by decide +kernel) ?_
  obtain ⟨q_1, hq_1, h⟩ := ob h
  refine r_cV (pc := 5) (Y := xX12_take) (As := [.int (eI 0), .int (eI 3), .int (eI 15)]) (rest := []) (v := (some (.int (eI (q_1.1))))) (st1 := [.int (eI (q_1.1))]) ck_X12_childLine_181 (kX12_take a0 0 3 15 M oa0 hq_1) oa0 rfl rfl rfl rfl (Nat.le_of_ble_eq_true rfl) ⟨rfl, rfl⟩ rfl dX12_childLine_5 ?_
  refine r_if_eq (pc := 8) (tgt := 44) dX12_childLine_8 (by decide) rfl (fun c_2 => ?_) (fun c_2 => ?_)
  · replace h := (if_pos c_2).symm.trans h
    refine r_iconst (pc := 44) (v := 0) dX12_childLine_44 (by decide +kernel) ?_
    cases h
    exact r_iret (pc := 45) rfl (zn_ok (Or.inl rfl)).1 (Nat.le_refl 0) (Nat.le_refl 0) dX12_childLine_45
  · replace h := (if_neg c_2).symm.trans h
    refine r_aload_n (pc := 11) (i := 0) dX12_childLine_11 rfl 0 rfl ?_
    refine r_iconst (pc := 12) (v := 1) dX12_childLine_12 (by decide +kernel) ?_
    refine r_iconst (pc := 13) (v := 1) dX12_childLine_13 (by decide +kernel) ?_
    refine r_bipush (pc := 14) (v := 9) dX12_childLine_14 (by decide +kernel) ?_
    obtain ⟨q_3, hq_3, h⟩ := ob h
    refine r_cV (pc := 16) (Y := xX12_take) (As := [.int (eI 1), .int (eI 1), .int (eI 9)]) (rest := []) (v := (some (.int (eI (q_3.1))))) (st1 := [.int (eI (q_3.1))]) ck_X12_childLine_181 (kX12_take a0 1 1 9 q_1.2 oa0 hq_3) oa0 rfl rfl rfl rfl (Nat.le_of_ble_eq_true rfl) ⟨rfl, rfl⟩ rfl dX12_childLine_16 ?_
    refine r_if_eq (pc := 19) (tgt := 44) dX12_childLine_19 (by decide) rfl (fun c_4 => ?_) (fun c_4 => ?_)
    · replace h := (if_pos c_4).symm.trans h
      refine r_iconst (pc := 44) (v := 0) dX12_childLine_44 (by decide +kernel) ?_
      cases h
      exact r_iret (pc := 45) rfl (zn_ok (Or.inl rfl)).1 (Nat.le_refl 0) (Nat.le_refl 0) dX12_childLine_45
    · replace h := (if_neg c_4).symm.trans h
      refine r_aload_n (pc := 22) (i := 0) dX12_childLine_22 rfl 0 rfl ?_
      refine r_iconst (pc := 23) (v := 2) dX12_childLine_23 (by decide +kernel) ?_
      refine r_iconst (pc := 24) (v := 0) dX12_childLine_24 (by decide +kernel) ?_
      refine r_bipush (pc := 25) (v := 10) dX12_childLine_25 (by decide +kernel) ?_
      obtain ⟨q_5, hq_5, h⟩ := ob h
      refine r_cV (pc := 27) (Y := xX12_take) (As := [.int (eI 2), .int (eI 0), .int (eI 10)]) (rest := []) (v := (some (.int (eI (q_5.1))))) (st1 := [.int (eI (q_5.1))]) ck_X12_childLine_181 (kX12_take a0 2 0 10 q_3.2 oa0 hq_5) oa0 rfl rfl rfl rfl (Nat.le_of_ble_eq_true rfl) ⟨rfl, rfl⟩ rfl dX12_childLine_27 ?_
      refine r_if_eq (pc := 30) (tgt := 44) dX12_childLine_30 (by decide) rfl (fun c_6 => ?_) (fun c_6 => ?_)
      · replace h := (if_pos c_6).symm.trans h
        refine r_iconst (pc := 44) (v := 0) dX12_childLine_44 (by decide +kernel) ?_
        cases h
        exact r_iret (pc := 45) rfl (zn_ok (Or.inl rfl)).1 (Nat.le_refl 0) (Nat.le_refl 0) dX12_childLine_45
      · replace h := (if_neg c_6).symm.trans h
        refine r_aload_n (pc := 33) (i := 0) dX12_childLine_33 rfl 0 rfl ?_
        refine r_iconst (pc := 34) (v := 3) dX12_childLine_34 (by decide +kernel) ?_
        refine r_iconst (pc := 35) (v := 0) dX12_childLine_35 (by decide +kernel) ?_
        refine r_bipush (pc := 36) (v := 9) dX12_childLine_36 (by decide +kernel) ?_
        obtain ⟨q_7, hq_7, h⟩ := ob h
        refine r_cV (pc := 38) (Y := xX12_take) (As := [.int (eI 3), .int (eI 0), .int (eI 9)]) (rest := []) (v := (some (.int (eI (q_7.1))))) (st1 := [.int (eI (q_7.1))]) ck_X12_childLine_181 (kX12_take a0 3 0 9 q_5.2 oa0 hq_7) oa0 rfl rfl rfl rfl (Nat.le_of_ble_eq_true rfl) ⟨rfl, rfl⟩ rfl dX12_childLine_38 ?_
        refine r_if_ne (pc := 41) (tgt := 46) dX12_childLine_41 (by decide) rfl (fun c_8 => ?_) (fun c_8 => ?_)
        · replace h := (if_neg c_8).symm.trans h
          refine r_aload_n (pc := 46) (i := 0) dX12_childLine_46 rfl 0 rfl ?_
          have o_9 := (wt_12_20 oa0).2
          refine r_getR (pc := 47) fg_12_41 rfl oa0 (wt_12_20 oa0).1 dX12_childLine_47 ?_
          refine r_iconst (pc := 50) (v := 1) dX12_childLine_50 (by decide +kernel) ?_
          refine r_iald (pc := 51) o_9 wl_1 ⟨by decide, by decide⟩ rfl dX12_childLine_51 ?_
          refine r_bipush (pc := 52) (v := 8) dX12_childLine_52 (by decide +kernel) ?_
          refine r_icmp_ge (pc := 54) (tgt := 105) dX12_childLine_54 (by decide) rfl wl_8 (fun c_10 => ?_) (fun c_10 => ?_)
          · replace h := (if_pos c_10).symm.trans h
            refine r_iconst (pc := 105) (v := 1) dX12_childLine_105 (by decide +kernel) ?_
            cases h
            exact r_iret (pc := 106) rfl (zn_ok (Or.inr rfl)).1 (Nat.le_refl 0) (Nat.le_refl 0) dX12_childLine_106
          · replace h := (if_neg c_10).symm.trans h
            refine r_iconst (pc := 57) (v := 0) dX12_childLine_57 (by decide +kernel) ?_
            refine r_istore_n (pc := 58) (i := 1) (lv' := [(1, .int (eI 0)), (0, .ref (gA G a0))]) dX12_childLine_58 rfl (Nat.le_of_ble_eq_true rfl) rfl ?_
            refine r_sub (lv' := [(0, .ref (gA G a0)), (1, .int (eI 0))]) [1, 0] rfl ?_
            exact bX12_childLine_b59 a0 oa0 _ _ _ h
        · replace h := (if_pos c_8).symm.trans h
          refine r_iconst (pc := 44) (v := 0) dX12_childLine_44 (by decide +kernel) ?_
          cases h
          exact r_iret (pc := 45) rfl (zn_ok (Or.inl rfl)).1 (Nat.le_refl 0) (Nat.le_refl 0) dX12_childLine_45
theorem kX12_childLine {G : GG} (a0 : Nat) (M : MM) {res : (Int × MM)} (oa0 : OB L0 a0 12) (h : sX12_childLine a0 M = some res) : CO G xX12_childLine [.ref (gA G a0)] L0 M (some (.int (eI res.1))) L0 res.2 := CO_of (by decide +kernel) (Nat.le_of_ble_eq_true rfl) (bX12_childLine_b0 a0 oa0 M h)
abbrev xX12_ofChildren : XX := (yX12_ofChildren, cX12_ofChildren, 3, (some .boolean), 4, 91, 0, 0)
theorem ck_X12_ofChildren_181 : CKV xX12_ofChildren 181 xX12_take 3 := ⟨⟨tb_i 1703 (by decide +kernel) (by decide +kernel), tb_i 152 (by decide +kernel) (by decide +kernel), tb_i 1706 (by decide +kernel) (by decide +kernel), ⟨by decide +kernel, by decide +kernel, by decide +kernel⟩, by decide, by decide⟩, tb_i 1705 (by decide +kernel) (by decide +kernel), tb_i 61 (by decide +kernel) (by decide +kernel)⟩
theorem ck_X12_ofChildren_184 : CKV xX12_ofChildren 184 xX12_takeChild 2 := ⟨⟨tb_i 1692 (by decide +kernel) (by decide +kernel), tb_i 152 (by decide +kernel) (by decide +kernel), tb_i 1695 (by decide +kernel) (by decide +kernel), ⟨by decide +kernel, by decide +kernel, by decide +kernel⟩, by decide, by decide⟩, tb_i 1694 (by decide +kernel) (by decide +kernel), tb_i 59 (by decide +kernel) (by decide +kernel)⟩
def sX12_ofChildren_b127 (a0 : Nat) (y1 : Int)  (b90 : Nat) (x91 : Int) (x92 : Int) (M : MM) : Option (Int × MM) := (if 0 ≤ wI x91 ∧ wI x91 < 132 then ((some (mU M b90 (wI x91).toNat x92)).bind fun M_2 => (some ((1, M_2)))) else none)
def sX12_ofChildren_b0 (a0 : Nat) (y1 : Int)   (M : MM) : Option (Int × MM) := ((sX12_takeChild a0 0 (-1) M).bind fun q_1 => (if wI (q_1.1) = 0 then (some ((0, q_1.2))) else (if wJ y1 = 1667591276 then ((sX12_take a0 1 0 24 q_1.2).bind fun q_12 => (if wI (q_12.1) = 0 then (some ((0, q_12.2))) else (if wI (q_12.2 a0 23) = 0 then (some ((1, q_12.2))) else (if 0 ≤ wI ((28 + (13 * (q_12.2 (gR a0 21) 0))) + 4) ∧ wI ((28 + (13 * (q_12.2 (gR a0 21) 0))) + 4) < 132 then ((some (mU q_12.2 (gR a0 20) (wI ((28 + (13 * (q_12.2 (gR a0 21) 0))) + 4)).toNat (q_12.2 (gR a0 21) 1))).bind fun M_19 => (some ((1, M_19)))) else none)))) else ((sX12_takeChild a0 1 (q_1.2 (gR a0 21) 0) q_1.2).bind fun q_5 => (if wI (q_5.1) = 0 then (some ((0, q_5.2))) else (if wI (q_5.2 a0 23) = 0 then (some ((1, q_5.2))) else (if wJ y1 = 112641580559972 then (sX12_ofChildren_b127 a0 y1 (gR a0 20) (((28 + (13 * (q_5.2 (gR a0 21) 0))) + 5) + (q_5.2 (gR a0 21) 1)) 2 q_5.2) else (sX12_ofChildren_b127 a0 y1 (gR a0 20) (((28 + (13 * (q_5.2 (gR a0 21) 0))) + 5) + (q_5.2 (gR a0 21) 1)) 0 q_5.2))))))))
def sX12_ofChildren (a0 : Nat) (y1 : Int) (M : MM) : Option (Int × MM) := sX12_ofChildren_b0 a0 y1 M
set_option maxHeartbeats 4000000 in
set_option maxRecDepth 100000 in
theorem bX12_ofChildren_b127 {G : GG} (a0 : Nat) (y1 : Int) (oa0 : OB L0 a0 12) (b90 : Nat) (x91 : Int) (x92 : Int) (M : MM) {res : (Int × MM)} (ob90 : AR L0 b90 1 132) (h : sX12_ofChildren_b127 a0 y1 b90 x91 x92 M = some res) : VV G xX12_ofChildren (ZM G xX12_ofChildren (some (.int (eI res.1))) L0 res.2) L0 M 0 0 127 [] [.int (eI x92), .int (eI x91), .ref (gA G b90)] := by
  unfold sX12_ofChildren_b127 at h
  obtain ⟨c_1, h⟩ := og h
  obtain ⟨M_2, hM_2, h⟩ := ob h
  refine r_iast (pc := 127) ob90 rfl c_1 rfl hM_2 dX12_ofChildren_127 ?_
  refine r_iconst (pc := 128) (v := 1) dX12_ofChildren_128 (by decide +kernel) ?_
  cases h
  exact r_iret (pc := 129) rfl (zn_ok (Or.inr rfl)).1 (Nat.le_refl 0) (Nat.le_refl 0) dX12_ofChildren_129
set_option maxHeartbeats 4000000 in
set_option maxRecDepth 100000 in
theorem bX12_ofChildren_b0 {G : GG} (a0 : Nat) (y1 : Int) (oa0 : OB L0 a0 12)  (M : MM) {res : (Int × MM)}  (h : sX12_ofChildren_b0 a0 y1 M = some res) : VV G xX12_ofChildren (ZM G xX12_ofChildren (some (.int (eI res.1))) L0 res.2) L0 M 0 0 0 [(0, .ref (gA G a0)), (1, .long (eJ y1))] [] := by
  unfold sX12_ofChildren_b0 at h
  refine r_aload_n (pc := 0) (i := 0) dX12_ofChildren_0 rfl 0 rfl ?_
  refine r_iconst (pc := 1) (v := 0) dX12_ofChildren_1 (by decide +kernel) ?_
  refine r_iconst (pc := 2) (v := (-1)) dX12_ofChildren_2 (by decide +kernel) ?_
  obtain ⟨q_1, hq_1, h⟩ := ob h
  refine r_cV (pc := 3) (Y := xX12_takeChild) (As := [.int (eI 0), .int (eI (-1))]) (rest := []) (v := (some (.int (eI (q_1.1))))) (st1 := [.int (eI (q_1.1))]) ck_X12_ofChildren_184 (kX12_takeChild a0 0 (-1) M oa0 hq_1) oa0 rfl rfl rfl rfl (Nat.le_of_ble_eq_true rfl) ⟨rfl, rfl⟩ rfl dX12_ofChildren_3 ?_
  refine r_if_ne (pc := 6) (tgt := 11) dX12_ofChildren_6 (by decide) rfl (fun c_2 => ?_) (fun c_2 => ?_)
  · replace h := (if_neg c_2).symm.trans h
    refine r_lload_n (pc := 11) (i := 1) dX12_ofChildren_11 rfl 1 rfl ?_
    refine r_ldc2 (pc := 12) (v := 1667591276) kc_12_188 dX12_ofChildren_12 ?_
    refine r_lcmp_ne (pc := 15) (tgt := 66) dX12_ofChildren_15 dX12_ofChildren_16 (by decide) rfl wj_1667591276 (fun c_3 => ?_) (fun c_3 => ?_)
    · replace h := (if_neg c_3).symm.trans h
      refine r_aload_n (pc := 66) (i := 0) dX12_ofChildren_66 rfl 0 rfl ?_
      refine r_iconst (pc := 67) (v := 1) dX12_ofChildren_67 (by decide +kernel) ?_
      refine r_aload_n (pc := 68) (i := 0) dX12_ofChildren_68 rfl 0 rfl ?_
      have o_4 := (wt_12_21 oa0).2
      refine r_getR (pc := 69) fg_12_44 rfl oa0 (wt_12_21 oa0).1 dX12_ofChildren_69 ?_
      refine r_iconst (pc := 72) (v := 0) dX12_ofChildren_72 (by decide +kernel) ?_
      refine r_iald (pc := 73) o_4 wl_0 ⟨by decide, by decide⟩ rfl dX12_ofChildren_73 ?_
      obtain ⟨q_5, hq_5, h⟩ := ob h
      refine r_cV (pc := 74) (Y := xX12_takeChild) (As := [.int (eI 1), .int (eI (q_1.2 (gR a0 21) 0))]) (rest := []) (v := (some (.int (eI (q_5.1))))) (st1 := [.int (eI (q_5.1))]) ck_X12_ofChildren_184 (kX12_takeChild a0 1 (q_1.2 (gR a0 21) 0) q_1.2 oa0 hq_5) oa0 rfl rfl rfl rfl (Nat.le_of_ble_eq_true rfl) ⟨rfl, rfl⟩ rfl dX12_ofChildren_74 ?_
      refine r_if_ne (pc := 77) (tgt := 82) dX12_ofChildren_77 (by decide) rfl (fun c_6 => ?_) (fun c_6 => ?_)
      · replace h := (if_neg c_6).symm.trans h
        refine r_aload_n (pc := 82) (i := 0) dX12_ofChildren_82 rfl 0 rfl ?_
        refine r_getI (pc := 83) fg_12_153 rfl oa0 dX12_ofChildren_83 ?_
        refine r_if_eq (pc := 86) (tgt := 128) dX12_ofChildren_86 (by decide) rfl (fun c_7 => ?_) (fun c_7 => ?_)
        · replace h := (if_pos c_7).symm.trans h
          refine r_iconst (pc := 128) (v := 1) dX12_ofChildren_128 (by decide +kernel) ?_
          cases h
          exact r_iret (pc := 129) rfl (zn_ok (Or.inr rfl)).1 (Nat.le_refl 0) (Nat.le_refl 0) dX12_ofChildren_129
        · replace h := (if_neg c_7).symm.trans h
          refine r_aload_n (pc := 89) (i := 0) dX12_ofChildren_89 rfl 0 rfl ?_
          have o_8 := (wt_12_20 oa0).2
          refine r_getR (pc := 90) fg_12_41 rfl oa0 (wt_12_20 oa0).1 dX12_ofChildren_90 ?_
          refine r_bipush (pc := 93) (v := 28) dX12_ofChildren_93 (by decide +kernel) ?_
          refine r_bipush (pc := 95) (v := 13) dX12_ofChildren_95 (by decide +kernel) ?_
          refine r_aload_n (pc := 97) (i := 0) dX12_ofChildren_97 rfl 0 rfl ?_
          have o_9 := (wt_12_21 oa0).2
          refine r_getR (pc := 98) fg_12_44 rfl oa0 (wt_12_21 oa0).1 dX12_ofChildren_98 ?_
          refine r_iconst (pc := 101) (v := 0) dX12_ofChildren_101 (by decide +kernel) ?_
          refine r_iald (pc := 102) o_9 wl_0 ⟨by decide, by decide⟩ rfl dX12_ofChildren_102 ?_
          refine r_imul (pc := 103) dX12_ofChildren_103 ?_
          refine r_iadd (pc := 104) dX12_ofChildren_104 ?_
          refine r_iconst (pc := 105) (v := 5) dX12_ofChildren_105 (by decide +kernel) ?_
          refine r_iadd (pc := 106) dX12_ofChildren_106 ?_
          refine r_aload_n (pc := 107) (i := 0) dX12_ofChildren_107 rfl 0 rfl ?_
          have o_10 := (wt_12_21 oa0).2
          refine r_getR (pc := 108) fg_12_44 rfl oa0 (wt_12_21 oa0).1 dX12_ofChildren_108 ?_
          refine r_iconst (pc := 111) (v := 1) dX12_ofChildren_111 (by decide +kernel) ?_
          refine r_iald (pc := 112) o_10 wl_1 ⟨by decide, by decide⟩ rfl dX12_ofChildren_112 ?_
          refine r_iadd (pc := 113) dX12_ofChildren_113 ?_
          refine r_lload_n (pc := 114) (i := 1) dX12_ofChildren_114 rfl 1 rfl ?_
          refine r_ldc2 (pc := 115) (v := 112641580559972) kc_12_190 dX12_ofChildren_115 ?_
          refine r_lcmp_ne (pc := 118) (tgt := 126) dX12_ofChildren_118 dX12_ofChildren_119 (by decide) rfl wj_112641580559972 (fun c_11 => ?_) (fun c_11 => ?_)
          · replace h := (if_neg c_11).symm.trans h
            refine r_iconst (pc := 126) (v := 0) dX12_ofChildren_126 (by decide +kernel) ?_
            refine r_sub (lv' := []) [] rfl ?_
            exact bX12_ofChildren_b127 a0 y1 oa0 _ _ _ _ o_8 h
          · replace h := (if_pos c_11).symm.trans h
            refine r_iconst (pc := 122) (v := 2) dX12_ofChildren_122 (by decide +kernel) ?_
            refine r_goto (pc := 123) (tgt := 127) dX12_ofChildren_123 (by decide) ?_
            refine r_sub (lv' := []) [] rfl ?_
            exact bX12_ofChildren_b127 a0 y1 oa0 _ _ _ _ o_8 h
      · replace h := (if_pos c_6).symm.trans h
        refine r_iconst (pc := 80) (v := 0) dX12_ofChildren_80 (by decide +kernel) ?_
        cases h
        exact r_iret (pc := 81) rfl (zn_ok (Or.inl rfl)).1 (Nat.le_refl 0) (Nat.le_refl 0) dX12_ofChildren_81
    · replace h := (if_pos c_3).symm.trans h
      refine r_aload_n (pc := 19) (i := 0) dX12_ofChildren_19 rfl 0 rfl ?_
      refine r_iconst (pc := 20) (v := 1) dX12_ofChildren_20 (by decide +kernel) ?_
      refine r_iconst (pc := 21) (v := 0) dX12_ofChildren_21 (by decide +kernel) ?_
      refine r_bipush (pc := 22) (v := 24) dX12_ofChildren_22 (by decide +kernel) ?_
      obtain ⟨q_12, hq_12, h⟩ := ob h
      refine r_cV (pc := 24) (Y := xX12_take) (As := [.int (eI 1), .int (eI 0), .int (eI 24)]) (rest := []) (v := (some (.int (eI (q_12.1))))) (st1 := [.int (eI (q_12.1))]) ck_X12_ofChildren_181 (kX12_take a0 1 0 24 q_1.2 oa0 hq_12) oa0 rfl rfl rfl rfl (Nat.le_of_ble_eq_true rfl) ⟨rfl, rfl⟩ rfl dX12_ofChildren_24 ?_
      refine r_if_ne (pc := 27) (tgt := 32) dX12_ofChildren_27 (by decide) rfl (fun c_13 => ?_) (fun c_13 => ?_)
      · replace h := (if_neg c_13).symm.trans h
        refine r_aload_n (pc := 32) (i := 0) dX12_ofChildren_32 rfl 0 rfl ?_
        refine r_getI (pc := 33) fg_12_153 rfl oa0 dX12_ofChildren_33 ?_
        refine r_if_eq (pc := 36) (tgt := 64) dX12_ofChildren_36 (by decide) rfl (fun c_14 => ?_) (fun c_14 => ?_)
        · replace h := (if_pos c_14).symm.trans h
          refine r_iconst (pc := 64) (v := 1) dX12_ofChildren_64 (by decide +kernel) ?_
          cases h
          exact r_iret (pc := 65) rfl (zn_ok (Or.inr rfl)).1 (Nat.le_refl 0) (Nat.le_refl 0) dX12_ofChildren_65
        · replace h := (if_neg c_14).symm.trans h
          refine r_aload_n (pc := 39) (i := 0) dX12_ofChildren_39 rfl 0 rfl ?_
          have o_15 := (wt_12_20 oa0).2
          refine r_getR (pc := 40) fg_12_41 rfl oa0 (wt_12_20 oa0).1 dX12_ofChildren_40 ?_
          refine r_bipush (pc := 43) (v := 28) dX12_ofChildren_43 (by decide +kernel) ?_
          refine r_bipush (pc := 45) (v := 13) dX12_ofChildren_45 (by decide +kernel) ?_
          refine r_aload_n (pc := 47) (i := 0) dX12_ofChildren_47 rfl 0 rfl ?_
          have o_16 := (wt_12_21 oa0).2
          refine r_getR (pc := 48) fg_12_44 rfl oa0 (wt_12_21 oa0).1 dX12_ofChildren_48 ?_
          refine r_iconst (pc := 51) (v := 0) dX12_ofChildren_51 (by decide +kernel) ?_
          refine r_iald (pc := 52) o_16 wl_0 ⟨by decide, by decide⟩ rfl dX12_ofChildren_52 ?_
          refine r_imul (pc := 53) dX12_ofChildren_53 ?_
          refine r_iadd (pc := 54) dX12_ofChildren_54 ?_
          refine r_iconst (pc := 55) (v := 4) dX12_ofChildren_55 (by decide +kernel) ?_
          refine r_iadd (pc := 56) dX12_ofChildren_56 ?_
          refine r_aload_n (pc := 57) (i := 0) dX12_ofChildren_57 rfl 0 rfl ?_
          have o_17 := (wt_12_21 oa0).2
          refine r_getR (pc := 58) fg_12_44 rfl oa0 (wt_12_21 oa0).1 dX12_ofChildren_58 ?_
          refine r_iconst (pc := 61) (v := 1) dX12_ofChildren_61 (by decide +kernel) ?_
          refine r_iald (pc := 62) o_17 wl_1 ⟨by decide, by decide⟩ rfl dX12_ofChildren_62 ?_
          obtain ⟨c_18, h⟩ := og h
          obtain ⟨M_19, hM_19, h⟩ := ob h
          refine r_iast (pc := 63) o_15 rfl c_18 rfl hM_19 dX12_ofChildren_63 ?_
          refine r_iconst (pc := 64) (v := 1) dX12_ofChildren_64 (by decide +kernel) ?_
          cases h
          exact r_iret (pc := 65) rfl (zn_ok (Or.inr rfl)).1 (Nat.le_refl 0) (Nat.le_refl 0) dX12_ofChildren_65
      · replace h := (if_pos c_13).symm.trans h
        refine r_iconst (pc := 30) (v := 0) dX12_ofChildren_30 (by decide +kernel) ?_
        cases h
        exact r_iret (pc := 31) rfl (zn_ok (Or.inl rfl)).1 (Nat.le_refl 0) (Nat.le_refl 0) dX12_ofChildren_31
  · replace h := (if_pos c_2).symm.trans h
    refine r_iconst (pc := 9) (v := 0) dX12_ofChildren_9 (by decide +kernel) ?_
    cases h
    exact r_iret (pc := 10) rfl (zn_ok (Or.inl rfl)).1 (Nat.le_refl 0) (Nat.le_refl 0) dX12_ofChildren_10
theorem kX12_ofChildren {G : GG} (a0 : Nat) (y1 : Int) (M : MM) {res : (Int × MM)} (oa0 : OB L0 a0 12) (h : sX12_ofChildren a0 y1 M = some res) : CO G xX12_ofChildren [.ref (gA G a0), .long (eJ y1)] L0 M (some (.int (eI res.1))) L0 res.2 := CO_of (by decide +kernel) (Nat.le_of_ble_eq_true rfl) (bX12_ofChildren_b0 a0 y1 oa0 M h)
abbrev xX12_weightLine : XX := (yX12_weightLine, cX12_weightLine, 2, (some .boolean), 4, 91, 0, 0)
theorem ck_X12_weightLine_181 : CKV xX12_weightLine 181 xX12_take 3 := ⟨⟨tb_i 1703 (by decide +kernel) (by decide +kernel), tb_i 152 (by decide +kernel) (by decide +kernel), tb_i 1706 (by decide +kernel) (by decide +kernel), ⟨by decide +kernel, by decide +kernel, by decide +kernel⟩, by decide, by decide⟩, tb_i 1705 (by decide +kernel) (by decide +kernel), tb_i 61 (by decide +kernel) (by decide +kernel)⟩
def sX12_weightLine_b54 (a0 : Nat) (x1 : Int)  (b90 : Nat) (x91 : Int) (M : MM) : Option (Int × MM) := (if 0 ≤ wI (x91 + (M (gR a0 21) 0)) ∧ wI (x91 + (M (gR a0 21) 0)) < 132 then ((some (mU M b90 (wI (x91 + (M (gR a0 21) 0))).toNat (M (gR a0 21) 1))).bind fun M_4 => (some ((1, M_4)))) else none)
def sX12_weightLine_b13 (a0 : Nat) (x1 : Int)  (a90 : Nat) (x91 : Int) (x92 : Int) (x93 : Int) (M : MM) : Option (Int × MM) := ((sX12_take a90 x91 x92 x93 M).bind fun q_1 => (if wI (q_1.1) = 0 then (some ((0, q_1.2))) else ((sX12_take a0 1 0 9 q_1.2).bind fun q_3 => (if wI (q_3.1) = 0 then (some ((0, q_3.2))) else (if wI (q_3.2 a0 23) = 0 then (some ((1, q_3.2))) else (if wI x1 = 0 then (sX12_weightLine_b54 a0 x1 (gR a0 20) 15 q_3.2) else (sX12_weightLine_b54 a0 x1 (gR a0 20) 7 q_3.2)))))))
def sX12_weightLine_b0 (a0 : Nat) (x1 : Int)   (M : MM) : Option (Int × MM) := (if wI x1 = 0 then (sX12_weightLine_b13 a0 x1 a0 0 0 2 M) else (sX12_weightLine_b13 a0 x1 a0 0 0 7 M))
def sX12_weightLine (a0 : Nat) (x1 : Int) (M : MM) : Option (Int × MM) := sX12_weightLine_b0 a0 x1 M
set_option maxHeartbeats 4000000 in
set_option maxRecDepth 100000 in
theorem bX12_weightLine_b54 {G : GG} (a0 : Nat) (x1 : Int) (oa0 : OB L0 a0 12) (b90 : Nat) (x91 : Int) (M : MM) {res : (Int × MM)} (ob90 : AR L0 b90 1 132) (h : sX12_weightLine_b54 a0 x1 b90 x91 M = some res) : VV G xX12_weightLine (ZM G xX12_weightLine (some (.int (eI res.1))) L0 res.2) L0 M 0 0 54 [(0, .ref (gA G a0))] [.int (eI x91), .ref (gA G b90)] := by
  unfold sX12_weightLine_b54 at h
  refine r_aload_n (pc := 54) (i := 0) dX12_weightLine_54 rfl 0 rfl ?_
  have o_1 := (wt_12_21 oa0).2
  refine r_getR (pc := 55) fg_12_44 rfl oa0 (wt_12_21 oa0).1 dX12_weightLine_55 ?_
  refine r_iconst (pc := 58) (v := 0) dX12_weightLine_58 (by decide +kernel) ?_
  refine r_iald (pc := 59) o_1 wl_0 ⟨by decide, by decide⟩ rfl dX12_weightLine_59 ?_
  refine r_iadd (pc := 60) dX12_weightLine_60 ?_
  refine r_aload_n (pc := 61) (i := 0) dX12_weightLine_61 rfl 0 rfl ?_
  have o_2 := (wt_12_21 oa0).2
  refine r_getR (pc := 62) fg_12_44 rfl oa0 (wt_12_21 oa0).1 dX12_weightLine_62 ?_
  refine r_iconst (pc := 65) (v := 1) dX12_weightLine_65 (by decide +kernel) ?_
  refine r_iald (pc := 66) o_2 wl_1 ⟨by decide, by decide⟩ rfl dX12_weightLine_66 ?_
  obtain ⟨c_3, h⟩ := og h
  obtain ⟨M_4, hM_4, h⟩ := ob h
  refine r_iast (pc := 67) ob90 rfl c_3 rfl hM_4 dX12_weightLine_67 ?_
  refine r_iconst (pc := 68) (v := 1) dX12_weightLine_68 (by decide +kernel) ?_
  cases h
  exact r_iret (pc := 69) rfl (zn_ok (Or.inr rfl)).1 (Nat.le_refl 0) (Nat.le_refl 0) dX12_weightLine_69
set_option maxHeartbeats 4000000 in
set_option maxRecDepth 100000 in
theorem bX12_weightLine_b13 {G : GG} (a0 : Nat) (x1 : Int) (oa0 : OB L0 a0 12) (a90 : Nat) (x91 : Int) (x92 : Int) (x93 : Int) (M : MM) {res : (Int × MM)} (oa90 : OB L0 a90 12) (h : sX12_weightLine_b13 a0 x1 a90 x91 x92 x93 M = some res) : VV G xX12_weightLine (ZM G xX12_weightLine (some (.int (eI res.1))) L0 res.2) L0 M 0 0 13 [(0, .ref (gA G a0)), (1, .int (eI x1))] [.int (eI x93), .int (eI x92), .int (eI x91), .ref (gA G a90)] := by
  unfold sX12_weightLine_b13 at h
  obtain ⟨q_1, hq_1, h⟩ := ob h
  refine r_cV (pc := 13) (Y := xX12_take) (As := [.int (eI x91), .int (eI x92), .int (eI x93)]) (rest := []) (v := (some (.int (eI (q_1.1))))) (st1 := [.int (eI (q_1.1))]) ck_X12_weightLine_181 (kX12_take a90 x91 x92 x93 M oa90 hq_1) oa90 rfl rfl rfl rfl (Nat.le_of_ble_eq_true rfl) ⟨rfl, rfl⟩ rfl dX12_weightLine_13 ?_
  refine r_if_eq (pc := 16) (tgt := 30) dX12_weightLine_16 (by decide) rfl (fun c_2 => ?_) (fun c_2 => ?_)
  · replace h := (if_pos c_2).symm.trans h
    refine r_iconst (pc := 30) (v := 0) dX12_weightLine_30 (by decide +kernel) ?_
    cases h
    exact r_iret (pc := 31) rfl (zn_ok (Or.inl rfl)).1 (Nat.le_refl 0) (Nat.le_refl 0) dX12_weightLine_31
  · replace h := (if_neg c_2).symm.trans h
    refine r_aload_n (pc := 19) (i := 0) dX12_weightLine_19 rfl 0 rfl ?_
    refine r_iconst (pc := 20) (v := 1) dX12_weightLine_20 (by decide +kernel) ?_
    refine r_iconst (pc := 21) (v := 0) dX12_weightLine_21 (by decide +kernel) ?_
    refine r_bipush (pc := 22) (v := 9) dX12_weightLine_22 (by decide +kernel) ?_
    obtain ⟨q_3, hq_3, h⟩ := ob h
    refine r_cV (pc := 24) (Y := xX12_take) (As := [.int (eI 1), .int (eI 0), .int (eI 9)]) (rest := []) (v := (some (.int (eI (q_3.1))))) (st1 := [.int (eI (q_3.1))]) ck_X12_weightLine_181 (kX12_take a0 1 0 9 q_1.2 oa0 hq_3) oa0 rfl rfl rfl rfl (Nat.le_of_ble_eq_true rfl) ⟨rfl, rfl⟩ rfl dX12_weightLine_24 ?_
    refine r_if_ne (pc := 27) (tgt := 32) dX12_weightLine_27 (by decide) rfl (fun c_4 => ?_) (fun c_4 => ?_)
    · replace h := (if_neg c_4).symm.trans h
      refine r_aload_n (pc := 32) (i := 0) dX12_weightLine_32 rfl 0 rfl ?_
      refine r_getI (pc := 33) fg_12_153 rfl oa0 dX12_weightLine_33 ?_
      refine r_if_eq (pc := 36) (tgt := 68) dX12_weightLine_36 (by decide) rfl (fun c_5 => ?_) (fun c_5 => ?_)
      · replace h := (if_pos c_5).symm.trans h
        refine r_iconst (pc := 68) (v := 1) dX12_weightLine_68 (by decide +kernel) ?_
        cases h
        exact r_iret (pc := 69) rfl (zn_ok (Or.inr rfl)).1 (Nat.le_refl 0) (Nat.le_refl 0) dX12_weightLine_69
      · replace h := (if_neg c_5).symm.trans h
        refine r_aload_n (pc := 39) (i := 0) dX12_weightLine_39 rfl 0 rfl ?_
        have o_6 := (wt_12_20 oa0).2
        refine r_getR (pc := 40) fg_12_41 rfl oa0 (wt_12_20 oa0).1 dX12_weightLine_40 ?_
        refine r_iload_n (pc := 43) (i := 1) dX12_weightLine_43 rfl 1 rfl ?_
        refine r_if_eq (pc := 44) (tgt := 52) dX12_weightLine_44 (by decide) rfl (fun c_7 => ?_) (fun c_7 => ?_)
        · replace h := (if_pos c_7).symm.trans h
          refine r_bipush (pc := 52) (v := 15) dX12_weightLine_52 (by decide +kernel) ?_
          refine r_sub (lv' := [(0, .ref (gA G a0))]) [0] rfl ?_
          exact bX12_weightLine_b54 a0 x1 oa0 _ _ _ o_6 h
        · replace h := (if_neg c_7).symm.trans h
          refine r_bipush (pc := 47) (v := 7) dX12_weightLine_47 (by decide +kernel) ?_
          refine r_goto (pc := 49) (tgt := 54) dX12_weightLine_49 (by decide) ?_
          refine r_sub (lv' := [(0, .ref (gA G a0))]) [0] rfl ?_
          exact bX12_weightLine_b54 a0 x1 oa0 _ _ _ o_6 h
    · replace h := (if_pos c_4).symm.trans h
      refine r_iconst (pc := 30) (v := 0) dX12_weightLine_30 (by decide +kernel) ?_
      cases h
      exact r_iret (pc := 31) rfl (zn_ok (Or.inl rfl)).1 (Nat.le_refl 0) (Nat.le_refl 0) dX12_weightLine_31
set_option maxHeartbeats 4000000 in
set_option maxRecDepth 100000 in
theorem bX12_weightLine_b0 {G : GG} (a0 : Nat) (x1 : Int) (oa0 : OB L0 a0 12)  (M : MM) {res : (Int × MM)}  (h : sX12_weightLine_b0 a0 x1 M = some res) : VV G xX12_weightLine (ZM G xX12_weightLine (some (.int (eI res.1))) L0 res.2) L0 M 0 0 0 [(0, .ref (gA G a0)), (1, .int (eI x1))] [] := by
  unfold sX12_weightLine_b0 at h
  refine r_aload_n (pc := 0) (i := 0) dX12_weightLine_0 rfl 0 rfl ?_
  refine r_iconst (pc := 1) (v := 0) dX12_weightLine_1 (by decide +kernel) ?_
  refine r_iconst (pc := 2) (v := 0) dX12_weightLine_2 (by decide +kernel) ?_
  refine r_iload_n (pc := 3) (i := 1) dX12_weightLine_3 rfl 1 rfl ?_
  refine r_if_eq (pc := 4) (tgt := 12) dX12_weightLine_4 (by decide) rfl (fun c_1 => ?_) (fun c_1 => ?_)
  · replace h := (if_pos c_1).symm.trans h
    refine r_iconst (pc := 12) (v := 2) dX12_weightLine_12 (by decide +kernel) ?_
    refine r_sub (lv' := [(0, .ref (gA G a0)), (1, .int (eI x1))]) [0, 1] rfl ?_
    exact bX12_weightLine_b13 a0 x1 oa0 _ _ _ _ _ oa0 h
  · replace h := (if_neg c_1).symm.trans h
    refine r_bipush (pc := 7) (v := 7) dX12_weightLine_7 (by decide +kernel) ?_
    refine r_goto (pc := 9) (tgt := 13) dX12_weightLine_9 (by decide) ?_
    refine r_sub (lv' := [(0, .ref (gA G a0)), (1, .int (eI x1))]) [0, 1] rfl ?_
    exact bX12_weightLine_b13 a0 x1 oa0 _ _ _ _ _ oa0 h
theorem kX12_weightLine {G : GG} (a0 : Nat) (x1 : Int) (M : MM) {res : (Int × MM)} (oa0 : OB L0 a0 12) (h : sX12_weightLine a0 x1 M = some res) : CO G xX12_weightLine [.ref (gA G a0), .int (eI x1)] L0 M (some (.int (eI res.1))) L0 res.2 := CO_of (by decide +kernel) (Nat.le_of_ble_eq_true rfl) (bX12_weightLine_b0 a0 x1 oa0 M h)
abbrev xX12_partyLine : XX := (yX12_partyLine, cX12_partyLine, 6, (some .boolean), 5, 113, 0, 0)
theorem ck_X12_partyLine_145 : CKV xX12_partyLine 145 xX12_fails 0 := ⟨⟨tb_i 1676 (by decide +kernel) (by decide +kernel), tb_i 152 (by decide +kernel) (by decide +kernel), tb_i 1679 (by decide +kernel) (by decide +kernel), ⟨by decide +kernel, by decide +kernel, by decide +kernel⟩, by decide, by decide⟩, tb_i 1678 (by decide +kernel) (by decide +kernel), tb_i 55 (by decide +kernel) (by decide +kernel)⟩
theorem ck_X12_partyLine_157 : CKV xX12_partyLine 157 xX12_token 0 := ⟨⟨tb_i 1641 (by decide +kernel) (by decide +kernel), tb_i 152 (by decide +kernel) (by decide +kernel), tb_i 1644 (by decide +kernel) (by decide +kernel), ⟨by decide +kernel, by decide +kernel, by decide +kernel⟩, by decide, by decide⟩, tb_i 1643 (by decide +kernel) (by decide +kernel), tb_i 50 (by decide +kernel) (by decide +kernel)⟩
theorem ck_X12_partyLine_181 : CKV xX12_partyLine 181 xX12_take 3 := ⟨⟨tb_i 1703 (by decide +kernel) (by decide +kernel), tb_i 152 (by decide +kernel) (by decide +kernel), tb_i 1706 (by decide +kernel) (by decide +kernel), ⟨by decide +kernel, by decide +kernel, by decide +kernel⟩, by decide, by decide⟩, tb_i 1705 (by decide +kernel) (by decide +kernel), tb_i 61 (by decide +kernel) (by decide +kernel)⟩
theorem ck_X12_partyLine_192 : CKS xX12_partyLine 192 xX12_plainOf 1 := ⟨⟨tb_i 1661 (by decide +kernel) (by decide +kernel), tb_i 152 (by decide +kernel) (by decide +kernel), tb_i 1663 (by decide +kernel) (by decide +kernel), ⟨by decide +kernel, by decide +kernel, by decide +kernel⟩, by decide, by decide⟩, tb_i 1662 (by decide +kernel) (by decide +kernel)⟩
theorem ck_X12_partyLine_206 : CKV xX12_partyLine 206 xX12_full 3 := ⟨⟨tb_i 1680 (by decide +kernel) (by decide +kernel), tb_i 152 (by decide +kernel) (by decide +kernel), tb_i 1683 (by decide +kernel) (by decide +kernel), ⟨by decide +kernel, by decide +kernel, by decide +kernel⟩, by decide, by decide⟩, tb_i 1682 (by decide +kernel) (by decide +kernel), tb_i 56 (by decide +kernel) (by decide +kernel)⟩
theorem ck_X12_partyLine_210 : CKV xX12_partyLine 210 xX12_ofChildren 1 := ⟨⟨tb_i 1688 (by decide +kernel) (by decide +kernel), tb_i 152 (by decide +kernel) (by decide +kernel), tb_i 1691 (by decide +kernel) (by decide +kernel), ⟨by decide +kernel, by decide +kernel, by decide +kernel⟩, by decide, by decide⟩, tb_i 1690 (by decide +kernel) (by decide +kernel), tb_i 58 (by decide +kernel) (by decide +kernel)⟩
theorem ck_X12_partyLine_214 : CKV xX12_partyLine 214 xX12_childLine 0 := ⟨⟨tb_i 1707 (by decide +kernel) (by decide +kernel), tb_i 152 (by decide +kernel) (by decide +kernel), tb_i 1710 (by decide +kernel) (by decide +kernel), ⟨by decide +kernel, by decide +kernel, by decide +kernel⟩, by decide, by decide⟩, tb_i 1709 (by decide +kernel) (by decide +kernel), tb_i 62 (by decide +kernel) (by decide +kernel)⟩
theorem ck_X12_partyLine_217 : CKV xX12_partyLine 217 xX12_weightLine 1 := ⟨⟨tb_i 1711 (by decide +kernel) (by decide +kernel), tb_i 152 (by decide +kernel) (by decide +kernel), tb_i 1714 (by decide +kernel) (by decide +kernel), ⟨by decide +kernel, by decide +kernel, by decide +kernel⟩, by decide, by decide⟩, tb_i 1713 (by decide +kernel) (by decide +kernel), tb_i 63 (by decide +kernel) (by decide +kernel)⟩
theorem ck_X12_partyLine_221 : CKV xX12_partyLine 221 xX12_keep 4 := ⟨⟨tb_i 1715 (by decide +kernel) (by decide +kernel), tb_i 152 (by decide +kernel) (by decide +kernel), tb_i 1718 (by decide +kernel) (by decide +kernel), ⟨by decide +kernel, by decide +kernel, by decide +kernel⟩, by decide, by decide⟩, tb_i 1717 (by decide +kernel) (by decide +kernel), tb_i 64 (by decide +kernel) (by decide +kernel)⟩
theorem ck_X12_partyLine_225 : CKS xX12_partyLine 225 xX12_lowOf 1 := ⟨⟨tb_i 1719 (by decide +kernel) (by decide +kernel), tb_i 152 (by decide +kernel) (by decide +kernel), tb_i 1721 (by decide +kernel) (by decide +kernel), ⟨by decide +kernel, by decide +kernel, by decide +kernel⟩, by decide, by decide⟩, tb_i 1720 (by decide +kernel) (by decide +kernel)⟩
theorem ck_X12_partyLine_229 : CKS xX12_partyLine 229 xX12_highOf 1 := ⟨⟨tb_i 1722 (by decide +kernel) (by decide +kernel), tb_i 152 (by decide +kernel) (by decide +kernel), tb_i 1724 (by decide +kernel) (by decide +kernel), ⟨by decide +kernel, by decide +kernel, by decide +kernel⟩, by decide, by decide⟩, tb_i 1723 (by decide +kernel) (by decide +kernel)⟩
def sX12_partyLine_b177 (a0 : Nat) (y1 : Int) (x3 : Int)  (a90 : Nat) (x91 : Int) (M : MM) : Option (Int × MM) := ((sX12_weightLine a90 x91 M).bind fun q_1 => (if (q_1.1) = 0 ∨ (q_1.1) = 1 then (some (((q_1.1), q_1.2))) else none))
def sX12_partyLine_b163 (a0 : Nat) (y1 : Int) (x3 : Int)   (M : MM) : Option (Int × MM) := (if wJ y1 = 128047779833188 then (sX12_partyLine_b177 a0 y1 x3 a0 1 M) else (sX12_partyLine_b177 a0 y1 x3 a0 0 M))
def sX12_partyLine_b119 (a0 : Nat) (y1 : Int) (x3 : Int)  (x4 : Int) (x5 : Int) (M : MM) : Option (Int × MM) := ((sX12_token a0 M).bind fun q_1 => (if wI x5 = 0 then (if wJ y1 = 426953501796 then ((sX12_childLine a0 q_1).bind fun q_18 => (if (q_18.1) = 0 ∨ (q_18.1) = 1 then (some (((q_18.1), q_18.2))) else none)) else (if wJ y1 = 128047779833188 then (sX12_partyLine_b163 a0 y1 x3 q_1) else (if wJ y1 = 1919512167 then (sX12_partyLine_b163 a0 y1 x3 q_1) else (if wJ y1 = 1885434484 then ((sX12_take a0 0 0 9 q_1).bind fun q_13 => (if wI (q_13.1) = 0 then (some ((0, q_13.2))) else ((sX12_take a0 1 1 30 q_13.2).bind fun q_15 => (if wI (q_15.1) = 0 then (some ((0, q_15.2))) else ((sX12_keep a0 0 18 2 5 q_15.2).bind fun q_17 => (some ((1, q_17)))))))) else ((sX12_take a0 0 (sX12_lowOf x4) (sX12_highOf x4) q_1).bind fun q_7 => (if wI (q_7.1) = 0 then (some ((0, q_7.2))) else (if 0 ≤ wI x4 ∧ wI x4 < 132 then ((some (mU q_7.2 (gR a0 20) (wI x4).toNat (q_7.2 (gR a0 21) 0))).bind fun M_12 => (some ((1, M_12)))) else none))))))) else ((sX12_ofChildren a0 y1 q_1).bind fun q_20 => (if (q_20.1) = 0 ∨ (q_20.1) = 1 then (some (((q_20.1), q_20.2))) else none))))
def sX12_partyLine_b85 (a0 : Nat) (y1 : Int) (x3 : Int)  (x4 : Int) (x5 : Int) (M : MM) : Option (Int × MM) := (if wJ y1 = 1885434484 then ((sX12_full a0 0 5 x3 M).bind fun q_4 => (sX12_partyLine_b119 a0 y1 x3 x4 x5 q_4)) else (if wJ y1 = 426953501796 then ((sX12_full a0 1 8 x3 M).bind fun q_3 => (sX12_partyLine_b119 a0 y1 x3 x4 x5 q_3)) else (sX12_partyLine_b119 a0 y1 x3 x4 x5 M)))
def sX12_partyLine_b35 (a0 : Nat) (y1 : Int) (x3 : Int)  (x4 : Int) (x90 : Int) (M : MM) : Option (Int × MM) := (if wI x4 = (-1) then (if wI x90 = 0 then (if wJ y1 = 1885434484 then (sX12_partyLine_b85 a0 y1 x3 x4 x90 M) else (if wJ y1 = 426953501796 then (sX12_partyLine_b85 a0 y1 x3 x4 x90 M) else (if wJ y1 = 128047779833188 then (sX12_partyLine_b85 a0 y1 x3 x4 x90 M) else (if wJ y1 = 1919512167 then (sX12_partyLine_b85 a0 y1 x3 x4 x90 M) else ((sX12_fails a0 M).bind fun q_7 => (if (q_7.1) = 0 ∨ (q_7.1) = 1 then (some (((q_7.1), q_7.2))) else none)))))) else (sX12_partyLine_b85 a0 y1 x3 x4 x90 M)) else (sX12_partyLine_b85 a0 y1 x3 x4 x90 M))
def sX12_partyLine_b30 (a0 : Nat) (y1 : Int) (x3 : Int)  (x4 : Int) (M : MM) : Option (Int × MM) := (sX12_partyLine_b35 a0 y1 x3 x4 1 M)
def sX12_partyLine_b0 (a0 : Nat) (y1 : Int) (x3 : Int)   (M : MM) : Option (Int × MM) := (if wJ y1 = 1667591276 then (sX12_partyLine_b30 a0 y1 x3 (sX12_plainOf y1) M) else (if wJ y1 = 112641580559972 then (sX12_partyLine_b30 a0 y1 x3 (sX12_plainOf y1) M) else (if wJ y1 = 6713189 then (sX12_partyLine_b30 a0 y1 x3 (sX12_plainOf y1) M) else (sX12_partyLine_b35 a0 y1 x3 (sX12_plainOf y1) 0 M))))
def sX12_partyLine (a0 : Nat) (y1 : Int) (x3 : Int) (M : MM) : Option (Int × MM) := sX12_partyLine_b0 a0 y1 x3 M
set_option maxHeartbeats 4000000 in
set_option maxRecDepth 100000 in
theorem bX12_partyLine_b177 {G : GG} (a0 : Nat) (y1 : Int) (x3 : Int) (oa0 : OB L0 a0 12) (a90 : Nat) (x91 : Int) (M : MM) {res : (Int × MM)} (oa90 : OB L0 a90 12) (h : sX12_partyLine_b177 a0 y1 x3 a90 x91 M = some res) : VV G xX12_partyLine (ZM G xX12_partyLine (some (.int (eI res.1))) L0 res.2) L0 M 0 0 177 [] [.int (eI x91), .ref (gA G a90)] := by
  unfold sX12_partyLine_b177 at h
  obtain ⟨q_1, hq_1, h⟩ := ob h
  refine r_cV (pc := 177) (Y := xX12_weightLine) (As := [.int (eI x91)]) (rest := []) (v := (some (.int (eI (q_1.1))))) (st1 := [.int (eI (q_1.1))]) ck_X12_partyLine_217 (kX12_weightLine a90 x91 M oa90 hq_1) oa90 rfl rfl rfl rfl (Nat.le_of_ble_eq_true rfl) ⟨rfl, rfl⟩ rfl dX12_partyLine_177 ?_
  obtain ⟨c_2, h⟩ := og h
  cases h
  exact r_iret (pc := 180) rfl (zn_ok c_2).1 (Nat.le_refl 0) (Nat.le_refl 0) dX12_partyLine_180
set_option maxHeartbeats 4000000 in
set_option maxRecDepth 100000 in
theorem bX12_partyLine_b163 {G : GG} (a0 : Nat) (y1 : Int) (x3 : Int) (oa0 : OB L0 a0 12)  (M : MM) {res : (Int × MM)}  (h : sX12_partyLine_b163 a0 y1 x3 M = some res) : VV G xX12_partyLine (ZM G xX12_partyLine (some (.int (eI res.1))) L0 res.2) L0 M 0 0 163 [(0, .ref (gA G a0)), (1, .long (eJ y1))] [] := by
  unfold sX12_partyLine_b163 at h
  refine r_aload_n (pc := 163) (i := 0) dX12_partyLine_163 rfl 0 rfl ?_
  refine r_lload_n (pc := 164) (i := 1) dX12_partyLine_164 rfl 1 rfl ?_
  refine r_ldc2 (pc := 165) (v := 128047779833188) kc_12_202 dX12_partyLine_165 ?_
  refine r_lcmp_ne (pc := 168) (tgt := 176) dX12_partyLine_168 dX12_partyLine_169 (by decide) rfl wj_128047779833188 (fun c_1 => ?_) (fun c_1 => ?_)
  · replace h := (if_neg c_1).symm.trans h
    refine r_iconst (pc := 176) (v := 0) dX12_partyLine_176 (by decide +kernel) ?_
    refine r_sub (lv' := []) [] rfl ?_
    exact bX12_partyLine_b177 a0 y1 x3 oa0 _ _ _ oa0 h
  · replace h := (if_pos c_1).symm.trans h
    refine r_iconst (pc := 172) (v := 1) dX12_partyLine_172 (by decide +kernel) ?_
    refine r_goto (pc := 173) (tgt := 177) dX12_partyLine_173 (by decide) ?_
    refine r_sub (lv' := []) [] rfl ?_
    exact bX12_partyLine_b177 a0 y1 x3 oa0 _ _ _ oa0 h
set_option maxHeartbeats 4000000 in
set_option maxRecDepth 100000 in
theorem bX12_partyLine_b119 {G : GG} (a0 : Nat) (y1 : Int) (x3 : Int) (oa0 : OB L0 a0 12) (x4 : Int) (x5 : Int) (M : MM) {res : (Int × MM)}  (h : sX12_partyLine_b119 a0 y1 x3 x4 x5 M = some res) : VV G xX12_partyLine (ZM G xX12_partyLine (some (.int (eI res.1))) L0 res.2) L0 M 0 0 119 [(0, .ref (gA G a0)), (1, .long (eJ y1)), (4, .int (eI x4)), (5, .int (eI x5))] [] := by
  unfold sX12_partyLine_b119 at h
  refine r_aload_n (pc := 119) (i := 0) dX12_partyLine_119 rfl 0 rfl ?_
  obtain ⟨q_1, hq_1, h⟩ := ob h
  refine r_cV (pc := 120) (Y := xX12_token) (As := []) (rest := []) (v := none) (st1 := []) ck_X12_partyLine_157 (kX12_token a0 M oa0 hq_1) oa0 rfl rfl rfl rfl (Nat.le_of_ble_eq_true rfl) ⟨rfl, rfl⟩ rfl dX12_partyLine_120 ?_
  refine r_iload (pc := 123) dX12_partyLine_123 3 rfl ?_
  refine r_if_eq (pc := 125) (tgt := 134) dX12_partyLine_125 (by decide) rfl (fun c_2 => ?_) (fun c_2 => ?_)
  · replace h := (if_pos c_2).symm.trans h
    refine r_lload_n (pc := 134) (i := 1) dX12_partyLine_134 rfl 1 rfl ?_
    refine r_ldc2 (pc := 135) (v := 426953501796) kc_12_200 dX12_partyLine_135 ?_
    refine r_lcmp_ne (pc := 138) (tgt := 147) dX12_partyLine_138 dX12_partyLine_139 (by decide) rfl wj_426953501796 (fun c_3 => ?_) (fun c_3 => ?_)
    · replace h := (if_neg c_3).symm.trans h
      refine r_lload_n (pc := 147) (i := 1) dX12_partyLine_147 rfl 1 rfl ?_
      refine r_ldc2 (pc := 148) (v := 128047779833188) kc_12_202 dX12_partyLine_148 ?_
      refine r_lcmp_eq (pc := 151) (tgt := 163) dX12_partyLine_151 dX12_partyLine_152 (by decide) rfl wj_128047779833188 (fun c_4 => ?_) (fun c_4 => ?_)
      · replace h := (if_pos c_4).symm.trans h
        refine r_sub (lv' := [(0, .ref (gA G a0)), (1, .long (eJ y1))]) [0, 1] rfl ?_
        exact bX12_partyLine_b163 a0 y1 x3 oa0 _ h
      · replace h := (if_neg c_4).symm.trans h
        refine r_lload_n (pc := 155) (i := 1) dX12_partyLine_155 rfl 1 rfl ?_
        refine r_ldc2 (pc := 156) (v := 1919512167) kc_12_204 dX12_partyLine_156 ?_
        refine r_lcmp_ne (pc := 159) (tgt := 181) dX12_partyLine_159 dX12_partyLine_160 (by decide) rfl wj_1919512167 (fun c_5 => ?_) (fun c_5 => ?_)
        · replace h := (if_neg c_5).symm.trans h
          refine r_lload_n (pc := 181) (i := 1) dX12_partyLine_181 rfl 1 rfl ?_
          refine r_ldc2 (pc := 182) (v := 1885434484) kc_12_198 dX12_partyLine_182 ?_
          refine r_lcmp_ne (pc := 185) (tgt := 224) dX12_partyLine_185 dX12_partyLine_186 (by decide) rfl wj_1885434484 (fun c_6 => ?_) (fun c_6 => ?_)
          · replace h := (if_neg c_6).symm.trans h
            refine r_aload_n (pc := 224) (i := 0) dX12_partyLine_224 rfl 0 rfl ?_
            refine r_iconst (pc := 225) (v := 0) dX12_partyLine_225 (by decide +kernel) ?_
            refine r_iload (pc := 226) dX12_partyLine_226 2 rfl ?_
            refine r_cS (pc := 228) (Y := xX12_lowOf) (As := [.int (eI x4)]) (rest := [.int (eI 0), .ref (gA G a0)]) (v := (some (.int (eI (sX12_lowOf x4))))) (st1 := [.int (eI (sX12_lowOf x4)), .int (eI 0), .ref (gA G a0)]) ck_X12_partyLine_225 (kX12_lowOf x4 q_1 ) rfl rfl (Nat.le_of_ble_eq_true rfl) ⟨rfl, rfl⟩ rfl dX12_partyLine_228 ?_
            refine r_iload (pc := 231) dX12_partyLine_231 2 rfl ?_
            refine r_cS (pc := 233) (Y := xX12_highOf) (As := [.int (eI x4)]) (rest := [.int (eI (sX12_lowOf x4)), .int (eI 0), .ref (gA G a0)]) (v := (some (.int (eI (sX12_highOf x4))))) (st1 := [.int (eI (sX12_highOf x4)), .int (eI (sX12_lowOf x4)), .int (eI 0), .ref (gA G a0)]) ck_X12_partyLine_229 (kX12_highOf x4 q_1 ) rfl rfl (Nat.le_of_ble_eq_true rfl) ⟨rfl, rfl⟩ rfl dX12_partyLine_233 ?_
            obtain ⟨q_7, hq_7, h⟩ := ob h
            refine r_cV (pc := 236) (Y := xX12_take) (As := [.int (eI 0), .int (eI (sX12_lowOf x4)), .int (eI (sX12_highOf x4))]) (rest := []) (v := (some (.int (eI (q_7.1))))) (st1 := [.int (eI (q_7.1))]) ck_X12_partyLine_181 (kX12_take a0 0 (sX12_lowOf x4) (sX12_highOf x4) q_1 oa0 hq_7) oa0 rfl rfl rfl rfl (Nat.le_of_ble_eq_true rfl) ⟨rfl, rfl⟩ rfl dX12_partyLine_236 ?_
            refine r_if_ne (pc := 239) (tgt := 244) dX12_partyLine_239 (by decide) rfl (fun c_8 => ?_) (fun c_8 => ?_)
            · replace h := (if_neg c_8).symm.trans h
              refine r_aload_n (pc := 244) (i := 0) dX12_partyLine_244 rfl 0 rfl ?_
              have o_9 := (wt_12_20 oa0).2
              refine r_getR (pc := 245) fg_12_41 rfl oa0 (wt_12_20 oa0).1 dX12_partyLine_245 ?_
              refine r_iload (pc := 248) dX12_partyLine_248 2 rfl ?_
              refine r_aload_n (pc := 250) (i := 0) dX12_partyLine_250 rfl 0 rfl ?_
              have o_10 := (wt_12_21 oa0).2
              refine r_getR (pc := 251) fg_12_44 rfl oa0 (wt_12_21 oa0).1 dX12_partyLine_251 ?_
              refine r_iconst (pc := 254) (v := 0) dX12_partyLine_254 (by decide +kernel) ?_
              refine r_iald (pc := 255) o_10 wl_0 ⟨by decide, by decide⟩ rfl dX12_partyLine_255 ?_
              obtain ⟨c_11, h⟩ := og h
              obtain ⟨M_12, hM_12, h⟩ := ob h
              refine r_iast (pc := 256) o_9 rfl c_11 rfl hM_12 dX12_partyLine_256 ?_
              refine r_iconst (pc := 257) (v := 1) dX12_partyLine_257 (by decide +kernel) ?_
              cases h
              exact r_iret (pc := 258) rfl (zn_ok (Or.inr rfl)).1 (Nat.le_refl 0) (Nat.le_refl 0) dX12_partyLine_258
            · replace h := (if_pos c_8).symm.trans h
              refine r_iconst (pc := 242) (v := 0) dX12_partyLine_242 (by decide +kernel) ?_
              cases h
              exact r_iret (pc := 243) rfl (zn_ok (Or.inl rfl)).1 (Nat.le_refl 0) (Nat.le_refl 0) dX12_partyLine_243
          · replace h := (if_pos c_6).symm.trans h
            refine r_aload_n (pc := 189) (i := 0) dX12_partyLine_189 rfl 0 rfl ?_
            refine r_iconst (pc := 190) (v := 0) dX12_partyLine_190 (by decide +kernel) ?_
            refine r_iconst (pc := 191) (v := 0) dX12_partyLine_191 (by decide +kernel) ?_
            refine r_bipush (pc := 192) (v := 9) dX12_partyLine_192 (by decide +kernel) ?_
            obtain ⟨q_13, hq_13, h⟩ := ob h
            refine r_cV (pc := 194) (Y := xX12_take) (As := [.int (eI 0), .int (eI 0), .int (eI 9)]) (rest := []) (v := (some (.int (eI (q_13.1))))) (st1 := [.int (eI (q_13.1))]) ck_X12_partyLine_181 (kX12_take a0 0 0 9 q_1 oa0 hq_13) oa0 rfl rfl rfl rfl (Nat.le_of_ble_eq_true rfl) ⟨rfl, rfl⟩ rfl dX12_partyLine_194 ?_
            refine r_if_eq (pc := 197) (tgt := 211) dX12_partyLine_197 (by decide) rfl (fun c_14 => ?_) (fun c_14 => ?_)
            · replace h := (if_pos c_14).symm.trans h
              refine r_iconst (pc := 211) (v := 0) dX12_partyLine_211 (by decide +kernel) ?_
              cases h
              exact r_iret (pc := 212) rfl (zn_ok (Or.inl rfl)).1 (Nat.le_refl 0) (Nat.le_refl 0) dX12_partyLine_212
            · replace h := (if_neg c_14).symm.trans h
              refine r_aload_n (pc := 200) (i := 0) dX12_partyLine_200 rfl 0 rfl ?_
              refine r_iconst (pc := 201) (v := 1) dX12_partyLine_201 (by decide +kernel) ?_
              refine r_iconst (pc := 202) (v := 1) dX12_partyLine_202 (by decide +kernel) ?_
              refine r_bipush (pc := 203) (v := 30) dX12_partyLine_203 (by decide +kernel) ?_
              obtain ⟨q_15, hq_15, h⟩ := ob h
              refine r_cV (pc := 205) (Y := xX12_take) (As := [.int (eI 1), .int (eI 1), .int (eI 30)]) (rest := []) (v := (some (.int (eI (q_15.1))))) (st1 := [.int (eI (q_15.1))]) ck_X12_partyLine_181 (kX12_take a0 1 1 30 q_13.2 oa0 hq_15) oa0 rfl rfl rfl rfl (Nat.le_of_ble_eq_true rfl) ⟨rfl, rfl⟩ rfl dX12_partyLine_205 ?_
              refine r_if_ne (pc := 208) (tgt := 213) dX12_partyLine_208 (by decide) rfl (fun c_16 => ?_) (fun c_16 => ?_)
              · replace h := (if_neg c_16).symm.trans h
                refine r_aload_n (pc := 213) (i := 0) dX12_partyLine_213 rfl 0 rfl ?_
                refine r_iconst (pc := 214) (v := 0) dX12_partyLine_214 (by decide +kernel) ?_
                refine r_bipush (pc := 215) (v := 18) dX12_partyLine_215 (by decide +kernel) ?_
                refine r_iconst (pc := 217) (v := 2) dX12_partyLine_217 (by decide +kernel) ?_
                refine r_iconst (pc := 218) (v := 5) dX12_partyLine_218 (by decide +kernel) ?_
                obtain ⟨q_17, hq_17, h⟩ := ob h
                refine r_cV (pc := 219) (Y := xX12_keep) (As := [.int (eI 0), .int (eI 18), .int (eI 2), .int (eI 5)]) (rest := []) (v := none) (st1 := []) ck_X12_partyLine_221 (kX12_keep a0 0 18 2 5 q_15.2 oa0 hq_17) oa0 rfl rfl rfl rfl (Nat.le_of_ble_eq_true rfl) ⟨rfl, rfl⟩ rfl dX12_partyLine_219 ?_
                refine r_iconst (pc := 222) (v := 1) dX12_partyLine_222 (by decide +kernel) ?_
                cases h
                exact r_iret (pc := 223) rfl (zn_ok (Or.inr rfl)).1 (Nat.le_refl 0) (Nat.le_refl 0) dX12_partyLine_223
              · replace h := (if_pos c_16).symm.trans h
                refine r_iconst (pc := 211) (v := 0) dX12_partyLine_211 (by decide +kernel) ?_
                cases h
                exact r_iret (pc := 212) rfl (zn_ok (Or.inl rfl)).1 (Nat.le_refl 0) (Nat.le_refl 0) dX12_partyLine_212
        · replace h := (if_pos c_5).symm.trans h
          refine r_sub (lv' := [(0, .ref (gA G a0)), (1, .long (eJ y1))]) [0, 1] rfl ?_
          exact bX12_partyLine_b163 a0 y1 x3 oa0 _ h
    · replace h := (if_pos c_3).symm.trans h
      refine r_aload_n (pc := 142) (i := 0) dX12_partyLine_142 rfl 0 rfl ?_
      obtain ⟨q_18, hq_18, h⟩ := ob h
      refine r_cV (pc := 143) (Y := xX12_childLine) (As := []) (rest := []) (v := (some (.int (eI (q_18.1))))) (st1 := [.int (eI (q_18.1))]) ck_X12_partyLine_214 (kX12_childLine a0 q_1 oa0 hq_18) oa0 rfl rfl rfl rfl (Nat.le_of_ble_eq_true rfl) ⟨rfl, rfl⟩ rfl dX12_partyLine_143 ?_
      obtain ⟨c_19, h⟩ := og h
      cases h
      exact r_iret (pc := 146) rfl (zn_ok c_19).1 (Nat.le_refl 0) (Nat.le_refl 0) dX12_partyLine_146
  · replace h := (if_neg c_2).symm.trans h
    refine r_aload_n (pc := 128) (i := 0) dX12_partyLine_128 rfl 0 rfl ?_
    refine r_lload_n (pc := 129) (i := 1) dX12_partyLine_129 rfl 1 rfl ?_
    obtain ⟨q_20, hq_20, h⟩ := ob h
    refine r_cV (pc := 130) (Y := xX12_ofChildren) (As := [.long (eJ y1)]) (rest := []) (v := (some (.int (eI (q_20.1))))) (st1 := [.int (eI (q_20.1))]) ck_X12_partyLine_210 (kX12_ofChildren a0 y1 q_1 oa0 hq_20) oa0 rfl rfl rfl rfl (Nat.le_of_ble_eq_true rfl) ⟨rfl, rfl⟩ rfl dX12_partyLine_130 ?_
    obtain ⟨c_21, h⟩ := og h
    cases h
    exact r_iret (pc := 133) rfl (zn_ok c_21).1 (Nat.le_refl 0) (Nat.le_refl 0) dX12_partyLine_133
set_option maxHeartbeats 4000000 in
set_option maxRecDepth 100000 in
theorem bX12_partyLine_b85 {G : GG} (a0 : Nat) (y1 : Int) (x3 : Int) (oa0 : OB L0 a0 12) (x4 : Int) (x5 : Int) (M : MM) {res : (Int × MM)}  (h : sX12_partyLine_b85 a0 y1 x3 x4 x5 M = some res) : VV G xX12_partyLine (ZM G xX12_partyLine (some (.int (eI res.1))) L0 res.2) L0 M 0 0 85 [(0, .ref (gA G a0)), (1, .long (eJ y1)), (3, .int (eI x3)), (4, .int (eI x4)), (5, .int (eI x5))] [] := by
  unfold sX12_partyLine_b85 at h
  refine r_lload_n (pc := 85) (i := 1) dX12_partyLine_85 rfl 1 rfl ?_
  refine r_ldc2 (pc := 86) (v := 1885434484) kc_12_198 dX12_partyLine_86 ?_
  refine r_lcmp_ne (pc := 89) (tgt := 103) dX12_partyLine_89 dX12_partyLine_90 (by decide) rfl wj_1885434484 (fun c_1 => ?_) (fun c_1 => ?_)
  · replace h := (if_neg c_1).symm.trans h
    refine r_lload_n (pc := 103) (i := 1) dX12_partyLine_103 rfl 1 rfl ?_
    refine r_ldc2 (pc := 104) (v := 426953501796) kc_12_200 dX12_partyLine_104 ?_
    refine r_lcmp_ne (pc := 107) (tgt := 119) dX12_partyLine_107 dX12_partyLine_108 (by decide) rfl wj_426953501796 (fun c_2 => ?_) (fun c_2 => ?_)
    · replace h := (if_neg c_2).symm.trans h
      refine r_sub (lv' := [(0, .ref (gA G a0)), (1, .long (eJ y1)), (4, .int (eI x4)), (5, .int (eI x5))]) [0, 1, 3, 4] rfl ?_
      exact bX12_partyLine_b119 a0 y1 x3 oa0 _ _ _ h
    · replace h := (if_pos c_2).symm.trans h
      refine r_aload_n (pc := 111) (i := 0) dX12_partyLine_111 rfl 0 rfl ?_
      refine r_iconst (pc := 112) (v := 1) dX12_partyLine_112 (by decide +kernel) ?_
      refine r_bipush (pc := 113) (v := 8) dX12_partyLine_113 (by decide +kernel) ?_
      refine r_iload_n (pc := 115) (i := 3) dX12_partyLine_115 rfl 2 rfl ?_
      obtain ⟨q_3, hq_3, h⟩ := ob h
      refine r_cV (pc := 116) (Y := xX12_full) (As := [.int (eI 1), .int (eI 8), .int (eI x3)]) (rest := []) (v := none) (st1 := []) ck_X12_partyLine_206 (kX12_full a0 1 8 x3 M oa0 hq_3) oa0 rfl rfl rfl rfl (Nat.le_of_ble_eq_true rfl) ⟨rfl, rfl⟩ rfl dX12_partyLine_116 ?_
      refine r_sub (lv' := [(0, .ref (gA G a0)), (1, .long (eJ y1)), (4, .int (eI x4)), (5, .int (eI x5))]) [0, 1, 3, 4] rfl ?_
      exact bX12_partyLine_b119 a0 y1 x3 oa0 _ _ _ h
  · replace h := (if_pos c_1).symm.trans h
    refine r_aload_n (pc := 93) (i := 0) dX12_partyLine_93 rfl 0 rfl ?_
    refine r_iconst (pc := 94) (v := 0) dX12_partyLine_94 (by decide +kernel) ?_
    refine r_iconst (pc := 95) (v := 5) dX12_partyLine_95 (by decide +kernel) ?_
    refine r_iload_n (pc := 96) (i := 3) dX12_partyLine_96 rfl 2 rfl ?_
    obtain ⟨q_4, hq_4, h⟩ := ob h
    refine r_cV (pc := 97) (Y := xX12_full) (As := [.int (eI 0), .int (eI 5), .int (eI x3)]) (rest := []) (v := none) (st1 := []) ck_X12_partyLine_206 (kX12_full a0 0 5 x3 M oa0 hq_4) oa0 rfl rfl rfl rfl (Nat.le_of_ble_eq_true rfl) ⟨rfl, rfl⟩ rfl dX12_partyLine_97 ?_
    refine r_goto (pc := 100) (tgt := 119) dX12_partyLine_100 (by decide) ?_
    refine r_sub (lv' := [(0, .ref (gA G a0)), (1, .long (eJ y1)), (4, .int (eI x4)), (5, .int (eI x5))]) [0, 1, 3, 4] rfl ?_
    exact bX12_partyLine_b119 a0 y1 x3 oa0 _ _ _ h
set_option maxHeartbeats 4000000 in
set_option maxRecDepth 100000 in
theorem bX12_partyLine_b35 {G : GG} (a0 : Nat) (y1 : Int) (x3 : Int) (oa0 : OB L0 a0 12) (x4 : Int) (x90 : Int) (M : MM) {res : (Int × MM)}  (h : sX12_partyLine_b35 a0 y1 x3 x4 x90 M = some res) : VV G xX12_partyLine (ZM G xX12_partyLine (some (.int (eI res.1))) L0 res.2) L0 M 0 0 35 [(0, .ref (gA G a0)), (1, .long (eJ y1)), (3, .int (eI x3)), (4, .int (eI x4))] [.int (eI x90)] := by
  unfold sX12_partyLine_b35 at h
  refine r_istore (pc := 35) (lv' := [(5, .int (eI x90)), (0, .ref (gA G a0)), (1, .long (eJ y1)), (3, .int (eI x3)), (4, .int (eI x4))]) dX12_partyLine_35 (Nat.le_of_ble_eq_true rfl) rfl ?_
  refine r_iload (pc := 37) dX12_partyLine_37 4 rfl ?_
  refine r_iconst (pc := 39) (v := (-1)) dX12_partyLine_39 (by decide +kernel) ?_
  refine r_icmp_ne (pc := 40) (tgt := 85) dX12_partyLine_40 (by decide) rfl wl_m1 (fun c_1 => ?_) (fun c_1 => ?_)
  · replace h := (if_neg c_1).symm.trans h
    refine r_sub (lv' := [(0, .ref (gA G a0)), (1, .long (eJ y1)), (3, .int (eI x3)), (4, .int (eI x4)), (5, .int (eI x90))]) [1, 2, 3, 4, 0] rfl ?_
    exact bX12_partyLine_b85 a0 y1 x3 oa0 _ _ _ h
  · replace h := (if_pos c_1).symm.trans h
    refine r_iload (pc := 43) dX12_partyLine_43 0 rfl ?_
    refine r_if_ne (pc := 45) (tgt := 85) dX12_partyLine_45 (by decide) rfl (fun c_2 => ?_) (fun c_2 => ?_)
    · replace h := (if_neg c_2).symm.trans h
      refine r_sub (lv' := [(0, .ref (gA G a0)), (1, .long (eJ y1)), (3, .int (eI x3)), (4, .int (eI x4)), (5, .int (eI x90))]) [1, 2, 3, 4, 0] rfl ?_
      exact bX12_partyLine_b85 a0 y1 x3 oa0 _ _ _ h
    · replace h := (if_pos c_2).symm.trans h
      refine r_lload_n (pc := 48) (i := 1) dX12_partyLine_48 rfl 2 rfl ?_
      refine r_ldc2 (pc := 49) (v := 1885434484) kc_12_198 dX12_partyLine_49 ?_
      refine r_lcmp_eq (pc := 52) (tgt := 85) dX12_partyLine_52 dX12_partyLine_53 (by decide) rfl wj_1885434484 (fun c_3 => ?_) (fun c_3 => ?_)
      · replace h := (if_pos c_3).symm.trans h
        refine r_sub (lv' := [(0, .ref (gA G a0)), (1, .long (eJ y1)), (3, .int (eI x3)), (4, .int (eI x4)), (5, .int (eI x90))]) [1, 2, 3, 4, 0] rfl ?_
        exact bX12_partyLine_b85 a0 y1 x3 oa0 _ _ _ h
      · replace h := (if_neg c_3).symm.trans h
        refine r_lload_n (pc := 56) (i := 1) dX12_partyLine_56 rfl 2 rfl ?_
        refine r_ldc2 (pc := 57) (v := 426953501796) kc_12_200 dX12_partyLine_57 ?_
        refine r_lcmp_eq (pc := 60) (tgt := 85) dX12_partyLine_60 dX12_partyLine_61 (by decide) rfl wj_426953501796 (fun c_4 => ?_) (fun c_4 => ?_)
        · replace h := (if_pos c_4).symm.trans h
          refine r_sub (lv' := [(0, .ref (gA G a0)), (1, .long (eJ y1)), (3, .int (eI x3)), (4, .int (eI x4)), (5, .int (eI x90))]) [1, 2, 3, 4, 0] rfl ?_
          exact bX12_partyLine_b85 a0 y1 x3 oa0 _ _ _ h
        · replace h := (if_neg c_4).symm.trans h
          refine r_lload_n (pc := 64) (i := 1) dX12_partyLine_64 rfl 2 rfl ?_
          refine r_ldc2 (pc := 65) (v := 128047779833188) kc_12_202 dX12_partyLine_65 ?_
          refine r_lcmp_eq (pc := 68) (tgt := 85) dX12_partyLine_68 dX12_partyLine_69 (by decide) rfl wj_128047779833188 (fun c_5 => ?_) (fun c_5 => ?_)
          · replace h := (if_pos c_5).symm.trans h
            refine r_sub (lv' := [(0, .ref (gA G a0)), (1, .long (eJ y1)), (3, .int (eI x3)), (4, .int (eI x4)), (5, .int (eI x90))]) [1, 2, 3, 4, 0] rfl ?_
            exact bX12_partyLine_b85 a0 y1 x3 oa0 _ _ _ h
          · replace h := (if_neg c_5).symm.trans h
            refine r_lload_n (pc := 72) (i := 1) dX12_partyLine_72 rfl 2 rfl ?_
            refine r_ldc2 (pc := 73) (v := 1919512167) kc_12_204 dX12_partyLine_73 ?_
            refine r_lcmp_eq (pc := 76) (tgt := 85) dX12_partyLine_76 dX12_partyLine_77 (by decide) rfl wj_1919512167 (fun c_6 => ?_) (fun c_6 => ?_)
            · replace h := (if_pos c_6).symm.trans h
              refine r_sub (lv' := [(0, .ref (gA G a0)), (1, .long (eJ y1)), (3, .int (eI x3)), (4, .int (eI x4)), (5, .int (eI x90))]) [1, 2, 3, 4, 0] rfl ?_
              exact bX12_partyLine_b85 a0 y1 x3 oa0 _ _ _ h
            · replace h := (if_neg c_6).symm.trans h
              refine r_aload_n (pc := 80) (i := 0) dX12_partyLine_80 rfl 1 rfl ?_
              obtain ⟨q_7, hq_7, h⟩ := ob h
              refine r_cV (pc := 81) (Y := xX12_fails) (As := []) (rest := []) (v := (some (.int (eI (q_7.1))))) (st1 := [.int (eI (q_7.1))]) ck_X12_partyLine_145 (kX12_fails a0 M oa0 hq_7) oa0 rfl rfl rfl rfl (Nat.le_of_ble_eq_true rfl) ⟨rfl, rfl⟩ rfl dX12_partyLine_81 ?_
              obtain ⟨c_8, h⟩ := og h
              cases h
              exact r_iret (pc := 84) rfl (zn_ok c_8).1 (Nat.le_refl 0) (Nat.le_refl 0) dX12_partyLine_84
set_option maxHeartbeats 4000000 in
set_option maxRecDepth 100000 in
theorem bX12_partyLine_b30 {G : GG} (a0 : Nat) (y1 : Int) (x3 : Int) (oa0 : OB L0 a0 12) (x4 : Int) (M : MM) {res : (Int × MM)}  (h : sX12_partyLine_b30 a0 y1 x3 x4 M = some res) : VV G xX12_partyLine (ZM G xX12_partyLine (some (.int (eI res.1))) L0 res.2) L0 M 0 0 30 [(0, .ref (gA G a0)), (1, .long (eJ y1)), (3, .int (eI x3)), (4, .int (eI x4))] [] := by
  unfold sX12_partyLine_b30 at h
  refine r_iconst (pc := 30) (v := 1) dX12_partyLine_30 (by decide +kernel) ?_
  refine r_goto (pc := 31) (tgt := 35) dX12_partyLine_31 (by decide) ?_
  refine r_sub (lv' := [(0, .ref (gA G a0)), (1, .long (eJ y1)), (3, .int (eI x3)), (4, .int (eI x4))]) [0, 1, 2, 3] rfl ?_
  exact bX12_partyLine_b35 a0 y1 x3 oa0 _ _ _ h
set_option maxHeartbeats 4000000 in
set_option maxRecDepth 100000 in
theorem bX12_partyLine_b0 {G : GG} (a0 : Nat) (y1 : Int) (x3 : Int) (oa0 : OB L0 a0 12)  (M : MM) {res : (Int × MM)}  (h : sX12_partyLine_b0 a0 y1 x3 M = some res) : VV G xX12_partyLine (ZM G xX12_partyLine (some (.int (eI res.1))) L0 res.2) L0 M 0 0 0 [(0, .ref (gA G a0)), (1, .long (eJ y1)), (3, .int (eI x3))] [] := by
  unfold sX12_partyLine_b0 at h
  refine r_lload_n (pc := 0) (i := 1) dX12_partyLine_0 rfl 1 rfl ?_
  refine r_cS (pc := 1) (Y := xX12_plainOf) (As := [.long (eJ y1)]) (rest := []) (v := (some (.int (eI (sX12_plainOf y1))))) (st1 := [.int (eI (sX12_plainOf y1))]) ck_X12_partyLine_192 (kX12_plainOf y1 M ) rfl rfl (Nat.le_of_ble_eq_true rfl) ⟨rfl, rfl⟩ rfl dX12_partyLine_1 ?_
  refine r_istore (pc := 4) (lv' := [(4, .int (eI (sX12_plainOf y1))), (0, .ref (gA G a0)), (1, .long (eJ y1)), (3, .int (eI x3))]) dX12_partyLine_4 (Nat.le_of_ble_eq_true rfl) rfl ?_
  refine r_lload_n (pc := 6) (i := 1) dX12_partyLine_6 rfl 2 rfl ?_
  refine r_ldc2 (pc := 7) (v := 1667591276) kc_12_188 dX12_partyLine_7 ?_
  refine r_lcmp_eq (pc := 10) (tgt := 30) dX12_partyLine_10 dX12_partyLine_11 (by decide) rfl wj_1667591276 (fun c_1 => ?_) (fun c_1 => ?_)
  · replace h := (if_pos c_1).symm.trans h
    refine r_sub (lv' := [(0, .ref (gA G a0)), (1, .long (eJ y1)), (3, .int (eI x3)), (4, .int (eI (sX12_plainOf y1)))]) [1, 2, 3, 0] rfl ?_
    exact bX12_partyLine_b30 a0 y1 x3 oa0 _ _ h
  · replace h := (if_neg c_1).symm.trans h
    refine r_lload_n (pc := 14) (i := 1) dX12_partyLine_14 rfl 2 rfl ?_
    refine r_ldc2 (pc := 15) (v := 112641580559972) kc_12_190 dX12_partyLine_15 ?_
    refine r_lcmp_eq (pc := 18) (tgt := 30) dX12_partyLine_18 dX12_partyLine_19 (by decide) rfl wj_112641580559972 (fun c_2 => ?_) (fun c_2 => ?_)
    · replace h := (if_pos c_2).symm.trans h
      refine r_sub (lv' := [(0, .ref (gA G a0)), (1, .long (eJ y1)), (3, .int (eI x3)), (4, .int (eI (sX12_plainOf y1)))]) [1, 2, 3, 0] rfl ?_
      exact bX12_partyLine_b30 a0 y1 x3 oa0 _ _ h
    · replace h := (if_neg c_2).symm.trans h
      refine r_lload_n (pc := 22) (i := 1) dX12_partyLine_22 rfl 2 rfl ?_
      refine r_ldc2 (pc := 23) (v := 6713189) kc_12_196 dX12_partyLine_23 ?_
      refine r_lcmp_ne (pc := 26) (tgt := 34) dX12_partyLine_26 dX12_partyLine_27 (by decide) rfl wj_6713189 (fun c_3 => ?_) (fun c_3 => ?_)
      · replace h := (if_neg c_3).symm.trans h
        refine r_iconst (pc := 34) (v := 0) dX12_partyLine_34 (by decide +kernel) ?_
        refine r_sub (lv' := [(0, .ref (gA G a0)), (1, .long (eJ y1)), (3, .int (eI x3)), (4, .int (eI (sX12_plainOf y1)))]) [1, 2, 3, 0] rfl ?_
        exact bX12_partyLine_b35 a0 y1 x3 oa0 _ _ _ h
      · replace h := (if_pos c_3).symm.trans h
        refine r_sub (lv' := [(0, .ref (gA G a0)), (1, .long (eJ y1)), (3, .int (eI x3)), (4, .int (eI (sX12_plainOf y1)))]) [1, 2, 3, 0] rfl ?_
        exact bX12_partyLine_b30 a0 y1 x3 oa0 _ _ h
theorem kX12_partyLine {G : GG} (a0 : Nat) (y1 : Int) (x3 : Int) (M : MM) {res : (Int × MM)} (oa0 : OB L0 a0 12) (h : sX12_partyLine a0 y1 x3 M = some res) : CO G xX12_partyLine [.ref (gA G a0), .long (eJ y1), .int (eI x3)] L0 M (some (.int (eI res.1))) L0 res.2 := CO_of (by decide +kernel) (Nat.le_of_ble_eq_true rfl) (bX12_partyLine_b0 a0 y1 x3 oa0 M h)
abbrev xX12_deedBy : XX := (yX12_deedBy, cX12_deedBy, 2, (some .int), 0, 0, 0, 0)
def sX12_deedBy_b0 (y0 : Int)   : Int := (if wJ y0 = 26479 then 0 else (if wJ y0 = 1717658469 then 1 else (if wJ y0 = 126943972911973 then 2 else (if wJ y0 = 30064 then 3 else (if wJ y0 = 1685026670 then 4 else (if wJ y0 = 6518132 then 5 else (-1)))))))
def sX12_deedBy (y0 : Int) : Int := sX12_deedBy_b0 y0
set_option maxHeartbeats 4000000 in
set_option maxRecDepth 100000 in
theorem bX12_deedBy_b0 {G : GG} (y0 : Int) (M : MM)   {res : Int}  (h : sX12_deedBy_b0 y0 = res) : VV G xX12_deedBy (ZM G xX12_deedBy (some (.int (eI res))) L0 M) L0 M 0 0 0 [(0, .long (eJ y0))] [] := by
  unfold sX12_deedBy_b0 at h
  refine r_lload_n (pc := 0) (i := 0) dX12_deedBy_0 rfl 0 rfl ?_
  refine r_ldc2 (pc := 1) (v := 26479) kc_12_232 dX12_deedBy_1 ?_
  refine r_lcmp_ne (pc := 4) (tgt := 12) dX12_deedBy_4 dX12_deedBy_5 (by decide) rfl wj_26479 (fun c_1 => ?_) (fun c_1 => ?_)
  · replace h := (if_neg c_1).symm.trans h
    refine r_lload_n (pc := 12) (i := 0) dX12_deedBy_12 rfl 0 rfl ?_
    refine r_ldc2 (pc := 13) (v := 1717658469) kc_12_234 dX12_deedBy_13 ?_
    refine r_lcmp_ne (pc := 16) (tgt := 24) dX12_deedBy_16 dX12_deedBy_17 (by decide) rfl wj_1717658469 (fun c_2 => ?_) (fun c_2 => ?_)
    · replace h := (if_neg c_2).symm.trans h
      refine r_lload_n (pc := 24) (i := 0) dX12_deedBy_24 rfl 0 rfl ?_
      refine r_ldc2 (pc := 25) (v := 126943972911973) kc_12_236 dX12_deedBy_25 ?_
      refine r_lcmp_ne (pc := 28) (tgt := 36) dX12_deedBy_28 dX12_deedBy_29 (by decide) rfl wj_126943972911973 (fun c_3 => ?_) (fun c_3 => ?_)
      · replace h := (if_neg c_3).symm.trans h
        refine r_lload_n (pc := 36) (i := 0) dX12_deedBy_36 rfl 0 rfl ?_
        refine r_ldc2 (pc := 37) (v := 30064) kc_12_238 dX12_deedBy_37 ?_
        refine r_lcmp_ne (pc := 40) (tgt := 48) dX12_deedBy_40 dX12_deedBy_41 (by decide) rfl wj_30064 (fun c_4 => ?_) (fun c_4 => ?_)
        · replace h := (if_neg c_4).symm.trans h
          refine r_lload_n (pc := 48) (i := 0) dX12_deedBy_48 rfl 0 rfl ?_
          refine r_ldc2 (pc := 49) (v := 1685026670) kc_12_240 dX12_deedBy_49 ?_
          refine r_lcmp_ne (pc := 52) (tgt := 60) dX12_deedBy_52 dX12_deedBy_53 (by decide) rfl wj_1685026670 (fun c_5 => ?_) (fun c_5 => ?_)
          · replace h := (if_neg c_5).symm.trans h
            refine r_lload_n (pc := 60) (i := 0) dX12_deedBy_60 rfl 0 rfl ?_
            refine r_ldc2 (pc := 61) (v := 6518132) kc_12_242 dX12_deedBy_61 ?_
            refine r_lcmp_ne (pc := 64) (tgt := 72) dX12_deedBy_64 dX12_deedBy_65 (by decide) rfl wj_6518132 (fun c_6 => ?_) (fun c_6 => ?_)
            · replace h := (if_neg c_6).symm.trans h
              refine r_iconst (pc := 72) (v := (-1)) dX12_deedBy_72 (by decide +kernel) ?_
              cases h
              exact r_iret (pc := 73) rfl rfl (Nat.le_refl 0) (Nat.le_refl 0) dX12_deedBy_73
            · replace h := (if_pos c_6).symm.trans h
              refine r_iconst (pc := 68) (v := 5) dX12_deedBy_68 (by decide +kernel) ?_
              refine r_goto (pc := 69) (tgt := 73) dX12_deedBy_69 (by decide) ?_
              cases h
              exact r_iret (pc := 73) rfl rfl (Nat.le_refl 0) (Nat.le_refl 0) dX12_deedBy_73
          · replace h := (if_pos c_5).symm.trans h
            refine r_iconst (pc := 56) (v := 4) dX12_deedBy_56 (by decide +kernel) ?_
            refine r_goto (pc := 57) (tgt := 73) dX12_deedBy_57 (by decide) ?_
            cases h
            exact r_iret (pc := 73) rfl rfl (Nat.le_refl 0) (Nat.le_refl 0) dX12_deedBy_73
        · replace h := (if_pos c_4).symm.trans h
          refine r_iconst (pc := 44) (v := 3) dX12_deedBy_44 (by decide +kernel) ?_
          refine r_goto (pc := 45) (tgt := 73) dX12_deedBy_45 (by decide) ?_
          cases h
          exact r_iret (pc := 73) rfl rfl (Nat.le_refl 0) (Nat.le_refl 0) dX12_deedBy_73
      · replace h := (if_pos c_3).symm.trans h
        refine r_iconst (pc := 32) (v := 2) dX12_deedBy_32 (by decide +kernel) ?_
        refine r_goto (pc := 33) (tgt := 73) dX12_deedBy_33 (by decide) ?_
        cases h
        exact r_iret (pc := 73) rfl rfl (Nat.le_refl 0) (Nat.le_refl 0) dX12_deedBy_73
    · replace h := (if_pos c_2).symm.trans h
      refine r_iconst (pc := 20) (v := 1) dX12_deedBy_20 (by decide +kernel) ?_
      refine r_goto (pc := 21) (tgt := 73) dX12_deedBy_21 (by decide) ?_
      cases h
      exact r_iret (pc := 73) rfl rfl (Nat.le_refl 0) (Nat.le_refl 0) dX12_deedBy_73
  · replace h := (if_pos c_1).symm.trans h
    refine r_iconst (pc := 8) (v := 0) dX12_deedBy_8 (by decide +kernel) ?_
    refine r_goto (pc := 9) (tgt := 73) dX12_deedBy_9 (by decide) ?_
    cases h
    exact r_iret (pc := 73) rfl rfl (Nat.le_refl 0) (Nat.le_refl 0) dX12_deedBy_73
theorem kX12_deedBy {G : GG} (y0 : Int) (M : MM)  : CO G xX12_deedBy [.long (eJ y0)] L0 M (some (.int (eI (sX12_deedBy y0)))) L0 M := CO_of (by decide +kernel) (Nat.le_of_ble_eq_true rfl) (bX12_deedBy_b0 y0 M rfl)
abbrev xX12_bookLine : XX := (yX12_bookLine, cX12_bookLine, 6, (some .boolean), 4, 91, 0, 0)
theorem ck_X12_bookLine_145 : CKV xX12_bookLine 145 xX12_fails 0 := ⟨⟨tb_i 1676 (by decide +kernel) (by decide +kernel), tb_i 152 (by decide +kernel) (by decide +kernel), tb_i 1679 (by decide +kernel) (by decide +kernel), ⟨by decide +kernel, by decide +kernel, by decide +kernel⟩, by decide, by decide⟩, tb_i 1678 (by decide +kernel) (by decide +kernel), tb_i 55 (by decide +kernel) (by decide +kernel)⟩
theorem ck_X12_bookLine_157 : CKV xX12_bookLine 157 xX12_token 0 := ⟨⟨tb_i 1641 (by decide +kernel) (by decide +kernel), tb_i 152 (by decide +kernel) (by decide +kernel), tb_i 1644 (by decide +kernel) (by decide +kernel), ⟨by decide +kernel, by decide +kernel, by decide +kernel⟩, by decide, by decide⟩, tb_i 1643 (by decide +kernel) (by decide +kernel), tb_i 50 (by decide +kernel) (by decide +kernel)⟩
theorem ck_X12_bookLine_181 : CKV xX12_bookLine 181 xX12_take 3 := ⟨⟨tb_i 1703 (by decide +kernel) (by decide +kernel), tb_i 152 (by decide +kernel) (by decide +kernel), tb_i 1706 (by decide +kernel) (by decide +kernel), ⟨by decide +kernel, by decide +kernel, by decide +kernel⟩, by decide, by decide⟩, tb_i 1705 (by decide +kernel) (by decide +kernel), tb_i 61 (by decide +kernel) (by decide +kernel)⟩
theorem ck_X12_bookLine_206 : CKV xX12_bookLine 206 xX12_full 3 := ⟨⟨tb_i 1680 (by decide +kernel) (by decide +kernel), tb_i 152 (by decide +kernel) (by decide +kernel), tb_i 1683 (by decide +kernel) (by decide +kernel), ⟨by decide +kernel, by decide +kernel, by decide +kernel⟩, by decide, by decide⟩, tb_i 1682 (by decide +kernel) (by decide +kernel), tb_i 56 (by decide +kernel) (by decide +kernel)⟩
theorem ck_X12_bookLine_221 : CKV xX12_bookLine 221 xX12_keep 4 := ⟨⟨tb_i 1715 (by decide +kernel) (by decide +kernel), tb_i 152 (by decide +kernel) (by decide +kernel), tb_i 1718 (by decide +kernel) (by decide +kernel), ⟨by decide +kernel, by decide +kernel, by decide +kernel⟩, by decide, by decide⟩, tb_i 1717 (by decide +kernel) (by decide +kernel), tb_i 64 (by decide +kernel) (by decide +kernel)⟩
theorem ck_X12_bookLine_244 : CKS xX12_bookLine 244 xX12_deedBy 1 := ⟨⟨tb_i 1729 (by decide +kernel) (by decide +kernel), tb_i 152 (by decide +kernel) (by decide +kernel), tb_i 1731 (by decide +kernel) (by decide +kernel), ⟨by decide +kernel, by decide +kernel, by decide +kernel⟩, by decide, by decide⟩, tb_i 1730 (by decide +kernel) (by decide +kernel)⟩
def sX12_bookLine_b139 (a0 : Nat) (y1 : Int) (x3 : Int)   (M : MM) : Option (Int × MM) := ((sX12_keep a0 0 1 3 40 M).bind fun q_1 => (some ((1, q_1))))
def sX12_bookLine_b120 (a0 : Nat) (y1 : Int) (x3 : Int)  (x4 : Int) (M : MM) : Option (Int × MM) := (if wI x4 = 2 then ((sX12_take a0 2 0 9 M).bind fun q_2 => (if wI (q_2.1) = 0 then (some ((0, q_2.2))) else (sX12_bookLine_b139 a0 y1 x3 q_2.2))) else (sX12_bookLine_b139 a0 y1 x3 M))
def sX12_bookLine_b112 (a0 : Nat) (y1 : Int) (x3 : Int)  (x4 : Int) (a90 : Nat) (x91 : Int) (x92 : Int) (x93 : Int) (M : MM) : Option (Int × MM) := ((sX12_take a90 x91 x92 x93 M).bind fun q_1 => (if wI (q_1.1) = 0 then (some ((0, q_1.2))) else (sX12_bookLine_b120 a0 y1 x3 x4 q_1.2)))
def sX12_bookLine_b105 (a0 : Nat) (y1 : Int) (x3 : Int)  (x4 : Int) (a90 : Nat) (x91 : Int) (x92 : Int) (M : MM) : Option (Int × MM) := (sX12_bookLine_b112 a0 y1 x3 x4 a90 x91 x92 7 M)
def sX12_bookLine_b88 (a0 : Nat) (y1 : Int) (x3 : Int)  (x4 : Int) (a90 : Nat) (x91 : Int) (x92 : Int) (M : MM) : Option (Int × MM) := (if wI x4 = 0 then (sX12_bookLine_b105 a0 y1 x3 x4 a90 x91 x92 M) else (if wI x4 = 1 then (sX12_bookLine_b105 a0 y1 x3 x4 a90 x91 x92 M) else (if wI x4 = 2 then (sX12_bookLine_b105 a0 y1 x3 x4 a90 x91 x92 M) else (sX12_bookLine_b112 a0 y1 x3 x4 a90 x91 x92 9 M))))
def sX12_bookLine_b68 (a0 : Nat) (y1 : Int) (x3 : Int)  (x4 : Int) (x90 : Int) (M : MM) : Option (Int × MM) := (if wI x4 = 5 then (sX12_bookLine_b120 a0 y1 x3 x4 M) else (if wI x90 = 0 then (sX12_bookLine_b88 a0 y1 x3 x4 a0 1 0 M) else (sX12_bookLine_b88 a0 y1 x3 x4 a0 1 1 M)))
def sX12_bookLine_b63 (a0 : Nat) (y1 : Int) (x3 : Int)  (x4 : Int) (M : MM) : Option (Int × MM) := (sX12_bookLine_b68 a0 y1 x3 x4 1 M)
def sX12_bookLine_b0 (a0 : Nat) (y1 : Int) (x3 : Int)   (M : MM) : Option (Int × MM) := (if wI (sX12_deedBy y1) = (-1) then ((sX12_fails a0 M).bind fun q_12 => (if (q_12.1) = 0 ∨ (q_12.1) = 1 then (some (((q_12.1), q_12.2))) else none)) else ((sX12_full a0 0 40 x3 M).bind fun q_2 => ((sX12_token a0 q_2).bind fun q_3 => ((some (mU q_3 (gR a0 21) 0 (sX12_deedBy y1))).bind fun M_5 => ((some (mU M_5 (gR a0 21) 1 (-1))).bind fun M_7 => ((some (mU M_7 (gR a0 21) 2 (-1))).bind fun M_9 => (if wI (sX12_deedBy y1) = 3 then (sX12_bookLine_b63 a0 y1 x3 (sX12_deedBy y1) M_9) else (if wI (sX12_deedBy y1) = 4 then (sX12_bookLine_b63 a0 y1 x3 (sX12_deedBy y1) M_9) else (sX12_bookLine_b68 a0 y1 x3 (sX12_deedBy y1) 0 M_9)))))))))
def sX12_bookLine (a0 : Nat) (y1 : Int) (x3 : Int) (M : MM) : Option (Int × MM) := sX12_bookLine_b0 a0 y1 x3 M
set_option maxHeartbeats 4000000 in
set_option maxRecDepth 100000 in
theorem bX12_bookLine_b139 {G : GG} (a0 : Nat) (y1 : Int) (x3 : Int) (oa0 : OB L0 a0 12)  (M : MM) {res : (Int × MM)}  (h : sX12_bookLine_b139 a0 y1 x3 M = some res) : VV G xX12_bookLine (ZM G xX12_bookLine (some (.int (eI res.1))) L0 res.2) L0 M 0 0 139 [(0, .ref (gA G a0))] [] := by
  unfold sX12_bookLine_b139 at h
  refine r_aload_n (pc := 139) (i := 0) dX12_bookLine_139 rfl 0 rfl ?_
  refine r_iconst (pc := 140) (v := 0) dX12_bookLine_140 (by decide +kernel) ?_
  refine r_iconst (pc := 141) (v := 1) dX12_bookLine_141 (by decide +kernel) ?_
  refine r_iconst (pc := 142) (v := 3) dX12_bookLine_142 (by decide +kernel) ?_
  refine r_bipush (pc := 143) (v := 40) dX12_bookLine_143 (by decide +kernel) ?_
  obtain ⟨q_1, hq_1, h⟩ := ob h
  refine r_cV (pc := 145) (Y := xX12_keep) (As := [.int (eI 0), .int (eI 1), .int (eI 3), .int (eI 40)]) (rest := []) (v := none) (st1 := []) ck_X12_bookLine_221 (kX12_keep a0 0 1 3 40 M oa0 hq_1) oa0 rfl rfl rfl rfl (Nat.le_of_ble_eq_true rfl) ⟨rfl, rfl⟩ rfl dX12_bookLine_145 ?_
  refine r_iconst (pc := 148) (v := 1) dX12_bookLine_148 (by decide +kernel) ?_
  cases h
  exact r_iret (pc := 149) rfl (zn_ok (Or.inr rfl)).1 (Nat.le_refl 0) (Nat.le_refl 0) dX12_bookLine_149
set_option maxHeartbeats 4000000 in
set_option maxRecDepth 100000 in
theorem bX12_bookLine_b120 {G : GG} (a0 : Nat) (y1 : Int) (x3 : Int) (oa0 : OB L0 a0 12) (x4 : Int) (M : MM) {res : (Int × MM)}  (h : sX12_bookLine_b120 a0 y1 x3 x4 M = some res) : VV G xX12_bookLine (ZM G xX12_bookLine (some (.int (eI res.1))) L0 res.2) L0 M 0 0 120 [(0, .ref (gA G a0)), (4, .int (eI x4))] [] := by
  unfold sX12_bookLine_b120 at h
  refine r_iload (pc := 120) dX12_bookLine_120 1 rfl ?_
  refine r_iconst (pc := 122) (v := 2) dX12_bookLine_122 (by decide +kernel) ?_
  refine r_icmp_ne (pc := 123) (tgt := 139) dX12_bookLine_123 (by decide) rfl wl_2 (fun c_1 => ?_) (fun c_1 => ?_)
  · replace h := (if_neg c_1).symm.trans h
    refine r_sub (lv' := [(0, .ref (gA G a0))]) [0] rfl ?_
    exact bX12_bookLine_b139 a0 y1 x3 oa0 _ h
  · replace h := (if_pos c_1).symm.trans h
    refine r_aload_n (pc := 126) (i := 0) dX12_bookLine_126 rfl 0 rfl ?_
    refine r_iconst (pc := 127) (v := 2) dX12_bookLine_127 (by decide +kernel) ?_
    refine r_iconst (pc := 128) (v := 0) dX12_bookLine_128 (by decide +kernel) ?_
    refine r_bipush (pc := 129) (v := 9) dX12_bookLine_129 (by decide +kernel) ?_
    obtain ⟨q_2, hq_2, h⟩ := ob h
    refine r_cV (pc := 131) (Y := xX12_take) (As := [.int (eI 2), .int (eI 0), .int (eI 9)]) (rest := []) (v := (some (.int (eI (q_2.1))))) (st1 := [.int (eI (q_2.1))]) ck_X12_bookLine_181 (kX12_take a0 2 0 9 M oa0 hq_2) oa0 rfl rfl rfl rfl (Nat.le_of_ble_eq_true rfl) ⟨rfl, rfl⟩ rfl dX12_bookLine_131 ?_
    refine r_if_ne (pc := 134) (tgt := 139) dX12_bookLine_134 (by decide) rfl (fun c_3 => ?_) (fun c_3 => ?_)
    · replace h := (if_neg c_3).symm.trans h
      refine r_sub (lv' := [(0, .ref (gA G a0))]) [0] rfl ?_
      exact bX12_bookLine_b139 a0 y1 x3 oa0 _ h
    · replace h := (if_pos c_3).symm.trans h
      refine r_iconst (pc := 137) (v := 0) dX12_bookLine_137 (by decide +kernel) ?_
      cases h
      exact r_iret (pc := 138) rfl (zn_ok (Or.inl rfl)).1 (Nat.le_refl 0) (Nat.le_refl 0) dX12_bookLine_138
set_option maxHeartbeats 4000000 in
set_option maxRecDepth 100000 in
theorem bX12_bookLine_b112 {G : GG} (a0 : Nat) (y1 : Int) (x3 : Int) (oa0 : OB L0 a0 12) (x4 : Int) (a90 : Nat) (x91 : Int) (x92 : Int) (x93 : Int) (M : MM) {res : (Int × MM)} (oa90 : OB L0 a90 12) (h : sX12_bookLine_b112 a0 y1 x3 x4 a90 x91 x92 x93 M = some res) : VV G xX12_bookLine (ZM G xX12_bookLine (some (.int (eI res.1))) L0 res.2) L0 M 0 0 112 [(0, .ref (gA G a0)), (4, .int (eI x4))] [.int (eI x93), .int (eI x92), .int (eI x91), .ref (gA G a90)] := by
  unfold sX12_bookLine_b112 at h
  obtain ⟨q_1, hq_1, h⟩ := ob h
  refine r_cV (pc := 112) (Y := xX12_take) (As := [.int (eI x91), .int (eI x92), .int (eI x93)]) (rest := []) (v := (some (.int (eI (q_1.1))))) (st1 := [.int (eI (q_1.1))]) ck_X12_bookLine_181 (kX12_take a90 x91 x92 x93 M oa90 hq_1) oa90 rfl rfl rfl rfl (Nat.le_of_ble_eq_true rfl) ⟨rfl, rfl⟩ rfl dX12_bookLine_112 ?_
  refine r_if_ne (pc := 115) (tgt := 120) dX12_bookLine_115 (by decide) rfl (fun c_2 => ?_) (fun c_2 => ?_)
  · replace h := (if_neg c_2).symm.trans h
    refine r_sub (lv' := [(0, .ref (gA G a0)), (4, .int (eI x4))]) [0, 1] rfl ?_
    exact bX12_bookLine_b120 a0 y1 x3 oa0 _ _ h
  · replace h := (if_pos c_2).symm.trans h
    refine r_iconst (pc := 118) (v := 0) dX12_bookLine_118 (by decide +kernel) ?_
    cases h
    exact r_iret (pc := 119) rfl (zn_ok (Or.inl rfl)).1 (Nat.le_refl 0) (Nat.le_refl 0) dX12_bookLine_119
set_option maxHeartbeats 4000000 in
set_option maxRecDepth 100000 in
theorem bX12_bookLine_b105 {G : GG} (a0 : Nat) (y1 : Int) (x3 : Int) (oa0 : OB L0 a0 12) (x4 : Int) (a90 : Nat) (x91 : Int) (x92 : Int) (M : MM) {res : (Int × MM)} (oa90 : OB L0 a90 12) (h : sX12_bookLine_b105 a0 y1 x3 x4 a90 x91 x92 M = some res) : VV G xX12_bookLine (ZM G xX12_bookLine (some (.int (eI res.1))) L0 res.2) L0 M 0 0 105 [(0, .ref (gA G a0)), (4, .int (eI x4))] [.int (eI x92), .int (eI x91), .ref (gA G a90)] := by
  unfold sX12_bookLine_b105 at h
  refine r_bipush (pc := 105) (v := 7) dX12_bookLine_105 (by decide +kernel) ?_
  refine r_goto (pc := 107) (tgt := 112) dX12_bookLine_107 (by decide) ?_
  refine r_sub (lv' := [(0, .ref (gA G a0)), (4, .int (eI x4))]) [0, 1] rfl ?_
  exact bX12_bookLine_b112 a0 y1 x3 oa0 _ _ _ _ _ _ oa90 h
set_option maxHeartbeats 4000000 in
set_option maxRecDepth 100000 in
theorem bX12_bookLine_b88 {G : GG} (a0 : Nat) (y1 : Int) (x3 : Int) (oa0 : OB L0 a0 12) (x4 : Int) (a90 : Nat) (x91 : Int) (x92 : Int) (M : MM) {res : (Int × MM)} (oa90 : OB L0 a90 12) (h : sX12_bookLine_b88 a0 y1 x3 x4 a90 x91 x92 M = some res) : VV G xX12_bookLine (ZM G xX12_bookLine (some (.int (eI res.1))) L0 res.2) L0 M 0 0 88 [(0, .ref (gA G a0)), (4, .int (eI x4))] [.int (eI x92), .int (eI x91), .ref (gA G a90)] := by
  unfold sX12_bookLine_b88 at h
  refine r_iload (pc := 88) dX12_bookLine_88 1 rfl ?_
  refine r_if_eq (pc := 90) (tgt := 105) dX12_bookLine_90 (by decide) rfl (fun c_1 => ?_) (fun c_1 => ?_)
  · replace h := (if_pos c_1).symm.trans h
    refine r_sub (lv' := [(0, .ref (gA G a0)), (4, .int (eI x4))]) [0, 1] rfl ?_
    exact bX12_bookLine_b105 a0 y1 x3 oa0 _ _ _ _ _ oa90 h
  · replace h := (if_neg c_1).symm.trans h
    refine r_iload (pc := 93) dX12_bookLine_93 1 rfl ?_
    refine r_iconst (pc := 95) (v := 1) dX12_bookLine_95 (by decide +kernel) ?_
    refine r_icmp_eq (pc := 96) (tgt := 105) dX12_bookLine_96 (by decide) rfl wl_1 (fun c_2 => ?_) (fun c_2 => ?_)
    · replace h := (if_pos c_2).symm.trans h
      refine r_sub (lv' := [(0, .ref (gA G a0)), (4, .int (eI x4))]) [0, 1] rfl ?_
      exact bX12_bookLine_b105 a0 y1 x3 oa0 _ _ _ _ _ oa90 h
    · replace h := (if_neg c_2).symm.trans h
      refine r_iload (pc := 99) dX12_bookLine_99 1 rfl ?_
      refine r_iconst (pc := 101) (v := 2) dX12_bookLine_101 (by decide +kernel) ?_
      refine r_icmp_ne (pc := 102) (tgt := 110) dX12_bookLine_102 (by decide) rfl wl_2 (fun c_3 => ?_) (fun c_3 => ?_)
      · replace h := (if_neg c_3).symm.trans h
        refine r_bipush (pc := 110) (v := 9) dX12_bookLine_110 (by decide +kernel) ?_
        refine r_sub (lv' := [(0, .ref (gA G a0)), (4, .int (eI x4))]) [0, 1] rfl ?_
        exact bX12_bookLine_b112 a0 y1 x3 oa0 _ _ _ _ _ _ oa90 h
      · replace h := (if_pos c_3).symm.trans h
        refine r_sub (lv' := [(0, .ref (gA G a0)), (4, .int (eI x4))]) [0, 1] rfl ?_
        exact bX12_bookLine_b105 a0 y1 x3 oa0 _ _ _ _ _ oa90 h
set_option maxHeartbeats 4000000 in
set_option maxRecDepth 100000 in
theorem bX12_bookLine_b68 {G : GG} (a0 : Nat) (y1 : Int) (x3 : Int) (oa0 : OB L0 a0 12) (x4 : Int) (x90 : Int) (M : MM) {res : (Int × MM)}  (h : sX12_bookLine_b68 a0 y1 x3 x4 x90 M = some res) : VV G xX12_bookLine (ZM G xX12_bookLine (some (.int (eI res.1))) L0 res.2) L0 M 0 0 68 [(0, .ref (gA G a0)), (4, .int (eI x4))] [.int (eI x90)] := by
  unfold sX12_bookLine_b68 at h
  refine r_istore (pc := 68) (lv' := [(5, .int (eI x90)), (0, .ref (gA G a0)), (4, .int (eI x4))]) dX12_bookLine_68 (Nat.le_of_ble_eq_true rfl) rfl ?_
  refine r_iload (pc := 70) dX12_bookLine_70 2 rfl ?_
  refine r_iconst (pc := 72) (v := 5) dX12_bookLine_72 (by decide +kernel) ?_
  refine r_icmp_eq (pc := 73) (tgt := 120) dX12_bookLine_73 (by decide) rfl wl_5 (fun c_1 => ?_) (fun c_1 => ?_)
  · replace h := (if_pos c_1).symm.trans h
    refine r_sub (lv' := [(0, .ref (gA G a0)), (4, .int (eI x4))]) [1, 2] rfl ?_
    exact bX12_bookLine_b120 a0 y1 x3 oa0 _ _ h
  · replace h := (if_neg c_1).symm.trans h
    refine r_aload_n (pc := 76) (i := 0) dX12_bookLine_76 rfl 1 rfl ?_
    refine r_iconst (pc := 77) (v := 1) dX12_bookLine_77 (by decide +kernel) ?_
    refine r_iload (pc := 78) dX12_bookLine_78 0 rfl ?_
    refine r_if_eq (pc := 80) (tgt := 87) dX12_bookLine_80 (by decide) rfl (fun c_2 => ?_) (fun c_2 => ?_)
    · replace h := (if_pos c_2).symm.trans h
      refine r_iconst (pc := 87) (v := 0) dX12_bookLine_87 (by decide +kernel) ?_
      refine r_sub (lv' := [(0, .ref (gA G a0)), (4, .int (eI x4))]) [1, 2] rfl ?_
      exact bX12_bookLine_b88 a0 y1 x3 oa0 _ _ _ _ _ oa0 h
    · replace h := (if_neg c_2).symm.trans h
      refine r_iconst (pc := 83) (v := 1) dX12_bookLine_83 (by decide +kernel) ?_
      refine r_goto (pc := 84) (tgt := 88) dX12_bookLine_84 (by decide) ?_
      refine r_sub (lv' := [(0, .ref (gA G a0)), (4, .int (eI x4))]) [1, 2] rfl ?_
      exact bX12_bookLine_b88 a0 y1 x3 oa0 _ _ _ _ _ oa0 h
set_option maxHeartbeats 4000000 in
set_option maxRecDepth 100000 in
theorem bX12_bookLine_b63 {G : GG} (a0 : Nat) (y1 : Int) (x3 : Int) (oa0 : OB L0 a0 12) (x4 : Int) (M : MM) {res : (Int × MM)}  (h : sX12_bookLine_b63 a0 y1 x3 x4 M = some res) : VV G xX12_bookLine (ZM G xX12_bookLine (some (.int (eI res.1))) L0 res.2) L0 M 0 0 63 [(0, .ref (gA G a0)), (4, .int (eI x4))] [] := by
  unfold sX12_bookLine_b63 at h
  refine r_iconst (pc := 63) (v := 1) dX12_bookLine_63 (by decide +kernel) ?_
  refine r_goto (pc := 64) (tgt := 68) dX12_bookLine_64 (by decide) ?_
  refine r_sub (lv' := [(0, .ref (gA G a0)), (4, .int (eI x4))]) [0, 1] rfl ?_
  exact bX12_bookLine_b68 a0 y1 x3 oa0 _ _ _ h
set_option maxHeartbeats 4000000 in
set_option maxRecDepth 100000 in
theorem bX12_bookLine_b0 {G : GG} (a0 : Nat) (y1 : Int) (x3 : Int) (oa0 : OB L0 a0 12)  (M : MM) {res : (Int × MM)}  (h : sX12_bookLine_b0 a0 y1 x3 M = some res) : VV G xX12_bookLine (ZM G xX12_bookLine (some (.int (eI res.1))) L0 res.2) L0 M 0 0 0 [(0, .ref (gA G a0)), (1, .long (eJ y1)), (3, .int (eI x3))] [] := by
  unfold sX12_bookLine_b0 at h
  refine r_lload_n (pc := 0) (i := 1) dX12_bookLine_0 rfl 1 rfl ?_
  refine r_cS (pc := 1) (Y := xX12_deedBy) (As := [.long (eJ y1)]) (rest := []) (v := (some (.int (eI (sX12_deedBy y1))))) (st1 := [.int (eI (sX12_deedBy y1))]) ck_X12_bookLine_244 (kX12_deedBy y1 M ) rfl rfl (Nat.le_of_ble_eq_true rfl) ⟨rfl, rfl⟩ rfl dX12_bookLine_1 ?_
  refine r_istore (pc := 4) (lv' := [(4, .int (eI (sX12_deedBy y1))), (0, .ref (gA G a0)), (1, .long (eJ y1)), (3, .int (eI x3))]) dX12_bookLine_4 (Nat.le_of_ble_eq_true rfl) rfl ?_
  refine r_iload (pc := 6) dX12_bookLine_6 0 rfl ?_
  refine r_iconst (pc := 8) (v := (-1)) dX12_bookLine_8 (by decide +kernel) ?_
  refine r_icmp_ne (pc := 9) (tgt := 17) dX12_bookLine_9 (by decide) rfl wl_m1 (fun c_1 => ?_) (fun c_1 => ?_)
  · replace h := (if_neg c_1).symm.trans h
    refine r_aload_n (pc := 17) (i := 0) dX12_bookLine_17 rfl 1 rfl ?_
    refine r_iconst (pc := 18) (v := 0) dX12_bookLine_18 (by decide +kernel) ?_
    refine r_bipush (pc := 19) (v := 40) dX12_bookLine_19 (by decide +kernel) ?_
    refine r_iload_n (pc := 21) (i := 3) dX12_bookLine_21 rfl 3 rfl ?_
    obtain ⟨q_2, hq_2, h⟩ := ob h
    refine r_cV (pc := 22) (Y := xX12_full) (As := [.int (eI 0), .int (eI 40), .int (eI x3)]) (rest := []) (v := none) (st1 := []) ck_X12_bookLine_206 (kX12_full a0 0 40 x3 M oa0 hq_2) oa0 rfl rfl rfl rfl (Nat.le_of_ble_eq_true rfl) ⟨rfl, rfl⟩ rfl dX12_bookLine_22 ?_
    refine r_aload_n (pc := 25) (i := 0) dX12_bookLine_25 rfl 1 rfl ?_
    obtain ⟨q_3, hq_3, h⟩ := ob h
    refine r_cV (pc := 26) (Y := xX12_token) (As := []) (rest := []) (v := none) (st1 := []) ck_X12_bookLine_157 (kX12_token a0 q_2 oa0 hq_3) oa0 rfl rfl rfl rfl (Nat.le_of_ble_eq_true rfl) ⟨rfl, rfl⟩ rfl dX12_bookLine_26 ?_
    refine r_aload_n (pc := 29) (i := 0) dX12_bookLine_29 rfl 1 rfl ?_
    have o_4 := (wt_12_21 oa0).2
    refine r_getR (pc := 30) fg_12_44 rfl oa0 (wt_12_21 oa0).1 dX12_bookLine_30 ?_
    refine r_iconst (pc := 33) (v := 0) dX12_bookLine_33 (by decide +kernel) ?_
    refine r_iload (pc := 34) dX12_bookLine_34 0 rfl ?_
    obtain ⟨M_5, hM_5, h⟩ := ob h
    refine r_iast (pc := 36) o_4 wl_0 ⟨by decide, by decide⟩ rfl hM_5 dX12_bookLine_36 ?_
    refine r_aload_n (pc := 37) (i := 0) dX12_bookLine_37 rfl 1 rfl ?_
    have o_6 := (wt_12_21 oa0).2
    refine r_getR (pc := 38) fg_12_44 rfl oa0 (wt_12_21 oa0).1 dX12_bookLine_38 ?_
    refine r_iconst (pc := 41) (v := 1) dX12_bookLine_41 (by decide +kernel) ?_
    refine r_iconst (pc := 42) (v := (-1)) dX12_bookLine_42 (by decide +kernel) ?_
    obtain ⟨M_7, hM_7, h⟩ := ob h
    refine r_iast (pc := 43) o_6 wl_1 ⟨by decide, by decide⟩ rfl hM_7 dX12_bookLine_43 ?_
    refine r_aload_n (pc := 44) (i := 0) dX12_bookLine_44 rfl 1 rfl ?_
    have o_8 := (wt_12_21 oa0).2
    refine r_getR (pc := 45) fg_12_44 rfl oa0 (wt_12_21 oa0).1 dX12_bookLine_45 ?_
    refine r_iconst (pc := 48) (v := 2) dX12_bookLine_48 (by decide +kernel) ?_
    refine r_iconst (pc := 49) (v := (-1)) dX12_bookLine_49 (by decide +kernel) ?_
    obtain ⟨M_9, hM_9, h⟩ := ob h
    refine r_iast (pc := 50) o_8 wl_2 ⟨by decide, by decide⟩ rfl hM_9 dX12_bookLine_50 ?_
    refine r_iload (pc := 51) dX12_bookLine_51 0 rfl ?_
    refine r_iconst (pc := 53) (v := 3) dX12_bookLine_53 (by decide +kernel) ?_
    refine r_icmp_eq (pc := 54) (tgt := 63) dX12_bookLine_54 (by decide) rfl wl_3 (fun c_10 => ?_) (fun c_10 => ?_)
    · replace h := (if_pos c_10).symm.trans h
      refine r_sub (lv' := [(0, .ref (gA G a0)), (4, .int (eI (sX12_deedBy y1)))]) [1, 0] rfl ?_
      exact bX12_bookLine_b63 a0 y1 x3 oa0 _ _ h
    · replace h := (if_neg c_10).symm.trans h
      refine r_iload (pc := 57) dX12_bookLine_57 0 rfl ?_
      refine r_iconst (pc := 59) (v := 4) dX12_bookLine_59 (by decide +kernel) ?_
      refine r_icmp_ne (pc := 60) (tgt := 67) dX12_bookLine_60 (by decide) rfl wl_4 (fun c_11 => ?_) (fun c_11 => ?_)
      · replace h := (if_neg c_11).symm.trans h
        refine r_iconst (pc := 67) (v := 0) dX12_bookLine_67 (by decide +kernel) ?_
        refine r_sub (lv' := [(0, .ref (gA G a0)), (4, .int (eI (sX12_deedBy y1)))]) [1, 0] rfl ?_
        exact bX12_bookLine_b68 a0 y1 x3 oa0 _ _ _ h
      · replace h := (if_pos c_11).symm.trans h
        refine r_sub (lv' := [(0, .ref (gA G a0)), (4, .int (eI (sX12_deedBy y1)))]) [1, 0] rfl ?_
        exact bX12_bookLine_b63 a0 y1 x3 oa0 _ _ h
  · replace h := (if_pos c_1).symm.trans h
    refine r_aload_n (pc := 12) (i := 0) dX12_bookLine_12 rfl 1 rfl ?_
    obtain ⟨q_12, hq_12, h⟩ := ob h
    refine r_cV (pc := 13) (Y := xX12_fails) (As := []) (rest := []) (v := (some (.int (eI (q_12.1))))) (st1 := [.int (eI (q_12.1))]) ck_X12_bookLine_145 (kX12_fails a0 M oa0 hq_12) oa0 rfl rfl rfl rfl (Nat.le_of_ble_eq_true rfl) ⟨rfl, rfl⟩ rfl dX12_bookLine_13 ?_
    obtain ⟨c_13, h⟩ := og h
    cases h
    exact r_iret (pc := 16) rfl (zn_ok c_13).1 (Nat.le_refl 0) (Nat.le_refl 0) dX12_bookLine_16
theorem kX12_bookLine {G : GG} (a0 : Nat) (y1 : Int) (x3 : Int) (M : MM) {res : (Int × MM)} (oa0 : OB L0 a0 12) (h : sX12_bookLine a0 y1 x3 M = some res) : CO G xX12_bookLine [.ref (gA G a0), .long (eJ y1), .int (eI x3)] L0 M (some (.int (eI res.1))) L0 res.2 := CO_of (by decide +kernel) (Nat.le_of_ble_eq_true rfl) (bX12_bookLine_b0 a0 y1 x3 oa0 M h)
abbrev xX12_clueLine : XX := (yX12_clueLine, cX12_clueLine, 5, (some .boolean), 4, 91, 0, 0)
theorem ck_X12_clueLine_145 : CKV xX12_clueLine 145 xX12_fails 0 := ⟨⟨tb_i 1676 (by decide +kernel) (by decide +kernel), tb_i 152 (by decide +kernel) (by decide +kernel), tb_i 1679 (by decide +kernel) (by decide +kernel), ⟨by decide +kernel, by decide +kernel, by decide +kernel⟩, by decide, by decide⟩, tb_i 1678 (by decide +kernel) (by decide +kernel), tb_i 55 (by decide +kernel) (by decide +kernel)⟩
theorem ck_X12_clueLine_157 : CKV xX12_clueLine 157 xX12_token 0 := ⟨⟨tb_i 1641 (by decide +kernel) (by decide +kernel), tb_i 152 (by decide +kernel) (by decide +kernel), tb_i 1644 (by decide +kernel) (by decide +kernel), ⟨by decide +kernel, by decide +kernel, by decide +kernel⟩, by decide, by decide⟩, tb_i 1643 (by decide +kernel) (by decide +kernel), tb_i 50 (by decide +kernel) (by decide +kernel)⟩
theorem ck_X12_clueLine_181 : CKV xX12_clueLine 181 xX12_take 3 := ⟨⟨tb_i 1703 (by decide +kernel) (by decide +kernel), tb_i 152 (by decide +kernel) (by decide +kernel), tb_i 1706 (by decide +kernel) (by decide +kernel), ⟨by decide +kernel, by decide +kernel, by decide +kernel⟩, by decide, by decide⟩, tb_i 1705 (by decide +kernel) (by decide +kernel), tb_i 61 (by decide +kernel) (by decide +kernel)⟩
theorem ck_X12_clueLine_206 : CKV xX12_clueLine 206 xX12_full 3 := ⟨⟨tb_i 1680 (by decide +kernel) (by decide +kernel), tb_i 152 (by decide +kernel) (by decide +kernel), tb_i 1683 (by decide +kernel) (by decide +kernel), ⟨by decide +kernel, by decide +kernel, by decide +kernel⟩, by decide, by decide⟩, tb_i 1682 (by decide +kernel) (by decide +kernel), tb_i 56 (by decide +kernel) (by decide +kernel)⟩
theorem ck_X12_clueLine_221 : CKV xX12_clueLine 221 xX12_keep 4 := ⟨⟨tb_i 1715 (by decide +kernel) (by decide +kernel), tb_i 152 (by decide +kernel) (by decide +kernel), tb_i 1718 (by decide +kernel) (by decide +kernel), ⟨by decide +kernel, by decide +kernel, by decide +kernel⟩, by decide, by decide⟩, tb_i 1717 (by decide +kernel) (by decide +kernel), tb_i 64 (by decide +kernel) (by decide +kernel)⟩
def sX12_clueLine_b127 (a0 : Nat) (y1 : Int) (x3 : Int)  (x4 : Int) (a90 : Nat) (x91 : Int) (x92 : Int) (x93 : Int) (M : MM) : Option (Int × MM) := ((sX12_take a90 x91 x92 x93 M).bind fun q_1 => (if wI (q_1.1) = 0 then (some ((0, q_1.2))) else ((some (mU q_1.2 (gR a0 21) 0 x4)).bind fun M_4 => (if wI x4 = (-1) then (if wI (M_4 a0 23) = 0 then (some ((1, M_4))) else (if 0 ≤ wI (1 + (M_4 (gR a0 21) 1)) ∧ wI (1 + (M_4 (gR a0 21) 1)) < 132 then ((some (mU M_4 (gR a0 20) (wI (1 + (M_4 (gR a0 21) 1))).toNat (M_4 (gR a0 21) 2))).bind fun M_11 => (some ((1, M_11)))) else none)) else ((sX12_keep a0 0 9 3 8 M_4).bind fun q_12 => (some ((1, q_12))))))))
def sX12_clueLine_b111 (a0 : Nat) (y1 : Int) (x3 : Int)  (x4 : Int) (M : MM) : Option (Int × MM) := (if wI x4 = (-1) then (sX12_clueLine_b127 a0 y1 x3 x4 a0 2 0 10 M) else (sX12_clueLine_b127 a0 y1 x3 x4 a0 2 0 7 M))
def sX12_clueLine_b84 (a0 : Nat) (y1 : Int) (x3 : Int)  (x4 : Int) (M : MM) : Option (Int × MM) := ((sX12_token a0 M).bind fun q_1 => ((some (mU q_1 (gR a0 21) 1 (-1))).bind fun M_3 => (if 0 < wI x4 then (sX12_clueLine_b111 a0 y1 x3 x4 M_3) else ((sX12_take a0 1 0 7 M_3).bind fun q_5 => (if wI (q_5.1) = 0 then (some ((0, q_5.2))) else (sX12_clueLine_b111 a0 y1 x3 x4 q_5.2))))))
def sX12_clueLine_b70 (a0 : Nat) (y1 : Int) (x3 : Int)  (x4 : Int) (M : MM) : Option (Int × MM) := (if wI x4 = (-1) then (sX12_clueLine_b84 a0 y1 x3 x4 M) else ((sX12_full a0 0 8 x3 M).bind fun q_2 => (sX12_clueLine_b84 a0 y1 x3 x4 q_2)))
def sX12_clueLine_b49 (a0 : Nat) (y1 : Int) (x3 : Int)  (x90 : Int) (M : MM) : Option (Int × MM) := (if wI x90 = (-1) then (if wJ y1 = 500136506472 then (sX12_clueLine_b70 a0 y1 x3 x90 M) else ((sX12_fails a0 M).bind fun q_3 => (if (q_3.1) = 0 ∨ (q_3.1) = 1 then (some (((q_3.1), q_3.2))) else none))) else (sX12_clueLine_b70 a0 y1 x3 x90 M))
def sX12_clueLine_b0 (a0 : Nat) (y1 : Int) (x3 : Int)   (M : MM) : Option (Int × MM) := (if wJ y1 = 1935767923 then (sX12_clueLine_b49 a0 y1 x3 0 M) else (if wJ y1 = 6383986 then (sX12_clueLine_b49 a0 y1 x3 1 M) else (if wJ y1 = 444300622437 then (sX12_clueLine_b49 a0 y1 x3 2 M) else (if wJ y1 = 126931137819237 then (sX12_clueLine_b49 a0 y1 x3 3 M) else (sX12_clueLine_b49 a0 y1 x3 (-1) M)))))
def sX12_clueLine (a0 : Nat) (y1 : Int) (x3 : Int) (M : MM) : Option (Int × MM) := sX12_clueLine_b0 a0 y1 x3 M
set_option maxHeartbeats 4000000 in
set_option maxRecDepth 100000 in
theorem bX12_clueLine_b127 {G : GG} (a0 : Nat) (y1 : Int) (x3 : Int) (oa0 : OB L0 a0 12) (x4 : Int) (a90 : Nat) (x91 : Int) (x92 : Int) (x93 : Int) (M : MM) {res : (Int × MM)} (oa90 : OB L0 a90 12) (h : sX12_clueLine_b127 a0 y1 x3 x4 a90 x91 x92 x93 M = some res) : VV G xX12_clueLine (ZM G xX12_clueLine (some (.int (eI res.1))) L0 res.2) L0 M 0 0 127 [(0, .ref (gA G a0)), (4, .int (eI x4))] [.int (eI x93), .int (eI x92), .int (eI x91), .ref (gA G a90)] := by
  unfold sX12_clueLine_b127 at h
  obtain ⟨q_1, hq_1, h⟩ := ob h
  refine r_cV (pc := 127) (Y := xX12_take) (As := [.int (eI x91), .int (eI x92), .int (eI x93)]) (rest := []) (v := (some (.int (eI (q_1.1))))) (st1 := [.int (eI (q_1.1))]) ck_X12_clueLine_181 (kX12_take a90 x91 x92 x93 M oa90 hq_1) oa90 rfl rfl rfl rfl (Nat.le_of_ble_eq_true rfl) ⟨rfl, rfl⟩ rfl dX12_clueLine_127 ?_
  refine r_if_ne (pc := 130) (tgt := 135) dX12_clueLine_130 (by decide) rfl (fun c_2 => ?_) (fun c_2 => ?_)
  · replace h := (if_neg c_2).symm.trans h
    refine r_aload_n (pc := 135) (i := 0) dX12_clueLine_135 rfl 0 rfl ?_
    have o_3 := (wt_12_21 oa0).2
    refine r_getR (pc := 136) fg_12_44 rfl oa0 (wt_12_21 oa0).1 dX12_clueLine_136 ?_
    refine r_iconst (pc := 139) (v := 0) dX12_clueLine_139 (by decide +kernel) ?_
    refine r_iload (pc := 140) dX12_clueLine_140 1 rfl ?_
    obtain ⟨M_4, hM_4, h⟩ := ob h
    refine r_iast (pc := 142) o_3 wl_0 ⟨by decide, by decide⟩ rfl hM_4 dX12_clueLine_142 ?_
    refine r_iload (pc := 143) dX12_clueLine_143 1 rfl ?_
    refine r_iconst (pc := 145) (v := (-1)) dX12_clueLine_145 (by decide +kernel) ?_
    refine r_icmp_eq (pc := 146) (tgt := 162) dX12_clueLine_146 (by decide) rfl wl_m1 (fun c_5 => ?_) (fun c_5 => ?_)
    · replace h := (if_pos c_5).symm.trans h
      refine r_aload_n (pc := 162) (i := 0) dX12_clueLine_162 rfl 0 rfl ?_
      refine r_getI (pc := 163) fg_12_153 rfl oa0 dX12_clueLine_163 ?_
      refine r_if_eq (pc := 166) (tgt := 188) dX12_clueLine_166 (by decide) rfl (fun c_6 => ?_) (fun c_6 => ?_)
      · replace h := (if_pos c_6).symm.trans h
        refine r_iconst (pc := 188) (v := 1) dX12_clueLine_188 (by decide +kernel) ?_
        cases h
        exact r_iret (pc := 189) rfl (zn_ok (Or.inr rfl)).1 (Nat.le_refl 0) (Nat.le_refl 0) dX12_clueLine_189
      · replace h := (if_neg c_6).symm.trans h
        refine r_aload_n (pc := 169) (i := 0) dX12_clueLine_169 rfl 0 rfl ?_
        have o_7 := (wt_12_20 oa0).2
        refine r_getR (pc := 170) fg_12_41 rfl oa0 (wt_12_20 oa0).1 dX12_clueLine_170 ?_
        refine r_iconst (pc := 173) (v := 1) dX12_clueLine_173 (by decide +kernel) ?_
        refine r_aload_n (pc := 174) (i := 0) dX12_clueLine_174 rfl 0 rfl ?_
        have o_8 := (wt_12_21 oa0).2
        refine r_getR (pc := 175) fg_12_44 rfl oa0 (wt_12_21 oa0).1 dX12_clueLine_175 ?_
        refine r_iconst (pc := 178) (v := 1) dX12_clueLine_178 (by decide +kernel) ?_
        refine r_iald (pc := 179) o_8 wl_1 ⟨by decide, by decide⟩ rfl dX12_clueLine_179 ?_
        refine r_iadd (pc := 180) dX12_clueLine_180 ?_
        refine r_aload_n (pc := 181) (i := 0) dX12_clueLine_181 rfl 0 rfl ?_
        have o_9 := (wt_12_21 oa0).2
        refine r_getR (pc := 182) fg_12_44 rfl oa0 (wt_12_21 oa0).1 dX12_clueLine_182 ?_
        refine r_iconst (pc := 185) (v := 2) dX12_clueLine_185 (by decide +kernel) ?_
        refine r_iald (pc := 186) o_9 wl_2 ⟨by decide, by decide⟩ rfl dX12_clueLine_186 ?_
        obtain ⟨c_10, h⟩ := og h
        obtain ⟨M_11, hM_11, h⟩ := ob h
        refine r_iast (pc := 187) o_7 rfl c_10 rfl hM_11 dX12_clueLine_187 ?_
        refine r_iconst (pc := 188) (v := 1) dX12_clueLine_188 (by decide +kernel) ?_
        cases h
        exact r_iret (pc := 189) rfl (zn_ok (Or.inr rfl)).1 (Nat.le_refl 0) (Nat.le_refl 0) dX12_clueLine_189
    · replace h := (if_neg c_5).symm.trans h
      refine r_aload_n (pc := 149) (i := 0) dX12_clueLine_149 rfl 0 rfl ?_
      refine r_iconst (pc := 150) (v := 0) dX12_clueLine_150 (by decide +kernel) ?_
      refine r_bipush (pc := 151) (v := 9) dX12_clueLine_151 (by decide +kernel) ?_
      refine r_iconst (pc := 153) (v := 3) dX12_clueLine_153 (by decide +kernel) ?_
      refine r_bipush (pc := 154) (v := 8) dX12_clueLine_154 (by decide +kernel) ?_
      obtain ⟨q_12, hq_12, h⟩ := ob h
      refine r_cV (pc := 156) (Y := xX12_keep) (As := [.int (eI 0), .int (eI 9), .int (eI 3), .int (eI 8)]) (rest := []) (v := none) (st1 := []) ck_X12_clueLine_221 (kX12_keep a0 0 9 3 8 M_4 oa0 hq_12) oa0 rfl rfl rfl rfl (Nat.le_of_ble_eq_true rfl) ⟨rfl, rfl⟩ rfl dX12_clueLine_156 ?_
      refine r_goto (pc := 159) (tgt := 188) dX12_clueLine_159 (by decide) ?_
      refine r_iconst (pc := 188) (v := 1) dX12_clueLine_188 (by decide +kernel) ?_
      cases h
      exact r_iret (pc := 189) rfl (zn_ok (Or.inr rfl)).1 (Nat.le_refl 0) (Nat.le_refl 0) dX12_clueLine_189
  · replace h := (if_pos c_2).symm.trans h
    refine r_iconst (pc := 133) (v := 0) dX12_clueLine_133 (by decide +kernel) ?_
    cases h
    exact r_iret (pc := 134) rfl (zn_ok (Or.inl rfl)).1 (Nat.le_refl 0) (Nat.le_refl 0) dX12_clueLine_134
set_option maxHeartbeats 4000000 in
set_option maxRecDepth 100000 in
theorem bX12_clueLine_b111 {G : GG} (a0 : Nat) (y1 : Int) (x3 : Int) (oa0 : OB L0 a0 12) (x4 : Int) (M : MM) {res : (Int × MM)}  (h : sX12_clueLine_b111 a0 y1 x3 x4 M = some res) : VV G xX12_clueLine (ZM G xX12_clueLine (some (.int (eI res.1))) L0 res.2) L0 M 0 0 111 [(0, .ref (gA G a0)), (4, .int (eI x4))] [] := by
  unfold sX12_clueLine_b111 at h
  refine r_aload_n (pc := 111) (i := 0) dX12_clueLine_111 rfl 0 rfl ?_
  refine r_iconst (pc := 112) (v := 2) dX12_clueLine_112 (by decide +kernel) ?_
  refine r_iconst (pc := 113) (v := 0) dX12_clueLine_113 (by decide +kernel) ?_
  refine r_iload (pc := 114) dX12_clueLine_114 1 rfl ?_
  refine r_iconst (pc := 116) (v := (-1)) dX12_clueLine_116 (by decide +kernel) ?_
  refine r_icmp_ne (pc := 117) (tgt := 125) dX12_clueLine_117 (by decide) rfl wl_m1 (fun c_1 => ?_) (fun c_1 => ?_)
  · replace h := (if_neg c_1).symm.trans h
    refine r_bipush (pc := 125) (v := 7) dX12_clueLine_125 (by decide +kernel) ?_
    refine r_sub (lv' := [(0, .ref (gA G a0)), (4, .int (eI x4))]) [0, 1] rfl ?_
    exact bX12_clueLine_b127 a0 y1 x3 oa0 _ _ _ _ _ _ oa0 h
  · replace h := (if_pos c_1).symm.trans h
    refine r_bipush (pc := 120) (v := 10) dX12_clueLine_120 (by decide +kernel) ?_
    refine r_goto (pc := 122) (tgt := 127) dX12_clueLine_122 (by decide) ?_
    refine r_sub (lv' := [(0, .ref (gA G a0)), (4, .int (eI x4))]) [0, 1] rfl ?_
    exact bX12_clueLine_b127 a0 y1 x3 oa0 _ _ _ _ _ _ oa0 h
set_option maxHeartbeats 4000000 in
set_option maxRecDepth 100000 in
theorem bX12_clueLine_b84 {G : GG} (a0 : Nat) (y1 : Int) (x3 : Int) (oa0 : OB L0 a0 12) (x4 : Int) (M : MM) {res : (Int × MM)}  (h : sX12_clueLine_b84 a0 y1 x3 x4 M = some res) : VV G xX12_clueLine (ZM G xX12_clueLine (some (.int (eI res.1))) L0 res.2) L0 M 0 0 84 [(0, .ref (gA G a0)), (4, .int (eI x4))] [] := by
  unfold sX12_clueLine_b84 at h
  refine r_aload_n (pc := 84) (i := 0) dX12_clueLine_84 rfl 0 rfl ?_
  obtain ⟨q_1, hq_1, h⟩ := ob h
  refine r_cV (pc := 85) (Y := xX12_token) (As := []) (rest := []) (v := none) (st1 := []) ck_X12_clueLine_157 (kX12_token a0 M oa0 hq_1) oa0 rfl rfl rfl rfl (Nat.le_of_ble_eq_true rfl) ⟨rfl, rfl⟩ rfl dX12_clueLine_85 ?_
  refine r_aload_n (pc := 88) (i := 0) dX12_clueLine_88 rfl 0 rfl ?_
  have o_2 := (wt_12_21 oa0).2
  refine r_getR (pc := 89) fg_12_44 rfl oa0 (wt_12_21 oa0).1 dX12_clueLine_89 ?_
  refine r_iconst (pc := 92) (v := 1) dX12_clueLine_92 (by decide +kernel) ?_
  refine r_iconst (pc := 93) (v := (-1)) dX12_clueLine_93 (by decide +kernel) ?_
  obtain ⟨M_3, hM_3, h⟩ := ob h
  refine r_iast (pc := 94) o_2 wl_1 ⟨by decide, by decide⟩ rfl hM_3 dX12_clueLine_94 ?_
  refine r_iload (pc := 95) dX12_clueLine_95 1 rfl ?_
  refine r_if_gt (pc := 97) (tgt := 111) dX12_clueLine_97 (by decide) rfl (fun c_4 => ?_) (fun c_4 => ?_)
  · replace h := (if_pos c_4).symm.trans h
    refine r_sub (lv' := [(0, .ref (gA G a0)), (4, .int (eI x4))]) [0, 1] rfl ?_
    exact bX12_clueLine_b111 a0 y1 x3 oa0 _ _ h
  · replace h := (if_neg c_4).symm.trans h
    refine r_aload_n (pc := 100) (i := 0) dX12_clueLine_100 rfl 0 rfl ?_
    refine r_iconst (pc := 101) (v := 1) dX12_clueLine_101 (by decide +kernel) ?_
    refine r_iconst (pc := 102) (v := 0) dX12_clueLine_102 (by decide +kernel) ?_
    refine r_bipush (pc := 103) (v := 7) dX12_clueLine_103 (by decide +kernel) ?_
    obtain ⟨q_5, hq_5, h⟩ := ob h
    refine r_cV (pc := 105) (Y := xX12_take) (As := [.int (eI 1), .int (eI 0), .int (eI 7)]) (rest := []) (v := (some (.int (eI (q_5.1))))) (st1 := [.int (eI (q_5.1))]) ck_X12_clueLine_181 (kX12_take a0 1 0 7 M_3 oa0 hq_5) oa0 rfl rfl rfl rfl (Nat.le_of_ble_eq_true rfl) ⟨rfl, rfl⟩ rfl dX12_clueLine_105 ?_
    refine r_if_eq (pc := 108) (tgt := 133) dX12_clueLine_108 (by decide) rfl (fun c_6 => ?_) (fun c_6 => ?_)
    · replace h := (if_pos c_6).symm.trans h
      refine r_iconst (pc := 133) (v := 0) dX12_clueLine_133 (by decide +kernel) ?_
      cases h
      exact r_iret (pc := 134) rfl (zn_ok (Or.inl rfl)).1 (Nat.le_refl 0) (Nat.le_refl 0) dX12_clueLine_134
    · replace h := (if_neg c_6).symm.trans h
      refine r_sub (lv' := [(0, .ref (gA G a0)), (4, .int (eI x4))]) [0, 1] rfl ?_
      exact bX12_clueLine_b111 a0 y1 x3 oa0 _ _ h
set_option maxHeartbeats 4000000 in
set_option maxRecDepth 100000 in
theorem bX12_clueLine_b70 {G : GG} (a0 : Nat) (y1 : Int) (x3 : Int) (oa0 : OB L0 a0 12) (x4 : Int) (M : MM) {res : (Int × MM)}  (h : sX12_clueLine_b70 a0 y1 x3 x4 M = some res) : VV G xX12_clueLine (ZM G xX12_clueLine (some (.int (eI res.1))) L0 res.2) L0 M 0 0 70 [(0, .ref (gA G a0)), (3, .int (eI x3)), (4, .int (eI x4))] [] := by
  unfold sX12_clueLine_b70 at h
  refine r_iload (pc := 70) dX12_clueLine_70 2 rfl ?_
  refine r_iconst (pc := 72) (v := (-1)) dX12_clueLine_72 (by decide +kernel) ?_
  refine r_icmp_eq (pc := 73) (tgt := 84) dX12_clueLine_73 (by decide) rfl wl_m1 (fun c_1 => ?_) (fun c_1 => ?_)
  · replace h := (if_pos c_1).symm.trans h
    refine r_sub (lv' := [(0, .ref (gA G a0)), (4, .int (eI x4))]) [0, 2] rfl ?_
    exact bX12_clueLine_b84 a0 y1 x3 oa0 _ _ h
  · replace h := (if_neg c_1).symm.trans h
    refine r_aload_n (pc := 76) (i := 0) dX12_clueLine_76 rfl 0 rfl ?_
    refine r_iconst (pc := 77) (v := 0) dX12_clueLine_77 (by decide +kernel) ?_
    refine r_bipush (pc := 78) (v := 8) dX12_clueLine_78 (by decide +kernel) ?_
    refine r_iload_n (pc := 80) (i := 3) dX12_clueLine_80 rfl 1 rfl ?_
    obtain ⟨q_2, hq_2, h⟩ := ob h
    refine r_cV (pc := 81) (Y := xX12_full) (As := [.int (eI 0), .int (eI 8), .int (eI x3)]) (rest := []) (v := none) (st1 := []) ck_X12_clueLine_206 (kX12_full a0 0 8 x3 M oa0 hq_2) oa0 rfl rfl rfl rfl (Nat.le_of_ble_eq_true rfl) ⟨rfl, rfl⟩ rfl dX12_clueLine_81 ?_
    refine r_sub (lv' := [(0, .ref (gA G a0)), (4, .int (eI x4))]) [0, 2] rfl ?_
    exact bX12_clueLine_b84 a0 y1 x3 oa0 _ _ h
set_option maxHeartbeats 4000000 in
set_option maxRecDepth 100000 in
theorem bX12_clueLine_b49 {G : GG} (a0 : Nat) (y1 : Int) (x3 : Int) (oa0 : OB L0 a0 12) (x90 : Int) (M : MM) {res : (Int × MM)}  (h : sX12_clueLine_b49 a0 y1 x3 x90 M = some res) : VV G xX12_clueLine (ZM G xX12_clueLine (some (.int (eI res.1))) L0 res.2) L0 M 0 0 49 [(0, .ref (gA G a0)), (1, .long (eJ y1)), (3, .int (eI x3))] [.int (eI x90)] := by
  unfold sX12_clueLine_b49 at h
  refine r_istore (pc := 49) (lv' := [(4, .int (eI x90)), (0, .ref (gA G a0)), (1, .long (eJ y1)), (3, .int (eI x3))]) dX12_clueLine_49 (Nat.le_of_ble_eq_true rfl) rfl ?_
  refine r_iload (pc := 51) dX12_clueLine_51 0 rfl ?_
  refine r_iconst (pc := 53) (v := (-1)) dX12_clueLine_53 (by decide +kernel) ?_
  refine r_icmp_ne (pc := 54) (tgt := 70) dX12_clueLine_54 (by decide) rfl wl_m1 (fun c_1 => ?_) (fun c_1 => ?_)
  · replace h := (if_neg c_1).symm.trans h
    refine r_sub (lv' := [(0, .ref (gA G a0)), (3, .int (eI x3)), (4, .int (eI x90))]) [1, 3, 0] rfl ?_
    exact bX12_clueLine_b70 a0 y1 x3 oa0 _ _ h
  · replace h := (if_pos c_1).symm.trans h
    refine r_lload_n (pc := 57) (i := 1) dX12_clueLine_57 rfl 2 rfl ?_
    refine r_ldc2 (pc := 58) (v := 500136506472) kc_12_255 dX12_clueLine_58 ?_
    refine r_lcmp_eq (pc := 61) (tgt := 70) dX12_clueLine_61 dX12_clueLine_62 (by decide) rfl wj_500136506472 (fun c_2 => ?_) (fun c_2 => ?_)
    · replace h := (if_pos c_2).symm.trans h
      refine r_sub (lv' := [(0, .ref (gA G a0)), (3, .int (eI x3)), (4, .int (eI x90))]) [1, 3, 0] rfl ?_
      exact bX12_clueLine_b70 a0 y1 x3 oa0 _ _ h
    · replace h := (if_neg c_2).symm.trans h
      refine r_aload_n (pc := 65) (i := 0) dX12_clueLine_65 rfl 1 rfl ?_
      obtain ⟨q_3, hq_3, h⟩ := ob h
      refine r_cV (pc := 66) (Y := xX12_fails) (As := []) (rest := []) (v := (some (.int (eI (q_3.1))))) (st1 := [.int (eI (q_3.1))]) ck_X12_clueLine_145 (kX12_fails a0 M oa0 hq_3) oa0 rfl rfl rfl rfl (Nat.le_of_ble_eq_true rfl) ⟨rfl, rfl⟩ rfl dX12_clueLine_66 ?_
      obtain ⟨c_4, h⟩ := og h
      cases h
      exact r_iret (pc := 69) rfl (zn_ok c_4).1 (Nat.le_refl 0) (Nat.le_refl 0) dX12_clueLine_69
set_option maxHeartbeats 4000000 in
set_option maxRecDepth 100000 in
theorem bX12_clueLine_b0 {G : GG} (a0 : Nat) (y1 : Int) (x3 : Int) (oa0 : OB L0 a0 12)  (M : MM) {res : (Int × MM)}  (h : sX12_clueLine_b0 a0 y1 x3 M = some res) : VV G xX12_clueLine (ZM G xX12_clueLine (some (.int (eI res.1))) L0 res.2) L0 M 0 0 0 [(0, .ref (gA G a0)), (1, .long (eJ y1)), (3, .int (eI x3))] [] := by
  unfold sX12_clueLine_b0 at h
  refine r_lload_n (pc := 0) (i := 1) dX12_clueLine_0 rfl 1 rfl ?_
  refine r_ldc2 (pc := 1) (v := 1935767923) kc_12_247 dX12_clueLine_1 ?_
  refine r_lcmp_ne (pc := 4) (tgt := 12) dX12_clueLine_4 dX12_clueLine_5 (by decide) rfl wj_1935767923 (fun c_1 => ?_) (fun c_1 => ?_)
  · replace h := (if_neg c_1).symm.trans h
    refine r_lload_n (pc := 12) (i := 1) dX12_clueLine_12 rfl 1 rfl ?_
    refine r_ldc2 (pc := 13) (v := 6383986) kc_12_249 dX12_clueLine_13 ?_
    refine r_lcmp_ne (pc := 16) (tgt := 24) dX12_clueLine_16 dX12_clueLine_17 (by decide) rfl wj_6383986 (fun c_2 => ?_) (fun c_2 => ?_)
    · replace h := (if_neg c_2).symm.trans h
      refine r_lload_n (pc := 24) (i := 1) dX12_clueLine_24 rfl 1 rfl ?_
      refine r_ldc2 (pc := 25) (v := 444300622437) kc_12_251 dX12_clueLine_25 ?_
      refine r_lcmp_ne (pc := 28) (tgt := 36) dX12_clueLine_28 dX12_clueLine_29 (by decide) rfl wj_444300622437 (fun c_3 => ?_) (fun c_3 => ?_)
      · replace h := (if_neg c_3).symm.trans h
        refine r_lload_n (pc := 36) (i := 1) dX12_clueLine_36 rfl 1 rfl ?_
        refine r_ldc2 (pc := 37) (v := 126931137819237) kc_12_253 dX12_clueLine_37 ?_
        refine r_lcmp_ne (pc := 40) (tgt := 48) dX12_clueLine_40 dX12_clueLine_41 (by decide) rfl wj_126931137819237 (fun c_4 => ?_) (fun c_4 => ?_)
        · replace h := (if_neg c_4).symm.trans h
          refine r_iconst (pc := 48) (v := (-1)) dX12_clueLine_48 (by decide +kernel) ?_
          refine r_sub (lv' := [(0, .ref (gA G a0)), (1, .long (eJ y1)), (3, .int (eI x3))]) [0, 1, 2] rfl ?_
          exact bX12_clueLine_b49 a0 y1 x3 oa0 _ _ h
        · replace h := (if_pos c_4).symm.trans h
          refine r_iconst (pc := 44) (v := 3) dX12_clueLine_44 (by decide +kernel) ?_
          refine r_goto (pc := 45) (tgt := 49) dX12_clueLine_45 (by decide) ?_
          refine r_sub (lv' := [(0, .ref (gA G a0)), (1, .long (eJ y1)), (3, .int (eI x3))]) [0, 1, 2] rfl ?_
          exact bX12_clueLine_b49 a0 y1 x3 oa0 _ _ h
      · replace h := (if_pos c_3).symm.trans h
        refine r_iconst (pc := 32) (v := 2) dX12_clueLine_32 (by decide +kernel) ?_
        refine r_goto (pc := 33) (tgt := 49) dX12_clueLine_33 (by decide) ?_
        refine r_sub (lv' := [(0, .ref (gA G a0)), (1, .long (eJ y1)), (3, .int (eI x3))]) [0, 1, 2] rfl ?_
        exact bX12_clueLine_b49 a0 y1 x3 oa0 _ _ h
    · replace h := (if_pos c_2).symm.trans h
      refine r_iconst (pc := 20) (v := 1) dX12_clueLine_20 (by decide +kernel) ?_
      refine r_goto (pc := 21) (tgt := 49) dX12_clueLine_21 (by decide) ?_
      refine r_sub (lv' := [(0, .ref (gA G a0)), (1, .long (eJ y1)), (3, .int (eI x3))]) [0, 1, 2] rfl ?_
      exact bX12_clueLine_b49 a0 y1 x3 oa0 _ _ h
  · replace h := (if_pos c_1).symm.trans h
    refine r_iconst (pc := 8) (v := 0) dX12_clueLine_8 (by decide +kernel) ?_
    refine r_goto (pc := 9) (tgt := 49) dX12_clueLine_9 (by decide) ?_
    refine r_sub (lv' := [(0, .ref (gA G a0)), (1, .long (eJ y1)), (3, .int (eI x3))]) [0, 1, 2] rfl ?_
    exact bX12_clueLine_b49 a0 y1 x3 oa0 _ _ h
theorem kX12_clueLine {G : GG} (a0 : Nat) (y1 : Int) (x3 : Int) (M : MM) {res : (Int × MM)} (oa0 : OB L0 a0 12) (h : sX12_clueLine a0 y1 x3 M = some res) : CO G xX12_clueLine [.ref (gA G a0), .long (eJ y1), .int (eI x3)] L0 M (some (.int (eI res.1))) L0 res.2 := CO_of (by decide +kernel) (Nat.le_of_ble_eq_true rfl) (bX12_clueLine_b0 a0 y1 x3 oa0 M h)
abbrev xX12_groundLine : XX := (yX12_groundLine, cX12_groundLine, 4, (some .boolean), 4, 91, 0, 0)
theorem ck_X12_groundLine_145 : CKV xX12_groundLine 145 xX12_fails 0 := ⟨⟨tb_i 1676 (by decide +kernel) (by decide +kernel), tb_i 152 (by decide +kernel) (by decide +kernel), tb_i 1679 (by decide +kernel) (by decide +kernel), ⟨by decide +kernel, by decide +kernel, by decide +kernel⟩, by decide, by decide⟩, tb_i 1678 (by decide +kernel) (by decide +kernel), tb_i 55 (by decide +kernel) (by decide +kernel)⟩
theorem ck_X12_groundLine_157 : CKV xX12_groundLine 157 xX12_token 0 := ⟨⟨tb_i 1641 (by decide +kernel) (by decide +kernel), tb_i 152 (by decide +kernel) (by decide +kernel), tb_i 1644 (by decide +kernel) (by decide +kernel), ⟨by decide +kernel, by decide +kernel, by decide +kernel⟩, by decide, by decide⟩, tb_i 1643 (by decide +kernel) (by decide +kernel), tb_i 50 (by decide +kernel) (by decide +kernel)⟩
theorem ck_X12_groundLine_181 : CKV xX12_groundLine 181 xX12_take 3 := ⟨⟨tb_i 1703 (by decide +kernel) (by decide +kernel), tb_i 152 (by decide +kernel) (by decide +kernel), tb_i 1706 (by decide +kernel) (by decide +kernel), ⟨by decide +kernel, by decide +kernel, by decide +kernel⟩, by decide, by decide⟩, tb_i 1705 (by decide +kernel) (by decide +kernel), tb_i 61 (by decide +kernel) (by decide +kernel)⟩
theorem ck_X12_groundLine_206 : CKV xX12_groundLine 206 xX12_full 3 := ⟨⟨tb_i 1680 (by decide +kernel) (by decide +kernel), tb_i 152 (by decide +kernel) (by decide +kernel), tb_i 1683 (by decide +kernel) (by decide +kernel), ⟨by decide +kernel, by decide +kernel, by decide +kernel⟩, by decide, by decide⟩, tb_i 1682 (by decide +kernel) (by decide +kernel), tb_i 56 (by decide +kernel) (by decide +kernel)⟩
theorem ck_X12_groundLine_221 : CKV xX12_groundLine 221 xX12_keep 4 := ⟨⟨tb_i 1715 (by decide +kernel) (by decide +kernel), tb_i 152 (by decide +kernel) (by decide +kernel), tb_i 1718 (by decide +kernel) (by decide +kernel), ⟨by decide +kernel, by decide +kernel, by decide +kernel⟩, by decide, by decide⟩, tb_i 1717 (by decide +kernel) (by decide +kernel), tb_i 64 (by decide +kernel) (by decide +kernel)⟩
def sX12_groundLine_b0 (a0 : Nat) (y1 : Int) (x3 : Int)   (M : MM) : Option (Int × MM) := (if wJ y1 = 1717922924 then ((sX12_full a0 0 25 x3 M).bind fun q_2 => ((sX12_token a0 q_2).bind fun q_3 => ((sX12_take a0 0 0 24 q_3).bind fun q_4 => (if wI (q_4.1) = 0 then (some ((0, q_4.2))) else ((sX12_take a0 1 1 9 q_4.2).bind fun q_6 => (if wI (q_6.1) = 0 then (some ((0, q_6.2))) else ((sX12_keep a0 0 1 2 25 q_6.2).bind fun q_8 => (some ((1, q_8)))))))))) else ((sX12_fails a0 M).bind fun q_9 => (if (q_9.1) = 0 ∨ (q_9.1) = 1 then (some (((q_9.1), q_9.2))) else none)))
def sX12_groundLine (a0 : Nat) (y1 : Int) (x3 : Int) (M : MM) : Option (Int × MM) := sX12_groundLine_b0 a0 y1 x3 M
set_option maxHeartbeats 4000000 in
set_option maxRecDepth 100000 in
theorem bX12_groundLine_b0 {G : GG} (a0 : Nat) (y1 : Int) (x3 : Int) (oa0 : OB L0 a0 12)  (M : MM) {res : (Int × MM)}  (h : sX12_groundLine_b0 a0 y1 x3 M = some res) : VV G xX12_groundLine (ZM G xX12_groundLine (some (.int (eI res.1))) L0 res.2) L0 M 0 0 0 [(0, .ref (gA G a0)), (1, .long (eJ y1)), (3, .int (eI x3))] [] := by
  unfold sX12_groundLine_b0 at h
  refine r_lload_n (pc := 0) (i := 1) dX12_groundLine_0 rfl 1 rfl ?_
  refine r_ldc2 (pc := 1) (v := 1717922924) kc_12_257 dX12_groundLine_1 ?_
  refine r_lcmp_eq (pc := 4) (tgt := 13) dX12_groundLine_4 dX12_groundLine_5 (by decide) rfl wj_1717922924 (fun c_1 => ?_) (fun c_1 => ?_)
  · replace h := (if_pos c_1).symm.trans h
    refine r_aload_n (pc := 13) (i := 0) dX12_groundLine_13 rfl 0 rfl ?_
    refine r_iconst (pc := 14) (v := 0) dX12_groundLine_14 (by decide +kernel) ?_
    refine r_bipush (pc := 15) (v := 25) dX12_groundLine_15 (by decide +kernel) ?_
    refine r_iload_n (pc := 17) (i := 3) dX12_groundLine_17 rfl 2 rfl ?_
    obtain ⟨q_2, hq_2, h⟩ := ob h
    refine r_cV (pc := 18) (Y := xX12_full) (As := [.int (eI 0), .int (eI 25), .int (eI x3)]) (rest := []) (v := none) (st1 := []) ck_X12_groundLine_206 (kX12_full a0 0 25 x3 M oa0 hq_2) oa0 rfl rfl rfl rfl (Nat.le_of_ble_eq_true rfl) ⟨rfl, rfl⟩ rfl dX12_groundLine_18 ?_
    refine r_aload_n (pc := 21) (i := 0) dX12_groundLine_21 rfl 0 rfl ?_
    obtain ⟨q_3, hq_3, h⟩ := ob h
    refine r_cV (pc := 22) (Y := xX12_token) (As := []) (rest := []) (v := none) (st1 := []) ck_X12_groundLine_157 (kX12_token a0 q_2 oa0 hq_3) oa0 rfl rfl rfl rfl (Nat.le_of_ble_eq_true rfl) ⟨rfl, rfl⟩ rfl dX12_groundLine_22 ?_
    refine r_aload_n (pc := 25) (i := 0) dX12_groundLine_25 rfl 0 rfl ?_
    refine r_iconst (pc := 26) (v := 0) dX12_groundLine_26 (by decide +kernel) ?_
    refine r_iconst (pc := 27) (v := 0) dX12_groundLine_27 (by decide +kernel) ?_
    refine r_bipush (pc := 28) (v := 24) dX12_groundLine_28 (by decide +kernel) ?_
    obtain ⟨q_4, hq_4, h⟩ := ob h
    refine r_cV (pc := 30) (Y := xX12_take) (As := [.int (eI 0), .int (eI 0), .int (eI 24)]) (rest := []) (v := (some (.int (eI (q_4.1))))) (st1 := [.int (eI (q_4.1))]) ck_X12_groundLine_181 (kX12_take a0 0 0 24 q_3 oa0 hq_4) oa0 rfl rfl rfl rfl (Nat.le_of_ble_eq_true rfl) ⟨rfl, rfl⟩ rfl dX12_groundLine_30 ?_
    refine r_if_eq (pc := 33) (tgt := 47) dX12_groundLine_33 (by decide) rfl (fun c_5 => ?_) (fun c_5 => ?_)
    · replace h := (if_pos c_5).symm.trans h
      refine r_iconst (pc := 47) (v := 0) dX12_groundLine_47 (by decide +kernel) ?_
      cases h
      exact r_iret (pc := 48) rfl (zn_ok (Or.inl rfl)).1 (Nat.le_refl 0) (Nat.le_refl 0) dX12_groundLine_48
    · replace h := (if_neg c_5).symm.trans h
      refine r_aload_n (pc := 36) (i := 0) dX12_groundLine_36 rfl 0 rfl ?_
      refine r_iconst (pc := 37) (v := 1) dX12_groundLine_37 (by decide +kernel) ?_
      refine r_iconst (pc := 38) (v := 1) dX12_groundLine_38 (by decide +kernel) ?_
      refine r_bipush (pc := 39) (v := 9) dX12_groundLine_39 (by decide +kernel) ?_
      obtain ⟨q_6, hq_6, h⟩ := ob h
      refine r_cV (pc := 41) (Y := xX12_take) (As := [.int (eI 1), .int (eI 1), .int (eI 9)]) (rest := []) (v := (some (.int (eI (q_6.1))))) (st1 := [.int (eI (q_6.1))]) ck_X12_groundLine_181 (kX12_take a0 1 1 9 q_4.2 oa0 hq_6) oa0 rfl rfl rfl rfl (Nat.le_of_ble_eq_true rfl) ⟨rfl, rfl⟩ rfl dX12_groundLine_41 ?_
      refine r_if_ne (pc := 44) (tgt := 49) dX12_groundLine_44 (by decide) rfl (fun c_7 => ?_) (fun c_7 => ?_)
      · replace h := (if_neg c_7).symm.trans h
        refine r_aload_n (pc := 49) (i := 0) dX12_groundLine_49 rfl 0 rfl ?_
        refine r_iconst (pc := 50) (v := 0) dX12_groundLine_50 (by decide +kernel) ?_
        refine r_iconst (pc := 51) (v := 1) dX12_groundLine_51 (by decide +kernel) ?_
        refine r_iconst (pc := 52) (v := 2) dX12_groundLine_52 (by decide +kernel) ?_
        refine r_bipush (pc := 53) (v := 25) dX12_groundLine_53 (by decide +kernel) ?_
        obtain ⟨q_8, hq_8, h⟩ := ob h
        refine r_cV (pc := 55) (Y := xX12_keep) (As := [.int (eI 0), .int (eI 1), .int (eI 2), .int (eI 25)]) (rest := []) (v := none) (st1 := []) ck_X12_groundLine_221 (kX12_keep a0 0 1 2 25 q_6.2 oa0 hq_8) oa0 rfl rfl rfl rfl (Nat.le_of_ble_eq_true rfl) ⟨rfl, rfl⟩ rfl dX12_groundLine_55 ?_
        refine r_iconst (pc := 58) (v := 1) dX12_groundLine_58 (by decide +kernel) ?_
        cases h
        exact r_iret (pc := 59) rfl (zn_ok (Or.inr rfl)).1 (Nat.le_refl 0) (Nat.le_refl 0) dX12_groundLine_59
      · replace h := (if_pos c_7).symm.trans h
        refine r_iconst (pc := 47) (v := 0) dX12_groundLine_47 (by decide +kernel) ?_
        cases h
        exact r_iret (pc := 48) rfl (zn_ok (Or.inl rfl)).1 (Nat.le_refl 0) (Nat.le_refl 0) dX12_groundLine_48
  · replace h := (if_neg c_1).symm.trans h
    refine r_aload_n (pc := 8) (i := 0) dX12_groundLine_8 rfl 0 rfl ?_
    obtain ⟨q_9, hq_9, h⟩ := ob h
    refine r_cV (pc := 9) (Y := xX12_fails) (As := []) (rest := []) (v := (some (.int (eI (q_9.1))))) (st1 := [.int (eI (q_9.1))]) ck_X12_groundLine_145 (kX12_fails a0 M oa0 hq_9) oa0 rfl rfl rfl rfl (Nat.le_of_ble_eq_true rfl) ⟨rfl, rfl⟩ rfl dX12_groundLine_9 ?_
    obtain ⟨c_10, h⟩ := og h
    cases h
    exact r_iret (pc := 12) rfl (zn_ok c_10).1 (Nat.le_refl 0) (Nat.le_refl 0) dX12_groundLine_12
theorem kX12_groundLine {G : GG} (a0 : Nat) (y1 : Int) (x3 : Int) (M : MM) {res : (Int × MM)} (oa0 : OB L0 a0 12) (h : sX12_groundLine a0 y1 x3 M = some res) : CO G xX12_groundLine [.ref (gA G a0), .long (eJ y1), .int (eI x3)] L0 M (some (.int (eI res.1))) L0 res.2 := CO_of (by decide +kernel) (Nat.le_of_ble_eq_true rfl) (bX12_groundLine_b0 a0 y1 x3 oa0 M h)
abbrev xX12_recordLine : XX := (yX12_recordLine, cX12_recordLine, 5, (some .boolean), 4, 91, 0, 0)
theorem ck_X12_recordLine_145 : CKV xX12_recordLine 145 xX12_fails 0 := ⟨⟨tb_i 1676 (by decide +kernel) (by decide +kernel), tb_i 152 (by decide +kernel) (by decide +kernel), tb_i 1679 (by decide +kernel) (by decide +kernel), ⟨by decide +kernel, by decide +kernel, by decide +kernel⟩, by decide, by decide⟩, tb_i 1678 (by decide +kernel) (by decide +kernel), tb_i 55 (by decide +kernel) (by decide +kernel)⟩
theorem ck_X12_recordLine_157 : CKV xX12_recordLine 157 xX12_token 0 := ⟨⟨tb_i 1641 (by decide +kernel) (by decide +kernel), tb_i 152 (by decide +kernel) (by decide +kernel), tb_i 1644 (by decide +kernel) (by decide +kernel), ⟨by decide +kernel, by decide +kernel, by decide +kernel⟩, by decide, by decide⟩, tb_i 1643 (by decide +kernel) (by decide +kernel), tb_i 50 (by decide +kernel) (by decide +kernel)⟩
theorem ck_X12_recordLine_181 : CKV xX12_recordLine 181 xX12_take 3 := ⟨⟨tb_i 1703 (by decide +kernel) (by decide +kernel), tb_i 152 (by decide +kernel) (by decide +kernel), tb_i 1706 (by decide +kernel) (by decide +kernel), ⟨by decide +kernel, by decide +kernel, by decide +kernel⟩, by decide, by decide⟩, tb_i 1705 (by decide +kernel) (by decide +kernel), tb_i 61 (by decide +kernel) (by decide +kernel)⟩
theorem ck_X12_recordLine_206 : CKV xX12_recordLine 206 xX12_full 3 := ⟨⟨tb_i 1680 (by decide +kernel) (by decide +kernel), tb_i 152 (by decide +kernel) (by decide +kernel), tb_i 1683 (by decide +kernel) (by decide +kernel), ⟨by decide +kernel, by decide +kernel, by decide +kernel⟩, by decide, by decide⟩, tb_i 1682 (by decide +kernel) (by decide +kernel), tb_i 56 (by decide +kernel) (by decide +kernel)⟩
theorem ck_X12_recordLine_221 : CKV xX12_recordLine 221 xX12_keep 4 := ⟨⟨tb_i 1715 (by decide +kernel) (by decide +kernel), tb_i 152 (by decide +kernel) (by decide +kernel), tb_i 1718 (by decide +kernel) (by decide +kernel), ⟨by decide +kernel, by decide +kernel, by decide +kernel⟩, by decide, by decide⟩, tb_i 1717 (by decide +kernel) (by decide +kernel), tb_i 64 (by decide +kernel) (by decide +kernel)⟩
def sX12_recordLine_b135 (a0 : Nat) (y1 : Int) (x3 : Int)  (x4 : Int) (b90 : Nat) (x91 : Int) (x92 : Int) (M : MM) : Option (Int × MM) := (if 0 ≤ wI x91 ∧ wI x91 < 4 then ((some (mU M b90 (wI x91).toNat x92)).bind fun M_2 => (if wI x4 = 0 then ((sX12_keep a0 1 82 1 15 M_2).bind fun q_4 => (some ((1, q_4)))) else ((sX12_keep a0 0 2 2 40 M_2).bind fun q_5 => (some ((1, q_5)))))) else none)
def sX12_recordLine_b117 (a0 : Nat) (y1 : Int) (x3 : Int)  (x4 : Int) (M : MM) : Option (Int × MM) := (if wJ y1 = 1953658213 then (sX12_recordLine_b135 a0 y1 x3 x4 (gR a0 21) 1 1 M) else (sX12_recordLine_b135 a0 y1 x3 x4 (gR a0 21) 1 0 M))
def sX12_recordLine_b98 (a0 : Nat) (y1 : Int) (x3 : Int)  (x4 : Int) (b90 : Nat) (x91 : Int) (x92 : Int) (M : MM) : Option (Int × MM) := (if 0 ≤ wI x91 ∧ wI x91 < 4 then ((some (mU M b90 (wI x91).toNat x92)).bind fun M_2 => (if wI x4 = 0 then (sX12_recordLine_b117 a0 y1 x3 x4 M_2) else ((sX12_take a0 0 0 7 M_2).bind fun q_4 => (if wI (q_4.1) = 0 then (some ((0, q_4.2))) else (sX12_recordLine_b117 a0 y1 x3 x4 q_4.2))))) else none)
def sX12_recordLine_b72 (a0 : Nat) (y1 : Int) (x3 : Int)  (x4 : Int) (a90 : Nat) (x91 : Int) (x92 : Int) (M : MM) : Option (Int × MM) := ((sX12_full a90 x91 x92 x3 M).bind fun q_1 => ((sX12_token a0 q_1).bind fun q_2 => (if wJ y1 = 6842740 then (sX12_recordLine_b98 a0 y1 x3 x4 (gR a0 21) 0 1 q_2) else (sX12_recordLine_b98 a0 y1 x3 x4 (gR a0 21) 0 0 q_2))))
def sX12_recordLine_b60 (a0 : Nat) (y1 : Int) (x3 : Int)  (x4 : Int) (a90 : Nat) (x91 : Int) (M : MM) : Option (Int × MM) := (if wI x4 = 0 then (sX12_recordLine_b72 a0 y1 x3 x4 a90 x91 15 M) else (sX12_recordLine_b72 a0 y1 x3 x4 a90 x91 40 M))
def sX12_recordLine_b49 (a0 : Nat) (y1 : Int) (x3 : Int)  (x4 : Int) (M : MM) : Option (Int × MM) := (if wI x4 = 0 then (sX12_recordLine_b60 a0 y1 x3 x4 a0 1 M) else (sX12_recordLine_b60 a0 y1 x3 x4 a0 0 M))
def sX12_recordLine_b21 (a0 : Nat) (y1 : Int) (x3 : Int)  (x90 : Int) (M : MM) : Option (Int × MM) := (if wI x90 = 0 then (if wJ y1 = 6842740 then (sX12_recordLine_b49 a0 y1 x3 x90 M) else (if wJ y1 = 1835627379 then (sX12_recordLine_b49 a0 y1 x3 x90 M) else ((sX12_fails a0 M).bind fun q_4 => (if (q_4.1) = 0 ∨ (q_4.1) = 1 then (some (((q_4.1), q_4.2))) else none)))) else (sX12_recordLine_b49 a0 y1 x3 x90 M))
def sX12_recordLine_b16 (a0 : Nat) (y1 : Int) (x3 : Int)   (M : MM) : Option (Int × MM) := (sX12_recordLine_b21 a0 y1 x3 1 M)
def sX12_recordLine_b0 (a0 : Nat) (y1 : Int) (x3 : Int)   (M : MM) : Option (Int × MM) := (if wJ y1 = 1953658213 then (sX12_recordLine_b16 a0 y1 x3 M) else (if wJ y1 = 439721161573 then (sX12_recordLine_b16 a0 y1 x3 M) else (sX12_recordLine_b21 a0 y1 x3 0 M)))
def sX12_recordLine (a0 : Nat) (y1 : Int) (x3 : Int) (M : MM) : Option (Int × MM) := sX12_recordLine_b0 a0 y1 x3 M
set_option maxHeartbeats 4000000 in
set_option maxRecDepth 100000 in
theorem bX12_recordLine_b135 {G : GG} (a0 : Nat) (y1 : Int) (x3 : Int) (oa0 : OB L0 a0 12) (x4 : Int) (b90 : Nat) (x91 : Int) (x92 : Int) (M : MM) {res : (Int × MM)} (ob90 : AR L0 b90 1 4) (h : sX12_recordLine_b135 a0 y1 x3 x4 b90 x91 x92 M = some res) : VV G xX12_recordLine (ZM G xX12_recordLine (some (.int (eI res.1))) L0 res.2) L0 M 0 0 135 [(0, .ref (gA G a0)), (4, .int (eI x4))] [.int (eI x92), .int (eI x91), .ref (gA G b90)] := by
  unfold sX12_recordLine_b135 at h
  obtain ⟨c_1, h⟩ := og h
  obtain ⟨M_2, hM_2, h⟩ := ob h
  refine r_iast (pc := 135) ob90 rfl c_1 rfl hM_2 dX12_recordLine_135 ?_
  refine r_iload (pc := 136) dX12_recordLine_136 1 rfl ?_
  refine r_if_eq (pc := 138) (tgt := 153) dX12_recordLine_138 (by decide) rfl (fun c_3 => ?_) (fun c_3 => ?_)
  · replace h := (if_pos c_3).symm.trans h
    refine r_aload_n (pc := 153) (i := 0) dX12_recordLine_153 rfl 0 rfl ?_
    refine r_iconst (pc := 154) (v := 1) dX12_recordLine_154 (by decide +kernel) ?_
    refine r_bipush (pc := 155) (v := 82) dX12_recordLine_155 (by decide +kernel) ?_
    refine r_iconst (pc := 157) (v := 1) dX12_recordLine_157 (by decide +kernel) ?_
    refine r_bipush (pc := 158) (v := 15) dX12_recordLine_158 (by decide +kernel) ?_
    obtain ⟨q_4, hq_4, h⟩ := ob h
    refine r_cV (pc := 160) (Y := xX12_keep) (As := [.int (eI 1), .int (eI 82), .int (eI 1), .int (eI 15)]) (rest := []) (v := none) (st1 := []) ck_X12_recordLine_221 (kX12_keep a0 1 82 1 15 M_2 oa0 hq_4) oa0 rfl rfl rfl rfl (Nat.le_of_ble_eq_true rfl) ⟨rfl, rfl⟩ rfl dX12_recordLine_160 ?_
    refine r_iconst (pc := 163) (v := 1) dX12_recordLine_163 (by decide +kernel) ?_
    cases h
    exact r_iret (pc := 164) rfl (zn_ok (Or.inr rfl)).1 (Nat.le_refl 0) (Nat.le_refl 0) dX12_recordLine_164
  · replace h := (if_neg c_3).symm.trans h
    refine r_aload_n (pc := 141) (i := 0) dX12_recordLine_141 rfl 0 rfl ?_
    refine r_iconst (pc := 142) (v := 0) dX12_recordLine_142 (by decide +kernel) ?_
    refine r_iconst (pc := 143) (v := 2) dX12_recordLine_143 (by decide +kernel) ?_
    refine r_iconst (pc := 144) (v := 2) dX12_recordLine_144 (by decide +kernel) ?_
    refine r_bipush (pc := 145) (v := 40) dX12_recordLine_145 (by decide +kernel) ?_
    obtain ⟨q_5, hq_5, h⟩ := ob h
    refine r_cV (pc := 147) (Y := xX12_keep) (As := [.int (eI 0), .int (eI 2), .int (eI 2), .int (eI 40)]) (rest := []) (v := none) (st1 := []) ck_X12_recordLine_221 (kX12_keep a0 0 2 2 40 M_2 oa0 hq_5) oa0 rfl rfl rfl rfl (Nat.le_of_ble_eq_true rfl) ⟨rfl, rfl⟩ rfl dX12_recordLine_147 ?_
    refine r_goto (pc := 150) (tgt := 163) dX12_recordLine_150 (by decide) ?_
    refine r_iconst (pc := 163) (v := 1) dX12_recordLine_163 (by decide +kernel) ?_
    cases h
    exact r_iret (pc := 164) rfl (zn_ok (Or.inr rfl)).1 (Nat.le_refl 0) (Nat.le_refl 0) dX12_recordLine_164
set_option maxHeartbeats 4000000 in
set_option maxRecDepth 100000 in
theorem bX12_recordLine_b117 {G : GG} (a0 : Nat) (y1 : Int) (x3 : Int) (oa0 : OB L0 a0 12) (x4 : Int) (M : MM) {res : (Int × MM)}  (h : sX12_recordLine_b117 a0 y1 x3 x4 M = some res) : VV G xX12_recordLine (ZM G xX12_recordLine (some (.int (eI res.1))) L0 res.2) L0 M 0 0 117 [(0, .ref (gA G a0)), (1, .long (eJ y1)), (4, .int (eI x4))] [] := by
  unfold sX12_recordLine_b117 at h
  refine r_aload_n (pc := 117) (i := 0) dX12_recordLine_117 rfl 0 rfl ?_
  have o_1 := (wt_12_21 oa0).2
  refine r_getR (pc := 118) fg_12_44 rfl oa0 (wt_12_21 oa0).1 dX12_recordLine_118 ?_
  refine r_iconst (pc := 121) (v := 1) dX12_recordLine_121 (by decide +kernel) ?_
  refine r_lload_n (pc := 122) (i := 1) dX12_recordLine_122 rfl 1 rfl ?_
  refine r_ldc2 (pc := 123) (v := 1953658213) kc_12_259 dX12_recordLine_123 ?_
  refine r_lcmp_ne (pc := 126) (tgt := 134) dX12_recordLine_126 dX12_recordLine_127 (by decide) rfl wj_1953658213 (fun c_2 => ?_) (fun c_2 => ?_)
  · replace h := (if_neg c_2).symm.trans h
    refine r_iconst (pc := 134) (v := 0) dX12_recordLine_134 (by decide +kernel) ?_
    refine r_sub (lv' := [(0, .ref (gA G a0)), (4, .int (eI x4))]) [0, 2] rfl ?_
    exact bX12_recordLine_b135 a0 y1 x3 oa0 _ _ _ _ _ o_1 h
  · replace h := (if_pos c_2).symm.trans h
    refine r_iconst (pc := 130) (v := 1) dX12_recordLine_130 (by decide +kernel) ?_
    refine r_goto (pc := 131) (tgt := 135) dX12_recordLine_131 (by decide) ?_
    refine r_sub (lv' := [(0, .ref (gA G a0)), (4, .int (eI x4))]) [0, 2] rfl ?_
    exact bX12_recordLine_b135 a0 y1 x3 oa0 _ _ _ _ _ o_1 h
set_option maxHeartbeats 4000000 in
set_option maxRecDepth 100000 in
theorem bX12_recordLine_b98 {G : GG} (a0 : Nat) (y1 : Int) (x3 : Int) (oa0 : OB L0 a0 12) (x4 : Int) (b90 : Nat) (x91 : Int) (x92 : Int) (M : MM) {res : (Int × MM)} (ob90 : AR L0 b90 1 4) (h : sX12_recordLine_b98 a0 y1 x3 x4 b90 x91 x92 M = some res) : VV G xX12_recordLine (ZM G xX12_recordLine (some (.int (eI res.1))) L0 res.2) L0 M 0 0 98 [(0, .ref (gA G a0)), (1, .long (eJ y1)), (4, .int (eI x4))] [.int (eI x92), .int (eI x91), .ref (gA G b90)] := by
  unfold sX12_recordLine_b98 at h
  obtain ⟨c_1, h⟩ := og h
  obtain ⟨M_2, hM_2, h⟩ := ob h
  refine r_iast (pc := 98) ob90 rfl c_1 rfl hM_2 dX12_recordLine_98 ?_
  refine r_iload (pc := 99) dX12_recordLine_99 2 rfl ?_
  refine r_if_eq (pc := 101) (tgt := 117) dX12_recordLine_101 (by decide) rfl (fun c_3 => ?_) (fun c_3 => ?_)
  · replace h := (if_pos c_3).symm.trans h
    refine r_sub (lv' := [(0, .ref (gA G a0)), (1, .long (eJ y1)), (4, .int (eI x4))]) [0, 1, 2] rfl ?_
    exact bX12_recordLine_b117 a0 y1 x3 oa0 _ _ h
  · replace h := (if_neg c_3).symm.trans h
    refine r_aload_n (pc := 104) (i := 0) dX12_recordLine_104 rfl 0 rfl ?_
    refine r_iconst (pc := 105) (v := 0) dX12_recordLine_105 (by decide +kernel) ?_
    refine r_iconst (pc := 106) (v := 0) dX12_recordLine_106 (by decide +kernel) ?_
    refine r_bipush (pc := 107) (v := 7) dX12_recordLine_107 (by decide +kernel) ?_
    obtain ⟨q_4, hq_4, h⟩ := ob h
    refine r_cV (pc := 109) (Y := xX12_take) (As := [.int (eI 0), .int (eI 0), .int (eI 7)]) (rest := []) (v := (some (.int (eI (q_4.1))))) (st1 := [.int (eI (q_4.1))]) ck_X12_recordLine_181 (kX12_take a0 0 0 7 M_2 oa0 hq_4) oa0 rfl rfl rfl rfl (Nat.le_of_ble_eq_true rfl) ⟨rfl, rfl⟩ rfl dX12_recordLine_109 ?_
    refine r_if_ne (pc := 112) (tgt := 117) dX12_recordLine_112 (by decide) rfl (fun c_5 => ?_) (fun c_5 => ?_)
    · replace h := (if_neg c_5).symm.trans h
      refine r_sub (lv' := [(0, .ref (gA G a0)), (1, .long (eJ y1)), (4, .int (eI x4))]) [0, 1, 2] rfl ?_
      exact bX12_recordLine_b117 a0 y1 x3 oa0 _ _ h
    · replace h := (if_pos c_5).symm.trans h
      refine r_iconst (pc := 115) (v := 0) dX12_recordLine_115 (by decide +kernel) ?_
      cases h
      exact r_iret (pc := 116) rfl (zn_ok (Or.inl rfl)).1 (Nat.le_refl 0) (Nat.le_refl 0) dX12_recordLine_116
set_option maxHeartbeats 4000000 in
set_option maxRecDepth 100000 in
theorem bX12_recordLine_b72 {G : GG} (a0 : Nat) (y1 : Int) (x3 : Int) (oa0 : OB L0 a0 12) (x4 : Int) (a90 : Nat) (x91 : Int) (x92 : Int) (M : MM) {res : (Int × MM)} (oa90 : OB L0 a90 12) (h : sX12_recordLine_b72 a0 y1 x3 x4 a90 x91 x92 M = some res) : VV G xX12_recordLine (ZM G xX12_recordLine (some (.int (eI res.1))) L0 res.2) L0 M 0 0 72 [(0, .ref (gA G a0)), (1, .long (eJ y1)), (3, .int (eI x3)), (4, .int (eI x4))] [.int (eI x92), .int (eI x91), .ref (gA G a90)] := by
  unfold sX12_recordLine_b72 at h
  refine r_iload_n (pc := 72) (i := 3) dX12_recordLine_72 rfl 2 rfl ?_
  obtain ⟨q_1, hq_1, h⟩ := ob h
  refine r_cV (pc := 73) (Y := xX12_full) (As := [.int (eI x91), .int (eI x92), .int (eI x3)]) (rest := []) (v := none) (st1 := []) ck_X12_recordLine_206 (kX12_full a90 x91 x92 x3 M oa90 hq_1) oa90 rfl rfl rfl rfl (Nat.le_of_ble_eq_true rfl) ⟨rfl, rfl⟩ rfl dX12_recordLine_73 ?_
  refine r_aload_n (pc := 76) (i := 0) dX12_recordLine_76 rfl 0 rfl ?_
  obtain ⟨q_2, hq_2, h⟩ := ob h
  refine r_cV (pc := 77) (Y := xX12_token) (As := []) (rest := []) (v := none) (st1 := []) ck_X12_recordLine_157 (kX12_token a0 q_1 oa0 hq_2) oa0 rfl rfl rfl rfl (Nat.le_of_ble_eq_true rfl) ⟨rfl, rfl⟩ rfl dX12_recordLine_77 ?_
  refine r_aload_n (pc := 80) (i := 0) dX12_recordLine_80 rfl 0 rfl ?_
  have o_3 := (wt_12_21 oa0).2
  refine r_getR (pc := 81) fg_12_44 rfl oa0 (wt_12_21 oa0).1 dX12_recordLine_81 ?_
  refine r_iconst (pc := 84) (v := 0) dX12_recordLine_84 (by decide +kernel) ?_
  refine r_lload_n (pc := 85) (i := 1) dX12_recordLine_85 rfl 1 rfl ?_
  refine r_ldc2 (pc := 86) (v := 6842740) kc_12_263 dX12_recordLine_86 ?_
  refine r_lcmp_ne (pc := 89) (tgt := 97) dX12_recordLine_89 dX12_recordLine_90 (by decide) rfl wj_6842740 (fun c_4 => ?_) (fun c_4 => ?_)
  · replace h := (if_neg c_4).symm.trans h
    refine r_iconst (pc := 97) (v := 0) dX12_recordLine_97 (by decide +kernel) ?_
    refine r_sub (lv' := [(0, .ref (gA G a0)), (1, .long (eJ y1)), (4, .int (eI x4))]) [0, 1, 3] rfl ?_
    exact bX12_recordLine_b98 a0 y1 x3 oa0 _ _ _ _ _ o_3 h
  · replace h := (if_pos c_4).symm.trans h
    refine r_iconst (pc := 93) (v := 1) dX12_recordLine_93 (by decide +kernel) ?_
    refine r_goto (pc := 94) (tgt := 98) dX12_recordLine_94 (by decide) ?_
    refine r_sub (lv' := [(0, .ref (gA G a0)), (1, .long (eJ y1)), (4, .int (eI x4))]) [0, 1, 3] rfl ?_
    exact bX12_recordLine_b98 a0 y1 x3 oa0 _ _ _ _ _ o_3 h
set_option maxHeartbeats 4000000 in
set_option maxRecDepth 100000 in
theorem bX12_recordLine_b60 {G : GG} (a0 : Nat) (y1 : Int) (x3 : Int) (oa0 : OB L0 a0 12) (x4 : Int) (a90 : Nat) (x91 : Int) (M : MM) {res : (Int × MM)} (oa90 : OB L0 a90 12) (h : sX12_recordLine_b60 a0 y1 x3 x4 a90 x91 M = some res) : VV G xX12_recordLine (ZM G xX12_recordLine (some (.int (eI res.1))) L0 res.2) L0 M 0 0 60 [(0, .ref (gA G a0)), (1, .long (eJ y1)), (3, .int (eI x3)), (4, .int (eI x4))] [.int (eI x91), .ref (gA G a90)] := by
  unfold sX12_recordLine_b60 at h
  refine r_iload (pc := 60) dX12_recordLine_60 3 rfl ?_
  refine r_if_eq (pc := 62) (tgt := 70) dX12_recordLine_62 (by decide) rfl (fun c_1 => ?_) (fun c_1 => ?_)
  · replace h := (if_pos c_1).symm.trans h
    refine r_bipush (pc := 70) (v := 15) dX12_recordLine_70 (by decide +kernel) ?_
    refine r_sub (lv' := [(0, .ref (gA G a0)), (1, .long (eJ y1)), (3, .int (eI x3)), (4, .int (eI x4))]) [0, 1, 2, 3] rfl ?_
    exact bX12_recordLine_b72 a0 y1 x3 oa0 _ _ _ _ _ oa90 h
  · replace h := (if_neg c_1).symm.trans h
    refine r_bipush (pc := 65) (v := 40) dX12_recordLine_65 (by decide +kernel) ?_
    refine r_goto (pc := 67) (tgt := 72) dX12_recordLine_67 (by decide) ?_
    refine r_sub (lv' := [(0, .ref (gA G a0)), (1, .long (eJ y1)), (3, .int (eI x3)), (4, .int (eI x4))]) [0, 1, 2, 3] rfl ?_
    exact bX12_recordLine_b72 a0 y1 x3 oa0 _ _ _ _ _ oa90 h
set_option maxHeartbeats 4000000 in
set_option maxRecDepth 100000 in
theorem bX12_recordLine_b49 {G : GG} (a0 : Nat) (y1 : Int) (x3 : Int) (oa0 : OB L0 a0 12) (x4 : Int) (M : MM) {res : (Int × MM)}  (h : sX12_recordLine_b49 a0 y1 x3 x4 M = some res) : VV G xX12_recordLine (ZM G xX12_recordLine (some (.int (eI res.1))) L0 res.2) L0 M 0 0 49 [(0, .ref (gA G a0)), (1, .long (eJ y1)), (3, .int (eI x3)), (4, .int (eI x4))] [] := by
  unfold sX12_recordLine_b49 at h
  refine r_aload_n (pc := 49) (i := 0) dX12_recordLine_49 rfl 0 rfl ?_
  refine r_iload (pc := 50) dX12_recordLine_50 3 rfl ?_
  refine r_if_eq (pc := 52) (tgt := 59) dX12_recordLine_52 (by decide) rfl (fun c_1 => ?_) (fun c_1 => ?_)
  · replace h := (if_pos c_1).symm.trans h
    refine r_iconst (pc := 59) (v := 1) dX12_recordLine_59 (by decide +kernel) ?_
    refine r_sub (lv' := [(0, .ref (gA G a0)), (1, .long (eJ y1)), (3, .int (eI x3)), (4, .int (eI x4))]) [0, 1, 2, 3] rfl ?_
    exact bX12_recordLine_b60 a0 y1 x3 oa0 _ _ _ _ oa0 h
  · replace h := (if_neg c_1).symm.trans h
    refine r_iconst (pc := 55) (v := 0) dX12_recordLine_55 (by decide +kernel) ?_
    refine r_goto (pc := 56) (tgt := 60) dX12_recordLine_56 (by decide) ?_
    refine r_sub (lv' := [(0, .ref (gA G a0)), (1, .long (eJ y1)), (3, .int (eI x3)), (4, .int (eI x4))]) [0, 1, 2, 3] rfl ?_
    exact bX12_recordLine_b60 a0 y1 x3 oa0 _ _ _ _ oa0 h
set_option maxHeartbeats 4000000 in
set_option maxRecDepth 100000 in
theorem bX12_recordLine_b21 {G : GG} (a0 : Nat) (y1 : Int) (x3 : Int) (oa0 : OB L0 a0 12) (x90 : Int) (M : MM) {res : (Int × MM)}  (h : sX12_recordLine_b21 a0 y1 x3 x90 M = some res) : VV G xX12_recordLine (ZM G xX12_recordLine (some (.int (eI res.1))) L0 res.2) L0 M 0 0 21 [(0, .ref (gA G a0)), (1, .long (eJ y1)), (3, .int (eI x3))] [.int (eI x90)] := by
  unfold sX12_recordLine_b21 at h
  refine r_istore (pc := 21) (lv' := [(4, .int (eI x90)), (0, .ref (gA G a0)), (1, .long (eJ y1)), (3, .int (eI x3))]) dX12_recordLine_21 (Nat.le_of_ble_eq_true rfl) rfl ?_
  refine r_iload (pc := 23) dX12_recordLine_23 0 rfl ?_
  refine r_if_ne (pc := 25) (tgt := 49) dX12_recordLine_25 (by decide) rfl (fun c_1 => ?_) (fun c_1 => ?_)
  · replace h := (if_neg c_1).symm.trans h
    refine r_sub (lv' := [(0, .ref (gA G a0)), (1, .long (eJ y1)), (3, .int (eI x3)), (4, .int (eI x90))]) [1, 2, 3, 0] rfl ?_
    exact bX12_recordLine_b49 a0 y1 x3 oa0 _ _ h
  · replace h := (if_pos c_1).symm.trans h
    refine r_lload_n (pc := 28) (i := 1) dX12_recordLine_28 rfl 2 rfl ?_
    refine r_ldc2 (pc := 29) (v := 6842740) kc_12_263 dX12_recordLine_29 ?_
    refine r_lcmp_eq (pc := 32) (tgt := 49) dX12_recordLine_32 dX12_recordLine_33 (by decide) rfl wj_6842740 (fun c_2 => ?_) (fun c_2 => ?_)
    · replace h := (if_pos c_2).symm.trans h
      refine r_sub (lv' := [(0, .ref (gA G a0)), (1, .long (eJ y1)), (3, .int (eI x3)), (4, .int (eI x90))]) [1, 2, 3, 0] rfl ?_
      exact bX12_recordLine_b49 a0 y1 x3 oa0 _ _ h
    · replace h := (if_neg c_2).symm.trans h
      refine r_lload_n (pc := 36) (i := 1) dX12_recordLine_36 rfl 2 rfl ?_
      refine r_ldc2 (pc := 37) (v := 1835627379) kc_12_265 dX12_recordLine_37 ?_
      refine r_lcmp_eq (pc := 40) (tgt := 49) dX12_recordLine_40 dX12_recordLine_41 (by decide) rfl wj_1835627379 (fun c_3 => ?_) (fun c_3 => ?_)
      · replace h := (if_pos c_3).symm.trans h
        refine r_sub (lv' := [(0, .ref (gA G a0)), (1, .long (eJ y1)), (3, .int (eI x3)), (4, .int (eI x90))]) [1, 2, 3, 0] rfl ?_
        exact bX12_recordLine_b49 a0 y1 x3 oa0 _ _ h
      · replace h := (if_neg c_3).symm.trans h
        refine r_aload_n (pc := 44) (i := 0) dX12_recordLine_44 rfl 1 rfl ?_
        obtain ⟨q_4, hq_4, h⟩ := ob h
        refine r_cV (pc := 45) (Y := xX12_fails) (As := []) (rest := []) (v := (some (.int (eI (q_4.1))))) (st1 := [.int (eI (q_4.1))]) ck_X12_recordLine_145 (kX12_fails a0 M oa0 hq_4) oa0 rfl rfl rfl rfl (Nat.le_of_ble_eq_true rfl) ⟨rfl, rfl⟩ rfl dX12_recordLine_45 ?_
        obtain ⟨c_5, h⟩ := og h
        cases h
        exact r_iret (pc := 48) rfl (zn_ok c_5).1 (Nat.le_refl 0) (Nat.le_refl 0) dX12_recordLine_48
set_option maxHeartbeats 4000000 in
set_option maxRecDepth 100000 in
theorem bX12_recordLine_b16 {G : GG} (a0 : Nat) (y1 : Int) (x3 : Int) (oa0 : OB L0 a0 12)  (M : MM) {res : (Int × MM)}  (h : sX12_recordLine_b16 a0 y1 x3 M = some res) : VV G xX12_recordLine (ZM G xX12_recordLine (some (.int (eI res.1))) L0 res.2) L0 M 0 0 16 [(0, .ref (gA G a0)), (1, .long (eJ y1)), (3, .int (eI x3))] [] := by
  unfold sX12_recordLine_b16 at h
  refine r_iconst (pc := 16) (v := 1) dX12_recordLine_16 (by decide +kernel) ?_
  refine r_goto (pc := 17) (tgt := 21) dX12_recordLine_17 (by decide) ?_
  refine r_sub (lv' := [(0, .ref (gA G a0)), (1, .long (eJ y1)), (3, .int (eI x3))]) [0, 1, 2] rfl ?_
  exact bX12_recordLine_b21 a0 y1 x3 oa0 _ _ h
set_option maxHeartbeats 4000000 in
set_option maxRecDepth 100000 in
theorem bX12_recordLine_b0 {G : GG} (a0 : Nat) (y1 : Int) (x3 : Int) (oa0 : OB L0 a0 12)  (M : MM) {res : (Int × MM)}  (h : sX12_recordLine_b0 a0 y1 x3 M = some res) : VV G xX12_recordLine (ZM G xX12_recordLine (some (.int (eI res.1))) L0 res.2) L0 M 0 0 0 [(0, .ref (gA G a0)), (1, .long (eJ y1)), (3, .int (eI x3))] [] := by
  unfold sX12_recordLine_b0 at h
  refine r_lload_n (pc := 0) (i := 1) dX12_recordLine_0 rfl 1 rfl ?_
  refine r_ldc2 (pc := 1) (v := 1953658213) kc_12_259 dX12_recordLine_1 ?_
  refine r_lcmp_eq (pc := 4) (tgt := 16) dX12_recordLine_4 dX12_recordLine_5 (by decide) rfl wj_1953658213 (fun c_1 => ?_) (fun c_1 => ?_)
  · replace h := (if_pos c_1).symm.trans h
    refine r_sub (lv' := [(0, .ref (gA G a0)), (1, .long (eJ y1)), (3, .int (eI x3))]) [0, 1, 2] rfl ?_
    exact bX12_recordLine_b16 a0 y1 x3 oa0 _ h
  · replace h := (if_neg c_1).symm.trans h
    refine r_lload_n (pc := 8) (i := 1) dX12_recordLine_8 rfl 1 rfl ?_
    refine r_ldc2 (pc := 9) (v := 439721161573) kc_12_261 dX12_recordLine_9 ?_
    refine r_lcmp_ne (pc := 12) (tgt := 20) dX12_recordLine_12 dX12_recordLine_13 (by decide) rfl wj_439721161573 (fun c_2 => ?_) (fun c_2 => ?_)
    · replace h := (if_neg c_2).symm.trans h
      refine r_iconst (pc := 20) (v := 0) dX12_recordLine_20 (by decide +kernel) ?_
      refine r_sub (lv' := [(0, .ref (gA G a0)), (1, .long (eJ y1)), (3, .int (eI x3))]) [0, 1, 2] rfl ?_
      exact bX12_recordLine_b21 a0 y1 x3 oa0 _ _ h
    · replace h := (if_pos c_2).symm.trans h
      refine r_sub (lv' := [(0, .ref (gA G a0)), (1, .long (eJ y1)), (3, .int (eI x3))]) [0, 1, 2] rfl ?_
      exact bX12_recordLine_b16 a0 y1 x3 oa0 _ h
theorem kX12_recordLine {G : GG} (a0 : Nat) (y1 : Int) (x3 : Int) (M : MM) {res : (Int × MM)} (oa0 : OB L0 a0 12) (h : sX12_recordLine a0 y1 x3 M = some res) : CO G xX12_recordLine [.ref (gA G a0), .long (eJ y1), .int (eI x3)] L0 M (some (.int (eI res.1))) L0 res.2 := CO_of (by decide +kernel) (Nat.le_of_ble_eq_true rfl) (bX12_recordLine_b0 a0 y1 x3 oa0 M h)
abbrev xX12_lineOf : XX := (yX12_lineOf, cX12_lineOf, 5, (some .boolean), 6, 138, 0, 0)
theorem ck_X12_lineOf_267 : CKV xX12_lineOf 267 xX12_partyLine 2 := ⟨⟨tb_i 1657 (by decide +kernel) (by decide +kernel), tb_i 152 (by decide +kernel) (by decide +kernel), tb_i 1660 (by decide +kernel) (by decide +kernel), ⟨by decide +kernel, by decide +kernel, by decide +kernel⟩, by decide, by decide⟩, tb_i 1659 (by decide +kernel) (by decide +kernel), tb_i 54 (by decide +kernel) (by decide +kernel)⟩
theorem ck_X12_lineOf_271 : CKV xX12_lineOf 271 xX12_bookLine 2 := ⟨⟨tb_i 1725 (by decide +kernel) (by decide +kernel), tb_i 152 (by decide +kernel) (by decide +kernel), tb_i 1728 (by decide +kernel) (by decide +kernel), ⟨by decide +kernel, by decide +kernel, by decide +kernel⟩, by decide, by decide⟩, tb_i 1727 (by decide +kernel) (by decide +kernel), tb_i 65 (by decide +kernel) (by decide +kernel)⟩
theorem ck_X12_lineOf_274 : CKV xX12_lineOf 274 xX12_clueLine 2 := ⟨⟨tb_i 1738 (by decide +kernel) (by decide +kernel), tb_i 152 (by decide +kernel) (by decide +kernel), tb_i 1741 (by decide +kernel) (by decide +kernel), ⟨by decide +kernel, by decide +kernel, by decide +kernel⟩, by decide, by decide⟩, tb_i 1740 (by decide +kernel) (by decide +kernel), tb_i 66 (by decide +kernel) (by decide +kernel)⟩
theorem ck_X12_lineOf_277 : CKV xX12_lineOf 277 xX12_groundLine 2 := ⟨⟨tb_i 1747 (by decide +kernel) (by decide +kernel), tb_i 152 (by decide +kernel) (by decide +kernel), tb_i 1750 (by decide +kernel) (by decide +kernel), ⟨by decide +kernel, by decide +kernel, by decide +kernel⟩, by decide, by decide⟩, tb_i 1749 (by decide +kernel) (by decide +kernel), tb_i 67 (by decide +kernel) (by decide +kernel)⟩
theorem ck_X12_lineOf_280 : CKV xX12_lineOf 280 xX12_recordLine 2 := ⟨⟨tb_i 1752 (by decide +kernel) (by decide +kernel), tb_i 152 (by decide +kernel) (by decide +kernel), tb_i 1755 (by decide +kernel) (by decide +kernel), ⟨by decide +kernel, by decide +kernel, by decide +kernel⟩, by decide, by decide⟩, tb_i 1754 (by decide +kernel) (by decide +kernel), tb_i 68 (by decide +kernel) (by decide +kernel)⟩
def sX12_lineOf_b0 (a0 : Nat) (x1 : Int) (y2 : Int) (x4 : Int)   (M : MM) : Option (Int × MM) := (if wI x1 = 0 then ((sX12_partyLine a0 y2 x4 M).bind fun q_2 => (if (q_2.1) = 0 ∨ (q_2.1) = 1 then (some (((q_2.1), q_2.2))) else none)) else (if wI x1 = 1 then ((sX12_bookLine a0 y2 x4 M).bind fun q_5 => (if (q_5.1) = 0 ∨ (q_5.1) = 1 then (some (((q_5.1), q_5.2))) else none)) else (if wI x1 = 2 then ((sX12_clueLine a0 y2 x4 M).bind fun q_8 => (if (q_8.1) = 0 ∨ (q_8.1) = 1 then (some (((q_8.1), q_8.2))) else none)) else (if wI x1 = 3 then ((sX12_groundLine a0 y2 x4 M).bind fun q_11 => (if (q_11.1) = 0 ∨ (q_11.1) = 1 then (some (((q_11.1), q_11.2))) else none)) else ((sX12_recordLine a0 y2 x4 M).bind fun q_13 => (if (q_13.1) = 0 ∨ (q_13.1) = 1 then (some (((q_13.1), q_13.2))) else none))))))
def sX12_lineOf (a0 : Nat) (x1 : Int) (y2 : Int) (x4 : Int) (M : MM) : Option (Int × MM) := sX12_lineOf_b0 a0 x1 y2 x4 M
set_option maxHeartbeats 4000000 in
set_option maxRecDepth 100000 in
theorem bX12_lineOf_b0 {G : GG} (a0 : Nat) (x1 : Int) (y2 : Int) (x4 : Int) (oa0 : OB L0 a0 12)  (M : MM) {res : (Int × MM)}  (h : sX12_lineOf_b0 a0 x1 y2 x4 M = some res) : VV G xX12_lineOf (ZM G xX12_lineOf (some (.int (eI res.1))) L0 res.2) L0 M 0 0 0 [(0, .ref (gA G a0)), (1, .int (eI x1)), (2, .long (eJ y2)), (4, .int (eI x4))] [] := by
  unfold sX12_lineOf_b0 at h
  refine r_iload_n (pc := 0) (i := 1) dX12_lineOf_0 rfl 1 rfl ?_
  by_cases c_1 : wI x1 = 0
  · replace h := (if_pos c_1).symm.trans h
    refine r_tsw (pc := 1) (tgt := 32) (k' := 0) (rfl.trans c_1) dX12_lineOf_1 (by decide) rfl (by decide) ?_
    refine r_aload_n (pc := 32) (i := 0) dX12_lineOf_32 rfl 0 rfl ?_
    refine r_lload_n (pc := 33) (i := 2) dX12_lineOf_33 rfl 2 rfl ?_
    refine r_iload (pc := 34) dX12_lineOf_34 3 rfl ?_
    obtain ⟨q_2, hq_2, h⟩ := ob h
    refine r_cV (pc := 36) (Y := xX12_partyLine) (As := [.long (eJ y2), .int (eI x4)]) (rest := []) (v := (some (.int (eI (q_2.1))))) (st1 := [.int (eI (q_2.1))]) ck_X12_lineOf_267 (kX12_partyLine a0 y2 x4 M oa0 hq_2) oa0 rfl rfl rfl rfl (Nat.le_of_ble_eq_true rfl) ⟨rfl, rfl⟩ rfl dX12_lineOf_36 ?_
    obtain ⟨c_3, h⟩ := og h
    cases h
    exact r_iret (pc := 39) rfl (zn_ok c_3).1 (Nat.le_refl 0) (Nat.le_refl 0) dX12_lineOf_39
  · replace h := (if_neg c_1).symm.trans h
    by_cases c_4 : wI x1 = 1
    · replace h := (if_pos c_4).symm.trans h
      refine r_tsw (pc := 1) (tgt := 40) (k' := 1) (rfl.trans c_4) dX12_lineOf_1 (by decide) rfl (by decide) ?_
      refine r_aload_n (pc := 40) (i := 0) dX12_lineOf_40 rfl 0 rfl ?_
      refine r_lload_n (pc := 41) (i := 2) dX12_lineOf_41 rfl 2 rfl ?_
      refine r_iload (pc := 42) dX12_lineOf_42 3 rfl ?_
      obtain ⟨q_5, hq_5, h⟩ := ob h
      refine r_cV (pc := 44) (Y := xX12_bookLine) (As := [.long (eJ y2), .int (eI x4)]) (rest := []) (v := (some (.int (eI (q_5.1))))) (st1 := [.int (eI (q_5.1))]) ck_X12_lineOf_271 (kX12_bookLine a0 y2 x4 M oa0 hq_5) oa0 rfl rfl rfl rfl (Nat.le_of_ble_eq_true rfl) ⟨rfl, rfl⟩ rfl dX12_lineOf_44 ?_
      obtain ⟨c_6, h⟩ := og h
      cases h
      exact r_iret (pc := 47) rfl (zn_ok c_6).1 (Nat.le_refl 0) (Nat.le_refl 0) dX12_lineOf_47
    · replace h := (if_neg c_4).symm.trans h
      by_cases c_7 : wI x1 = 2
      · replace h := (if_pos c_7).symm.trans h
        refine r_tsw (pc := 1) (tgt := 48) (k' := 2) (rfl.trans c_7) dX12_lineOf_1 (by decide) rfl (by decide) ?_
        refine r_aload_n (pc := 48) (i := 0) dX12_lineOf_48 rfl 0 rfl ?_
        refine r_lload_n (pc := 49) (i := 2) dX12_lineOf_49 rfl 2 rfl ?_
        refine r_iload (pc := 50) dX12_lineOf_50 3 rfl ?_
        obtain ⟨q_8, hq_8, h⟩ := ob h
        refine r_cV (pc := 52) (Y := xX12_clueLine) (As := [.long (eJ y2), .int (eI x4)]) (rest := []) (v := (some (.int (eI (q_8.1))))) (st1 := [.int (eI (q_8.1))]) ck_X12_lineOf_274 (kX12_clueLine a0 y2 x4 M oa0 hq_8) oa0 rfl rfl rfl rfl (Nat.le_of_ble_eq_true rfl) ⟨rfl, rfl⟩ rfl dX12_lineOf_52 ?_
        obtain ⟨c_9, h⟩ := og h
        cases h
        exact r_iret (pc := 55) rfl (zn_ok c_9).1 (Nat.le_refl 0) (Nat.le_refl 0) dX12_lineOf_55
      · replace h := (if_neg c_7).symm.trans h
        by_cases c_10 : wI x1 = 3
        · replace h := (if_pos c_10).symm.trans h
          refine r_tsw (pc := 1) (tgt := 56) (k' := 3) (rfl.trans c_10) dX12_lineOf_1 (by decide) rfl (by decide) ?_
          refine r_aload_n (pc := 56) (i := 0) dX12_lineOf_56 rfl 0 rfl ?_
          refine r_lload_n (pc := 57) (i := 2) dX12_lineOf_57 rfl 2 rfl ?_
          refine r_iload (pc := 58) dX12_lineOf_58 3 rfl ?_
          obtain ⟨q_11, hq_11, h⟩ := ob h
          refine r_cV (pc := 60) (Y := xX12_groundLine) (As := [.long (eJ y2), .int (eI x4)]) (rest := []) (v := (some (.int (eI (q_11.1))))) (st1 := [.int (eI (q_11.1))]) ck_X12_lineOf_277 (kX12_groundLine a0 y2 x4 M oa0 hq_11) oa0 rfl rfl rfl rfl (Nat.le_of_ble_eq_true rfl) ⟨rfl, rfl⟩ rfl dX12_lineOf_60 ?_
          obtain ⟨c_12, h⟩ := og h
          cases h
          exact r_iret (pc := 63) rfl (zn_ok c_12).1 (Nat.le_refl 0) (Nat.le_refl 0) dX12_lineOf_63
        · replace h := (if_neg c_10).symm.trans h
          refine r_tswD (pc := 1) (tgt := 64) rfl dX12_lineOf_1 (by omega) (by decide) ?_
          refine r_aload_n (pc := 64) (i := 0) dX12_lineOf_64 rfl 0 rfl ?_
          refine r_lload_n (pc := 65) (i := 2) dX12_lineOf_65 rfl 2 rfl ?_
          refine r_iload (pc := 66) dX12_lineOf_66 3 rfl ?_
          obtain ⟨q_13, hq_13, h⟩ := ob h
          refine r_cV (pc := 68) (Y := xX12_recordLine) (As := [.long (eJ y2), .int (eI x4)]) (rest := []) (v := (some (.int (eI (q_13.1))))) (st1 := [.int (eI (q_13.1))]) ck_X12_lineOf_280 (kX12_recordLine a0 y2 x4 M oa0 hq_13) oa0 rfl rfl rfl rfl (Nat.le_of_ble_eq_true rfl) ⟨rfl, rfl⟩ rfl dX12_lineOf_68 ?_
          obtain ⟨c_14, h⟩ := og h
          cases h
          exact r_iret (pc := 71) rfl (zn_ok c_14).1 (Nat.le_refl 0) (Nat.le_refl 0) dX12_lineOf_71
theorem kX12_lineOf {G : GG} (a0 : Nat) (x1 : Int) (y2 : Int) (x4 : Int) (M : MM) {res : (Int × MM)} (oa0 : OB L0 a0 12) (h : sX12_lineOf a0 x1 y2 x4 M = some res) : CO G xX12_lineOf [.ref (gA G a0), .int (eI x1), .long (eJ y2), .int (eI x4)] L0 M (some (.int (eI res.1))) L0 res.2 := CO_of (by decide +kernel) (Nat.le_of_ble_eq_true rfl) (bX12_lineOf_b0 a0 x1 y2 x4 oa0 M h)
abbrev xX12_lines : XX := (yX12_lines, cX12_lines, 4, (some .boolean), 7, 162, 0, 0)
theorem ck_X12_lines_145 : CKV xX12_lines 145 xX12_fails 0 := ⟨⟨tb_i 1676 (by decide +kernel) (by decide +kernel), tb_i 152 (by decide +kernel) (by decide +kernel), tb_i 1679 (by decide +kernel) (by decide +kernel), ⟨by decide +kernel, by decide +kernel, by decide +kernel⟩, by decide, by decide⟩, tb_i 1678 (by decide +kernel) (by decide +kernel), tb_i 55 (by decide +kernel) (by decide +kernel)⟩
theorem ck_X12_lines_157 : CKV xX12_lines 157 xX12_token 0 := ⟨⟨tb_i 1641 (by decide +kernel) (by decide +kernel), tb_i 152 (by decide +kernel) (by decide +kernel), tb_i 1644 (by decide +kernel) (by decide +kernel), ⟨by decide +kernel, by decide +kernel, by decide +kernel⟩, by decide, by decide⟩, tb_i 1643 (by decide +kernel) (by decide +kernel), tb_i 50 (by decide +kernel) (by decide +kernel)⟩
theorem ck_X12_lines_283 : CKV xX12_lines 283 xX12_lineOf 3 := ⟨⟨tb_i 1653 (by decide +kernel) (by decide +kernel), tb_i 152 (by decide +kernel) (by decide +kernel), tb_i 1656 (by decide +kernel) (by decide +kernel), ⟨by decide +kernel, by decide +kernel, by decide +kernel⟩, by decide, by decide⟩, tb_i 1655 (by decide +kernel) (by decide +kernel), tb_i 53 (by decide +kernel) (by decide +kernel)⟩
def sX12_lines_b74 (a0 : Nat) (x1 : Int)  (x2 : Int) (M : MM) : Option (Int × MM) := (if x2 = 0 ∨ x2 = 1 then (some ((x2, M))) else none)
def sX12_lines_b71 (a0 : Nat) (x1 : Int) (K2 : Int → MM → Option (Int × MM)) (x2 : Int) (M : MM) : Option (Int × MM) := (K2 x2 M)
def sX12_lines_b63 (a0 : Nat) (x1 : Int) (K2 : Int → MM → Option (Int × MM)) (x2 : Int) (M : MM) : Option (Int × MM) := (if wI x2 = 0 then (sX12_lines_b71 a0 x1 K2 x2 M) else ((sX12_token a0 M).bind fun q_2 => (sX12_lines_b71 a0 x1 K2 x2 q_2)))
def sX12_lines_b41 (a0 : Nat) (x1 : Int) (K2 : Int → MM → Option (Int × MM)) (x3 : Int) (a90 : Nat) (x91 : Int) (y92 : Int) (M : MM) : Option (Int × MM) := ((sX12_lineOf a90 x91 y92 x3 M).bind fun q_1 => (if wI (q_1.1) = 0 then (sX12_lines_b63 a0 x1 K2 (q_1.1) q_1.2) else (if wI (q_1.2 a0 14) = 4 then (sX12_lines_b63 a0 x1 K2 (q_1.1) q_1.2) else ((sX12_fails a0 q_1.2).bind fun q_4 => (sX12_lines_b63 a0 x1 K2 (q_4.1) q_4.2)))))
def sX12_lines_b2 (a0 : Nat) (x1 : Int)  : Nat → Int → MM → Option (Int × MM)
  | 0, _, _ => none
  | n + 1, x2, M => (if wI x2 = 0 then (sX12_lines_b74 a0 x1 x2 M) else (if wI (M a0 14) = 0 then (sX12_lines_b74 a0 x1 x2 M) else ((some (mU M a0 23 1)).bind fun M_3 => (if wI (M_3 a0 14) = 2 then (sX12_lines_b41 a0 x1 (fun x2 M => sX12_lines_b2 a0 x1 n x2 M) (M a0 13) a0 x1 (M_3 a0 16) M_3) else (sX12_lines_b41 a0 x1 (fun x2 M => sX12_lines_b2 a0 x1 n x2 M) (M a0 13) a0 x1 0 M_3)))))
def sX12_lines_b0 (a0 : Nat) (x1 : Int)   (M : MM) : Option (Int × MM) := (sX12_lines_b2 a0 x1 FU 1 M)
def sX12_lines (a0 : Nat) (x1 : Int) (M : MM) : Option (Int × MM) := sX12_lines_b0 a0 x1 M
set_option maxHeartbeats 4000000 in
set_option maxRecDepth 100000 in
theorem bX12_lines_b74 {G : GG} (a0 : Nat) (x1 : Int) (oa0 : OB L0 a0 12) (x2 : Int) (M : MM) {res : (Int × MM)}  (h : sX12_lines_b74 a0 x1 x2 M = some res) : VV G xX12_lines (ZM G xX12_lines (some (.int (eI res.1))) L0 res.2) L0 M 0 0 74 [(2, .int (eI x2))] [] := by
  unfold sX12_lines_b74 at h
  refine r_iload_n (pc := 74) (i := 2) dX12_lines_74 rfl 0 rfl ?_
  obtain ⟨c_1, h⟩ := og h
  cases h
  exact r_iret (pc := 75) rfl (zn_ok c_1).1 (Nat.le_refl 0) (Nat.le_refl 0) dX12_lines_75
set_option maxHeartbeats 4000000 in
set_option maxRecDepth 100000 in
theorem bX12_lines_b71 {G : GG} (a0 : Nat) (x1 : Int) (oa0 : OB L0 a0 12) {K2 : Int → MM → Option (Int × MM)} (x2 : Int) (M : MM) {res : (Int × MM)} (hK2 : ∀ (x2 : Int) (M : MM), K2 x2 M = some res → VV G xX12_lines (ZM G xX12_lines (some (.int (eI res.1))) L0 res.2) L0 M 0 0 2 [(0, .ref (gA G a0)), (1, .int (eI x1)), (2, .int (eI x2))] [])  (h : sX12_lines_b71 a0 x1 K2 x2 M = some res) : VV G xX12_lines (ZM G xX12_lines (some (.int (eI res.1))) L0 res.2) L0 M 0 0 71 [(0, .ref (gA G a0)), (1, .int (eI x1)), (2, .int (eI x2))] [] := by
  unfold sX12_lines_b71 at h
  refine r_goto (pc := 71) (tgt := 2) dX12_lines_71 (by decide) ?_
  refine r_sub (lv' := [(0, .ref (gA G a0)), (1, .int (eI x1)), (2, .int (eI x2))]) [0, 1, 2] rfl ?_
  exact hK2 _ _ h
set_option maxHeartbeats 4000000 in
set_option maxRecDepth 100000 in
theorem bX12_lines_b63 {G : GG} (a0 : Nat) (x1 : Int) (oa0 : OB L0 a0 12) {K2 : Int → MM → Option (Int × MM)} (x2 : Int) (M : MM) {res : (Int × MM)} (hK2 : ∀ (x2 : Int) (M : MM), K2 x2 M = some res → VV G xX12_lines (ZM G xX12_lines (some (.int (eI res.1))) L0 res.2) L0 M 0 0 2 [(0, .ref (gA G a0)), (1, .int (eI x1)), (2, .int (eI x2))] [])  (h : sX12_lines_b63 a0 x1 K2 x2 M = some res) : VV G xX12_lines (ZM G xX12_lines (some (.int (eI res.1))) L0 res.2) L0 M 0 0 63 [(0, .ref (gA G a0)), (1, .int (eI x1)), (2, .int (eI x2))] [] := by
  unfold sX12_lines_b63 at h
  refine r_iload_n (pc := 63) (i := 2) dX12_lines_63 rfl 2 rfl ?_
  refine r_if_eq (pc := 64) (tgt := 71) dX12_lines_64 (by decide) rfl (fun c_1 => ?_) (fun c_1 => ?_)
  · replace h := (if_pos c_1).symm.trans h
    refine r_sub (lv' := [(0, .ref (gA G a0)), (1, .int (eI x1)), (2, .int (eI x2))]) [0, 1, 2] rfl ?_
    exact bX12_lines_b71 a0 x1 oa0 _ _ hK2 h
  · replace h := (if_neg c_1).symm.trans h
    refine r_aload_n (pc := 67) (i := 0) dX12_lines_67 rfl 0 rfl ?_
    obtain ⟨q_2, hq_2, h⟩ := ob h
    refine r_cV (pc := 68) (Y := xX12_token) (As := []) (rest := []) (v := none) (st1 := []) ck_X12_lines_157 (kX12_token a0 M oa0 hq_2) oa0 rfl rfl rfl rfl (Nat.le_of_ble_eq_true rfl) ⟨rfl, rfl⟩ rfl dX12_lines_68 ?_
    refine r_sub (lv' := [(0, .ref (gA G a0)), (1, .int (eI x1)), (2, .int (eI x2))]) [0, 1, 2] rfl ?_
    exact bX12_lines_b71 a0 x1 oa0 _ _ hK2 h
set_option maxHeartbeats 4000000 in
set_option maxRecDepth 100000 in
theorem bX12_lines_b41 {G : GG} (a0 : Nat) (x1 : Int) (oa0 : OB L0 a0 12) {K2 : Int → MM → Option (Int × MM)} (x3 : Int) (a90 : Nat) (x91 : Int) (y92 : Int) (M : MM) {res : (Int × MM)} (hK2 : ∀ (x2 : Int) (M : MM), K2 x2 M = some res → VV G xX12_lines (ZM G xX12_lines (some (.int (eI res.1))) L0 res.2) L0 M 0 0 2 [(0, .ref (gA G a0)), (1, .int (eI x1)), (2, .int (eI x2))] []) (oa90 : OB L0 a90 12) (h : sX12_lines_b41 a0 x1 K2 x3 a90 x91 y92 M = some res) : VV G xX12_lines (ZM G xX12_lines (some (.int (eI res.1))) L0 res.2) L0 M 0 0 41 [(0, .ref (gA G a0)), (1, .int (eI x1)), (3, .int (eI x3))] [.long (eJ y92), .int (eI x91), .ref (gA G a90)] := by
  unfold sX12_lines_b41 at h
  refine r_iload_n (pc := 41) (i := 3) dX12_lines_41 rfl 2 rfl ?_
  obtain ⟨q_1, hq_1, h⟩ := ob h
  refine r_cV (pc := 42) (Y := xX12_lineOf) (As := [.int (eI x91), .long (eJ y92), .int (eI x3)]) (rest := []) (v := (some (.int (eI (q_1.1))))) (st1 := [.int (eI (q_1.1))]) ck_X12_lines_283 (kX12_lineOf a90 x91 y92 x3 M oa90 hq_1) oa90 rfl rfl rfl rfl (Nat.le_of_ble_eq_true rfl) ⟨rfl, rfl⟩ rfl dX12_lines_42 ?_
  refine r_istore_n (pc := 45) (i := 2) (lv' := [(2, .int (eI (q_1.1))), (0, .ref (gA G a0)), (1, .int (eI x1)), (3, .int (eI x3))]) dX12_lines_45 rfl (Nat.le_of_ble_eq_true rfl) rfl ?_
  refine r_iload_n (pc := 46) (i := 2) dX12_lines_46 rfl 0 rfl ?_
  refine r_if_eq (pc := 47) (tgt := 63) dX12_lines_47 (by decide) rfl (fun c_2 => ?_) (fun c_2 => ?_)
  · replace h := (if_pos c_2).symm.trans h
    refine r_sub (lv' := [(0, .ref (gA G a0)), (1, .int (eI x1)), (2, .int (eI (q_1.1)))]) [1, 2, 0] rfl ?_
    exact bX12_lines_b63 a0 x1 oa0 _ _ hK2 h
  · replace h := (if_neg c_2).symm.trans h
    refine r_aload_n (pc := 50) (i := 0) dX12_lines_50 rfl 1 rfl ?_
    refine r_getI (pc := 51) fg_12_130 rfl oa0 dX12_lines_51 ?_
    refine r_iconst (pc := 54) (v := 4) dX12_lines_54 (by decide +kernel) ?_
    refine r_icmp_eq (pc := 55) (tgt := 63) dX12_lines_55 (by decide) rfl wl_4 (fun c_3 => ?_) (fun c_3 => ?_)
    · replace h := (if_pos c_3).symm.trans h
      refine r_sub (lv' := [(0, .ref (gA G a0)), (1, .int (eI x1)), (2, .int (eI (q_1.1)))]) [1, 2, 0] rfl ?_
      exact bX12_lines_b63 a0 x1 oa0 _ _ hK2 h
    · replace h := (if_neg c_3).symm.trans h
      refine r_aload_n (pc := 58) (i := 0) dX12_lines_58 rfl 1 rfl ?_
      obtain ⟨q_4, hq_4, h⟩ := ob h
      refine r_cV (pc := 59) (Y := xX12_fails) (As := []) (rest := []) (v := (some (.int (eI (q_4.1))))) (st1 := [.int (eI (q_4.1))]) ck_X12_lines_145 (kX12_fails a0 q_1.2 oa0 hq_4) oa0 rfl rfl rfl rfl (Nat.le_of_ble_eq_true rfl) ⟨rfl, rfl⟩ rfl dX12_lines_59 ?_
      refine r_istore_n (pc := 62) (i := 2) (lv' := [(2, .int (eI (q_4.1))), (0, .ref (gA G a0)), (1, .int (eI x1)), (3, .int (eI x3))]) dX12_lines_62 rfl (Nat.le_of_ble_eq_true rfl) rfl ?_
      refine r_sub (lv' := [(0, .ref (gA G a0)), (1, .int (eI x1)), (2, .int (eI (q_4.1)))]) [1, 2, 0] rfl ?_
      exact bX12_lines_b63 a0 x1 oa0 _ _ hK2 h
set_option maxHeartbeats 4000000 in
set_option maxRecDepth 100000 in
theorem bX12_lines_b2 {G : GG} (a0 : Nat) (x1 : Int) (oa0 : OB L0 a0 12) {res : (Int × MM)} : ∀ (n : Nat) (x2 : Int) (M : MM)  (h : sX12_lines_b2 a0 x1 n x2 M = some res), VV G xX12_lines (ZM G xX12_lines (some (.int (eI res.1))) L0 res.2) L0 M 0 0 2 [(0, .ref (gA G a0)), (1, .int (eI x1)), (2, .int (eI x2))] [] := by
  intro n
  induction n with
  | zero =>
    intro x2 M h
    rw [sX12_lines_b2] at h
    cases h
  | succ n ih =>
    intro x2 M h
    rw [sX12_lines_b2] at h
    refine r_iload_n (pc := 2) (i := 2) dX12_lines_2 rfl 2 rfl ?_
    refine r_if_eq (pc := 3) (tgt := 74) dX12_lines_3 (by decide) rfl (fun c_1 => ?_) (fun c_1 => ?_)
    · replace h := (if_pos c_1).symm.trans h
      refine r_sub (lv' := [(2, .int (eI x2))]) [2] rfl ?_
      exact bX12_lines_b74 a0 x1 oa0 _ _ h
    · replace h := (if_neg c_1).symm.trans h
      refine r_aload_n (pc := 6) (i := 0) dX12_lines_6 rfl 0 rfl ?_
      refine r_getI (pc := 7) fg_12_130 rfl oa0 dX12_lines_7 ?_
      refine r_if_eq (pc := 10) (tgt := 74) dX12_lines_10 (by decide) rfl (fun c_2 => ?_) (fun c_2 => ?_)
      · replace h := (if_pos c_2).symm.trans h
        refine r_sub (lv' := [(2, .int (eI x2))]) [2] rfl ?_
        exact bX12_lines_b74 a0 x1 oa0 _ _ h
      · replace h := (if_neg c_2).symm.trans h
        refine r_aload_n (pc := 13) (i := 0) dX12_lines_13 rfl 0 rfl ?_
        refine r_getI (pc := 14) fg_12_123 rfl oa0 dX12_lines_14 ?_
        refine r_istore_n (pc := 17) (i := 3) (lv' := [(3, .int (eI (M a0 13))), (0, .ref (gA G a0)), (1, .int (eI x1)), (2, .int (eI x2))]) dX12_lines_17 rfl (Nat.le_of_ble_eq_true rfl) rfl ?_
        refine r_aload_n (pc := 18) (i := 0) dX12_lines_18 rfl 1 rfl ?_
        refine r_iconst (pc := 19) (v := 1) dX12_lines_19 (by decide +kernel) ?_
        obtain ⟨M_3, hM_3, h⟩ := ob h
        refine r_putI (pc := 20) fg_12_153 rfl oa0 hM_3 (by decide +kernel) (by decide +kernel) dX12_lines_20 ?_
        refine r_aload_n (pc := 23) (i := 0) dX12_lines_23 rfl 1 rfl ?_
        refine r_iload_n (pc := 24) (i := 1) dX12_lines_24 rfl 2 rfl ?_
        refine r_aload_n (pc := 25) (i := 0) dX12_lines_25 rfl 1 rfl ?_
        refine r_getI (pc := 26) fg_12_130 rfl oa0 dX12_lines_26 ?_
        refine r_iconst (pc := 29) (v := 2) dX12_lines_29 (by decide +kernel) ?_
        refine r_icmp_ne (pc := 30) (tgt := 40) dX12_lines_30 (by decide) rfl wl_2 (fun c_4 => ?_) (fun c_4 => ?_)
        · replace h := (if_neg c_4).symm.trans h
          refine r_lconst (pc := 40) (v := 0) dX12_lines_40 (by decide +kernel) ?_
          refine r_sub (lv' := [(0, .ref (gA G a0)), (1, .int (eI x1)), (3, .int (eI (M a0 13)))]) [1, 2, 0] rfl ?_
          exact bX12_lines_b41 a0 x1 oa0 _ _ _ _ _ (fun v0 v1 v2 => ih v0 v1 v2) oa0 h
        · replace h := (if_pos c_4).symm.trans h
          refine r_aload_n (pc := 33) (i := 0) dX12_lines_33 rfl 1 rfl ?_
          refine r_getJ (pc := 34) fg_12_126 rfl oa0 dX12_lines_34 ?_
          refine r_goto (pc := 37) (tgt := 41) dX12_lines_37 (by decide) ?_
          refine r_sub (lv' := [(0, .ref (gA G a0)), (1, .int (eI x1)), (3, .int (eI (M a0 13)))]) [1, 2, 0] rfl ?_
          exact bX12_lines_b41 a0 x1 oa0 _ _ _ _ _ (fun v0 v1 v2 => ih v0 v1 v2) oa0 h
set_option maxHeartbeats 4000000 in
set_option maxRecDepth 100000 in
theorem bX12_lines_b0 {G : GG} (a0 : Nat) (x1 : Int) (oa0 : OB L0 a0 12)  (M : MM) {res : (Int × MM)}  (h : sX12_lines_b0 a0 x1 M = some res) : VV G xX12_lines (ZM G xX12_lines (some (.int (eI res.1))) L0 res.2) L0 M 0 0 0 [(0, .ref (gA G a0)), (1, .int (eI x1))] [] := by
  unfold sX12_lines_b0 at h
  refine r_iconst (pc := 0) (v := 1) dX12_lines_0 (by decide +kernel) ?_
  refine r_istore_n (pc := 1) (i := 2) (lv' := [(2, .int (eI 1)), (0, .ref (gA G a0)), (1, .int (eI x1))]) dX12_lines_1 rfl (Nat.le_of_ble_eq_true rfl) rfl ?_
  refine r_sub (lv' := [(0, .ref (gA G a0)), (1, .int (eI x1)), (2, .int (eI 1))]) [1, 2, 0] rfl ?_
  exact bX12_lines_b2 a0 x1 oa0 _ _ _ h
theorem kX12_lines {G : GG} (a0 : Nat) (x1 : Int) (M : MM) {res : (Int × MM)} (oa0 : OB L0 a0 12) (h : sX12_lines a0 x1 M = some res) : CO G xX12_lines [.ref (gA G a0), .int (eI x1)] L0 M (some (.int (eI res.1))) L0 res.2 := CO_of (by decide +kernel) (Nat.le_of_ble_eq_true rfl) (bX12_lines_b0 a0 x1 oa0 M h)
abbrev xX12_begin : XX := (yX12_begin, cX12_begin, 3, none, 0, 0, 0, 0)
def sX12_begin_b121 (a0 : Nat) (x1 : Int)  : Nat → Int → MM → Option MM
  | 0, _, _ => none
  | n + 1, x2, M => (if 64 ≤ wI x2 then (some (M)) else (if 0 ≤ wI (((28 + (13 * (Int.tdiv (wI x2) 8))) + 5) + (Int.tmod (wI x2) 8)) ∧ wI (((28 + (13 * (Int.tdiv (wI x2) 8))) + 5) + (Int.tmod (wI x2) 8)) < 132 then ((some (mU M (gR a0 20) (wI (((28 + (13 * (Int.tdiv (wI x2) 8))) + 5) + (Int.tmod (wI x2) 8))).toNat 1)).bind fun M_4 => ((some (x2 + 1)).bind fun v_5 => (sX12_begin_b121 a0 x1 n v_5 M_4))) else none))
def sX12_begin_b100 (a0 : Nat) (x1 : Int)  : Nat → Int → MM → Option MM
  | 0, _, _ => none
  | n + 1, x2, M => (if 18 ≤ wI x2 then (sX12_begin_b121 a0 x1 FU 0 M) else (if 0 ≤ wI x2 ∧ wI x2 < 132 then ((some (mU M (gR a0 20) (wI x2).toNat 1)).bind fun M_4 => ((some (x2 + 1)).bind fun v_5 => (sX12_begin_b100 a0 x1 n v_5 M_4))) else none))
def sX12_begin_b55 (a0 : Nat) (x1 : Int)   (M : MM) : Option MM := (if wI x1 = 0 then ((some (mU M (gR a0 20) 2 3)).bind fun M_3 => ((some (mU M_3 (gR a0 20) 3 16)).bind fun M_5 => ((some (mU M_5 (gR a0 20) 4 20)).bind fun M_7 => ((some (mU M_7 (gR a0 20) 5 2)).bind fun M_9 => ((some (mU M_9 (gR a0 20) 6 1)).bind fun M_11 => (sX12_begin_b100 a0 x1 FU 7 M_11)))))) else (some (M)))
def sX12_begin_b29 (a0 : Nat) (x1 : Int)  : Nat → Int → MM → Option MM
  | 0, _, _ => none
  | n + 1, x2, M => (if 8 ≤ wI x2 then (sX12_begin_b55 a0 x1 M) else (if wI x1 = 2 then (if 0 ≤ wI (1 + x2) ∧ wI (1 + x2) < 132 then ((some (mU M (gR a0 20) (wI (1 + x2)).toNat 5)).bind fun M_5 => ((some (x2 + 1)).bind fun v_6 => (sX12_begin_b29 a0 x1 n v_6 M_5))) else none) else (sX12_begin_b55 a0 x1 M)))
def sX12_begin_b2 (a0 : Nat) (x1 : Int)  : Nat → Int → MM → Option MM
  | 0, _, _ => none
  | n + 1, x2, M => (if 132 ≤ wI x2 then ((some (mU M a0 22 (-1))).bind fun M_2 => (sX12_begin_b29 a0 x1 FU 0 M_2)) else (if 0 ≤ wI x2 ∧ wI x2 < 132 then ((some (mU M (gR a0 20) (wI x2).toNat 0)).bind fun M_5 => ((some (x2 + 1)).bind fun v_6 => (sX12_begin_b2 a0 x1 n v_6 M_5))) else none))
def sX12_begin_b0 (a0 : Nat) (x1 : Int)   (M : MM) : Option MM := (sX12_begin_b2 a0 x1 FU 0 M)
def sX12_begin (a0 : Nat) (x1 : Int) (M : MM) : Option MM := sX12_begin_b0 a0 x1 M
set_option maxHeartbeats 4000000 in
set_option maxRecDepth 100000 in
theorem bX12_begin_b121 {G : GG} (a0 : Nat) (x1 : Int) (oa0 : OB L0 a0 12) {res : MM} : ∀ (n : Nat) (x2 : Int) (M : MM)  (h : sX12_begin_b121 a0 x1 n x2 M = some res), VV G xX12_begin (ZM G xX12_begin (none) L0 res) L0 M 0 0 121 [(0, .ref (gA G a0)), (2, .int (eI x2))] [] := by
  intro n
  induction n with
  | zero =>
    intro x2 M h
    rw [sX12_begin_b121] at h
    cases h
  | succ n ih =>
    intro x2 M h
    rw [sX12_begin_b121] at h
    refine r_iload_n (pc := 121) (i := 2) dX12_begin_121 rfl 1 rfl ?_
    refine r_bipush (pc := 122) (v := 64) dX12_begin_122 (by decide +kernel) ?_
    refine r_icmp_ge (pc := 124) (tgt := 156) dX12_begin_124 (by decide) rfl wl_64 (fun c_1 => ?_) (fun c_1 => ?_)
    · replace h := (if_pos c_1).symm.trans h
      cases h
      exact r_vret (pc := 156) rfl (Nat.le_refl 0) (Nat.le_refl 0) dX12_begin_156
    · replace h := (if_neg c_1).symm.trans h
      refine r_aload_n (pc := 127) (i := 0) dX12_begin_127 rfl 0 rfl ?_
      have o_2 := (wt_12_20 oa0).2
      refine r_getR (pc := 128) fg_12_41 rfl oa0 (wt_12_20 oa0).1 dX12_begin_128 ?_
      refine r_bipush (pc := 131) (v := 28) dX12_begin_131 (by decide +kernel) ?_
      refine r_bipush (pc := 133) (v := 13) dX12_begin_133 (by decide +kernel) ?_
      refine r_iload_n (pc := 135) (i := 2) dX12_begin_135 rfl 1 rfl ?_
      refine r_bipush (pc := 136) (v := 8) dX12_begin_136 (by decide +kernel) ?_
      refine r_idiv (pc := 138) dX12_begin_138 rfl wl_8 (by decide) ?_
      refine r_imul (pc := 139) dX12_begin_139 ?_
      refine r_iadd (pc := 140) dX12_begin_140 ?_
      refine r_iconst (pc := 141) (v := 5) dX12_begin_141 (by decide +kernel) ?_
      refine r_iadd (pc := 142) dX12_begin_142 ?_
      refine r_iload_n (pc := 143) (i := 2) dX12_begin_143 rfl 1 rfl ?_
      refine r_bipush (pc := 144) (v := 8) dX12_begin_144 (by decide +kernel) ?_
      refine r_irem (pc := 146) dX12_begin_146 rfl wl_8 (by decide) ?_
      refine r_iadd (pc := 147) dX12_begin_147 ?_
      refine r_iconst (pc := 148) (v := 1) dX12_begin_148 (by decide +kernel) ?_
      obtain ⟨c_3, h⟩ := og h
      obtain ⟨M_4, hM_4, h⟩ := ob h
      refine r_iast (pc := 149) o_2 rfl c_3 rfl hM_4 dX12_begin_149 ?_
      obtain ⟨v_5, hv_5, h⟩ := ob h
      refine r_iinc (pc := 150) (y := v_5) (lv' := [(2, .int (eI v_5)), (0, .ref (gA G a0))]) dX12_begin_150 1 rfl (Option.some.inj hv_5) (Nat.le_of_ble_eq_true rfl) rfl ?_
      refine r_goto (pc := 153) (tgt := 121) dX12_begin_153 (by decide) ?_
      refine r_sub (lv' := [(0, .ref (gA G a0)), (2, .int (eI v_5))]) [1, 0] rfl ?_
      exact ih _ _ h
set_option maxHeartbeats 4000000 in
set_option maxRecDepth 100000 in
theorem bX12_begin_b100 {G : GG} (a0 : Nat) (x1 : Int) (oa0 : OB L0 a0 12) {res : MM} : ∀ (n : Nat) (x2 : Int) (M : MM)  (h : sX12_begin_b100 a0 x1 n x2 M = some res), VV G xX12_begin (ZM G xX12_begin (none) L0 res) L0 M 0 0 100 [(0, .ref (gA G a0)), (2, .int (eI x2))] [] := by
  intro n
  induction n with
  | zero =>
    intro x2 M h
    rw [sX12_begin_b100] at h
    cases h
  | succ n ih =>
    intro x2 M h
    rw [sX12_begin_b100] at h
    refine r_iload_n (pc := 100) (i := 2) dX12_begin_100 rfl 1 rfl ?_
    refine r_bipush (pc := 101) (v := 18) dX12_begin_101 (by decide +kernel) ?_
    refine r_icmp_ge (pc := 103) (tgt := 119) dX12_begin_103 (by decide) rfl wl_18 (fun c_1 => ?_) (fun c_1 => ?_)
    · replace h := (if_pos c_1).symm.trans h
      refine r_iconst (pc := 119) (v := 0) dX12_begin_119 (by decide +kernel) ?_
      refine r_istore_n (pc := 120) (i := 2) (lv' := [(2, .int (eI 0)), (0, .ref (gA G a0))]) dX12_begin_120 rfl (Nat.le_of_ble_eq_true rfl) rfl ?_
      refine r_sub (lv' := [(0, .ref (gA G a0)), (2, .int (eI 0))]) [1, 0] rfl ?_
      exact bX12_begin_b121 a0 x1 oa0 _ _ _ h
    · replace h := (if_neg c_1).symm.trans h
      refine r_aload_n (pc := 106) (i := 0) dX12_begin_106 rfl 0 rfl ?_
      have o_2 := (wt_12_20 oa0).2
      refine r_getR (pc := 107) fg_12_41 rfl oa0 (wt_12_20 oa0).1 dX12_begin_107 ?_
      refine r_iload_n (pc := 110) (i := 2) dX12_begin_110 rfl 1 rfl ?_
      refine r_iconst (pc := 111) (v := 1) dX12_begin_111 (by decide +kernel) ?_
      obtain ⟨c_3, h⟩ := og h
      obtain ⟨M_4, hM_4, h⟩ := ob h
      refine r_iast (pc := 112) o_2 rfl c_3 rfl hM_4 dX12_begin_112 ?_
      obtain ⟨v_5, hv_5, h⟩ := ob h
      refine r_iinc (pc := 113) (y := v_5) (lv' := [(2, .int (eI v_5)), (0, .ref (gA G a0))]) dX12_begin_113 1 rfl (Option.some.inj hv_5) (Nat.le_of_ble_eq_true rfl) rfl ?_
      refine r_goto (pc := 116) (tgt := 100) dX12_begin_116 (by decide) ?_
      refine r_sub (lv' := [(0, .ref (gA G a0)), (2, .int (eI v_5))]) [1, 0] rfl ?_
      exact ih _ _ h
set_option maxHeartbeats 4000000 in
set_option maxRecDepth 100000 in
theorem bX12_begin_b55 {G : GG} (a0 : Nat) (x1 : Int) (oa0 : OB L0 a0 12)  (M : MM) {res : MM}  (h : sX12_begin_b55 a0 x1 M = some res) : VV G xX12_begin (ZM G xX12_begin (none) L0 res) L0 M 0 0 55 [(0, .ref (gA G a0)), (1, .int (eI x1))] [] := by
  unfold sX12_begin_b55 at h
  refine r_iload_n (pc := 55) (i := 1) dX12_begin_55 rfl 1 rfl ?_
  refine r_if_ne (pc := 56) (tgt := 156) dX12_begin_56 (by decide) rfl (fun c_1 => ?_) (fun c_1 => ?_)
  · replace h := (if_neg c_1).symm.trans h
    cases h
    exact r_vret (pc := 156) rfl (Nat.le_refl 0) (Nat.le_refl 0) dX12_begin_156
  · replace h := (if_pos c_1).symm.trans h
    refine r_aload_n (pc := 59) (i := 0) dX12_begin_59 rfl 0 rfl ?_
    have o_2 := (wt_12_20 oa0).2
    refine r_getR (pc := 60) fg_12_41 rfl oa0 (wt_12_20 oa0).1 dX12_begin_60 ?_
    refine r_iconst (pc := 63) (v := 2) dX12_begin_63 (by decide +kernel) ?_
    refine r_iconst (pc := 64) (v := 3) dX12_begin_64 (by decide +kernel) ?_
    obtain ⟨M_3, hM_3, h⟩ := ob h
    refine r_iast (pc := 65) o_2 wl_2 ⟨by decide, by decide⟩ rfl hM_3 dX12_begin_65 ?_
    refine r_aload_n (pc := 66) (i := 0) dX12_begin_66 rfl 0 rfl ?_
    have o_4 := (wt_12_20 oa0).2
    refine r_getR (pc := 67) fg_12_41 rfl oa0 (wt_12_20 oa0).1 dX12_begin_67 ?_
    refine r_iconst (pc := 70) (v := 3) dX12_begin_70 (by decide +kernel) ?_
    refine r_bipush (pc := 71) (v := 16) dX12_begin_71 (by decide +kernel) ?_
    obtain ⟨M_5, hM_5, h⟩ := ob h
    refine r_iast (pc := 73) o_4 wl_3 ⟨by decide, by decide⟩ rfl hM_5 dX12_begin_73 ?_
    refine r_aload_n (pc := 74) (i := 0) dX12_begin_74 rfl 0 rfl ?_
    have o_6 := (wt_12_20 oa0).2
    refine r_getR (pc := 75) fg_12_41 rfl oa0 (wt_12_20 oa0).1 dX12_begin_75 ?_
    refine r_iconst (pc := 78) (v := 4) dX12_begin_78 (by decide +kernel) ?_
    refine r_bipush (pc := 79) (v := 20) dX12_begin_79 (by decide +kernel) ?_
    obtain ⟨M_7, hM_7, h⟩ := ob h
    refine r_iast (pc := 81) o_6 wl_4 ⟨by decide, by decide⟩ rfl hM_7 dX12_begin_81 ?_
    refine r_aload_n (pc := 82) (i := 0) dX12_begin_82 rfl 0 rfl ?_
    have o_8 := (wt_12_20 oa0).2
    refine r_getR (pc := 83) fg_12_41 rfl oa0 (wt_12_20 oa0).1 dX12_begin_83 ?_
    refine r_iconst (pc := 86) (v := 5) dX12_begin_86 (by decide +kernel) ?_
    refine r_iconst (pc := 87) (v := 2) dX12_begin_87 (by decide +kernel) ?_
    obtain ⟨M_9, hM_9, h⟩ := ob h
    refine r_iast (pc := 88) o_8 wl_5 ⟨by decide, by decide⟩ rfl hM_9 dX12_begin_88 ?_
    refine r_aload_n (pc := 89) (i := 0) dX12_begin_89 rfl 0 rfl ?_
    have o_10 := (wt_12_20 oa0).2
    refine r_getR (pc := 90) fg_12_41 rfl oa0 (wt_12_20 oa0).1 dX12_begin_90 ?_
    refine r_bipush (pc := 93) (v := 6) dX12_begin_93 (by decide +kernel) ?_
    refine r_iconst (pc := 95) (v := 1) dX12_begin_95 (by decide +kernel) ?_
    obtain ⟨M_11, hM_11, h⟩ := ob h
    refine r_iast (pc := 96) o_10 wl_6 ⟨by decide, by decide⟩ rfl hM_11 dX12_begin_96 ?_
    refine r_bipush (pc := 97) (v := 7) dX12_begin_97 (by decide +kernel) ?_
    refine r_istore_n (pc := 99) (i := 2) (lv' := [(2, .int (eI 7)), (0, .ref (gA G a0)), (1, .int (eI x1))]) dX12_begin_99 rfl (Nat.le_of_ble_eq_true rfl) rfl ?_
    refine r_sub (lv' := [(0, .ref (gA G a0)), (2, .int (eI 7))]) [1, 0] rfl ?_
    exact bX12_begin_b100 a0 x1 oa0 _ _ _ h
set_option maxHeartbeats 4000000 in
set_option maxRecDepth 100000 in
theorem bX12_begin_b29 {G : GG} (a0 : Nat) (x1 : Int) (oa0 : OB L0 a0 12) {res : MM} : ∀ (n : Nat) (x2 : Int) (M : MM)  (h : sX12_begin_b29 a0 x1 n x2 M = some res), VV G xX12_begin (ZM G xX12_begin (none) L0 res) L0 M 0 0 29 [(0, .ref (gA G a0)), (1, .int (eI x1)), (2, .int (eI x2))] [] := by
  intro n
  induction n with
  | zero =>
    intro x2 M h
    rw [sX12_begin_b29] at h
    cases h
  | succ n ih =>
    intro x2 M h
    rw [sX12_begin_b29] at h
    refine r_iload_n (pc := 29) (i := 2) dX12_begin_29 rfl 2 rfl ?_
    refine r_bipush (pc := 30) (v := 8) dX12_begin_30 (by decide +kernel) ?_
    refine r_icmp_ge (pc := 32) (tgt := 55) dX12_begin_32 (by decide) rfl wl_8 (fun c_1 => ?_) (fun c_1 => ?_)
    · replace h := (if_pos c_1).symm.trans h
      refine r_sub (lv' := [(0, .ref (gA G a0)), (1, .int (eI x1))]) [0, 1] rfl ?_
      exact bX12_begin_b55 a0 x1 oa0 _ h
    · replace h := (if_neg c_1).symm.trans h
      refine r_iload_n (pc := 35) (i := 1) dX12_begin_35 rfl 1 rfl ?_
      refine r_iconst (pc := 36) (v := 2) dX12_begin_36 (by decide +kernel) ?_
      refine r_icmp_ne (pc := 37) (tgt := 55) dX12_begin_37 (by decide) rfl wl_2 (fun c_2 => ?_) (fun c_2 => ?_)
      · replace h := (if_neg c_2).symm.trans h
        refine r_sub (lv' := [(0, .ref (gA G a0)), (1, .int (eI x1))]) [0, 1] rfl ?_
        exact bX12_begin_b55 a0 x1 oa0 _ h
      · replace h := (if_pos c_2).symm.trans h
        refine r_aload_n (pc := 40) (i := 0) dX12_begin_40 rfl 0 rfl ?_
        have o_3 := (wt_12_20 oa0).2
        refine r_getR (pc := 41) fg_12_41 rfl oa0 (wt_12_20 oa0).1 dX12_begin_41 ?_
        refine r_iconst (pc := 44) (v := 1) dX12_begin_44 (by decide +kernel) ?_
        refine r_iload_n (pc := 45) (i := 2) dX12_begin_45 rfl 2 rfl ?_
        refine r_iadd (pc := 46) dX12_begin_46 ?_
        refine r_iconst (pc := 47) (v := 5) dX12_begin_47 (by decide +kernel) ?_
        obtain ⟨c_4, h⟩ := og h
        obtain ⟨M_5, hM_5, h⟩ := ob h
        refine r_iast (pc := 48) o_3 rfl c_4 rfl hM_5 dX12_begin_48 ?_
        obtain ⟨v_6, hv_6, h⟩ := ob h
        refine r_iinc (pc := 49) (y := v_6) (lv' := [(2, .int (eI v_6)), (0, .ref (gA G a0)), (1, .int (eI x1))]) dX12_begin_49 2 rfl (Option.some.inj hv_6) (Nat.le_of_ble_eq_true rfl) rfl ?_
        refine r_goto (pc := 52) (tgt := 29) dX12_begin_52 (by decide) ?_
        refine r_sub (lv' := [(0, .ref (gA G a0)), (1, .int (eI x1)), (2, .int (eI v_6))]) [1, 2, 0] rfl ?_
        exact ih _ _ h
set_option maxHeartbeats 4000000 in
set_option maxRecDepth 100000 in
theorem bX12_begin_b2 {G : GG} (a0 : Nat) (x1 : Int) (oa0 : OB L0 a0 12) {res : MM} : ∀ (n : Nat) (x2 : Int) (M : MM)  (h : sX12_begin_b2 a0 x1 n x2 M = some res), VV G xX12_begin (ZM G xX12_begin (none) L0 res) L0 M 0 0 2 [(0, .ref (gA G a0)), (1, .int (eI x1)), (2, .int (eI x2))] [] := by
  intro n
  induction n with
  | zero =>
    intro x2 M h
    rw [sX12_begin_b2] at h
    cases h
  | succ n ih =>
    intro x2 M h
    rw [sX12_begin_b2] at h
    refine r_iload_n (pc := 2) (i := 2) dX12_begin_2 rfl 2 rfl ?_
    refine r_sipush (pc := 3) (v := 132) dX12_begin_3 (by decide +kernel) ?_
    refine r_icmp_ge (pc := 6) (tgt := 22) dX12_begin_6 (by decide) rfl wl_132 (fun c_1 => ?_) (fun c_1 => ?_)
    · replace h := (if_pos c_1).symm.trans h
      refine r_aload_n (pc := 22) (i := 0) dX12_begin_22 rfl 0 rfl ?_
      refine r_iconst (pc := 23) (v := (-1)) dX12_begin_23 (by decide +kernel) ?_
      obtain ⟨M_2, hM_2, h⟩ := ob h
      refine r_putI (pc := 24) fg_12_164 rfl oa0 hM_2 rfl rfl dX12_begin_24 ?_
      refine r_iconst (pc := 27) (v := 0) dX12_begin_27 (by decide +kernel) ?_
      refine r_istore_n (pc := 28) (i := 2) (lv' := [(2, .int (eI 0)), (0, .ref (gA G a0)), (1, .int (eI x1))]) dX12_begin_28 rfl (Nat.le_of_ble_eq_true rfl) rfl ?_
      refine r_sub (lv' := [(0, .ref (gA G a0)), (1, .int (eI x1)), (2, .int (eI 0))]) [1, 2, 0] rfl ?_
      exact bX12_begin_b29 a0 x1 oa0 _ _ _ h
    · replace h := (if_neg c_1).symm.trans h
      refine r_aload_n (pc := 9) (i := 0) dX12_begin_9 rfl 0 rfl ?_
      have o_3 := (wt_12_20 oa0).2
      refine r_getR (pc := 10) fg_12_41 rfl oa0 (wt_12_20 oa0).1 dX12_begin_10 ?_
      refine r_iload_n (pc := 13) (i := 2) dX12_begin_13 rfl 2 rfl ?_
      refine r_iconst (pc := 14) (v := 0) dX12_begin_14 (by decide +kernel) ?_
      obtain ⟨c_4, h⟩ := og h
      obtain ⟨M_5, hM_5, h⟩ := ob h
      refine r_iast (pc := 15) o_3 rfl c_4 rfl hM_5 dX12_begin_15 ?_
      obtain ⟨v_6, hv_6, h⟩ := ob h
      refine r_iinc (pc := 16) (y := v_6) (lv' := [(2, .int (eI v_6)), (0, .ref (gA G a0)), (1, .int (eI x1))]) dX12_begin_16 2 rfl (Option.some.inj hv_6) (Nat.le_of_ble_eq_true rfl) rfl ?_
      refine r_goto (pc := 19) (tgt := 2) dX12_begin_19 (by decide) ?_
      refine r_sub (lv' := [(0, .ref (gA G a0)), (1, .int (eI x1)), (2, .int (eI v_6))]) [1, 2, 0] rfl ?_
      exact ih _ _ h
set_option maxHeartbeats 4000000 in
set_option maxRecDepth 100000 in
theorem bX12_begin_b0 {G : GG} (a0 : Nat) (x1 : Int) (oa0 : OB L0 a0 12)  (M : MM) {res : MM}  (h : sX12_begin_b0 a0 x1 M = some res) : VV G xX12_begin (ZM G xX12_begin (none) L0 res) L0 M 0 0 0 [(0, .ref (gA G a0)), (1, .int (eI x1))] [] := by
  unfold sX12_begin_b0 at h
  refine r_iconst (pc := 0) (v := 0) dX12_begin_0 (by decide +kernel) ?_
  refine r_istore_n (pc := 1) (i := 2) (lv' := [(2, .int (eI 0)), (0, .ref (gA G a0)), (1, .int (eI x1))]) dX12_begin_1 rfl (Nat.le_of_ble_eq_true rfl) rfl ?_
  refine r_sub (lv' := [(0, .ref (gA G a0)), (1, .int (eI x1)), (2, .int (eI 0))]) [1, 2, 0] rfl ?_
  exact bX12_begin_b2 a0 x1 oa0 _ _ _ h
theorem kX12_begin {G : GG} (a0 : Nat) (x1 : Int) (M : MM) {res : MM} (oa0 : OB L0 a0 12) (h : sX12_begin a0 x1 M = some res) : CO G xX12_begin [.ref (gA G a0), .int (eI x1)] L0 M (none) L0 res := CO_of (by decide +kernel) (Nat.le_of_ble_eq_true rfl) (bX12_begin_b0 a0 x1 oa0 M h)
abbrev xX12_isStill : XX := (yX12_isStill, cX12_isStill, 2, (some .boolean), 0, 0, 0, 0)
def sX12_isStill_b2 (a0 : Nat) (M : MM)  : Nat → Int → Option Int
  | 0, _ => none
  | n + 1, x1 => (if 8 ≤ wI x1 then (some (1)) else (if 0 ≤ wI (7 + x1) ∧ wI (7 + x1) < 132 then (if wI (M (gR a0 20) (wI (7 + x1)).toNat) ≤ 0 then ((some (x1 + 1)).bind fun v_5 => (sX12_isStill_b2 a0 M n v_5)) else (some (0))) else none))
def sX12_isStill_b0 (a0 : Nat) (M : MM)   : Option Int := (sX12_isStill_b2 a0 M FU 0)
def sX12_isStill (a0 : Nat) (M : MM) : Option Int := sX12_isStill_b0 a0 M
set_option maxHeartbeats 4000000 in
set_option maxRecDepth 100000 in
theorem bX12_isStill_b2 {G : GG} (a0 : Nat) (M : MM) (oa0 : OB L0 a0 12) {res : Int} : ∀ (n : Nat) (x1 : Int)  (h : sX12_isStill_b2 a0 M n x1 = some res), VV G xX12_isStill (ZM G xX12_isStill (some (.int (eI res))) L0 M) L0 M 0 0 2 [(0, .ref (gA G a0)), (1, .int (eI x1))] [] := by
  intro n
  induction n with
  | zero =>
    intro x1 h
    rw [sX12_isStill_b2] at h
    cases h
  | succ n ih =>
    intro x1 h
    rw [sX12_isStill_b2] at h
    refine r_iload_n (pc := 2) (i := 1) dX12_isStill_2 rfl 1 rfl ?_
    refine r_bipush (pc := 3) (v := 8) dX12_isStill_3 (by decide +kernel) ?_
    refine r_icmp_ge (pc := 5) (tgt := 28) dX12_isStill_5 (by decide) rfl wl_8 (fun c_1 => ?_) (fun c_1 => ?_)
    · replace h := (if_pos c_1).symm.trans h
      refine r_iconst (pc := 28) (v := 1) dX12_isStill_28 (by decide +kernel) ?_
      cases h
      exact r_iret (pc := 29) rfl (zn_ok (Or.inr rfl)).1 (Nat.le_refl 0) (Nat.le_refl 0) dX12_isStill_29
    · replace h := (if_neg c_1).symm.trans h
      refine r_aload_n (pc := 8) (i := 0) dX12_isStill_8 rfl 0 rfl ?_
      have o_2 := (wt_12_20 oa0).2
      refine r_getR (pc := 9) fg_12_41 rfl oa0 (wt_12_20 oa0).1 dX12_isStill_9 ?_
      refine r_bipush (pc := 12) (v := 7) dX12_isStill_12 (by decide +kernel) ?_
      refine r_iload_n (pc := 14) (i := 1) dX12_isStill_14 rfl 1 rfl ?_
      refine r_iadd (pc := 15) dX12_isStill_15 ?_
      obtain ⟨c_3, h⟩ := og h
      refine r_iald (pc := 16) o_2 rfl c_3 rfl dX12_isStill_16 ?_
      refine r_if_le (pc := 17) (tgt := 22) dX12_isStill_17 (by decide) rfl (fun c_4 => ?_) (fun c_4 => ?_)
      · replace h := (if_pos c_4).symm.trans h
        obtain ⟨v_5, hv_5, h⟩ := ob h
        refine r_iinc (pc := 22) (y := v_5) (lv' := [(1, .int (eI v_5)), (0, .ref (gA G a0))]) dX12_isStill_22 1 rfl (Option.some.inj hv_5) (Nat.le_of_ble_eq_true rfl) rfl ?_
        refine r_goto (pc := 25) (tgt := 2) dX12_isStill_25 (by decide) ?_
        refine r_sub (lv' := [(0, .ref (gA G a0)), (1, .int (eI v_5))]) [1, 0] rfl ?_
        exact ih _ h
      · replace h := (if_neg c_4).symm.trans h
        refine r_iconst (pc := 20) (v := 0) dX12_isStill_20 (by decide +kernel) ?_
        cases h
        exact r_iret (pc := 21) rfl (zn_ok (Or.inl rfl)).1 (Nat.le_refl 0) (Nat.le_refl 0) dX12_isStill_21
set_option maxHeartbeats 4000000 in
set_option maxRecDepth 100000 in
theorem bX12_isStill_b0 {G : GG} (a0 : Nat) (M : MM) (oa0 : OB L0 a0 12)  {res : Int}  (h : sX12_isStill_b0 a0 M = some res) : VV G xX12_isStill (ZM G xX12_isStill (some (.int (eI res))) L0 M) L0 M 0 0 0 [(0, .ref (gA G a0))] [] := by
  unfold sX12_isStill_b0 at h
  refine r_iconst (pc := 0) (v := 0) dX12_isStill_0 (by decide +kernel) ?_
  refine r_istore_n (pc := 1) (i := 1) (lv' := [(1, .int (eI 0)), (0, .ref (gA G a0))]) dX12_isStill_1 rfl (Nat.le_of_ble_eq_true rfl) rfl ?_
  refine r_sub (lv' := [(0, .ref (gA G a0)), (1, .int (eI 0))]) [1, 0] rfl ?_
  exact bX12_isStill_b2 a0 M oa0 _ _ h
theorem kX12_isStill {G : GG} (a0 : Nat) (M : MM) {res : Int} (oa0 : OB L0 a0 12) (h : sX12_isStill a0 M = some res) : CO G xX12_isStill [.ref (gA G a0)] L0 M (some (.int (eI res))) L0 M := CO_of (by decide +kernel) (Nat.le_of_ble_eq_true rfl) (bX12_isStill_b0 a0 M oa0 h)
abbrev xX12_readText : XX := (yX12_readText, cX12_readText, 3, (some .boolean), 8, 185, 0, 0)
theorem ck_X12_readText_149 : CKV xX12_readText 149 xX12_later 2 := ⟨⟨tb_i 1684 (by decide +kernel) (by decide +kernel), tb_i 152 (by decide +kernel) (by decide +kernel), tb_i 1687 (by decide +kernel) (by decide +kernel), ⟨by decide +kernel, by decide +kernel, by decide +kernel⟩, by decide, by decide⟩, tb_i 1686 (by decide +kernel) (by decide +kernel), tb_i 57 (by decide +kernel) (by decide +kernel)⟩
theorem ck_X12_readText_157 : CKV xX12_readText 157 xX12_token 0 := ⟨⟨tb_i 1641 (by decide +kernel) (by decide +kernel), tb_i 152 (by decide +kernel) (by decide +kernel), tb_i 1644 (by decide +kernel) (by decide +kernel), ⟨by decide +kernel, by decide +kernel, by decide +kernel⟩, by decide, by decide⟩, tb_i 1643 (by decide +kernel) (by decide +kernel), tb_i 50 (by decide +kernel) (by decide +kernel)⟩
theorem ck_X12_readText_287 : CKV xX12_readText 287 xX12_begin 1 := ⟨⟨tb_i 1637 (by decide +kernel) (by decide +kernel), tb_i 152 (by decide +kernel) (by decide +kernel), tb_i 1640 (by decide +kernel) (by decide +kernel), ⟨by decide +kernel, by decide +kernel, by decide +kernel⟩, by decide, by decide⟩, tb_i 1639 (by decide +kernel) (by decide +kernel), tb_i 49 (by decide +kernel) (by decide +kernel)⟩
theorem ck_X12_readText_290 : CKV xX12_readText 290 xX12_lines 1 := ⟨⟨tb_i 1649 (by decide +kernel) (by decide +kernel), tb_i 152 (by decide +kernel) (by decide +kernel), tb_i 1652 (by decide +kernel) (by decide +kernel), ⟨by decide +kernel, by decide +kernel, by decide +kernel⟩, by decide, by decide⟩, tb_i 1651 (by decide +kernel) (by decide +kernel), tb_i 52 (by decide +kernel) (by decide +kernel)⟩
theorem ck_X12_readText_294 : CKV xX12_readText 294 xX12_isStill 0 := ⟨⟨tb_i 1760 (by decide +kernel) (by decide +kernel), tb_i 152 (by decide +kernel) (by decide +kernel), tb_i 1763 (by decide +kernel) (by decide +kernel), ⟨by decide +kernel, by decide +kernel, by decide +kernel⟩, by decide, by decide⟩, tb_i 1762 (by decide +kernel) (by decide +kernel), tb_i 69 (by decide +kernel) (by decide +kernel)⟩
def sX12_readText_b136 (a0 : Nat) (x1 : Int)  (b90 : Nat) (x91 : Int) (x92 : Int) (M : MM) : Option (Int × MM) := (if 0 ≤ wI x91 ∧ wI x91 < 4 then ((some (mU M b90 (wI x91).toNat x92)).bind fun M_2 => (if wI (M_2 (gR a0 3) 0) = 0 then (some ((1, M_2))) else (some ((0, M_2))))) else none)
def sX12_readText_b104 (a0 : Nat) (x1 : Int)  (x2 : Int) (b90 : Nat) (x91 : Int) (x92 : Int) (M : MM) : Option (Int × MM) := (if 0 ≤ wI x91 ∧ wI x91 < 4 then ((some (mU M b90 (wI x91).toNat x92)).bind fun M_2 => (if wI x2 = 0 then (sX12_readText_b136 a0 x1 (gR a0 4) 0 (M_2 a0 17) M_2) else (if wI (M_2 a0 18) ≤ 0 then (sX12_readText_b136 a0 x1 (gR a0 4) 0 (-1) M_2) else (sX12_readText_b136 a0 x1 (gR a0 4) 0 (M_2 a0 19) M_2)))) else none)
def sX12_readText_b87 (a0 : Nat) (x1 : Int)  (x2 : Int) (M : MM) : Option (Int × MM) := (if wI x2 = 0 then (sX12_readText_b104 a0 x1 x2 (gR a0 3) 0 1 M) else (sX12_readText_b104 a0 x1 x2 (gR a0 3) 0 (M a0 18) M))
def sX12_readText_b78 (a0 : Nat) (x1 : Int)  (x2 : Int) (M : MM) : Option (Int × MM) := ((sX12_later a0 4 (M a0 13) M).bind fun q_1 => (sX12_readText_b87 a0 x1 x2 q_1))
def sX12_readText_b0 (a0 : Nat) (x1 : Int)   (M : MM) : Option (Int × MM) := ((sX12_begin a0 x1 M).bind fun q_1 => ((some (mU q_1 a0 11 0)).bind fun M_2 => ((some (mU M_2 a0 18 0)).bind fun M_3 => ((sX12_token a0 M_3).bind fun q_4 => ((sX12_lines a0 x1 q_4).bind fun q_5 => (if wI (q_5.1) = 0 then (sX12_readText_b87 a0 x1 (q_5.1) q_5.2) else (if wI x1 = 0 then (if wI (q_5.2 a0 18) = 0 then (if wI (q_5.2 (gR a0 20) 1) ≤ wI (q_5.2 a0 22) then (sX12_readText_b78 a0 x1 (q_5.1) q_5.2) else (if wI (q_5.2 (gR a0 20) 0) = 0 then (sX12_readText_b78 a0 x1 (q_5.1) q_5.2) else (if wI (q_5.2 (gR a0 20) 1) = 0 then (sX12_readText_b78 a0 x1 (q_5.1) q_5.2) else ((sX12_isStill a0 q_5.2).bind fun q_15 => (if wI q_15 = 0 then (sX12_readText_b87 a0 x1 (q_5.1) q_5.2) else (sX12_readText_b78 a0 x1 (q_5.1) q_5.2)))))) else (sX12_readText_b87 a0 x1 (q_5.1) q_5.2)) else (sX12_readText_b87 a0 x1 (q_5.1) q_5.2))))))))
def sX12_readText (a0 : Nat) (x1 : Int) (M : MM) : Option (Int × MM) := sX12_readText_b0 a0 x1 M
set_option maxHeartbeats 4000000 in
set_option maxRecDepth 100000 in
theorem bX12_readText_b136 {G : GG} (a0 : Nat) (x1 : Int) (oa0 : OB L0 a0 12) (b90 : Nat) (x91 : Int) (x92 : Int) (M : MM) {res : (Int × MM)} (ob90 : AR L0 b90 1 4) (h : sX12_readText_b136 a0 x1 b90 x91 x92 M = some res) : VV G xX12_readText (ZM G xX12_readText (some (.int (eI res.1))) L0 res.2) L0 M 0 0 136 [(0, .ref (gA G a0))] [.int (eI x92), .int (eI x91), .ref (gA G b90)] := by
  unfold sX12_readText_b136 at h
  obtain ⟨c_1, h⟩ := og h
  obtain ⟨M_2, hM_2, h⟩ := ob h
  refine r_iast (pc := 136) ob90 rfl c_1 rfl hM_2 dX12_readText_136 ?_
  refine r_aload_n (pc := 137) (i := 0) dX12_readText_137 rfl 0 rfl ?_
  have o_3 := (wt_12_3 oa0).2
  refine r_getR (pc := 138) fg_12_17 rfl oa0 (wt_12_3 oa0).1 dX12_readText_138 ?_
  refine r_iconst (pc := 141) (v := 0) dX12_readText_141 (by decide +kernel) ?_
  refine r_iald (pc := 142) o_3 wl_0 ⟨by decide, by decide⟩ rfl dX12_readText_142 ?_
  refine r_if_ne (pc := 143) (tgt := 150) dX12_readText_143 (by decide) rfl (fun c_4 => ?_) (fun c_4 => ?_)
  · replace h := (if_neg c_4).symm.trans h
    refine r_iconst (pc := 150) (v := 0) dX12_readText_150 (by decide +kernel) ?_
    cases h
    exact r_iret (pc := 151) rfl (zn_ok (Or.inl rfl)).1 (Nat.le_refl 0) (Nat.le_refl 0) dX12_readText_151
  · replace h := (if_pos c_4).symm.trans h
    refine r_iconst (pc := 146) (v := 1) dX12_readText_146 (by decide +kernel) ?_
    refine r_goto (pc := 147) (tgt := 151) dX12_readText_147 (by decide) ?_
    cases h
    exact r_iret (pc := 151) rfl (zn_ok (Or.inr rfl)).1 (Nat.le_refl 0) (Nat.le_refl 0) dX12_readText_151
set_option maxHeartbeats 4000000 in
set_option maxRecDepth 100000 in
theorem bX12_readText_b104 {G : GG} (a0 : Nat) (x1 : Int) (oa0 : OB L0 a0 12) (x2 : Int) (b90 : Nat) (x91 : Int) (x92 : Int) (M : MM) {res : (Int × MM)} (ob90 : AR L0 b90 1 4) (h : sX12_readText_b104 a0 x1 x2 b90 x91 x92 M = some res) : VV G xX12_readText (ZM G xX12_readText (some (.int (eI res.1))) L0 res.2) L0 M 0 0 104 [(0, .ref (gA G a0)), (2, .int (eI x2))] [.int (eI x92), .int (eI x91), .ref (gA G b90)] := by
  unfold sX12_readText_b104 at h
  obtain ⟨c_1, h⟩ := og h
  obtain ⟨M_2, hM_2, h⟩ := ob h
  refine r_iast (pc := 104) ob90 rfl c_1 rfl hM_2 dX12_readText_104 ?_
  refine r_aload_n (pc := 105) (i := 0) dX12_readText_105 rfl 0 rfl ?_
  have o_3 := (wt_12_4 oa0).2
  refine r_getR (pc := 106) fg_12_20 rfl oa0 (wt_12_4 oa0).1 dX12_readText_106 ?_
  refine r_iconst (pc := 109) (v := 0) dX12_readText_109 (by decide +kernel) ?_
  refine r_iload_n (pc := 110) (i := 2) dX12_readText_110 rfl 1 rfl ?_
  refine r_if_ne (pc := 111) (tgt := 121) dX12_readText_111 (by decide) rfl (fun c_4 => ?_) (fun c_4 => ?_)
  · replace h := (if_neg c_4).symm.trans h
    refine r_aload_n (pc := 121) (i := 0) dX12_readText_121 rfl 0 rfl ?_
    refine r_getI (pc := 122) fg_12_139 rfl oa0 dX12_readText_122 ?_
    refine r_if_le (pc := 125) (tgt := 135) dX12_readText_125 (by decide) rfl (fun c_5 => ?_) (fun c_5 => ?_)
    · replace h := (if_pos c_5).symm.trans h
      refine r_iconst (pc := 135) (v := (-1)) dX12_readText_135 (by decide +kernel) ?_
      refine r_sub (lv' := [(0, .ref (gA G a0))]) [0] rfl ?_
      exact bX12_readText_b136 a0 x1 oa0 _ _ _ _ o_3 h
    · replace h := (if_neg c_5).symm.trans h
      refine r_aload_n (pc := 128) (i := 0) dX12_readText_128 rfl 0 rfl ?_
      refine r_getI (pc := 129) fg_12_142 rfl oa0 dX12_readText_129 ?_
      refine r_goto (pc := 132) (tgt := 136) dX12_readText_132 (by decide) ?_
      refine r_sub (lv' := [(0, .ref (gA G a0))]) [0] rfl ?_
      exact bX12_readText_b136 a0 x1 oa0 _ _ _ _ o_3 h
  · replace h := (if_pos c_4).symm.trans h
    refine r_aload_n (pc := 114) (i := 0) dX12_readText_114 rfl 0 rfl ?_
    refine r_getI (pc := 115) fg_12_136 rfl oa0 dX12_readText_115 ?_
    refine r_goto (pc := 118) (tgt := 136) dX12_readText_118 (by decide) ?_
    refine r_sub (lv' := [(0, .ref (gA G a0))]) [0] rfl ?_
    exact bX12_readText_b136 a0 x1 oa0 _ _ _ _ o_3 h
set_option maxHeartbeats 4000000 in
set_option maxRecDepth 100000 in
theorem bX12_readText_b87 {G : GG} (a0 : Nat) (x1 : Int) (oa0 : OB L0 a0 12) (x2 : Int) (M : MM) {res : (Int × MM)}  (h : sX12_readText_b87 a0 x1 x2 M = some res) : VV G xX12_readText (ZM G xX12_readText (some (.int (eI res.1))) L0 res.2) L0 M 0 0 87 [(0, .ref (gA G a0)), (2, .int (eI x2))] [] := by
  unfold sX12_readText_b87 at h
  refine r_aload_n (pc := 87) (i := 0) dX12_readText_87 rfl 0 rfl ?_
  have o_1 := (wt_12_3 oa0).2
  refine r_getR (pc := 88) fg_12_17 rfl oa0 (wt_12_3 oa0).1 dX12_readText_88 ?_
  refine r_iconst (pc := 91) (v := 0) dX12_readText_91 (by decide +kernel) ?_
  refine r_iload_n (pc := 92) (i := 2) dX12_readText_92 rfl 1 rfl ?_
  refine r_if_eq (pc := 93) (tgt := 103) dX12_readText_93 (by decide) rfl (fun c_2 => ?_) (fun c_2 => ?_)
  · replace h := (if_pos c_2).symm.trans h
    refine r_iconst (pc := 103) (v := 1) dX12_readText_103 (by decide +kernel) ?_
    refine r_sub (lv' := [(0, .ref (gA G a0)), (2, .int (eI x2))]) [0, 1] rfl ?_
    exact bX12_readText_b104 a0 x1 oa0 _ _ _ _ _ o_1 h
  · replace h := (if_neg c_2).symm.trans h
    refine r_aload_n (pc := 96) (i := 0) dX12_readText_96 rfl 0 rfl ?_
    refine r_getI (pc := 97) fg_12_139 rfl oa0 dX12_readText_97 ?_
    refine r_goto (pc := 100) (tgt := 104) dX12_readText_100 (by decide) ?_
    refine r_sub (lv' := [(0, .ref (gA G a0)), (2, .int (eI x2))]) [0, 1] rfl ?_
    exact bX12_readText_b104 a0 x1 oa0 _ _ _ _ _ o_1 h
set_option maxHeartbeats 4000000 in
set_option maxRecDepth 100000 in
theorem bX12_readText_b78 {G : GG} (a0 : Nat) (x1 : Int) (oa0 : OB L0 a0 12) (x2 : Int) (M : MM) {res : (Int × MM)}  (h : sX12_readText_b78 a0 x1 x2 M = some res) : VV G xX12_readText (ZM G xX12_readText (some (.int (eI res.1))) L0 res.2) L0 M 0 0 78 [(0, .ref (gA G a0)), (2, .int (eI x2))] [] := by
  unfold sX12_readText_b78 at h
  refine r_aload_n (pc := 78) (i := 0) dX12_readText_78 rfl 0 rfl ?_
  refine r_iconst (pc := 79) (v := 4) dX12_readText_79 (by decide +kernel) ?_
  refine r_aload_n (pc := 80) (i := 0) dX12_readText_80 rfl 0 rfl ?_
  refine r_getI (pc := 81) fg_12_123 rfl oa0 dX12_readText_81 ?_
  obtain ⟨q_1, hq_1, h⟩ := ob h
  refine r_cV (pc := 84) (Y := xX12_later) (As := [.int (eI 4), .int (eI (M a0 13))]) (rest := []) (v := none) (st1 := []) ck_X12_readText_149 (kX12_later a0 4 (M a0 13) M oa0 hq_1) oa0 rfl rfl rfl rfl (Nat.le_of_ble_eq_true rfl) ⟨rfl, rfl⟩ rfl dX12_readText_84 ?_
  refine r_sub (lv' := [(0, .ref (gA G a0)), (2, .int (eI x2))]) [0, 1] rfl ?_
  exact bX12_readText_b87 a0 x1 oa0 _ _ h
set_option maxHeartbeats 4000000 in
set_option maxRecDepth 100000 in
theorem bX12_readText_b0 {G : GG} (a0 : Nat) (x1 : Int) (oa0 : OB L0 a0 12)  (M : MM) {res : (Int × MM)}  (h : sX12_readText_b0 a0 x1 M = some res) : VV G xX12_readText (ZM G xX12_readText (some (.int (eI res.1))) L0 res.2) L0 M 0 0 0 [(0, .ref (gA G a0)), (1, .int (eI x1))] [] := by
  unfold sX12_readText_b0 at h
  refine r_aload_n (pc := 0) (i := 0) dX12_readText_0 rfl 0 rfl ?_
  refine r_iload_n (pc := 1) (i := 1) dX12_readText_1 rfl 1 rfl ?_
  obtain ⟨q_1, hq_1, h⟩ := ob h
  refine r_cV (pc := 2) (Y := xX12_begin) (As := [.int (eI x1)]) (rest := []) (v := none) (st1 := []) ck_X12_readText_287 (kX12_begin a0 x1 M oa0 hq_1) oa0 rfl rfl rfl rfl (Nat.le_of_ble_eq_true rfl) ⟨rfl, rfl⟩ rfl dX12_readText_2 ?_
  refine r_aload_n (pc := 5) (i := 0) dX12_readText_5 rfl 0 rfl ?_
  refine r_iconst (pc := 6) (v := 0) dX12_readText_6 (by decide +kernel) ?_
  obtain ⟨M_2, hM_2, h⟩ := ob h
  refine r_putI (pc := 7) fg_12_113 rfl oa0 hM_2 rfl rfl dX12_readText_7 ?_
  refine r_aload_n (pc := 10) (i := 0) dX12_readText_10 rfl 0 rfl ?_
  refine r_iconst (pc := 11) (v := 0) dX12_readText_11 (by decide +kernel) ?_
  obtain ⟨M_3, hM_3, h⟩ := ob h
  refine r_putI (pc := 12) fg_12_139 rfl oa0 hM_3 rfl rfl dX12_readText_12 ?_
  refine r_aload_n (pc := 15) (i := 0) dX12_readText_15 rfl 0 rfl ?_
  obtain ⟨q_4, hq_4, h⟩ := ob h
  refine r_cV (pc := 16) (Y := xX12_token) (As := []) (rest := []) (v := none) (st1 := []) ck_X12_readText_157 (kX12_token a0 M_3 oa0 hq_4) oa0 rfl rfl rfl rfl (Nat.le_of_ble_eq_true rfl) ⟨rfl, rfl⟩ rfl dX12_readText_16 ?_
  refine r_aload_n (pc := 19) (i := 0) dX12_readText_19 rfl 0 rfl ?_
  refine r_iload_n (pc := 20) (i := 1) dX12_readText_20 rfl 1 rfl ?_
  obtain ⟨q_5, hq_5, h⟩ := ob h
  refine r_cV (pc := 21) (Y := xX12_lines) (As := [.int (eI x1)]) (rest := []) (v := (some (.int (eI (q_5.1))))) (st1 := [.int (eI (q_5.1))]) ck_X12_readText_290 (kX12_lines a0 x1 q_4 oa0 hq_5) oa0 rfl rfl rfl rfl (Nat.le_of_ble_eq_true rfl) ⟨rfl, rfl⟩ rfl dX12_readText_21 ?_
  refine r_istore_n (pc := 24) (i := 2) (lv' := [(2, .int (eI (q_5.1))), (0, .ref (gA G a0)), (1, .int (eI x1))]) dX12_readText_24 rfl (Nat.le_of_ble_eq_true rfl) rfl ?_
  refine r_iload_n (pc := 25) (i := 2) dX12_readText_25 rfl 0 rfl ?_
  refine r_if_eq (pc := 26) (tgt := 87) dX12_readText_26 (by decide) rfl (fun c_6 => ?_) (fun c_6 => ?_)
  · replace h := (if_pos c_6).symm.trans h
    refine r_sub (lv' := [(0, .ref (gA G a0)), (2, .int (eI (q_5.1)))]) [1, 0] rfl ?_
    exact bX12_readText_b87 a0 x1 oa0 _ _ h
  · replace h := (if_neg c_6).symm.trans h
    refine r_iload_n (pc := 29) (i := 1) dX12_readText_29 rfl 2 rfl ?_
    refine r_if_ne (pc := 30) (tgt := 87) dX12_readText_30 (by decide) rfl (fun c_7 => ?_) (fun c_7 => ?_)
    · replace h := (if_neg c_7).symm.trans h
      refine r_sub (lv' := [(0, .ref (gA G a0)), (2, .int (eI (q_5.1)))]) [1, 0] rfl ?_
      exact bX12_readText_b87 a0 x1 oa0 _ _ h
    · replace h := (if_pos c_7).symm.trans h
      refine r_aload_n (pc := 33) (i := 0) dX12_readText_33 rfl 1 rfl ?_
      refine r_getI (pc := 34) fg_12_139 rfl oa0 dX12_readText_34 ?_
      refine r_if_ne (pc := 37) (tgt := 87) dX12_readText_37 (by decide) rfl (fun c_8 => ?_) (fun c_8 => ?_)
      · replace h := (if_neg c_8).symm.trans h
        refine r_sub (lv' := [(0, .ref (gA G a0)), (2, .int (eI (q_5.1)))]) [1, 0] rfl ?_
        exact bX12_readText_b87 a0 x1 oa0 _ _ h
      · replace h := (if_pos c_8).symm.trans h
        refine r_aload_n (pc := 40) (i := 0) dX12_readText_40 rfl 1 rfl ?_
        refine r_getI (pc := 41) fg_12_164 rfl oa0 dX12_readText_41 ?_
        refine r_aload_n (pc := 44) (i := 0) dX12_readText_44 rfl 1 rfl ?_
        have o_9 := (wt_12_20 oa0).2
        refine r_getR (pc := 45) fg_12_41 rfl oa0 (wt_12_20 oa0).1 dX12_readText_45 ?_
        refine r_iconst (pc := 48) (v := 1) dX12_readText_48 (by decide +kernel) ?_
        refine r_iald (pc := 49) o_9 wl_1 ⟨by decide, by decide⟩ rfl dX12_readText_49 ?_
        refine r_icmp_ge (pc := 50) (tgt := 78) dX12_readText_50 (by decide) rfl rfl (fun c_10 => ?_) (fun c_10 => ?_)
        · replace h := (if_pos c_10).symm.trans h
          refine r_sub (lv' := [(0, .ref (gA G a0)), (2, .int (eI (q_5.1)))]) [1, 0] rfl ?_
          exact bX12_readText_b78 a0 x1 oa0 _ _ h
        · replace h := (if_neg c_10).symm.trans h
          refine r_aload_n (pc := 53) (i := 0) dX12_readText_53 rfl 1 rfl ?_
          have o_11 := (wt_12_20 oa0).2
          refine r_getR (pc := 54) fg_12_41 rfl oa0 (wt_12_20 oa0).1 dX12_readText_54 ?_
          refine r_iconst (pc := 57) (v := 0) dX12_readText_57 (by decide +kernel) ?_
          refine r_iald (pc := 58) o_11 wl_0 ⟨by decide, by decide⟩ rfl dX12_readText_58 ?_
          refine r_if_eq (pc := 59) (tgt := 78) dX12_readText_59 (by decide) rfl (fun c_12 => ?_) (fun c_12 => ?_)
          · replace h := (if_pos c_12).symm.trans h
            refine r_sub (lv' := [(0, .ref (gA G a0)), (2, .int (eI (q_5.1)))]) [1, 0] rfl ?_
            exact bX12_readText_b78 a0 x1 oa0 _ _ h
          · replace h := (if_neg c_12).symm.trans h
            refine r_aload_n (pc := 62) (i := 0) dX12_readText_62 rfl 1 rfl ?_
            have o_13 := (wt_12_20 oa0).2
            refine r_getR (pc := 63) fg_12_41 rfl oa0 (wt_12_20 oa0).1 dX12_readText_63 ?_
            refine r_iconst (pc := 66) (v := 1) dX12_readText_66 (by decide +kernel) ?_
            refine r_iald (pc := 67) o_13 wl_1 ⟨by decide, by decide⟩ rfl dX12_readText_67 ?_
            refine r_if_eq (pc := 68) (tgt := 78) dX12_readText_68 (by decide) rfl (fun c_14 => ?_) (fun c_14 => ?_)
            · replace h := (if_pos c_14).symm.trans h
              refine r_sub (lv' := [(0, .ref (gA G a0)), (2, .int (eI (q_5.1)))]) [1, 0] rfl ?_
              exact bX12_readText_b78 a0 x1 oa0 _ _ h
            · replace h := (if_neg c_14).symm.trans h
              refine r_aload_n (pc := 71) (i := 0) dX12_readText_71 rfl 1 rfl ?_
              obtain ⟨q_15, hq_15, h⟩ := ob h
              refine r_cV (pc := 72) (Y := xX12_isStill) (As := []) (rest := []) (v := (some (.int (eI q_15)))) (st1 := [.int (eI q_15)]) ck_X12_readText_294 (kX12_isStill a0 q_5.2 oa0 hq_15) oa0 rfl rfl rfl rfl (Nat.le_of_ble_eq_true rfl) ⟨rfl, rfl⟩ rfl dX12_readText_72 ?_
              refine r_if_eq (pc := 75) (tgt := 87) dX12_readText_75 (by decide) rfl (fun c_16 => ?_) (fun c_16 => ?_)
              · replace h := (if_pos c_16).symm.trans h
                refine r_sub (lv' := [(0, .ref (gA G a0)), (2, .int (eI (q_5.1)))]) [1, 0] rfl ?_
                exact bX12_readText_b87 a0 x1 oa0 _ _ h
              · replace h := (if_neg c_16).symm.trans h
                refine r_sub (lv' := [(0, .ref (gA G a0)), (2, .int (eI (q_5.1)))]) [1, 0] rfl ?_
                exact bX12_readText_b78 a0 x1 oa0 _ _ h
theorem kX12_readText {G : GG} (a0 : Nat) (x1 : Int) (M : MM) {res : (Int × MM)} (oa0 : OB L0 a0 12) (h : sX12_readText a0 x1 M = some res) : CO G xX12_readText [.ref (gA G a0), .int (eI x1)] L0 M (some (.int (eI res.1))) L0 res.2 := CO_of (by decide +kernel) (Nat.le_of_ble_eq_true rfl) (bX12_readText_b0 a0 x1 oa0 M h)
abbrev xX12_store : XX := (yX12_store, cX12_store, 5, none, 0, 0, 0, 0)
def sX12_store_b3 (a0 : Nat) (b1 : Nat) (x2 : Int) (x3 : Int)  : Nat → Int → MM → Option MM
  | 0, _, _ => none
  | n + 1, x4, M => (if wI x2 ≤ wI x4 then (some (M)) else (if 0 ≤ wI x4 ∧ wI x4 < 132 then (if 0 ≤ wI ((x2 * x3) + x4) ∧ wI ((x2 * x3) + x4) < (ln b1) then ((some (mU M b1 (wI ((x2 * x3) + x4)).toNat (M (gR a0 20) (wI x4).toNat))).bind fun M_5 => ((some (x4 + 1)).bind fun v_6 => (sX12_store_b3 a0 b1 x2 x3 n v_6 M_5))) else none) else none))
def sX12_store_b0 (a0 : Nat) (b1 : Nat) (x2 : Int) (x3 : Int)   (M : MM) : Option MM := (sX12_store_b3 a0 b1 x2 x3 FU 0 M)
def sX12_store (a0 : Nat) (b1 : Nat) (x2 : Int) (x3 : Int) (M : MM) : Option MM := sX12_store_b0 a0 b1 x2 x3 M
set_option maxHeartbeats 4000000 in
set_option maxRecDepth 100000 in
theorem bX12_store_b3 {G : GG} (a0 : Nat) (b1 : Nat) (x2 : Int) (x3 : Int) (oa0 : OB L0 a0 12) (ob1 : AR L0 b1 1 (ln b1)) {res : MM} : ∀ (n : Nat) (x4 : Int) (M : MM)  (h : sX12_store_b3 a0 b1 x2 x3 n x4 M = some res), VV G xX12_store (ZM G xX12_store (none) L0 res) L0 M 0 0 3 [(0, .ref (gA G a0)), (1, .ref (gA G b1)), (2, .int (eI x2)), (3, .int (eI x3)), (4, .int (eI x4))] [] := by
  intro n
  induction n with
  | zero =>
    intro x4 M h
    rw [sX12_store_b3] at h
    cases h
  | succ n ih =>
    intro x4 M h
    rw [sX12_store_b3] at h
    refine r_iload (pc := 3) dX12_store_3 4 rfl ?_
    refine r_iload_n (pc := 5) (i := 2) dX12_store_5 rfl 2 rfl ?_
    refine r_icmp_ge (pc := 6) (tgt := 30) dX12_store_6 (by decide) rfl rfl (fun c_1 => ?_) (fun c_1 => ?_)
    · replace h := (if_pos c_1).symm.trans h
      cases h
      exact r_vret (pc := 30) rfl (Nat.le_refl 0) (Nat.le_refl 0) dX12_store_30
    · replace h := (if_neg c_1).symm.trans h
      refine r_aload_n (pc := 9) (i := 1) dX12_store_9 rfl 1 rfl ?_
      refine r_iload_n (pc := 10) (i := 2) dX12_store_10 rfl 2 rfl ?_
      refine r_iload_n (pc := 11) (i := 3) dX12_store_11 rfl 3 rfl ?_
      refine r_imul (pc := 12) dX12_store_12 ?_
      refine r_iload (pc := 13) dX12_store_13 4 rfl ?_
      refine r_iadd (pc := 15) dX12_store_15 ?_
      refine r_aload_n (pc := 16) (i := 0) dX12_store_16 rfl 0 rfl ?_
      have o_2 := (wt_12_20 oa0).2
      refine r_getR (pc := 17) fg_12_41 rfl oa0 (wt_12_20 oa0).1 dX12_store_17 ?_
      refine r_iload (pc := 20) dX12_store_20 4 rfl ?_
      obtain ⟨c_3, h⟩ := og h
      refine r_iald (pc := 22) o_2 rfl c_3 rfl dX12_store_22 ?_
      obtain ⟨c_4, h⟩ := og h
      obtain ⟨M_5, hM_5, h⟩ := ob h
      refine r_iast (pc := 23) ob1 rfl c_4 rfl hM_5 dX12_store_23 ?_
      obtain ⟨v_6, hv_6, h⟩ := ob h
      refine r_iinc (pc := 24) (y := v_6) (lv' := [(4, .int (eI v_6)), (0, .ref (gA G a0)), (1, .ref (gA G b1)), (2, .int (eI x2)), (3, .int (eI x3))]) dX12_store_24 4 rfl (Option.some.inj hv_6) (Nat.le_of_ble_eq_true rfl) rfl ?_
      refine r_goto (pc := 27) (tgt := 3) dX12_store_27 (by decide) ?_
      refine r_sub (lv' := [(0, .ref (gA G a0)), (1, .ref (gA G b1)), (2, .int (eI x2)), (3, .int (eI x3)), (4, .int (eI v_6))]) [1, 2, 3, 4, 0] rfl ?_
      exact ih _ _ h
set_option maxHeartbeats 4000000 in
set_option maxRecDepth 100000 in
theorem bX12_store_b0 {G : GG} (a0 : Nat) (b1 : Nat) (x2 : Int) (x3 : Int) (oa0 : OB L0 a0 12) (ob1 : AR L0 b1 1 (ln b1))  (M : MM) {res : MM}  (h : sX12_store_b0 a0 b1 x2 x3 M = some res) : VV G xX12_store (ZM G xX12_store (none) L0 res) L0 M 0 0 0 [(0, .ref (gA G a0)), (1, .ref (gA G b1)), (2, .int (eI x2)), (3, .int (eI x3))] [] := by
  unfold sX12_store_b0 at h
  refine r_iconst (pc := 0) (v := 0) dX12_store_0 (by decide +kernel) ?_
  refine r_istore (pc := 1) (lv' := [(4, .int (eI 0)), (0, .ref (gA G a0)), (1, .ref (gA G b1)), (2, .int (eI x2)), (3, .int (eI x3))]) dX12_store_1 (Nat.le_of_ble_eq_true rfl) rfl ?_
  refine r_sub (lv' := [(0, .ref (gA G a0)), (1, .ref (gA G b1)), (2, .int (eI x2)), (3, .int (eI x3)), (4, .int (eI 0))]) [1, 2, 3, 4, 0] rfl ?_
  exact bX12_store_b3 a0 b1 x2 x3 oa0 ob1 _ _ _ h
theorem kX12_store {G : GG} (a0 : Nat) (b1 : Nat) (x2 : Int) (x3 : Int) (M : MM) {res : MM} (oa0 : OB L0 a0 12) (ob1 : AR L0 b1 1 (ln b1)) (h : sX12_store a0 b1 x2 x3 M = some res) : CO G xX12_store [.ref (gA G a0), .ref (gA G b1), .int (eI x2), .int (eI x3)] L0 M (none) L0 res := CO_of (by decide +kernel) (Nat.le_of_ble_eq_true rfl) (bX12_store_b0 a0 b1 x2 x3 oa0 ob1 M h)
abbrev xX12_storeAll : XX := (yX12_storeAll, cX12_storeAll, 3, none, 1, 24, 0, 0)
theorem ck_X12_storeAll_297 : CKV xX12_storeAll 297 xX12_store 3 := ⟨⟨tb_i 1768 (by decide +kernel) (by decide +kernel), tb_i 152 (by decide +kernel) (by decide +kernel), tb_i 1771 (by decide +kernel) (by decide +kernel), ⟨by decide +kernel, by decide +kernel, by decide +kernel⟩, by decide, by decide⟩, tb_i 1770 (by decide +kernel) (by decide +kernel), tb_i 71 (by decide +kernel) (by decide +kernel)⟩
def sX12_storeAll_b0 (a0 : Nat) (x1 : Int) (x2 : Int)   (M : MM) : Option MM := (if wI x1 = 0 then ((sX12_store a0 (gR a0 6) 132 x2 M).bind fun q_3 => (some (q_3))) else (if wI x1 = 1 then ((sX12_store a0 (gR a0 7) 121 x2 M).bind fun q_6 => (some (q_6))) else (if wI x1 = 2 then ((sX12_store a0 (gR a0 8) 33 x2 M).bind fun q_9 => (some (q_9))) else (if wI x1 = 3 then ((sX12_store a0 (gR a0 9) 51 x2 M).bind fun q_12 => (some (q_12))) else ((sX12_store a0 (gR a0 10) 97 x2 M).bind fun q_14 => (some (q_14)))))))
def sX12_storeAll (a0 : Nat) (x1 : Int) (x2 : Int) (M : MM) : Option MM := sX12_storeAll_b0 a0 x1 x2 M
set_option maxHeartbeats 4000000 in
set_option maxRecDepth 100000 in
theorem bX12_storeAll_b0 {G : GG} (a0 : Nat) (x1 : Int) (x2 : Int) (oa0 : OB L0 a0 12)  (M : MM) {res : MM}  (h : sX12_storeAll_b0 a0 x1 x2 M = some res) : VV G xX12_storeAll (ZM G xX12_storeAll (none) L0 res) L0 M 0 0 0 [(0, .ref (gA G a0)), (1, .int (eI x1)), (2, .int (eI x2))] [] := by
  unfold sX12_storeAll_b0 at h
  refine r_iload_n (pc := 0) (i := 1) dX12_storeAll_0 rfl 1 rfl ?_
  by_cases c_1 : wI x1 = 0
  · replace h := (if_pos c_1).symm.trans h
    refine r_tsw (pc := 1) (tgt := 32) (k' := 0) (rfl.trans c_1) dX12_storeAll_1 (by decide) rfl (by decide) ?_
    refine r_aload_n (pc := 32) (i := 0) dX12_storeAll_32 rfl 0 rfl ?_
    refine r_aload_n (pc := 33) (i := 0) dX12_storeAll_33 rfl 0 rfl ?_
    have o_2 := (wt_12_6 oa0).2
    refine r_getR (pc := 34) fg_12_26 rfl oa0 (wt_12_6 oa0).1 dX12_storeAll_34 ?_
    refine r_sipush (pc := 37) (v := 132) dX12_storeAll_37 (by decide +kernel) ?_
    refine r_iload_n (pc := 40) (i := 2) dX12_storeAll_40 rfl 2 rfl ?_
    obtain ⟨q_3, hq_3, h⟩ := ob h
    refine r_cV (pc := 41) (Y := xX12_store) (As := [.ref (gA G (gR a0 6)), .int (eI 132), .int (eI x2)]) (rest := []) (v := none) (st1 := []) ck_X12_storeAll_297 (kX12_store a0 (gR a0 6) 132 x2 M oa0 (ar_ln o_2) hq_3) oa0 rfl rfl rfl rfl (Nat.le_of_ble_eq_true rfl) ⟨rfl, rfl⟩ rfl dX12_storeAll_41 ?_
    cases h
    exact r_vret (pc := 44) rfl (Nat.le_refl 0) (Nat.le_refl 0) dX12_storeAll_44
  · replace h := (if_neg c_1).symm.trans h
    by_cases c_4 : wI x1 = 1
    · replace h := (if_pos c_4).symm.trans h
      refine r_tsw (pc := 1) (tgt := 45) (k' := 1) (rfl.trans c_4) dX12_storeAll_1 (by decide) rfl (by decide) ?_
      refine r_aload_n (pc := 45) (i := 0) dX12_storeAll_45 rfl 0 rfl ?_
      refine r_aload_n (pc := 46) (i := 0) dX12_storeAll_46 rfl 0 rfl ?_
      have o_5 := (wt_12_7 oa0).2
      refine r_getR (pc := 47) fg_12_29 rfl oa0 (wt_12_7 oa0).1 dX12_storeAll_47 ?_
      refine r_bipush (pc := 50) (v := 121) dX12_storeAll_50 (by decide +kernel) ?_
      refine r_iload_n (pc := 52) (i := 2) dX12_storeAll_52 rfl 2 rfl ?_
      obtain ⟨q_6, hq_6, h⟩ := ob h
      refine r_cV (pc := 53) (Y := xX12_store) (As := [.ref (gA G (gR a0 7)), .int (eI 121), .int (eI x2)]) (rest := []) (v := none) (st1 := []) ck_X12_storeAll_297 (kX12_store a0 (gR a0 7) 121 x2 M oa0 (ar_ln o_5) hq_6) oa0 rfl rfl rfl rfl (Nat.le_of_ble_eq_true rfl) ⟨rfl, rfl⟩ rfl dX12_storeAll_53 ?_
      cases h
      exact r_vret (pc := 56) rfl (Nat.le_refl 0) (Nat.le_refl 0) dX12_storeAll_56
    · replace h := (if_neg c_4).symm.trans h
      by_cases c_7 : wI x1 = 2
      · replace h := (if_pos c_7).symm.trans h
        refine r_tsw (pc := 1) (tgt := 57) (k' := 2) (rfl.trans c_7) dX12_storeAll_1 (by decide) rfl (by decide) ?_
        refine r_aload_n (pc := 57) (i := 0) dX12_storeAll_57 rfl 0 rfl ?_
        refine r_aload_n (pc := 58) (i := 0) dX12_storeAll_58 rfl 0 rfl ?_
        have o_8 := (wt_12_8 oa0).2
        refine r_getR (pc := 59) fg_12_32 rfl oa0 (wt_12_8 oa0).1 dX12_storeAll_59 ?_
        refine r_bipush (pc := 62) (v := 33) dX12_storeAll_62 (by decide +kernel) ?_
        refine r_iload_n (pc := 64) (i := 2) dX12_storeAll_64 rfl 2 rfl ?_
        obtain ⟨q_9, hq_9, h⟩ := ob h
        refine r_cV (pc := 65) (Y := xX12_store) (As := [.ref (gA G (gR a0 8)), .int (eI 33), .int (eI x2)]) (rest := []) (v := none) (st1 := []) ck_X12_storeAll_297 (kX12_store a0 (gR a0 8) 33 x2 M oa0 (ar_ln o_8) hq_9) oa0 rfl rfl rfl rfl (Nat.le_of_ble_eq_true rfl) ⟨rfl, rfl⟩ rfl dX12_storeAll_65 ?_
        cases h
        exact r_vret (pc := 68) rfl (Nat.le_refl 0) (Nat.le_refl 0) dX12_storeAll_68
      · replace h := (if_neg c_7).symm.trans h
        by_cases c_10 : wI x1 = 3
        · replace h := (if_pos c_10).symm.trans h
          refine r_tsw (pc := 1) (tgt := 69) (k' := 3) (rfl.trans c_10) dX12_storeAll_1 (by decide) rfl (by decide) ?_
          refine r_aload_n (pc := 69) (i := 0) dX12_storeAll_69 rfl 0 rfl ?_
          refine r_aload_n (pc := 70) (i := 0) dX12_storeAll_70 rfl 0 rfl ?_
          have o_11 := (wt_12_9 oa0).2
          refine r_getR (pc := 71) fg_12_35 rfl oa0 (wt_12_9 oa0).1 dX12_storeAll_71 ?_
          refine r_bipush (pc := 74) (v := 51) dX12_storeAll_74 (by decide +kernel) ?_
          refine r_iload_n (pc := 76) (i := 2) dX12_storeAll_76 rfl 2 rfl ?_
          obtain ⟨q_12, hq_12, h⟩ := ob h
          refine r_cV (pc := 77) (Y := xX12_store) (As := [.ref (gA G (gR a0 9)), .int (eI 51), .int (eI x2)]) (rest := []) (v := none) (st1 := []) ck_X12_storeAll_297 (kX12_store a0 (gR a0 9) 51 x2 M oa0 (ar_ln o_11) hq_12) oa0 rfl rfl rfl rfl (Nat.le_of_ble_eq_true rfl) ⟨rfl, rfl⟩ rfl dX12_storeAll_77 ?_
          cases h
          exact r_vret (pc := 80) rfl (Nat.le_refl 0) (Nat.le_refl 0) dX12_storeAll_80
        · replace h := (if_neg c_10).symm.trans h
          refine r_tswD (pc := 1) (tgt := 81) rfl dX12_storeAll_1 (by omega) (by decide) ?_
          refine r_aload_n (pc := 81) (i := 0) dX12_storeAll_81 rfl 0 rfl ?_
          refine r_aload_n (pc := 82) (i := 0) dX12_storeAll_82 rfl 0 rfl ?_
          have o_13 := (wt_12_10 oa0).2
          refine r_getR (pc := 83) fg_12_38 rfl oa0 (wt_12_10 oa0).1 dX12_storeAll_83 ?_
          refine r_bipush (pc := 86) (v := 97) dX12_storeAll_86 (by decide +kernel) ?_
          refine r_iload_n (pc := 88) (i := 2) dX12_storeAll_88 rfl 2 rfl ?_
          obtain ⟨q_14, hq_14, h⟩ := ob h
          refine r_cV (pc := 89) (Y := xX12_store) (As := [.ref (gA G (gR a0 10)), .int (eI 97), .int (eI x2)]) (rest := []) (v := none) (st1 := []) ck_X12_storeAll_297 (kX12_store a0 (gR a0 10) 97 x2 M oa0 (ar_ln o_13) hq_14) oa0 rfl rfl rfl rfl (Nat.le_of_ble_eq_true rfl) ⟨rfl, rfl⟩ rfl dX12_storeAll_89 ?_
          cases h
          exact r_vret (pc := 92) rfl (Nat.le_refl 0) (Nat.le_refl 0) dX12_storeAll_92
theorem kX12_storeAll {G : GG} (a0 : Nat) (x1 : Int) (x2 : Int) (M : MM) {res : MM} (oa0 : OB L0 a0 12) (h : sX12_storeAll a0 x1 x2 M = some res) : CO G xX12_storeAll [.ref (gA G a0), .int (eI x1), .int (eI x2)] L0 M (none) L0 res := CO_of (by decide +kernel) (Nat.le_of_ble_eq_true rfl) (bX12_storeAll_b0 a0 x1 x2 oa0 M h)
abbrev xX12_text : XX := (yX12_text, cX12_text, 4, (some .int), 9, 207, 0, 0)
theorem ck_X12_text_105 : CKS xX12_text 105 xX12_in 3 := ⟨⟨tb_i 1622 (by decide +kernel) (by decide +kernel), tb_i 152 (by decide +kernel) (by decide +kernel), tb_i 1624 (by decide +kernel) (by decide +kernel), ⟨by decide +kernel, by decide +kernel, by decide +kernel⟩, by decide, by decide⟩, tb_i 1623 (by decide +kernel) (by decide +kernel)⟩
theorem ck_X12_text_301 : CKV xX12_text 301 xX12_is 2 := ⟨⟨tb_i 1629 (by decide +kernel) (by decide +kernel), tb_i 152 (by decide +kernel) (by decide +kernel), tb_i 1632 (by decide +kernel) (by decide +kernel), ⟨by decide +kernel, by decide +kernel, by decide +kernel⟩, by decide, by decide⟩, tb_i 1631 (by decide +kernel) (by decide +kernel), tb_i 47 (by decide +kernel) (by decide +kernel)⟩
theorem ck_X12_text_304 : CKV xX12_text 304 xX12_readText 1 := ⟨⟨tb_i 1633 (by decide +kernel) (by decide +kernel), tb_i 152 (by decide +kernel) (by decide +kernel), tb_i 1636 (by decide +kernel) (by decide +kernel), ⟨by decide +kernel, by decide +kernel, by decide +kernel⟩, by decide, by decide⟩, tb_i 1635 (by decide +kernel) (by decide +kernel), tb_i 48 (by decide +kernel) (by decide +kernel)⟩
theorem ck_X12_text_307 : CKV xX12_text 307 xX12_storeAll 2 := ⟨⟨tb_i 1764 (by decide +kernel) (by decide +kernel), tb_i 152 (by decide +kernel) (by decide +kernel), tb_i 1767 (by decide +kernel) (by decide +kernel), ⟨by decide +kernel, by decide +kernel, by decide +kernel⟩, by decide, by decide⟩, tb_i 1766 (by decide +kernel) (by decide +kernel), tb_i 70 (by decide +kernel) (by decide +kernel)⟩
def sX12_text_b118 (a0 : Nat) (x1 : Int) (x2 : Int)  (x3 : Int) (b90 : Nat) (x91 : Int) (x92 : Int) (x93 : Int) (M : MM) : Option (Int × MM) := (if 0 ≤ wI x91 ∧ wI x91 < 20 then ((some (mU M b90 (wI x91).toNat (x92 + x93))).bind fun M_2 => ((sX12_storeAll a0 x1 x3 M_2).bind fun q_3 => (some ((x3, q_3))))) else none)
def sX12_text_b100 (a0 : Nat) (x1 : Int) (x2 : Int)  (x90 : Int) (M : MM) : Option (Int × MM) := (if 0 ≤ wI x1 ∧ wI x1 < 20 then (if wI x2 = (-1) then (sX12_text_b118 a0 x1 x2 x90 (gR a0 5) x1 (M (gR a0 5) (wI x1).toNat) 1 M) else (sX12_text_b118 a0 x1 x2 x90 (gR a0 5) x1 (M (gR a0 5) (wI x1).toNat) 0 M)) else none)
def sX12_text_b75 (a0 : Nat) (x1 : Int) (x2 : Int)   (M : MM) : Option (Int × MM) := ((sX12_readText a0 x1 M).bind fun q_1 => (if wI (q_1.1) = 0 then (some (((-1), q_1.2))) else (if wI x2 = (-1) then (if 0 ≤ wI x1 ∧ wI x1 < 20 then (sX12_text_b100 a0 x1 x2 (q_1.2 (gR a0 5) (wI x1).toNat) q_1.2) else none) else (sX12_text_b100 a0 x1 x2 x2 q_1.2))))
def sX12_text_b0 (a0 : Nat) (x1 : Int) (x2 : Int)   (M : MM) : Option (Int × MM) := ((some (mU M a0 0 0)).bind fun M_1 => ((some (mU M_1 a0 12 (M_1 (gR a0 2) 0))).bind fun M_3 => ((some (mU M_3 (gR a0 2) 0 0)).bind fun M_5 => ((some (mU M_5 (gR a0 3) 0 0)).bind fun M_7 => ((some (mU M_7 (gR a0 4) 0 (-1))).bind fun M_9 => (if wI (sX12_in x1 0 4) = 0 then (some (((-2), M_9))) else (if wI x2 = (-1) then (if 0 ≤ wI x1 ∧ wI x1 < 20 then (if wI (M_9 (gR a0 5) (wI x1).toNat) = 2 then (some (((-2), M_9))) else (sX12_text_b75 a0 x1 x2 M_9)) else none) else ((sX12_is a0 x1 x2 M_9).bind fun q_12 => (if wI q_12 = 0 then (some (((-2), M_9))) else (sX12_text_b75 a0 x1 x2 M_9))))))))))
def sX12_text (a0 : Nat) (x1 : Int) (x2 : Int) (M : MM) : Option (Int × MM) := sX12_text_b0 a0 x1 x2 M
set_option maxHeartbeats 4000000 in
set_option maxRecDepth 100000 in
theorem bX12_text_b118 {G : GG} (a0 : Nat) (x1 : Int) (x2 : Int) (oa0 : OB L0 a0 12) (x3 : Int) (b90 : Nat) (x91 : Int) (x92 : Int) (x93 : Int) (M : MM) {res : (Int × MM)} (ob90 : AR L0 b90 1 20) (h : sX12_text_b118 a0 x1 x2 x3 b90 x91 x92 x93 M = some res) : VV G xX12_text (ZM G xX12_text (some (.int (eI res.1))) L0 res.2) L0 M 0 0 118 [(0, .ref (gA G a0)), (1, .int (eI x1)), (3, .int (eI x3))] [.int (eI x93), .int (eI x92), .int (eI x91), .ref (gA G b90)] := by
  unfold sX12_text_b118 at h
  refine r_iadd (pc := 118) dX12_text_118 ?_
  obtain ⟨c_1, h⟩ := og h
  obtain ⟨M_2, hM_2, h⟩ := ob h
  refine r_iast (pc := 119) ob90 rfl c_1 rfl hM_2 dX12_text_119 ?_
  refine r_aload_n (pc := 120) (i := 0) dX12_text_120 rfl 0 rfl ?_
  refine r_iload_n (pc := 121) (i := 1) dX12_text_121 rfl 1 rfl ?_
  refine r_iload_n (pc := 122) (i := 3) dX12_text_122 rfl 2 rfl ?_
  obtain ⟨q_3, hq_3, h⟩ := ob h
  refine r_cV (pc := 123) (Y := xX12_storeAll) (As := [.int (eI x1), .int (eI x3)]) (rest := []) (v := none) (st1 := []) ck_X12_text_307 (kX12_storeAll a0 x1 x3 M_2 oa0 hq_3) oa0 rfl rfl rfl rfl (Nat.le_of_ble_eq_true rfl) ⟨rfl, rfl⟩ rfl dX12_text_123 ?_
  refine r_iload_n (pc := 126) (i := 3) dX12_text_126 rfl 2 rfl ?_
  cases h
  exact r_iret (pc := 127) rfl rfl (Nat.le_refl 0) (Nat.le_refl 0) dX12_text_127
set_option maxHeartbeats 4000000 in
set_option maxRecDepth 100000 in
theorem bX12_text_b100 {G : GG} (a0 : Nat) (x1 : Int) (x2 : Int) (oa0 : OB L0 a0 12) (x90 : Int) (M : MM) {res : (Int × MM)}  (h : sX12_text_b100 a0 x1 x2 x90 M = some res) : VV G xX12_text (ZM G xX12_text (some (.int (eI res.1))) L0 res.2) L0 M 0 0 100 [(0, .ref (gA G a0)), (1, .int (eI x1)), (2, .int (eI x2))] [.int (eI x90)] := by
  unfold sX12_text_b100 at h
  refine r_istore_n (pc := 100) (i := 3) (lv' := [(3, .int (eI x90)), (0, .ref (gA G a0)), (1, .int (eI x1)), (2, .int (eI x2))]) dX12_text_100 rfl (Nat.le_of_ble_eq_true rfl) rfl ?_
  refine r_aload_n (pc := 101) (i := 0) dX12_text_101 rfl 1 rfl ?_
  have o_1 := (wt_12_5 oa0).2
  refine r_getR (pc := 102) fg_12_23 rfl oa0 (wt_12_5 oa0).1 dX12_text_102 ?_
  refine r_iload_n (pc := 105) (i := 1) dX12_text_105 rfl 2 rfl ?_
  refine r_dup2 (pc := 106) dX12_text_106 rfl rfl ?_
  obtain ⟨c_2, h⟩ := og h
  refine r_iald (pc := 107) o_1 rfl c_2 rfl dX12_text_107 ?_
  refine r_iload_n (pc := 108) (i := 2) dX12_text_108 rfl 3 rfl ?_
  refine r_iconst (pc := 109) (v := (-1)) dX12_text_109 (by decide +kernel) ?_
  refine r_icmp_ne (pc := 110) (tgt := 117) dX12_text_110 (by decide) rfl wl_m1 (fun c_3 => ?_) (fun c_3 => ?_)
  · replace h := (if_neg c_3).symm.trans h
    refine r_iconst (pc := 117) (v := 0) dX12_text_117 (by decide +kernel) ?_
    refine r_sub (lv' := [(0, .ref (gA G a0)), (1, .int (eI x1)), (3, .int (eI x90))]) [1, 2, 0] rfl ?_
    exact bX12_text_b118 a0 x1 x2 oa0 _ _ _ _ _ _ o_1 h
  · replace h := (if_pos c_3).symm.trans h
    refine r_iconst (pc := 113) (v := 1) dX12_text_113 (by decide +kernel) ?_
    refine r_goto (pc := 114) (tgt := 118) dX12_text_114 (by decide) ?_
    refine r_sub (lv' := [(0, .ref (gA G a0)), (1, .int (eI x1)), (3, .int (eI x90))]) [1, 2, 0] rfl ?_
    exact bX12_text_b118 a0 x1 x2 oa0 _ _ _ _ _ _ o_1 h
set_option maxHeartbeats 4000000 in
set_option maxRecDepth 100000 in
theorem bX12_text_b75 {G : GG} (a0 : Nat) (x1 : Int) (x2 : Int) (oa0 : OB L0 a0 12)  (M : MM) {res : (Int × MM)}  (h : sX12_text_b75 a0 x1 x2 M = some res) : VV G xX12_text (ZM G xX12_text (some (.int (eI res.1))) L0 res.2) L0 M 0 0 75 [(0, .ref (gA G a0)), (1, .int (eI x1)), (2, .int (eI x2))] [] := by
  unfold sX12_text_b75 at h
  refine r_aload_n (pc := 75) (i := 0) dX12_text_75 rfl 0 rfl ?_
  refine r_iload_n (pc := 76) (i := 1) dX12_text_76 rfl 1 rfl ?_
  obtain ⟨q_1, hq_1, h⟩ := ob h
  refine r_cV (pc := 77) (Y := xX12_readText) (As := [.int (eI x1)]) (rest := []) (v := (some (.int (eI (q_1.1))))) (st1 := [.int (eI (q_1.1))]) ck_X12_text_304 (kX12_readText a0 x1 M oa0 hq_1) oa0 rfl rfl rfl rfl (Nat.le_of_ble_eq_true rfl) ⟨rfl, rfl⟩ rfl dX12_text_77 ?_
  refine r_if_ne (pc := 80) (tgt := 85) dX12_text_80 (by decide) rfl (fun c_2 => ?_) (fun c_2 => ?_)
  · replace h := (if_neg c_2).symm.trans h
    refine r_iload_n (pc := 85) (i := 2) dX12_text_85 rfl 2 rfl ?_
    refine r_iconst (pc := 86) (v := (-1)) dX12_text_86 (by decide +kernel) ?_
    refine r_icmp_ne (pc := 87) (tgt := 99) dX12_text_87 (by decide) rfl wl_m1 (fun c_3 => ?_) (fun c_3 => ?_)
    · replace h := (if_neg c_3).symm.trans h
      refine r_iload_n (pc := 99) (i := 2) dX12_text_99 rfl 2 rfl ?_
      refine r_sub (lv' := [(0, .ref (gA G a0)), (1, .int (eI x1)), (2, .int (eI x2))]) [0, 1, 2] rfl ?_
      exact bX12_text_b100 a0 x1 x2 oa0 _ _ h
    · replace h := (if_pos c_3).symm.trans h
      refine r_aload_n (pc := 90) (i := 0) dX12_text_90 rfl 0 rfl ?_
      have o_4 := (wt_12_5 oa0).2
      refine r_getR (pc := 91) fg_12_23 rfl oa0 (wt_12_5 oa0).1 dX12_text_91 ?_
      refine r_iload_n (pc := 94) (i := 1) dX12_text_94 rfl 1 rfl ?_
      obtain ⟨c_5, h⟩ := og h
      refine r_iald (pc := 95) o_4 rfl c_5 rfl dX12_text_95 ?_
      refine r_goto (pc := 96) (tgt := 100) dX12_text_96 (by decide) ?_
      refine r_sub (lv' := [(0, .ref (gA G a0)), (1, .int (eI x1)), (2, .int (eI x2))]) [0, 1, 2] rfl ?_
      exact bX12_text_b100 a0 x1 x2 oa0 _ _ h
  · replace h := (if_pos c_2).symm.trans h
    refine r_iconst (pc := 83) (v := (-1)) dX12_text_83 (by decide +kernel) ?_
    cases h
    exact r_iret (pc := 84) rfl rfl (Nat.le_refl 0) (Nat.le_refl 0) dX12_text_84
set_option maxHeartbeats 4000000 in
set_option maxRecDepth 100000 in
theorem bX12_text_b0 {G : GG} (a0 : Nat) (x1 : Int) (x2 : Int) (oa0 : OB L0 a0 12)  (M : MM) {res : (Int × MM)}  (h : sX12_text_b0 a0 x1 x2 M = some res) : VV G xX12_text (ZM G xX12_text (some (.int (eI res.1))) L0 res.2) L0 M 0 0 0 [(0, .ref (gA G a0)), (1, .int (eI x1)), (2, .int (eI x2))] [] := by
  unfold sX12_text_b0 at h
  refine r_aload_n (pc := 0) (i := 0) dX12_text_0 rfl 0 rfl ?_
  refine r_iconst (pc := 1) (v := 0) dX12_text_1 (by decide +kernel) ?_
  obtain ⟨M_1, hM_1, h⟩ := ob h
  refine r_putI (pc := 2) fg_12_97 rfl oa0 hM_1 rfl rfl dX12_text_2 ?_
  refine r_aload_n (pc := 5) (i := 0) dX12_text_5 rfl 0 rfl ?_
  refine r_aload_n (pc := 6) (i := 0) dX12_text_6 rfl 0 rfl ?_
  have o_2 := (wt_12_2 oa0).2
  refine r_getR (pc := 7) fg_12_13 rfl oa0 (wt_12_2 oa0).1 dX12_text_7 ?_
  refine r_iconst (pc := 10) (v := 0) dX12_text_10 (by decide +kernel) ?_
  refine r_iald (pc := 11) o_2 wl_0 ⟨by decide, by decide⟩ rfl dX12_text_11 ?_
  obtain ⟨M_3, hM_3, h⟩ := ob h
  refine r_putI (pc := 12) fg_12_116 rfl oa0 hM_3 rfl rfl dX12_text_12 ?_
  refine r_aload_n (pc := 15) (i := 0) dX12_text_15 rfl 0 rfl ?_
  have o_4 := (wt_12_2 oa0).2
  refine r_getR (pc := 16) fg_12_13 rfl oa0 (wt_12_2 oa0).1 dX12_text_16 ?_
  refine r_iconst (pc := 19) (v := 0) dX12_text_19 (by decide +kernel) ?_
  refine r_iconst (pc := 20) (v := 0) dX12_text_20 (by decide +kernel) ?_
  obtain ⟨M_5, hM_5, h⟩ := ob h
  refine r_iast (pc := 21) o_4 wl_0 ⟨by decide, by decide⟩ rfl hM_5 dX12_text_21 ?_
  refine r_aload_n (pc := 22) (i := 0) dX12_text_22 rfl 0 rfl ?_
  have o_6 := (wt_12_3 oa0).2
  refine r_getR (pc := 23) fg_12_17 rfl oa0 (wt_12_3 oa0).1 dX12_text_23 ?_
  refine r_iconst (pc := 26) (v := 0) dX12_text_26 (by decide +kernel) ?_
  refine r_iconst (pc := 27) (v := 0) dX12_text_27 (by decide +kernel) ?_
  obtain ⟨M_7, hM_7, h⟩ := ob h
  refine r_iast (pc := 28) o_6 wl_0 ⟨by decide, by decide⟩ rfl hM_7 dX12_text_28 ?_
  refine r_aload_n (pc := 29) (i := 0) dX12_text_29 rfl 0 rfl ?_
  have o_8 := (wt_12_4 oa0).2
  refine r_getR (pc := 30) fg_12_20 rfl oa0 (wt_12_4 oa0).1 dX12_text_30 ?_
  refine r_iconst (pc := 33) (v := 0) dX12_text_33 (by decide +kernel) ?_
  refine r_iconst (pc := 34) (v := (-1)) dX12_text_34 (by decide +kernel) ?_
  obtain ⟨M_9, hM_9, h⟩ := ob h
  refine r_iast (pc := 35) o_8 wl_0 ⟨by decide, by decide⟩ rfl hM_9 dX12_text_35 ?_
  refine r_iload_n (pc := 36) (i := 1) dX12_text_36 rfl 1 rfl ?_
  refine r_iconst (pc := 37) (v := 0) dX12_text_37 (by decide +kernel) ?_
  refine r_iconst (pc := 38) (v := 4) dX12_text_38 (by decide +kernel) ?_
  refine r_cS (pc := 39) (Y := xX12_in) (As := [.int (eI x1), .int (eI 0), .int (eI 4)]) (rest := []) (v := (some (.int (eI (sX12_in x1 0 4))))) (st1 := [.int (eI (sX12_in x1 0 4))]) ck_X12_text_105 (kX12_in x1 0 4 M_9 ) rfl rfl (Nat.le_of_ble_eq_true rfl) ⟨rfl, rfl⟩ rfl dX12_text_39 ?_
  refine r_if_eq (pc := 42) (tgt := 72) dX12_text_42 (by decide) rfl (fun c_10 => ?_) (fun c_10 => ?_)
  · replace h := (if_pos c_10).symm.trans h
    refine r_bipush (pc := 72) (v := (-2)) dX12_text_72 (by decide +kernel) ?_
    cases h
    exact r_iret (pc := 74) rfl rfl (Nat.le_refl 0) (Nat.le_refl 0) dX12_text_74
  · replace h := (if_neg c_10).symm.trans h
    refine r_iload_n (pc := 45) (i := 2) dX12_text_45 rfl 2 rfl ?_
    refine r_iconst (pc := 46) (v := (-1)) dX12_text_46 (by decide +kernel) ?_
    refine r_icmp_ne (pc := 47) (tgt := 63) dX12_text_47 (by decide) rfl wl_m1 (fun c_11 => ?_) (fun c_11 => ?_)
    · replace h := (if_neg c_11).symm.trans h
      refine r_aload_n (pc := 63) (i := 0) dX12_text_63 rfl 0 rfl ?_
      refine r_iload_n (pc := 64) (i := 1) dX12_text_64 rfl 1 rfl ?_
      refine r_iload_n (pc := 65) (i := 2) dX12_text_65 rfl 2 rfl ?_
      obtain ⟨q_12, hq_12, h⟩ := ob h
      refine r_cV (pc := 66) (Y := xX12_is) (As := [.int (eI x1), .int (eI x2)]) (rest := []) (v := (some (.int (eI q_12)))) (st1 := [.int (eI q_12)]) ck_X12_text_301 (kX12_is a0 x1 x2 M_9 oa0 hq_12) oa0 rfl rfl rfl rfl (Nat.le_of_ble_eq_true rfl) ⟨rfl, rfl⟩ rfl dX12_text_66 ?_
      refine r_if_ne (pc := 69) (tgt := 75) dX12_text_69 (by decide) rfl (fun c_13 => ?_) (fun c_13 => ?_)
      · replace h := (if_neg c_13).symm.trans h
        refine r_sub (lv' := [(0, .ref (gA G a0)), (1, .int (eI x1)), (2, .int (eI x2))]) [0, 1, 2] rfl ?_
        exact bX12_text_b75 a0 x1 x2 oa0 _ h
      · replace h := (if_pos c_13).symm.trans h
        refine r_bipush (pc := 72) (v := (-2)) dX12_text_72 (by decide +kernel) ?_
        cases h
        exact r_iret (pc := 74) rfl rfl (Nat.le_refl 0) (Nat.le_refl 0) dX12_text_74
    · replace h := (if_pos c_11).symm.trans h
      refine r_aload_n (pc := 50) (i := 0) dX12_text_50 rfl 0 rfl ?_
      have o_14 := (wt_12_5 oa0).2
      refine r_getR (pc := 51) fg_12_23 rfl oa0 (wt_12_5 oa0).1 dX12_text_51 ?_
      refine r_iload_n (pc := 54) (i := 1) dX12_text_54 rfl 1 rfl ?_
      obtain ⟨c_15, h⟩ := og h
      refine r_iald (pc := 55) o_14 rfl c_15 rfl dX12_text_55 ?_
      refine r_iconst (pc := 56) (v := 2) dX12_text_56 (by decide +kernel) ?_
      refine r_icmp_ne (pc := 57) (tgt := 75) dX12_text_57 (by decide) rfl wl_2 (fun c_16 => ?_) (fun c_16 => ?_)
      · replace h := (if_neg c_16).symm.trans h
        refine r_sub (lv' := [(0, .ref (gA G a0)), (1, .int (eI x1)), (2, .int (eI x2))]) [0, 1, 2] rfl ?_
        exact bX12_text_b75 a0 x1 x2 oa0 _ h
      · replace h := (if_pos c_16).symm.trans h
        refine r_goto (pc := 60) (tgt := 72) dX12_text_60 (by decide) ?_
        refine r_bipush (pc := 72) (v := (-2)) dX12_text_72 (by decide +kernel) ?_
        cases h
        exact r_iret (pc := 74) rfl rfl (Nat.le_refl 0) (Nat.le_refl 0) dX12_text_74
theorem kX12_text {G : GG} (a0 : Nat) (x1 : Int) (x2 : Int) (M : MM) {res : (Int × MM)} (oa0 : OB L0 a0 12) (h : sX12_text a0 x1 x2 M = some res) : CO G xX12_text [.ref (gA G a0), .int (eI x1), .int (eI x2)] L0 M (some (.int (eI res.1))) L0 res.2 := CO_of (by decide +kernel) (Nat.le_of_ble_eq_true rfl) (bX12_text_b0 a0 x1 x2 oa0 M h)
