abbrev xX12_fault : XX := (yX12_fault, cX12_fault, 2, (some .int), 0, 0, 0, 0)
def sX12_fault_b0 (a0 : Nat) (x1 : Int)   (M : MM) : Option (Int × MM) := ((some (mU M a0 0 0)).bind fun M_1 => (if wI x1 = 0 then (some (((M_1 (gR a0 3) 0), M_1))) else (if wI x1 = 1 then (some (((M_1 (gR a0 4) 0), M_1))) else (some (((-1), M_1))))))
def sX12_fault (a0 : Nat) (x1 : Int) (M : MM) : Option (Int × MM) := sX12_fault_b0 a0 x1 M
set_option maxHeartbeats 4000000 in
set_option maxRecDepth 100000 in
theorem bX12_fault_b0 {G : GG} (a0 : Nat) (x1 : Int) (oa0 : OB L0 a0 12)  (M : MM) {res : (Int × MM)}  (h : sX12_fault_b0 a0 x1 M = some res) : VV G xX12_fault (ZM G xX12_fault (some (.int (eI res.1))) L0 res.2) L0 M 0 0 0 [(0, .ref (gA G a0)), (1, .int (eI x1))] [] := by
  unfold sX12_fault_b0 at h
  refine r_aload_n (pc := 0) (i := 0) dX12_fault_0 rfl 0 rfl ?_
  refine r_iconst (pc := 1) (v := 0) dX12_fault_1 (by decide +kernel) ?_
  obtain ⟨M_1, hM_1, h⟩ := ob h
  refine r_putI (pc := 2) fg_12_97 rfl oa0 hM_1 rfl rfl dX12_fault_2 ?_
  refine r_iload_n (pc := 5) (i := 1) dX12_fault_5 rfl 1 rfl ?_
  refine r_if_ne (pc := 6) (tgt := 18) dX12_fault_6 (by decide) rfl (fun c_2 => ?_) (fun c_2 => ?_)
  · replace h := (if_neg c_2).symm.trans h
    refine r_iload_n (pc := 18) (i := 1) dX12_fault_18 rfl 1 rfl ?_
    refine r_iconst (pc := 19) (v := 1) dX12_fault_19 (by decide +kernel) ?_
    refine r_icmp_ne (pc := 20) (tgt := 32) dX12_fault_20 (by decide) rfl wl_1 (fun c_3 => ?_) (fun c_3 => ?_)
    · replace h := (if_neg c_3).symm.trans h
      refine r_iconst (pc := 32) (v := (-1)) dX12_fault_32 (by decide +kernel) ?_
      cases h
      exact r_iret (pc := 33) rfl rfl (Nat.le_refl 0) (Nat.le_refl 0) dX12_fault_33
    · replace h := (if_pos c_3).symm.trans h
      refine r_aload_n (pc := 23) (i := 0) dX12_fault_23 rfl 0 rfl ?_
      have o_4 := (wt_12_4 oa0).2
      refine r_getR (pc := 24) fg_12_20 rfl oa0 (wt_12_4 oa0).1 dX12_fault_24 ?_
      refine r_iconst (pc := 27) (v := 0) dX12_fault_27 (by decide +kernel) ?_
      refine r_iald (pc := 28) o_4 wl_0 ⟨by decide, by decide⟩ rfl dX12_fault_28 ?_
      refine r_goto (pc := 29) (tgt := 33) dX12_fault_29 (by decide) ?_
      cases h
      exact r_iret (pc := 33) rfl rfl (Nat.le_refl 0) (Nat.le_refl 0) dX12_fault_33
  · replace h := (if_pos c_2).symm.trans h
    refine r_aload_n (pc := 9) (i := 0) dX12_fault_9 rfl 0 rfl ?_
    have o_5 := (wt_12_3 oa0).2
    refine r_getR (pc := 10) fg_12_17 rfl oa0 (wt_12_3 oa0).1 dX12_fault_10 ?_
    refine r_iconst (pc := 13) (v := 0) dX12_fault_13 (by decide +kernel) ?_
    refine r_iald (pc := 14) o_5 wl_0 ⟨by decide, by decide⟩ rfl dX12_fault_14 ?_
    refine r_goto (pc := 15) (tgt := 33) dX12_fault_15 (by decide) ?_
    cases h
    exact r_iret (pc := 33) rfl rfl (Nat.le_refl 0) (Nat.le_refl 0) dX12_fault_33
theorem kX12_fault {G : GG} (a0 : Nat) (x1 : Int) (M : MM) {res : (Int × MM)} (oa0 : OB L0 a0 12) (h : sX12_fault a0 x1 M = some res) : CO G xX12_fault [.ref (gA G a0), .int (eI x1)] L0 M (some (.int (eI res.1))) L0 res.2 := CO_of (by decide +kernel) (Nat.le_of_ble_eq_true rfl) (bX12_fault_b0 a0 x1 oa0 M h)
abbrev xX12_of : XX := (yX12_of, cX12_of, 2, (some .int), 0, 0, 0, 0)
def sX12_of_b0 (a0 : Nat) (x1 : Int) (M : MM)   : Option Int := (if 0 ≤ wI ((132 * (M a0 24)) + x1) ∧ wI ((132 * (M a0 24)) + x1) < 1056 then (some ((M (gR a0 6) (wI ((132 * (M a0 24)) + x1)).toNat))) else none)
def sX12_of (a0 : Nat) (x1 : Int) (M : MM) : Option Int := sX12_of_b0 a0 x1 M
set_option maxHeartbeats 4000000 in
set_option maxRecDepth 100000 in
theorem bX12_of_b0 {G : GG} (a0 : Nat) (x1 : Int) (M : MM) (oa0 : OB L0 a0 12)  {res : Int}  (h : sX12_of_b0 a0 x1 M = some res) : VV G xX12_of (ZM G xX12_of (some (.int (eI res))) L0 M) L0 M 0 0 0 [(0, .ref (gA G a0)), (1, .int (eI x1))] [] := by
  unfold sX12_of_b0 at h
  refine r_aload_n (pc := 0) (i := 0) dX12_of_0 rfl 0 rfl ?_
  have o_1 := (wt_12_6 oa0).2
  refine r_getR (pc := 1) fg_12_26 rfl oa0 (wt_12_6 oa0).1 dX12_of_1 ?_
  refine r_sipush (pc := 4) (v := 132) dX12_of_4 (by decide +kernel) ?_
  refine r_aload_n (pc := 7) (i := 0) dX12_of_7 rfl 0 rfl ?_
  refine r_getI (pc := 8) fg_12_310 rfl oa0 dX12_of_8 ?_
  refine r_imul (pc := 11) dX12_of_11 ?_
  refine r_iload_n (pc := 12) (i := 1) dX12_of_12 rfl 1 rfl ?_
  refine r_iadd (pc := 13) dX12_of_13 ?_
  obtain ⟨c_2, h⟩ := og h
  refine r_iald (pc := 14) o_1 rfl c_2 rfl dX12_of_14 ?_
  cases h
  exact r_iret (pc := 15) rfl rfl (Nat.le_refl 0) (Nat.le_refl 0) dX12_of_15
theorem kX12_of {G : GG} (a0 : Nat) (x1 : Int) (M : MM) {res : Int} (oa0 : OB L0 a0 12) (h : sX12_of a0 x1 M = some res) : CO G xX12_of [.ref (gA G a0), .int (eI x1)] L0 M (some (.int (eI res))) L0 M := CO_of (by decide +kernel) (Nat.le_of_ble_eq_true rfl) (bX12_of_b0 a0 x1 M oa0 h)
abbrev xX12_ofChild : XX := (yX12_ofChild, cX12_ofChild, 3, (some .int), 1, 21, 0, 0)
theorem ck_X12_ofChild_313 : CKV xX12_ofChild 313 xX12_of 1 := ⟨⟨tb_i 1784 (by decide +kernel) (by decide +kernel), tb_i 152 (by decide +kernel) (by decide +kernel), tb_i 1787 (by decide +kernel) (by decide +kernel), ⟨by decide +kernel, by decide +kernel, by decide +kernel⟩, by decide, by decide⟩, tb_i 1786 (by decide +kernel) (by decide +kernel), tb_i 73 (by decide +kernel) (by decide +kernel)⟩
def sX12_ofChild_b0 (a0 : Nat) (x1 : Int) (x2 : Int) (M : MM)   : Option Int := ((sX12_of a0 ((28 + (13 * x1)) + x2) M).bind fun q_1 => (some (q_1)))
def sX12_ofChild (a0 : Nat) (x1 : Int) (x2 : Int) (M : MM) : Option Int := sX12_ofChild_b0 a0 x1 x2 M
set_option maxHeartbeats 4000000 in
set_option maxRecDepth 100000 in
theorem bX12_ofChild_b0 {G : GG} (a0 : Nat) (x1 : Int) (x2 : Int) (M : MM) (oa0 : OB L0 a0 12)  {res : Int}  (h : sX12_ofChild_b0 a0 x1 x2 M = some res) : VV G xX12_ofChild (ZM G xX12_ofChild (some (.int (eI res))) L0 M) L0 M 0 0 0 [(0, .ref (gA G a0)), (1, .int (eI x1)), (2, .int (eI x2))] [] := by
  unfold sX12_ofChild_b0 at h
  refine r_aload_n (pc := 0) (i := 0) dX12_ofChild_0 rfl 0 rfl ?_
  refine r_bipush (pc := 1) (v := 28) dX12_ofChild_1 (by decide +kernel) ?_
  refine r_bipush (pc := 3) (v := 13) dX12_ofChild_3 (by decide +kernel) ?_
  refine r_iload_n (pc := 5) (i := 1) dX12_ofChild_5 rfl 1 rfl ?_
  refine r_imul (pc := 6) dX12_ofChild_6 ?_
  refine r_iadd (pc := 7) dX12_ofChild_7 ?_
  refine r_iload_n (pc := 8) (i := 2) dX12_ofChild_8 rfl 2 rfl ?_
  refine r_iadd (pc := 9) dX12_ofChild_9 ?_
  obtain ⟨q_1, hq_1, h⟩ := ob h
  refine r_cV (pc := 10) (Y := xX12_of) (As := [.int (eI ((28 + (13 * x1)) + x2))]) (rest := []) (v := (some (.int (eI q_1)))) (st1 := [.int (eI q_1)]) ck_X12_ofChild_313 (kX12_of a0 ((28 + (13 * x1)) + x2) M oa0 hq_1) oa0 rfl rfl rfl rfl (Nat.le_of_ble_eq_true rfl) ⟨rfl, rfl⟩ rfl dX12_ofChild_10 ?_
  cases h
  exact r_iret (pc := 13) rfl rfl (Nat.le_refl 0) (Nat.le_refl 0) dX12_ofChild_13
theorem kX12_ofChild {G : GG} (a0 : Nat) (x1 : Int) (x2 : Int) (M : MM) {res : Int} (oa0 : OB L0 a0 12) (h : sX12_ofChild a0 x1 x2 M = some res) : CO G xX12_ofChild [.ref (gA G a0), .int (eI x1), .int (eI x2)] L0 M (some (.int (eI res))) L0 M := CO_of (by decide +kernel) (Nat.le_of_ble_eq_true rfl) (bX12_ofChild_b0 a0 x1 x2 M oa0 h)
abbrev xX12_hand : XX := (yX12_hand, cX12_hand, 2, (some .boolean), 2, 44, 0, 0)
theorem ck_X12_hand_301 : CKV xX12_hand 301 xX12_is 2 := ⟨⟨tb_i 1629 (by decide +kernel) (by decide +kernel), tb_i 152 (by decide +kernel) (by decide +kernel), tb_i 1632 (by decide +kernel) (by decide +kernel), ⟨by decide +kernel, by decide +kernel, by decide +kernel⟩, by decide, by decide⟩, tb_i 1631 (by decide +kernel) (by decide +kernel), tb_i 47 (by decide +kernel) (by decide +kernel)⟩
theorem ck_X12_hand_313 : CKV xX12_hand 313 xX12_of 1 := ⟨⟨tb_i 1784 (by decide +kernel) (by decide +kernel), tb_i 152 (by decide +kernel) (by decide +kernel), tb_i 1787 (by decide +kernel) (by decide +kernel), ⟨by decide +kernel, by decide +kernel, by decide +kernel⟩, by decide, by decide⟩, tb_i 1786 (by decide +kernel) (by decide +kernel), tb_i 73 (by decide +kernel) (by decide +kernel)⟩
def sX12_hand_b0 (a0 : Nat) (x1 : Int)   (M : MM) : Option (Int × MM) := ((sX12_is a0 0 x1 M).bind fun q_1 => (if wI q_1 = 0 then (some ((0, M))) else ((some (mU M a0 24 x1)).bind fun M_3 => ((sX12_of a0 0 M_3).bind fun q_4 => ((some (mU M_3 a0 25 q_4)).bind fun M_5 => ((sX12_of a0 1 M_5).bind fun q_6 => ((some (mU M_5 a0 26 q_6)).bind fun M_7 => ((sX12_of a0 2 M_7).bind fun q_8 => ((some (mU M_7 a0 27 q_8)).bind fun M_9 => ((sX12_of a0 3 M_9).bind fun q_10 => ((some (mU M_9 a0 28 q_10)).bind fun M_11 => (some ((1, M_11))))))))))))))
def sX12_hand (a0 : Nat) (x1 : Int) (M : MM) : Option (Int × MM) := sX12_hand_b0 a0 x1 M
set_option maxHeartbeats 4000000 in
set_option maxRecDepth 100000 in
theorem bX12_hand_b0 {G : GG} (a0 : Nat) (x1 : Int) (oa0 : OB L0 a0 12)  (M : MM) {res : (Int × MM)}  (h : sX12_hand_b0 a0 x1 M = some res) : VV G xX12_hand (ZM G xX12_hand (some (.int (eI res.1))) L0 res.2) L0 M 0 0 0 [(0, .ref (gA G a0)), (1, .int (eI x1))] [] := by
  unfold sX12_hand_b0 at h
  refine r_aload_n (pc := 0) (i := 0) dX12_hand_0 rfl 0 rfl ?_
  refine r_iconst (pc := 1) (v := 0) dX12_hand_1 (by decide +kernel) ?_
  refine r_iload_n (pc := 2) (i := 1) dX12_hand_2 rfl 1 rfl ?_
  obtain ⟨q_1, hq_1, h⟩ := ob h
  refine r_cV (pc := 3) (Y := xX12_is) (As := [.int (eI 0), .int (eI x1)]) (rest := []) (v := (some (.int (eI q_1)))) (st1 := [.int (eI q_1)]) ck_X12_hand_301 (kX12_is a0 0 x1 M oa0 hq_1) oa0 rfl rfl rfl rfl (Nat.le_of_ble_eq_true rfl) ⟨rfl, rfl⟩ rfl dX12_hand_3 ?_
  refine r_if_ne (pc := 6) (tgt := 11) dX12_hand_6 (by decide) rfl (fun c_2 => ?_) (fun c_2 => ?_)
  · replace h := (if_neg c_2).symm.trans h
    refine r_aload_n (pc := 11) (i := 0) dX12_hand_11 rfl 0 rfl ?_
    refine r_iload_n (pc := 12) (i := 1) dX12_hand_12 rfl 1 rfl ?_
    obtain ⟨M_3, hM_3, h⟩ := ob h
    refine r_putI (pc := 13) fg_12_310 rfl oa0 hM_3 rfl rfl dX12_hand_13 ?_
    refine r_aload_n (pc := 16) (i := 0) dX12_hand_16 rfl 0 rfl ?_
    refine r_aload_n (pc := 17) (i := 0) dX12_hand_17 rfl 0 rfl ?_
    refine r_iconst (pc := 18) (v := 0) dX12_hand_18 (by decide +kernel) ?_
    obtain ⟨q_4, hq_4, h⟩ := ob h
    refine r_cV (pc := 19) (Y := xX12_of) (As := [.int (eI 0)]) (rest := [.ref (gA G a0)]) (v := (some (.int (eI q_4)))) (st1 := [.int (eI q_4), .ref (gA G a0)]) ck_X12_hand_313 (kX12_of a0 0 M_3 oa0 hq_4) oa0 rfl rfl rfl rfl (Nat.le_of_ble_eq_true rfl) ⟨rfl, rfl⟩ rfl dX12_hand_19 ?_
    obtain ⟨M_5, hM_5, h⟩ := ob h
    refine r_putI (pc := 22) fg_12_316 rfl oa0 hM_5 rfl rfl dX12_hand_22 ?_
    refine r_aload_n (pc := 25) (i := 0) dX12_hand_25 rfl 0 rfl ?_
    refine r_aload_n (pc := 26) (i := 0) dX12_hand_26 rfl 0 rfl ?_
    refine r_iconst (pc := 27) (v := 1) dX12_hand_27 (by decide +kernel) ?_
    obtain ⟨q_6, hq_6, h⟩ := ob h
    refine r_cV (pc := 28) (Y := xX12_of) (As := [.int (eI 1)]) (rest := [.ref (gA G a0)]) (v := (some (.int (eI q_6)))) (st1 := [.int (eI q_6), .ref (gA G a0)]) ck_X12_hand_313 (kX12_of a0 1 M_5 oa0 hq_6) oa0 rfl rfl rfl rfl (Nat.le_of_ble_eq_true rfl) ⟨rfl, rfl⟩ rfl dX12_hand_28 ?_
    obtain ⟨M_7, hM_7, h⟩ := ob h
    refine r_putI (pc := 31) fg_12_319 rfl oa0 hM_7 rfl rfl dX12_hand_31 ?_
    refine r_aload_n (pc := 34) (i := 0) dX12_hand_34 rfl 0 rfl ?_
    refine r_aload_n (pc := 35) (i := 0) dX12_hand_35 rfl 0 rfl ?_
    refine r_iconst (pc := 36) (v := 2) dX12_hand_36 (by decide +kernel) ?_
    obtain ⟨q_8, hq_8, h⟩ := ob h
    refine r_cV (pc := 37) (Y := xX12_of) (As := [.int (eI 2)]) (rest := [.ref (gA G a0)]) (v := (some (.int (eI q_8)))) (st1 := [.int (eI q_8), .ref (gA G a0)]) ck_X12_hand_313 (kX12_of a0 2 M_7 oa0 hq_8) oa0 rfl rfl rfl rfl (Nat.le_of_ble_eq_true rfl) ⟨rfl, rfl⟩ rfl dX12_hand_37 ?_
    obtain ⟨M_9, hM_9, h⟩ := ob h
    refine r_putI (pc := 40) fg_12_322 rfl oa0 hM_9 rfl rfl dX12_hand_40 ?_
    refine r_aload_n (pc := 43) (i := 0) dX12_hand_43 rfl 0 rfl ?_
    refine r_aload_n (pc := 44) (i := 0) dX12_hand_44 rfl 0 rfl ?_
    refine r_iconst (pc := 45) (v := 3) dX12_hand_45 (by decide +kernel) ?_
    obtain ⟨q_10, hq_10, h⟩ := ob h
    refine r_cV (pc := 46) (Y := xX12_of) (As := [.int (eI 3)]) (rest := [.ref (gA G a0)]) (v := (some (.int (eI q_10)))) (st1 := [.int (eI q_10), .ref (gA G a0)]) ck_X12_hand_313 (kX12_of a0 3 M_9 oa0 hq_10) oa0 rfl rfl rfl rfl (Nat.le_of_ble_eq_true rfl) ⟨rfl, rfl⟩ rfl dX12_hand_46 ?_
    obtain ⟨M_11, hM_11, h⟩ := ob h
    refine r_putI (pc := 49) fg_12_325 rfl oa0 hM_11 rfl rfl dX12_hand_49 ?_
    refine r_iconst (pc := 52) (v := 1) dX12_hand_52 (by decide +kernel) ?_
    cases h
    exact r_iret (pc := 53) rfl (zn_ok (Or.inr rfl)).1 (Nat.le_refl 0) (Nat.le_refl 0) dX12_hand_53
  · replace h := (if_pos c_2).symm.trans h
    refine r_iconst (pc := 9) (v := 0) dX12_hand_9 (by decide +kernel) ?_
    cases h
    exact r_iret (pc := 10) rfl (zn_ok (Or.inl rfl)).1 (Nat.le_refl 0) (Nat.le_refl 0) dX12_hand_10
theorem kX12_hand {G : GG} (a0 : Nat) (x1 : Int) (M : MM) {res : (Int × MM)} (oa0 : OB L0 a0 12) (h : sX12_hand a0 x1 M = some res) : CO G xX12_hand [.ref (gA G a0), .int (eI x1)] L0 M (some (.int (eI res.1))) L0 res.2 := CO_of (by decide +kernel) (Nat.le_of_ble_eq_true rfl) (bX12_hand_b0 a0 x1 oa0 M h)
abbrev xX12_isChild : XX := (yX12_isChild, cX12_isChild, 2, (some .boolean), 1, 22, 0, 0)
theorem ck_X12_isChild_105 : CKS xX12_isChild 105 xX12_in 3 := ⟨⟨tb_i 1622 (by decide +kernel) (by decide +kernel), tb_i 152 (by decide +kernel) (by decide +kernel), tb_i 1624 (by decide +kernel) (by decide +kernel), ⟨by decide +kernel, by decide +kernel, by decide +kernel⟩, by decide, by decide⟩, tb_i 1623 (by decide +kernel) (by decide +kernel)⟩
def sX12_isChild_b0 (a0 : Nat) (x1 : Int) (M : MM)   : Option Int := (if (sX12_in x1 0 ((M a0 26) - 1)) = 0 ∨ (sX12_in x1 0 ((M a0 26) - 1)) = 1 then (some ((sX12_in x1 0 ((M a0 26) - 1)))) else none)
def sX12_isChild (a0 : Nat) (x1 : Int) (M : MM) : Option Int := sX12_isChild_b0 a0 x1 M
set_option maxHeartbeats 4000000 in
set_option maxRecDepth 100000 in
theorem bX12_isChild_b0 {G : GG} (a0 : Nat) (x1 : Int) (M : MM) (oa0 : OB L0 a0 12)  {res : Int}  (h : sX12_isChild_b0 a0 x1 M = some res) : VV G xX12_isChild (ZM G xX12_isChild (some (.int (eI res))) L0 M) L0 M 0 0 0 [(0, .ref (gA G a0)), (1, .int (eI x1))] [] := by
  unfold sX12_isChild_b0 at h
  refine r_iload_n (pc := 0) (i := 1) dX12_isChild_0 rfl 1 rfl ?_
  refine r_iconst (pc := 1) (v := 0) dX12_isChild_1 (by decide +kernel) ?_
  refine r_aload_n (pc := 2) (i := 0) dX12_isChild_2 rfl 0 rfl ?_
  refine r_getI (pc := 3) fg_12_319 rfl oa0 dX12_isChild_3 ?_
  refine r_iconst (pc := 6) (v := 1) dX12_isChild_6 (by decide +kernel) ?_
  refine r_isub (pc := 7) dX12_isChild_7 ?_
  refine r_cS (pc := 8) (Y := xX12_in) (As := [.int (eI x1), .int (eI 0), .int (eI ((M a0 26) - 1))]) (rest := []) (v := (some (.int (eI (sX12_in x1 0 ((M a0 26) - 1)))))) (st1 := [.int (eI (sX12_in x1 0 ((M a0 26) - 1)))]) ck_X12_isChild_105 (kX12_in x1 0 ((M a0 26) - 1) M ) rfl rfl (Nat.le_of_ble_eq_true rfl) ⟨rfl, rfl⟩ rfl dX12_isChild_8 ?_
  obtain ⟨c_1, h⟩ := og h
  cases h
  exact r_iret (pc := 11) rfl (zn_ok c_1).1 (Nat.le_refl 0) (Nat.le_refl 0) dX12_isChild_11
theorem kX12_isChild {G : GG} (a0 : Nat) (x1 : Int) (M : MM) {res : Int} (oa0 : OB L0 a0 12) (h : sX12_isChild a0 x1 M = some res) : CO G xX12_isChild [.ref (gA G a0), .int (eI x1)] L0 M (some (.int (eI res))) L0 M := CO_of (by decide +kernel) (Nat.le_of_ble_eq_true rfl) (bX12_isChild_b0 a0 x1 M oa0 h)
abbrev xX12_party : XX := (yX12_party, cX12_party, 3, (some .int), 3, 65, 0, 0)
theorem ck_X12_party_105 : CKS xX12_party 105 xX12_in 3 := ⟨⟨tb_i 1622 (by decide +kernel) (by decide +kernel), tb_i 152 (by decide +kernel) (by decide +kernel), tb_i 1624 (by decide +kernel) (by decide +kernel), ⟨by decide +kernel, by decide +kernel, by decide +kernel⟩, by decide, by decide⟩, tb_i 1623 (by decide +kernel) (by decide +kernel)⟩
theorem ck_X12_party_313 : CKV xX12_party 313 xX12_of 1 := ⟨⟨tb_i 1784 (by decide +kernel) (by decide +kernel), tb_i 152 (by decide +kernel) (by decide +kernel), tb_i 1787 (by decide +kernel) (by decide +kernel), ⟨by decide +kernel, by decide +kernel, by decide +kernel⟩, by decide, by decide⟩, tb_i 1786 (by decide +kernel) (by decide +kernel), tb_i 73 (by decide +kernel) (by decide +kernel)⟩
theorem ck_X12_party_328 : CKV xX12_party 328 xX12_hand 1 := ⟨⟨tb_i 1780 (by decide +kernel) (by decide +kernel), tb_i 152 (by decide +kernel) (by decide +kernel), tb_i 1783 (by decide +kernel) (by decide +kernel), ⟨by decide +kernel, by decide +kernel, by decide +kernel⟩, by decide, by decide⟩, tb_i 1782 (by decide +kernel) (by decide +kernel), tb_i 72 (by decide +kernel) (by decide +kernel)⟩
def sX12_party_b91 (a0 : Nat) (x1 : Int) (x2 : Int)  (a90 : Nat) (x91 : Int) (x92 : Int) (M : MM) : Option (Int × MM) := ((sX12_of a90 (x91 + x92) M).bind fun q_1 => (some ((q_1, M))))
def sX12_party_b70 (a0 : Nat) (x1 : Int) (x2 : Int)   (M : MM) : Option (Int × MM) := (if 40 ≤ wI x2 then (sX12_party_b91 a0 x1 x2 a0 (18 + (2 * (Int.tmod (wI x2) 10))) 1 M) else (sX12_party_b91 a0 x1 x2 a0 (18 + (2 * (Int.tmod (wI x2) 10))) 0 M))
def sX12_party_b0 (a0 : Nat) (x1 : Int) (x2 : Int)   (M : MM) : Option (Int × MM) := ((some (mU M a0 0 0)).bind fun M_1 => ((sX12_hand a0 x1 M_1).bind fun q_2 => (if wI (q_2.1) = 0 then (some (((-1), q_2.2))) else (if wI (sX12_in x2 10 17) = 0 then (if wI (sX12_in x2 30 (29 + (q_2.2 a0 25))) = 0 then (if wI (sX12_in x2 40 (39 + (q_2.2 a0 25))) = 0 then (if wI (sX12_in x2 0 6) = 0 then (if wI (sX12_in x2 20 22) = 0 then (some (((-1), q_2.2))) else ((sX12_of a0 ((15 + x2) - 20) q_2.2).bind fun q_9 => (some ((q_9, q_2.2))))) else ((sX12_of a0 x2 q_2.2).bind fun q_10 => (some ((q_10, q_2.2))))) else (sX12_party_b70 a0 x1 x2 q_2.2)) else (sX12_party_b70 a0 x1 x2 q_2.2)) else ((sX12_of a0 ((7 + x2) - 10) q_2.2).bind fun q_11 => (some ((q_11, q_2.2))))))))
def sX12_party (a0 : Nat) (x1 : Int) (x2 : Int) (M : MM) : Option (Int × MM) := sX12_party_b0 a0 x1 x2 M
set_option maxHeartbeats 4000000 in
set_option maxRecDepth 100000 in
theorem bX12_party_b91 {G : GG} (a0 : Nat) (x1 : Int) (x2 : Int) (oa0 : OB L0 a0 12) (a90 : Nat) (x91 : Int) (x92 : Int) (M : MM) {res : (Int × MM)} (oa90 : OB L0 a90 12) (h : sX12_party_b91 a0 x1 x2 a90 x91 x92 M = some res) : VV G xX12_party (ZM G xX12_party (some (.int (eI res.1))) L0 res.2) L0 M 0 0 91 [] [.int (eI x92), .int (eI x91), .ref (gA G a90)] := by
  unfold sX12_party_b91 at h
  refine r_iadd (pc := 91) dX12_party_91 ?_
  obtain ⟨q_1, hq_1, h⟩ := ob h
  refine r_cV (pc := 92) (Y := xX12_of) (As := [.int (eI (x91 + x92))]) (rest := []) (v := (some (.int (eI q_1)))) (st1 := [.int (eI q_1)]) ck_X12_party_313 (kX12_of a90 (x91 + x92) M oa90 hq_1) oa90 rfl rfl rfl rfl (Nat.le_of_ble_eq_true rfl) ⟨rfl, rfl⟩ rfl dX12_party_92 ?_
  cases h
  exact r_iret (pc := 95) rfl rfl (Nat.le_refl 0) (Nat.le_refl 0) dX12_party_95
set_option maxHeartbeats 4000000 in
set_option maxRecDepth 100000 in
theorem bX12_party_b70 {G : GG} (a0 : Nat) (x1 : Int) (x2 : Int) (oa0 : OB L0 a0 12)  (M : MM) {res : (Int × MM)}  (h : sX12_party_b70 a0 x1 x2 M = some res) : VV G xX12_party (ZM G xX12_party (some (.int (eI res.1))) L0 res.2) L0 M 0 0 70 [(0, .ref (gA G a0)), (2, .int (eI x2))] [] := by
  unfold sX12_party_b70 at h
  refine r_aload_n (pc := 70) (i := 0) dX12_party_70 rfl 0 rfl ?_
  refine r_bipush (pc := 71) (v := 18) dX12_party_71 (by decide +kernel) ?_
  refine r_iconst (pc := 73) (v := 2) dX12_party_73 (by decide +kernel) ?_
  refine r_iload_n (pc := 74) (i := 2) dX12_party_74 rfl 1 rfl ?_
  refine r_bipush (pc := 75) (v := 10) dX12_party_75 (by decide +kernel) ?_
  refine r_irem (pc := 77) dX12_party_77 rfl wl_10 (by decide) ?_
  refine r_imul (pc := 78) dX12_party_78 ?_
  refine r_iadd (pc := 79) dX12_party_79 ?_
  refine r_iload_n (pc := 80) (i := 2) dX12_party_80 rfl 1 rfl ?_
  refine r_bipush (pc := 81) (v := 40) dX12_party_81 (by decide +kernel) ?_
  refine r_icmp_ge (pc := 83) (tgt := 90) dX12_party_83 (by decide) rfl wl_40 (fun c_1 => ?_) (fun c_1 => ?_)
  · replace h := (if_pos c_1).symm.trans h
    refine r_iconst (pc := 90) (v := 1) dX12_party_90 (by decide +kernel) ?_
    refine r_sub (lv' := []) [] rfl ?_
    exact bX12_party_b91 a0 x1 x2 oa0 _ _ _ _ oa0 h
  · replace h := (if_neg c_1).symm.trans h
    refine r_iconst (pc := 86) (v := 0) dX12_party_86 (by decide +kernel) ?_
    refine r_goto (pc := 87) (tgt := 91) dX12_party_87 (by decide) ?_
    refine r_sub (lv' := []) [] rfl ?_
    exact bX12_party_b91 a0 x1 x2 oa0 _ _ _ _ oa0 h
set_option maxHeartbeats 4000000 in
set_option maxRecDepth 100000 in
theorem bX12_party_b0 {G : GG} (a0 : Nat) (x1 : Int) (x2 : Int) (oa0 : OB L0 a0 12)  (M : MM) {res : (Int × MM)}  (h : sX12_party_b0 a0 x1 x2 M = some res) : VV G xX12_party (ZM G xX12_party (some (.int (eI res.1))) L0 res.2) L0 M 0 0 0 [(0, .ref (gA G a0)), (1, .int (eI x1)), (2, .int (eI x2))] [] := by
  unfold sX12_party_b0 at h
  refine r_aload_n (pc := 0) (i := 0) dX12_party_0 rfl 0 rfl ?_
  refine r_iconst (pc := 1) (v := 0) dX12_party_1 (by decide +kernel) ?_
  obtain ⟨M_1, hM_1, h⟩ := ob h
  refine r_putI (pc := 2) fg_12_97 rfl oa0 hM_1 rfl rfl dX12_party_2 ?_
  refine r_aload_n (pc := 5) (i := 0) dX12_party_5 rfl 0 rfl ?_
  refine r_iload_n (pc := 6) (i := 1) dX12_party_6 rfl 1 rfl ?_
  obtain ⟨q_2, hq_2, h⟩ := ob h
  refine r_cV (pc := 7) (Y := xX12_hand) (As := [.int (eI x1)]) (rest := []) (v := (some (.int (eI (q_2.1))))) (st1 := [.int (eI (q_2.1))]) ck_X12_party_328 (kX12_hand a0 x1 M_1 oa0 hq_2) oa0 rfl rfl rfl rfl (Nat.le_of_ble_eq_true rfl) ⟨rfl, rfl⟩ rfl dX12_party_7 ?_
  refine r_if_ne (pc := 10) (tgt := 15) dX12_party_10 (by decide) rfl (fun c_3 => ?_) (fun c_3 => ?_)
  · replace h := (if_neg c_3).symm.trans h
    refine r_iload_n (pc := 15) (i := 2) dX12_party_15 rfl 2 rfl ?_
    refine r_bipush (pc := 16) (v := 10) dX12_party_16 (by decide +kernel) ?_
    refine r_bipush (pc := 18) (v := 17) dX12_party_18 (by decide +kernel) ?_
    refine r_cS (pc := 20) (Y := xX12_in) (As := [.int (eI x2), .int (eI 10), .int (eI 17)]) (rest := []) (v := (some (.int (eI (sX12_in x2 10 17))))) (st1 := [.int (eI (sX12_in x2 10 17))]) ck_X12_party_105 (kX12_in x2 10 17 q_2.2 ) rfl rfl (Nat.le_of_ble_eq_true rfl) ⟨rfl, rfl⟩ rfl dX12_party_20 ?_
    refine r_if_eq (pc := 23) (tgt := 38) dX12_party_23 (by decide) rfl (fun c_4 => ?_) (fun c_4 => ?_)
    · replace h := (if_pos c_4).symm.trans h
      refine r_iload_n (pc := 38) (i := 2) dX12_party_38 rfl 2 rfl ?_
      refine r_bipush (pc := 39) (v := 30) dX12_party_39 (by decide +kernel) ?_
      refine r_bipush (pc := 41) (v := 29) dX12_party_41 (by decide +kernel) ?_
      refine r_aload_n (pc := 43) (i := 0) dX12_party_43 rfl 0 rfl ?_
      refine r_getI (pc := 44) fg_12_316 rfl oa0 dX12_party_44 ?_
      refine r_iadd (pc := 47) dX12_party_47 ?_
      refine r_cS (pc := 48) (Y := xX12_in) (As := [.int (eI x2), .int (eI 30), .int (eI (29 + (q_2.2 a0 25)))]) (rest := []) (v := (some (.int (eI (sX12_in x2 30 (29 + (q_2.2 a0 25))))))) (st1 := [.int (eI (sX12_in x2 30 (29 + (q_2.2 a0 25))))]) ck_X12_party_105 (kX12_in x2 30 (29 + (q_2.2 a0 25)) q_2.2 ) rfl rfl (Nat.le_of_ble_eq_true rfl) ⟨rfl, rfl⟩ rfl dX12_party_48 ?_
      refine r_if_ne (pc := 51) (tgt := 70) dX12_party_51 (by decide) rfl (fun c_5 => ?_) (fun c_5 => ?_)
      · replace h := (if_neg c_5).symm.trans h
        refine r_sub (lv' := [(0, .ref (gA G a0)), (2, .int (eI x2))]) [0, 2] rfl ?_
        exact bX12_party_b70 a0 x1 x2 oa0 _ h
      · replace h := (if_pos c_5).symm.trans h
        refine r_iload_n (pc := 54) (i := 2) dX12_party_54 rfl 2 rfl ?_
        refine r_bipush (pc := 55) (v := 40) dX12_party_55 (by decide +kernel) ?_
        refine r_bipush (pc := 57) (v := 39) dX12_party_57 (by decide +kernel) ?_
        refine r_aload_n (pc := 59) (i := 0) dX12_party_59 rfl 0 rfl ?_
        refine r_getI (pc := 60) fg_12_316 rfl oa0 dX12_party_60 ?_
        refine r_iadd (pc := 63) dX12_party_63 ?_
        refine r_cS (pc := 64) (Y := xX12_in) (As := [.int (eI x2), .int (eI 40), .int (eI (39 + (q_2.2 a0 25)))]) (rest := []) (v := (some (.int (eI (sX12_in x2 40 (39 + (q_2.2 a0 25))))))) (st1 := [.int (eI (sX12_in x2 40 (39 + (q_2.2 a0 25))))]) ck_X12_party_105 (kX12_in x2 40 (39 + (q_2.2 a0 25)) q_2.2 ) rfl rfl (Nat.le_of_ble_eq_true rfl) ⟨rfl, rfl⟩ rfl dX12_party_64 ?_
        refine r_if_eq (pc := 67) (tgt := 96) dX12_party_67 (by decide) rfl (fun c_6 => ?_) (fun c_6 => ?_)
        · replace h := (if_pos c_6).symm.trans h
          refine r_iload_n (pc := 96) (i := 2) dX12_party_96 rfl 2 rfl ?_
          refine r_iconst (pc := 97) (v := 0) dX12_party_97 (by decide +kernel) ?_
          refine r_bipush (pc := 98) (v := 6) dX12_party_98 (by decide +kernel) ?_
          refine r_cS (pc := 100) (Y := xX12_in) (As := [.int (eI x2), .int (eI 0), .int (eI 6)]) (rest := []) (v := (some (.int (eI (sX12_in x2 0 6))))) (st1 := [.int (eI (sX12_in x2 0 6))]) ck_X12_party_105 (kX12_in x2 0 6 q_2.2 ) rfl rfl (Nat.le_of_ble_eq_true rfl) ⟨rfl, rfl⟩ rfl dX12_party_100 ?_
          refine r_if_eq (pc := 103) (tgt := 114) dX12_party_103 (by decide) rfl (fun c_7 => ?_) (fun c_7 => ?_)
          · replace h := (if_pos c_7).symm.trans h
            refine r_iload_n (pc := 114) (i := 2) dX12_party_114 rfl 2 rfl ?_
            refine r_bipush (pc := 115) (v := 20) dX12_party_115 (by decide +kernel) ?_
            refine r_bipush (pc := 117) (v := 22) dX12_party_117 (by decide +kernel) ?_
            refine r_cS (pc := 119) (Y := xX12_in) (As := [.int (eI x2), .int (eI 20), .int (eI 22)]) (rest := []) (v := (some (.int (eI (sX12_in x2 20 22))))) (st1 := [.int (eI (sX12_in x2 20 22))]) ck_X12_party_105 (kX12_in x2 20 22 q_2.2 ) rfl rfl (Nat.le_of_ble_eq_true rfl) ⟨rfl, rfl⟩ rfl dX12_party_119 ?_
            refine r_if_eq (pc := 122) (tgt := 139) dX12_party_122 (by decide) rfl (fun c_8 => ?_) (fun c_8 => ?_)
            · replace h := (if_pos c_8).symm.trans h
              refine r_iconst (pc := 139) (v := (-1)) dX12_party_139 (by decide +kernel) ?_
              cases h
              exact r_iret (pc := 140) rfl rfl (Nat.le_refl 0) (Nat.le_refl 0) dX12_party_140
            · replace h := (if_neg c_8).symm.trans h
              refine r_aload_n (pc := 125) (i := 0) dX12_party_125 rfl 0 rfl ?_
              refine r_bipush (pc := 126) (v := 15) dX12_party_126 (by decide +kernel) ?_
              refine r_iload_n (pc := 128) (i := 2) dX12_party_128 rfl 2 rfl ?_
              refine r_iadd (pc := 129) dX12_party_129 ?_
              refine r_bipush (pc := 130) (v := 20) dX12_party_130 (by decide +kernel) ?_
              refine r_isub (pc := 132) dX12_party_132 ?_
              obtain ⟨q_9, hq_9, h⟩ := ob h
              refine r_cV (pc := 133) (Y := xX12_of) (As := [.int (eI ((15 + x2) - 20))]) (rest := []) (v := (some (.int (eI q_9)))) (st1 := [.int (eI q_9)]) ck_X12_party_313 (kX12_of a0 ((15 + x2) - 20) q_2.2 oa0 hq_9) oa0 rfl rfl rfl rfl (Nat.le_of_ble_eq_true rfl) ⟨rfl, rfl⟩ rfl dX12_party_133 ?_
              refine r_goto (pc := 136) (tgt := 140) dX12_party_136 (by decide) ?_
              cases h
              exact r_iret (pc := 140) rfl rfl (Nat.le_refl 0) (Nat.le_refl 0) dX12_party_140
          · replace h := (if_neg c_7).symm.trans h
            refine r_aload_n (pc := 106) (i := 0) dX12_party_106 rfl 0 rfl ?_
            refine r_iload_n (pc := 107) (i := 2) dX12_party_107 rfl 2 rfl ?_
            obtain ⟨q_10, hq_10, h⟩ := ob h
            refine r_cV (pc := 108) (Y := xX12_of) (As := [.int (eI x2)]) (rest := []) (v := (some (.int (eI q_10)))) (st1 := [.int (eI q_10)]) ck_X12_party_313 (kX12_of a0 x2 q_2.2 oa0 hq_10) oa0 rfl rfl rfl rfl (Nat.le_of_ble_eq_true rfl) ⟨rfl, rfl⟩ rfl dX12_party_108 ?_
            refine r_goto (pc := 111) (tgt := 140) dX12_party_111 (by decide) ?_
            cases h
            exact r_iret (pc := 140) rfl rfl (Nat.le_refl 0) (Nat.le_refl 0) dX12_party_140
        · replace h := (if_neg c_6).symm.trans h
          refine r_sub (lv' := [(0, .ref (gA G a0)), (2, .int (eI x2))]) [0, 2] rfl ?_
          exact bX12_party_b70 a0 x1 x2 oa0 _ h
    · replace h := (if_neg c_4).symm.trans h
      refine r_aload_n (pc := 26) (i := 0) dX12_party_26 rfl 0 rfl ?_
      refine r_bipush (pc := 27) (v := 7) dX12_party_27 (by decide +kernel) ?_
      refine r_iload_n (pc := 29) (i := 2) dX12_party_29 rfl 2 rfl ?_
      refine r_iadd (pc := 30) dX12_party_30 ?_
      refine r_bipush (pc := 31) (v := 10) dX12_party_31 (by decide +kernel) ?_
      refine r_isub (pc := 33) dX12_party_33 ?_
      obtain ⟨q_11, hq_11, h⟩ := ob h
      refine r_cV (pc := 34) (Y := xX12_of) (As := [.int (eI ((7 + x2) - 10))]) (rest := []) (v := (some (.int (eI q_11)))) (st1 := [.int (eI q_11)]) ck_X12_party_313 (kX12_of a0 ((7 + x2) - 10) q_2.2 oa0 hq_11) oa0 rfl rfl rfl rfl (Nat.le_of_ble_eq_true rfl) ⟨rfl, rfl⟩ rfl dX12_party_34 ?_
      cases h
      exact r_iret (pc := 37) rfl rfl (Nat.le_refl 0) (Nat.le_refl 0) dX12_party_37
  · replace h := (if_pos c_3).symm.trans h
    refine r_iconst (pc := 13) (v := (-1)) dX12_party_13 (by decide +kernel) ?_
    cases h
    exact r_iret (pc := 14) rfl rfl (Nat.le_refl 0) (Nat.le_refl 0) dX12_party_14
theorem kX12_party {G : GG} (a0 : Nat) (x1 : Int) (x2 : Int) (M : MM) {res : (Int × MM)} (oa0 : OB L0 a0 12) (h : sX12_party a0 x1 x2 M = some res) : CO G xX12_party [.ref (gA G a0), .int (eI x1), .int (eI x2)] L0 M (some (.int (eI res.1))) L0 res.2 := CO_of (by decide +kernel) (Nat.le_of_ble_eq_true rfl) (bX12_party_b0 a0 x1 x2 oa0 M h)
abbrev xX12_child : XX := (yX12_child, cX12_child, 4, (some .int), 3, 65, 0, 0)
theorem ck_X12_child_105 : CKS xX12_child 105 xX12_in 3 := ⟨⟨tb_i 1622 (by decide +kernel) (by decide +kernel), tb_i 152 (by decide +kernel) (by decide +kernel), tb_i 1624 (by decide +kernel) (by decide +kernel), ⟨by decide +kernel, by decide +kernel, by decide +kernel⟩, by decide, by decide⟩, tb_i 1623 (by decide +kernel) (by decide +kernel)⟩
theorem ck_X12_child_328 : CKV xX12_child 328 xX12_hand 1 := ⟨⟨tb_i 1780 (by decide +kernel) (by decide +kernel), tb_i 152 (by decide +kernel) (by decide +kernel), tb_i 1783 (by decide +kernel) (by decide +kernel), ⟨by decide +kernel, by decide +kernel, by decide +kernel⟩, by decide, by decide⟩, tb_i 1782 (by decide +kernel) (by decide +kernel), tb_i 72 (by decide +kernel) (by decide +kernel)⟩
theorem ck_X12_child_331 : CKV xX12_child 331 xX12_isChild 1 := ⟨⟨tb_i 1792 (by decide +kernel) (by decide +kernel), tb_i 152 (by decide +kernel) (by decide +kernel), tb_i 1795 (by decide +kernel) (by decide +kernel), ⟨by decide +kernel, by decide +kernel, by decide +kernel⟩, by decide, by decide⟩, tb_i 1794 (by decide +kernel) (by decide +kernel), tb_i 74 (by decide +kernel) (by decide +kernel)⟩
theorem ck_X12_child_334 : CKV xX12_child 334 xX12_ofChild 2 := ⟨⟨tb_i 1796 (by decide +kernel) (by decide +kernel), tb_i 152 (by decide +kernel) (by decide +kernel), tb_i 1799 (by decide +kernel) (by decide +kernel), ⟨by decide +kernel, by decide +kernel, by decide +kernel⟩, by decide, by decide⟩, tb_i 1798 (by decide +kernel) (by decide +kernel), tb_i 75 (by decide +kernel) (by decide +kernel)⟩
def sX12_child_b0 (a0 : Nat) (x1 : Int) (x2 : Int) (x3 : Int)   (M : MM) : Option (Int × MM) := ((some (mU M a0 0 0)).bind fun M_1 => ((sX12_hand a0 x1 M_1).bind fun q_2 => (if wI (q_2.1) = 0 then (some (((-1), q_2.2))) else ((sX12_isChild a0 x2 q_2.2).bind fun q_4 => (if wI q_4 = 0 then (some (((-1), q_2.2))) else (if wI (sX12_in x3 0 4) = 0 then (if wI (sX12_in x3 10 (9 + (q_2.2 a0 26))) = 0 then (some (((-1), q_2.2))) else ((sX12_ofChild a0 x2 ((5 + x3) - 10) q_2.2).bind fun q_8 => (some ((q_8, q_2.2))))) else ((sX12_ofChild a0 x2 x3 q_2.2).bind fun q_9 => (some ((q_9, q_2.2))))))))))
def sX12_child (a0 : Nat) (x1 : Int) (x2 : Int) (x3 : Int) (M : MM) : Option (Int × MM) := sX12_child_b0 a0 x1 x2 x3 M
set_option maxHeartbeats 4000000 in
set_option maxRecDepth 100000 in
theorem bX12_child_b0 {G : GG} (a0 : Nat) (x1 : Int) (x2 : Int) (x3 : Int) (oa0 : OB L0 a0 12)  (M : MM) {res : (Int × MM)}  (h : sX12_child_b0 a0 x1 x2 x3 M = some res) : VV G xX12_child (ZM G xX12_child (some (.int (eI res.1))) L0 res.2) L0 M 0 0 0 [(0, .ref (gA G a0)), (1, .int (eI x1)), (2, .int (eI x2)), (3, .int (eI x3))] [] := by
  unfold sX12_child_b0 at h
  refine r_aload_n (pc := 0) (i := 0) dX12_child_0 rfl 0 rfl ?_
  refine r_iconst (pc := 1) (v := 0) dX12_child_1 (by decide +kernel) ?_
  obtain ⟨M_1, hM_1, h⟩ := ob h
  refine r_putI (pc := 2) fg_12_97 rfl oa0 hM_1 rfl rfl dX12_child_2 ?_
  refine r_aload_n (pc := 5) (i := 0) dX12_child_5 rfl 0 rfl ?_
  refine r_iload_n (pc := 6) (i := 1) dX12_child_6 rfl 1 rfl ?_
  obtain ⟨q_2, hq_2, h⟩ := ob h
  refine r_cV (pc := 7) (Y := xX12_hand) (As := [.int (eI x1)]) (rest := []) (v := (some (.int (eI (q_2.1))))) (st1 := [.int (eI (q_2.1))]) ck_X12_child_328 (kX12_hand a0 x1 M_1 oa0 hq_2) oa0 rfl rfl rfl rfl (Nat.le_of_ble_eq_true rfl) ⟨rfl, rfl⟩ rfl dX12_child_7 ?_
  refine r_if_eq (pc := 10) (tgt := 21) dX12_child_10 (by decide) rfl (fun c_3 => ?_) (fun c_3 => ?_)
  · replace h := (if_pos c_3).symm.trans h
    refine r_iconst (pc := 21) (v := (-1)) dX12_child_21 (by decide +kernel) ?_
    cases h
    exact r_iret (pc := 22) rfl rfl (Nat.le_refl 0) (Nat.le_refl 0) dX12_child_22
  · replace h := (if_neg c_3).symm.trans h
    refine r_aload_n (pc := 13) (i := 0) dX12_child_13 rfl 0 rfl ?_
    refine r_iload_n (pc := 14) (i := 2) dX12_child_14 rfl 2 rfl ?_
    obtain ⟨q_4, hq_4, h⟩ := ob h
    refine r_cV (pc := 15) (Y := xX12_isChild) (As := [.int (eI x2)]) (rest := []) (v := (some (.int (eI q_4)))) (st1 := [.int (eI q_4)]) ck_X12_child_331 (kX12_isChild a0 x2 q_2.2 oa0 hq_4) oa0 rfl rfl rfl rfl (Nat.le_of_ble_eq_true rfl) ⟨rfl, rfl⟩ rfl dX12_child_15 ?_
    refine r_if_ne (pc := 18) (tgt := 23) dX12_child_18 (by decide) rfl (fun c_5 => ?_) (fun c_5 => ?_)
    · replace h := (if_neg c_5).symm.trans h
      refine r_iload_n (pc := 23) (i := 3) dX12_child_23 rfl 3 rfl ?_
      refine r_iconst (pc := 24) (v := 0) dX12_child_24 (by decide +kernel) ?_
      refine r_iconst (pc := 25) (v := 4) dX12_child_25 (by decide +kernel) ?_
      refine r_cS (pc := 26) (Y := xX12_in) (As := [.int (eI x3), .int (eI 0), .int (eI 4)]) (rest := []) (v := (some (.int (eI (sX12_in x3 0 4))))) (st1 := [.int (eI (sX12_in x3 0 4))]) ck_X12_child_105 (kX12_in x3 0 4 q_2.2 ) rfl rfl (Nat.le_of_ble_eq_true rfl) ⟨rfl, rfl⟩ rfl dX12_child_26 ?_
      refine r_if_eq (pc := 29) (tgt := 41) dX12_child_29 (by decide) rfl (fun c_6 => ?_) (fun c_6 => ?_)
      · replace h := (if_pos c_6).symm.trans h
        refine r_iload_n (pc := 41) (i := 3) dX12_child_41 rfl 3 rfl ?_
        refine r_bipush (pc := 42) (v := 10) dX12_child_42 (by decide +kernel) ?_
        refine r_bipush (pc := 44) (v := 9) dX12_child_44 (by decide +kernel) ?_
        refine r_aload_n (pc := 46) (i := 0) dX12_child_46 rfl 0 rfl ?_
        refine r_getI (pc := 47) fg_12_319 rfl oa0 dX12_child_47 ?_
        refine r_iadd (pc := 50) dX12_child_50 ?_
        refine r_cS (pc := 51) (Y := xX12_in) (As := [.int (eI x3), .int (eI 10), .int (eI (9 + (q_2.2 a0 26)))]) (rest := []) (v := (some (.int (eI (sX12_in x3 10 (9 + (q_2.2 a0 26))))))) (st1 := [.int (eI (sX12_in x3 10 (9 + (q_2.2 a0 26))))]) ck_X12_child_105 (kX12_in x3 10 (9 + (q_2.2 a0 26)) q_2.2 ) rfl rfl (Nat.le_of_ble_eq_true rfl) ⟨rfl, rfl⟩ rfl dX12_child_51 ?_
        refine r_if_eq (pc := 54) (tgt := 71) dX12_child_54 (by decide) rfl (fun c_7 => ?_) (fun c_7 => ?_)
        · replace h := (if_pos c_7).symm.trans h
          refine r_iconst (pc := 71) (v := (-1)) dX12_child_71 (by decide +kernel) ?_
          cases h
          exact r_iret (pc := 72) rfl rfl (Nat.le_refl 0) (Nat.le_refl 0) dX12_child_72
        · replace h := (if_neg c_7).symm.trans h
          refine r_aload_n (pc := 57) (i := 0) dX12_child_57 rfl 0 rfl ?_
          refine r_iload_n (pc := 58) (i := 2) dX12_child_58 rfl 2 rfl ?_
          refine r_iconst (pc := 59) (v := 5) dX12_child_59 (by decide +kernel) ?_
          refine r_iload_n (pc := 60) (i := 3) dX12_child_60 rfl 3 rfl ?_
          refine r_iadd (pc := 61) dX12_child_61 ?_
          refine r_bipush (pc := 62) (v := 10) dX12_child_62 (by decide +kernel) ?_
          refine r_isub (pc := 64) dX12_child_64 ?_
          obtain ⟨q_8, hq_8, h⟩ := ob h
          refine r_cV (pc := 65) (Y := xX12_ofChild) (As := [.int (eI x2), .int (eI ((5 + x3) - 10))]) (rest := []) (v := (some (.int (eI q_8)))) (st1 := [.int (eI q_8)]) ck_X12_child_334 (kX12_ofChild a0 x2 ((5 + x3) - 10) q_2.2 oa0 hq_8) oa0 rfl rfl rfl rfl (Nat.le_of_ble_eq_true rfl) ⟨rfl, rfl⟩ rfl dX12_child_65 ?_
          refine r_goto (pc := 68) (tgt := 72) dX12_child_68 (by decide) ?_
          cases h
          exact r_iret (pc := 72) rfl rfl (Nat.le_refl 0) (Nat.le_refl 0) dX12_child_72
      · replace h := (if_neg c_6).symm.trans h
        refine r_aload_n (pc := 32) (i := 0) dX12_child_32 rfl 0 rfl ?_
        refine r_iload_n (pc := 33) (i := 2) dX12_child_33 rfl 2 rfl ?_
        refine r_iload_n (pc := 34) (i := 3) dX12_child_34 rfl 3 rfl ?_
        obtain ⟨q_9, hq_9, h⟩ := ob h
        refine r_cV (pc := 35) (Y := xX12_ofChild) (As := [.int (eI x2), .int (eI x3)]) (rest := []) (v := (some (.int (eI q_9)))) (st1 := [.int (eI q_9)]) ck_X12_child_334 (kX12_ofChild a0 x2 x3 q_2.2 oa0 hq_9) oa0 rfl rfl rfl rfl (Nat.le_of_ble_eq_true rfl) ⟨rfl, rfl⟩ rfl dX12_child_35 ?_
        refine r_goto (pc := 38) (tgt := 72) dX12_child_38 (by decide) ?_
        cases h
        exact r_iret (pc := 72) rfl rfl (Nat.le_refl 0) (Nat.le_refl 0) dX12_child_72
    · replace h := (if_pos c_5).symm.trans h
      refine r_iconst (pc := 21) (v := (-1)) dX12_child_21 (by decide +kernel) ?_
      cases h
      exact r_iret (pc := 22) rfl rfl (Nat.le_refl 0) (Nat.le_refl 0) dX12_child_22
theorem kX12_child {G : GG} (a0 : Nat) (x1 : Int) (x2 : Int) (x3 : Int) (M : MM) {res : (Int × MM)} (oa0 : OB L0 a0 12) (h : sX12_child a0 x1 x2 x3 M = some res) : CO G xX12_child [.ref (gA G a0), .int (eI x1), .int (eI x2), .int (eI x3)] L0 M (some (.int (eI res.1))) L0 res.2 := CO_of (by decide +kernel) (Nat.le_of_ble_eq_true rfl) (bX12_child_b0 a0 x1 x2 x3 oa0 M h)
abbrev xX12_deeds : XX := (yX12_deeds, cX12_deeds, 1, (some .int), 0, 0, 0, 0)
def sX12_deeds_b0 (a0 : Nat) (M : MM)   : Option Int := (if 0 ≤ wI (121 * (M a0 29)) ∧ wI (121 * (M a0 29)) < 968 then (some ((M (gR a0 7) (wI (121 * (M a0 29))).toNat))) else none)
def sX12_deeds (a0 : Nat) (M : MM) : Option Int := sX12_deeds_b0 a0 M
set_option maxHeartbeats 4000000 in
set_option maxRecDepth 100000 in
theorem bX12_deeds_b0 {G : GG} (a0 : Nat) (M : MM) (oa0 : OB L0 a0 12)  {res : Int}  (h : sX12_deeds_b0 a0 M = some res) : VV G xX12_deeds (ZM G xX12_deeds (some (.int (eI res))) L0 M) L0 M 0 0 0 [(0, .ref (gA G a0))] [] := by
  unfold sX12_deeds_b0 at h
  refine r_aload_n (pc := 0) (i := 0) dX12_deeds_0 rfl 0 rfl ?_
  have o_1 := (wt_12_7 oa0).2
  refine r_getR (pc := 1) fg_12_29 rfl oa0 (wt_12_7 oa0).1 dX12_deeds_1 ?_
  refine r_bipush (pc := 4) (v := 121) dX12_deeds_4 (by decide +kernel) ?_
  refine r_aload_n (pc := 6) (i := 0) dX12_deeds_6 rfl 0 rfl ?_
  refine r_getI (pc := 7) fg_12_337 rfl oa0 dX12_deeds_7 ?_
  refine r_imul (pc := 10) dX12_deeds_10 ?_
  obtain ⟨c_2, h⟩ := og h
  refine r_iald (pc := 11) o_1 rfl c_2 rfl dX12_deeds_11 ?_
  cases h
  exact r_iret (pc := 12) rfl rfl (Nat.le_refl 0) (Nat.le_refl 0) dX12_deeds_12
theorem kX12_deeds {G : GG} (a0 : Nat) (M : MM) {res : Int} (oa0 : OB L0 a0 12) (h : sX12_deeds a0 M = some res) : CO G xX12_deeds [.ref (gA G a0)] L0 M (some (.int (eI res))) L0 M := CO_of (by decide +kernel) (Nat.le_of_ble_eq_true rfl) (bX12_deeds_b0 a0 M oa0 h)
abbrev xX12_deedOf : XX := (yX12_deedOf, cX12_deedOf, 3, (some .int), 0, 0, 0, 0)
def sX12_deedOf_b0 (a0 : Nat) (x1 : Int) (x2 : Int) (M : MM)   : Option Int := (if 0 ≤ wI ((((121 * (M a0 29)) + 1) + (3 * x1)) + x2) ∧ wI ((((121 * (M a0 29)) + 1) + (3 * x1)) + x2) < 968 then (some ((M (gR a0 7) (wI ((((121 * (M a0 29)) + 1) + (3 * x1)) + x2)).toNat))) else none)
def sX12_deedOf (a0 : Nat) (x1 : Int) (x2 : Int) (M : MM) : Option Int := sX12_deedOf_b0 a0 x1 x2 M
set_option maxHeartbeats 4000000 in
set_option maxRecDepth 100000 in
theorem bX12_deedOf_b0 {G : GG} (a0 : Nat) (x1 : Int) (x2 : Int) (M : MM) (oa0 : OB L0 a0 12)  {res : Int}  (h : sX12_deedOf_b0 a0 x1 x2 M = some res) : VV G xX12_deedOf (ZM G xX12_deedOf (some (.int (eI res))) L0 M) L0 M 0 0 0 [(0, .ref (gA G a0)), (1, .int (eI x1)), (2, .int (eI x2))] [] := by
  unfold sX12_deedOf_b0 at h
  refine r_aload_n (pc := 0) (i := 0) dX12_deedOf_0 rfl 0 rfl ?_
  have o_1 := (wt_12_7 oa0).2
  refine r_getR (pc := 1) fg_12_29 rfl oa0 (wt_12_7 oa0).1 dX12_deedOf_1 ?_
  refine r_bipush (pc := 4) (v := 121) dX12_deedOf_4 (by decide +kernel) ?_
  refine r_aload_n (pc := 6) (i := 0) dX12_deedOf_6 rfl 0 rfl ?_
  refine r_getI (pc := 7) fg_12_337 rfl oa0 dX12_deedOf_7 ?_
  refine r_imul (pc := 10) dX12_deedOf_10 ?_
  refine r_iconst (pc := 11) (v := 1) dX12_deedOf_11 (by decide +kernel) ?_
  refine r_iadd (pc := 12) dX12_deedOf_12 ?_
  refine r_iconst (pc := 13) (v := 3) dX12_deedOf_13 (by decide +kernel) ?_
  refine r_iload_n (pc := 14) (i := 1) dX12_deedOf_14 rfl 1 rfl ?_
  refine r_imul (pc := 15) dX12_deedOf_15 ?_
  refine r_iadd (pc := 16) dX12_deedOf_16 ?_
  refine r_iload_n (pc := 17) (i := 2) dX12_deedOf_17 rfl 2 rfl ?_
  refine r_iadd (pc := 18) dX12_deedOf_18 ?_
  obtain ⟨c_2, h⟩ := og h
  refine r_iald (pc := 19) o_1 rfl c_2 rfl dX12_deedOf_19 ?_
  cases h
  exact r_iret (pc := 20) rfl rfl (Nat.le_refl 0) (Nat.le_refl 0) dX12_deedOf_20
theorem kX12_deedOf {G : GG} (a0 : Nat) (x1 : Int) (x2 : Int) (M : MM) {res : Int} (oa0 : OB L0 a0 12) (h : sX12_deedOf a0 x1 x2 M = some res) : CO G xX12_deedOf [.ref (gA G a0), .int (eI x1), .int (eI x2)] L0 M (some (.int (eI res))) L0 M := CO_of (by decide +kernel) (Nat.le_of_ble_eq_true rfl) (bX12_deedOf_b0 a0 x1 x2 M oa0 h)
abbrev xX12_hasBook : XX := (yX12_hasBook, cX12_hasBook, 2, (some .boolean), 2, 44, 0, 0)
theorem ck_X12_hasBook_301 : CKV xX12_hasBook 301 xX12_is 2 := ⟨⟨tb_i 1629 (by decide +kernel) (by decide +kernel), tb_i 152 (by decide +kernel) (by decide +kernel), tb_i 1632 (by decide +kernel) (by decide +kernel), ⟨by decide +kernel, by decide +kernel, by decide +kernel⟩, by decide, by decide⟩, tb_i 1631 (by decide +kernel) (by decide +kernel), tb_i 47 (by decide +kernel) (by decide +kernel)⟩
def sX12_hasBook_b0 (a0 : Nat) (x1 : Int)   (M : MM) : Option (Int × MM) := ((some (mU M a0 29 x1)).bind fun M_1 => ((sX12_is a0 1 x1 M_1).bind fun q_2 => (if q_2 = 0 ∨ q_2 = 1 then (some ((q_2, M_1))) else none)))
def sX12_hasBook (a0 : Nat) (x1 : Int) (M : MM) : Option (Int × MM) := sX12_hasBook_b0 a0 x1 M
set_option maxHeartbeats 4000000 in
set_option maxRecDepth 100000 in
theorem bX12_hasBook_b0 {G : GG} (a0 : Nat) (x1 : Int) (oa0 : OB L0 a0 12)  (M : MM) {res : (Int × MM)}  (h : sX12_hasBook_b0 a0 x1 M = some res) : VV G xX12_hasBook (ZM G xX12_hasBook (some (.int (eI res.1))) L0 res.2) L0 M 0 0 0 [(0, .ref (gA G a0)), (1, .int (eI x1))] [] := by
  unfold sX12_hasBook_b0 at h
  refine r_aload_n (pc := 0) (i := 0) dX12_hasBook_0 rfl 0 rfl ?_
  refine r_iload_n (pc := 1) (i := 1) dX12_hasBook_1 rfl 1 rfl ?_
  obtain ⟨M_1, hM_1, h⟩ := ob h
  refine r_putI (pc := 2) fg_12_337 rfl oa0 hM_1 rfl rfl dX12_hasBook_2 ?_
  refine r_aload_n (pc := 5) (i := 0) dX12_hasBook_5 rfl 0 rfl ?_
  refine r_iconst (pc := 6) (v := 1) dX12_hasBook_6 (by decide +kernel) ?_
  refine r_iload_n (pc := 7) (i := 1) dX12_hasBook_7 rfl 1 rfl ?_
  obtain ⟨q_2, hq_2, h⟩ := ob h
  refine r_cV (pc := 8) (Y := xX12_is) (As := [.int (eI 1), .int (eI x1)]) (rest := []) (v := (some (.int (eI q_2)))) (st1 := [.int (eI q_2)]) ck_X12_hasBook_301 (kX12_is a0 1 x1 M_1 oa0 hq_2) oa0 rfl rfl rfl rfl (Nat.le_of_ble_eq_true rfl) ⟨rfl, rfl⟩ rfl dX12_hasBook_8 ?_
  obtain ⟨c_3, h⟩ := og h
  cases h
  exact r_iret (pc := 11) rfl (zn_ok c_3).1 (Nat.le_refl 0) (Nat.le_refl 0) dX12_hasBook_11
theorem kX12_hasBook {G : GG} (a0 : Nat) (x1 : Int) (M : MM) {res : (Int × MM)} (oa0 : OB L0 a0 12) (h : sX12_hasBook a0 x1 M = some res) : CO G xX12_hasBook [.ref (gA G a0), .int (eI x1)] L0 M (some (.int (eI res.1))) L0 res.2 := CO_of (by decide +kernel) (Nat.le_of_ble_eq_true rfl) (bX12_hasBook_b0 a0 x1 oa0 M h)
abbrev xX12_deed : XX := (yX12_deed, cX12_deed, 4, (some .int), 3, 65, 0, 0)
theorem ck_X12_deed_105 : CKS xX12_deed 105 xX12_in 3 := ⟨⟨tb_i 1622 (by decide +kernel) (by decide +kernel), tb_i 152 (by decide +kernel) (by decide +kernel), tb_i 1624 (by decide +kernel) (by decide +kernel), ⟨by decide +kernel, by decide +kernel, by decide +kernel⟩, by decide, by decide⟩, tb_i 1623 (by decide +kernel) (by decide +kernel)⟩
theorem ck_X12_deed_340 : CKV xX12_deed 340 xX12_hasBook 1 := ⟨⟨tb_i 1804 (by decide +kernel) (by decide +kernel), tb_i 152 (by decide +kernel) (by decide +kernel), tb_i 1807 (by decide +kernel) (by decide +kernel), ⟨by decide +kernel, by decide +kernel, by decide +kernel⟩, by decide, by decide⟩, tb_i 1806 (by decide +kernel) (by decide +kernel), tb_i 76 (by decide +kernel) (by decide +kernel)⟩
theorem ck_X12_deed_343 : CKV xX12_deed 343 xX12_deeds 0 := ⟨⟨tb_i 1808 (by decide +kernel) (by decide +kernel), tb_i 152 (by decide +kernel) (by decide +kernel), tb_i 1811 (by decide +kernel) (by decide +kernel), ⟨by decide +kernel, by decide +kernel, by decide +kernel⟩, by decide, by decide⟩, tb_i 1810 (by decide +kernel) (by decide +kernel), tb_i 77 (by decide +kernel) (by decide +kernel)⟩
theorem ck_X12_deed_346 : CKV xX12_deed 346 xX12_deedOf 2 := ⟨⟨tb_i 1812 (by decide +kernel) (by decide +kernel), tb_i 152 (by decide +kernel) (by decide +kernel), tb_i 1815 (by decide +kernel) (by decide +kernel), ⟨by decide +kernel, by decide +kernel, by decide +kernel⟩, by decide, by decide⟩, tb_i 1814 (by decide +kernel) (by decide +kernel), tb_i 78 (by decide +kernel) (by decide +kernel)⟩
def sX12_deed_b0 (a0 : Nat) (x1 : Int) (x2 : Int) (x3 : Int)   (M : MM) : Option (Int × MM) := ((some (mU M a0 0 0)).bind fun M_1 => ((sX12_hasBook a0 x1 M_1).bind fun q_2 => (if wI (q_2.1) = 0 then (some (((-2), q_2.2))) else (if wI x2 = (-1) then (if wI x3 = 0 then ((sX12_deeds a0 q_2.2).bind fun q_10 => (some ((q_10, q_2.2)))) else (some (((-2), q_2.2)))) else ((sX12_deeds a0 q_2.2).bind fun q_5 => (if wI (sX12_in x2 0 (q_5 - 1)) = 0 then (some (((-2), q_2.2))) else (if wI (sX12_in x3 0 2) = 0 then (some (((-2), q_2.2))) else ((sX12_deedOf a0 x2 x3 q_2.2).bind fun q_8 => (some ((q_8, q_2.2)))))))))))
def sX12_deed (a0 : Nat) (x1 : Int) (x2 : Int) (x3 : Int) (M : MM) : Option (Int × MM) := sX12_deed_b0 a0 x1 x2 x3 M
set_option maxHeartbeats 4000000 in
set_option maxRecDepth 100000 in
theorem bX12_deed_b0 {G : GG} (a0 : Nat) (x1 : Int) (x2 : Int) (x3 : Int) (oa0 : OB L0 a0 12)  (M : MM) {res : (Int × MM)}  (h : sX12_deed_b0 a0 x1 x2 x3 M = some res) : VV G xX12_deed (ZM G xX12_deed (some (.int (eI res.1))) L0 res.2) L0 M 0 0 0 [(0, .ref (gA G a0)), (1, .int (eI x1)), (2, .int (eI x2)), (3, .int (eI x3))] [] := by
  unfold sX12_deed_b0 at h
  refine r_aload_n (pc := 0) (i := 0) dX12_deed_0 rfl 0 rfl ?_
  refine r_iconst (pc := 1) (v := 0) dX12_deed_1 (by decide +kernel) ?_
  obtain ⟨M_1, hM_1, h⟩ := ob h
  refine r_putI (pc := 2) fg_12_97 rfl oa0 hM_1 rfl rfl dX12_deed_2 ?_
  refine r_aload_n (pc := 5) (i := 0) dX12_deed_5 rfl 0 rfl ?_
  refine r_iload_n (pc := 6) (i := 1) dX12_deed_6 rfl 1 rfl ?_
  obtain ⟨q_2, hq_2, h⟩ := ob h
  refine r_cV (pc := 7) (Y := xX12_hasBook) (As := [.int (eI x1)]) (rest := []) (v := (some (.int (eI (q_2.1))))) (st1 := [.int (eI (q_2.1))]) ck_X12_deed_340 (kX12_hasBook a0 x1 M_1 oa0 hq_2) oa0 rfl rfl rfl rfl (Nat.le_of_ble_eq_true rfl) ⟨rfl, rfl⟩ rfl dX12_deed_7 ?_
  refine r_if_ne (pc := 10) (tgt := 16) dX12_deed_10 (by decide) rfl (fun c_3 => ?_) (fun c_3 => ?_)
  · replace h := (if_neg c_3).symm.trans h
    refine r_iload_n (pc := 16) (i := 2) dX12_deed_16 rfl 2 rfl ?_
    refine r_iconst (pc := 17) (v := (-1)) dX12_deed_17 (by decide +kernel) ?_
    refine r_icmp_ne (pc := 18) (tgt := 35) dX12_deed_18 (by decide) rfl wl_m1 (fun c_4 => ?_) (fun c_4 => ?_)
    · replace h := (if_neg c_4).symm.trans h
      refine r_iload_n (pc := 35) (i := 2) dX12_deed_35 rfl 2 rfl ?_
      refine r_iconst (pc := 36) (v := 0) dX12_deed_36 (by decide +kernel) ?_
      refine r_aload_n (pc := 37) (i := 0) dX12_deed_37 rfl 0 rfl ?_
      obtain ⟨q_5, hq_5, h⟩ := ob h
      refine r_cV (pc := 38) (Y := xX12_deeds) (As := []) (rest := [.int (eI 0), .int (eI x2)]) (v := (some (.int (eI q_5)))) (st1 := [.int (eI q_5), .int (eI 0), .int (eI x2)]) ck_X12_deed_343 (kX12_deeds a0 q_2.2 oa0 hq_5) oa0 rfl rfl rfl rfl (Nat.le_of_ble_eq_true rfl) ⟨rfl, rfl⟩ rfl dX12_deed_38 ?_
      refine r_iconst (pc := 41) (v := 1) dX12_deed_41 (by decide +kernel) ?_
      refine r_isub (pc := 42) dX12_deed_42 ?_
      refine r_cS (pc := 43) (Y := xX12_in) (As := [.int (eI x2), .int (eI 0), .int (eI (q_5 - 1))]) (rest := []) (v := (some (.int (eI (sX12_in x2 0 (q_5 - 1)))))) (st1 := [.int (eI (sX12_in x2 0 (q_5 - 1)))]) ck_X12_deed_105 (kX12_in x2 0 (q_5 - 1) q_2.2 ) rfl rfl (Nat.le_of_ble_eq_true rfl) ⟨rfl, rfl⟩ rfl dX12_deed_43 ?_
      refine r_if_eq (pc := 46) (tgt := 67) dX12_deed_46 (by decide) rfl (fun c_6 => ?_) (fun c_6 => ?_)
      · replace h := (if_pos c_6).symm.trans h
        refine r_bipush (pc := 67) (v := (-2)) dX12_deed_67 (by decide +kernel) ?_
        cases h
        exact r_iret (pc := 69) rfl rfl (Nat.le_refl 0) (Nat.le_refl 0) dX12_deed_69
      · replace h := (if_neg c_6).symm.trans h
        refine r_iload_n (pc := 49) (i := 3) dX12_deed_49 rfl 3 rfl ?_
        refine r_iconst (pc := 50) (v := 0) dX12_deed_50 (by decide +kernel) ?_
        refine r_iconst (pc := 51) (v := 2) dX12_deed_51 (by decide +kernel) ?_
        refine r_cS (pc := 52) (Y := xX12_in) (As := [.int (eI x3), .int (eI 0), .int (eI 2)]) (rest := []) (v := (some (.int (eI (sX12_in x3 0 2))))) (st1 := [.int (eI (sX12_in x3 0 2))]) ck_X12_deed_105 (kX12_in x3 0 2 q_2.2 ) rfl rfl (Nat.le_of_ble_eq_true rfl) ⟨rfl, rfl⟩ rfl dX12_deed_52 ?_
        refine r_if_eq (pc := 55) (tgt := 67) dX12_deed_55 (by decide) rfl (fun c_7 => ?_) (fun c_7 => ?_)
        · replace h := (if_pos c_7).symm.trans h
          refine r_bipush (pc := 67) (v := (-2)) dX12_deed_67 (by decide +kernel) ?_
          cases h
          exact r_iret (pc := 69) rfl rfl (Nat.le_refl 0) (Nat.le_refl 0) dX12_deed_69
        · replace h := (if_neg c_7).symm.trans h
          refine r_aload_n (pc := 58) (i := 0) dX12_deed_58 rfl 0 rfl ?_
          refine r_iload_n (pc := 59) (i := 2) dX12_deed_59 rfl 2 rfl ?_
          refine r_iload_n (pc := 60) (i := 3) dX12_deed_60 rfl 3 rfl ?_
          obtain ⟨q_8, hq_8, h⟩ := ob h
          refine r_cV (pc := 61) (Y := xX12_deedOf) (As := [.int (eI x2), .int (eI x3)]) (rest := []) (v := (some (.int (eI q_8)))) (st1 := [.int (eI q_8)]) ck_X12_deed_346 (kX12_deedOf a0 x2 x3 q_2.2 oa0 hq_8) oa0 rfl rfl rfl rfl (Nat.le_of_ble_eq_true rfl) ⟨rfl, rfl⟩ rfl dX12_deed_61 ?_
          refine r_goto (pc := 64) (tgt := 69) dX12_deed_64 (by decide) ?_
          cases h
          exact r_iret (pc := 69) rfl rfl (Nat.le_refl 0) (Nat.le_refl 0) dX12_deed_69
    · replace h := (if_pos c_4).symm.trans h
      refine r_iload_n (pc := 21) (i := 3) dX12_deed_21 rfl 3 rfl ?_
      refine r_if_ne (pc := 22) (tgt := 32) dX12_deed_22 (by decide) rfl (fun c_9 => ?_) (fun c_9 => ?_)
      · replace h := (if_neg c_9).symm.trans h
        refine r_bipush (pc := 32) (v := (-2)) dX12_deed_32 (by decide +kernel) ?_
        cases h
        exact r_iret (pc := 34) rfl rfl (Nat.le_refl 0) (Nat.le_refl 0) dX12_deed_34
      · replace h := (if_pos c_9).symm.trans h
        refine r_aload_n (pc := 25) (i := 0) dX12_deed_25 rfl 0 rfl ?_
        obtain ⟨q_10, hq_10, h⟩ := ob h
        refine r_cV (pc := 26) (Y := xX12_deeds) (As := []) (rest := []) (v := (some (.int (eI q_10)))) (st1 := [.int (eI q_10)]) ck_X12_deed_343 (kX12_deeds a0 q_2.2 oa0 hq_10) oa0 rfl rfl rfl rfl (Nat.le_of_ble_eq_true rfl) ⟨rfl, rfl⟩ rfl dX12_deed_26 ?_
        refine r_goto (pc := 29) (tgt := 34) dX12_deed_29 (by decide) ?_
        cases h
        exact r_iret (pc := 34) rfl rfl (Nat.le_refl 0) (Nat.le_refl 0) dX12_deed_34
  · replace h := (if_pos c_3).symm.trans h
    refine r_bipush (pc := 13) (v := (-2)) dX12_deed_13 (by decide +kernel) ?_
    cases h
    exact r_iret (pc := 15) rfl rfl (Nat.le_refl 0) (Nat.le_refl 0) dX12_deed_15
theorem kX12_deed {G : GG} (a0 : Nat) (x1 : Int) (x2 : Int) (x3 : Int) (M : MM) {res : (Int × MM)} (oa0 : OB L0 a0 12) (h : sX12_deed a0 x1 x2 x3 M = some res) : CO G xX12_deed [.ref (gA G a0), .int (eI x1), .int (eI x2), .int (eI x3)] L0 M (some (.int (eI res.1))) L0 res.2 := CO_of (by decide +kernel) (Nat.le_of_ble_eq_true rfl) (bX12_deed_b0 a0 x1 x2 x3 oa0 M h)
abbrev xX12_beginBook : XX := (yX12_beginBook, cX12_beginBook, 3, none, 1, 21, 0, 0)
theorem ck_X12_beginBook_313 : CKV xX12_beginBook 313 xX12_of 1 := ⟨⟨tb_i 1784 (by decide +kernel) (by decide +kernel), tb_i 152 (by decide +kernel) (by decide +kernel), tb_i 1787 (by decide +kernel) (by decide +kernel), ⟨by decide +kernel, by decide +kernel, by decide +kernel⟩, by decide, by decide⟩, tb_i 1786 (by decide +kernel) (by decide +kernel), tb_i 73 (by decide +kernel) (by decide +kernel)⟩
def sX12_beginBook_b93 (a0 : Nat) (x1 : Int)  : Nat → Int → MM → Option MM
  | 0, _, _ => none
  | n + 1, x2, M => (if 32 ≤ wI x2 then (some (M)) else (if 0 ≤ wI x2 ∧ wI x2 < 32 then ((some (mU M (gR a0 41) (wI x2).toNat 0)).bind fun M_4 => ((some (x2 + 1)).bind fun v_5 => (sX12_beginBook_b93 a0 x1 n v_5 M_4))) else none))
def sX12_beginBook_b52 (a0 : Nat) (x1 : Int)  : Nat → Int → MM → Option MM
  | 0, _, _ => none
  | n + 1, x2, M => (if wI (M a0 25) ≤ wI x2 then ((some (mU M (gR a0 40) 0 x1)).bind fun M_3 => (sX12_beginBook_b93 a0 x1 FU 0 M_3)) else ((sX12_of a0 ((18 + (2 * x2)) + 1) M).bind fun q_5 => (if 0 ≤ wI x2 ∧ wI x2 < 5 then ((some (mU M (gR a0 40) (wI x2).toNat q_5)).bind fun M_7 => ((some (x2 + 1)).bind fun v_8 => (sX12_beginBook_b52 a0 x1 n v_8 M_7))) else none)))
def sX12_beginBook_b0 (a0 : Nat) (x1 : Int)   (M : MM) : Option MM := ((some (mU M a0 30 (-1))).bind fun M_1 => ((some (mU M_1 a0 31 0)).bind fun M_2 => ((some (mU M_2 a0 32 (-1))).bind fun M_3 => ((some (mU M_3 a0 33 0)).bind fun M_4 => ((some (mU M_4 a0 34 (-1))).bind fun M_5 => ((some (mU M_5 a0 35 (-1))).bind fun M_6 => ((some (mU M_6 a0 36 0)).bind fun M_7 => ((some (mU M_7 a0 37 0)).bind fun M_8 => ((some (mU M_8 a0 38 (-1))).bind fun M_9 => ((some (mU M_9 a0 39 (-1))).bind fun M_10 => (sX12_beginBook_b52 a0 x1 FU 0 M_10)))))))))))
def sX12_beginBook (a0 : Nat) (x1 : Int) (M : MM) : Option MM := sX12_beginBook_b0 a0 x1 M
set_option maxHeartbeats 4000000 in
set_option maxRecDepth 100000 in
theorem bX12_beginBook_b93 {G : GG} (a0 : Nat) (x1 : Int) (oa0 : OB L0 a0 12) {res : MM} : ∀ (n : Nat) (x2 : Int) (M : MM)  (h : sX12_beginBook_b93 a0 x1 n x2 M = some res), VV G xX12_beginBook (ZM G xX12_beginBook (none) L0 res) L0 M 0 0 93 [(0, .ref (gA G a0)), (2, .int (eI x2))] [] := by
  intro n
  induction n with
  | zero =>
    intro x2 M h
    rw [sX12_beginBook_b93] at h
    cases h
  | succ n ih =>
    intro x2 M h
    rw [sX12_beginBook_b93] at h
    refine r_iload_n (pc := 93) (i := 2) dX12_beginBook_93 rfl 1 rfl ?_
    refine r_bipush (pc := 94) (v := 32) dX12_beginBook_94 (by decide +kernel) ?_
    refine r_icmp_ge (pc := 96) (tgt := 112) dX12_beginBook_96 (by decide) rfl wl_32 (fun c_1 => ?_) (fun c_1 => ?_)
    · replace h := (if_pos c_1).symm.trans h
      cases h
      exact r_vret (pc := 112) rfl (Nat.le_refl 0) (Nat.le_refl 0) dX12_beginBook_112
    · replace h := (if_neg c_1).symm.trans h
      refine r_aload_n (pc := 99) (i := 0) dX12_beginBook_99 rfl 0 rfl ?_
      have o_2 := (wt_12_41 oa0).2
      refine r_getR (pc := 100) fg_12_50 rfl oa0 (wt_12_41 oa0).1 dX12_beginBook_100 ?_
      refine r_iload_n (pc := 103) (i := 2) dX12_beginBook_103 rfl 1 rfl ?_
      refine r_iconst (pc := 104) (v := 0) dX12_beginBook_104 (by decide +kernel) ?_
      obtain ⟨c_3, h⟩ := og h
      obtain ⟨M_4, hM_4, h⟩ := ob h
      refine r_iast (pc := 105) o_2 rfl c_3 rfl hM_4 dX12_beginBook_105 ?_
      obtain ⟨v_5, hv_5, h⟩ := ob h
      refine r_iinc (pc := 106) (y := v_5) (lv' := [(2, .int (eI v_5)), (0, .ref (gA G a0))]) dX12_beginBook_106 1 rfl (Option.some.inj hv_5) (Nat.le_of_ble_eq_true rfl) rfl ?_
      refine r_goto (pc := 109) (tgt := 93) dX12_beginBook_109 (by decide) ?_
      refine r_sub (lv' := [(0, .ref (gA G a0)), (2, .int (eI v_5))]) [1, 0] rfl ?_
      exact ih _ _ h
set_option maxHeartbeats 4000000 in
set_option maxRecDepth 100000 in
theorem bX12_beginBook_b52 {G : GG} (a0 : Nat) (x1 : Int) (oa0 : OB L0 a0 12) {res : MM} : ∀ (n : Nat) (x2 : Int) (M : MM)  (h : sX12_beginBook_b52 a0 x1 n x2 M = some res), VV G xX12_beginBook (ZM G xX12_beginBook (none) L0 res) L0 M 0 0 52 [(0, .ref (gA G a0)), (1, .int (eI x1)), (2, .int (eI x2))] [] := by
  intro n
  induction n with
  | zero =>
    intro x2 M h
    rw [sX12_beginBook_b52] at h
    cases h
  | succ n ih =>
    intro x2 M h
    rw [sX12_beginBook_b52] at h
    refine r_iload_n (pc := 52) (i := 2) dX12_beginBook_52 rfl 2 rfl ?_
    refine r_aload_n (pc := 53) (i := 0) dX12_beginBook_53 rfl 0 rfl ?_
    refine r_getI (pc := 54) fg_12_316 rfl oa0 dX12_beginBook_54 ?_
    refine r_icmp_ge (pc := 57) (tgt := 84) dX12_beginBook_57 (by decide) rfl rfl (fun c_1 => ?_) (fun c_1 => ?_)
    · replace h := (if_pos c_1).symm.trans h
      refine r_aload_n (pc := 84) (i := 0) dX12_beginBook_84 rfl 0 rfl ?_
      have o_2 := (wt_12_40 oa0).2
      refine r_getR (pc := 85) fg_12_47 rfl oa0 (wt_12_40 oa0).1 dX12_beginBook_85 ?_
      refine r_iconst (pc := 88) (v := 0) dX12_beginBook_88 (by decide +kernel) ?_
      refine r_iload_n (pc := 89) (i := 1) dX12_beginBook_89 rfl 1 rfl ?_
      obtain ⟨M_3, hM_3, h⟩ := ob h
      refine r_iast (pc := 90) o_2 wl_0 ⟨by decide, by decide⟩ rfl hM_3 dX12_beginBook_90 ?_
      refine r_iconst (pc := 91) (v := 0) dX12_beginBook_91 (by decide +kernel) ?_
      refine r_istore_n (pc := 92) (i := 2) (lv' := [(2, .int (eI 0)), (0, .ref (gA G a0)), (1, .int (eI x1))]) dX12_beginBook_92 rfl (Nat.le_of_ble_eq_true rfl) rfl ?_
      refine r_sub (lv' := [(0, .ref (gA G a0)), (2, .int (eI 0))]) [1, 0] rfl ?_
      exact bX12_beginBook_b93 a0 x1 oa0 _ _ _ h
    · replace h := (if_neg c_1).symm.trans h
      refine r_aload_n (pc := 60) (i := 0) dX12_beginBook_60 rfl 0 rfl ?_
      have o_4 := (wt_12_40 oa0).2
      refine r_getR (pc := 61) fg_12_47 rfl oa0 (wt_12_40 oa0).1 dX12_beginBook_61 ?_
      refine r_iload_n (pc := 64) (i := 2) dX12_beginBook_64 rfl 2 rfl ?_
      refine r_aload_n (pc := 65) (i := 0) dX12_beginBook_65 rfl 0 rfl ?_
      refine r_bipush (pc := 66) (v := 18) dX12_beginBook_66 (by decide +kernel) ?_
      refine r_iconst (pc := 68) (v := 2) dX12_beginBook_68 (by decide +kernel) ?_
      refine r_iload_n (pc := 69) (i := 2) dX12_beginBook_69 rfl 2 rfl ?_
      refine r_imul (pc := 70) dX12_beginBook_70 ?_
      refine r_iadd (pc := 71) dX12_beginBook_71 ?_
      refine r_iconst (pc := 72) (v := 1) dX12_beginBook_72 (by decide +kernel) ?_
      refine r_iadd (pc := 73) dX12_beginBook_73 ?_
      obtain ⟨q_5, hq_5, h⟩ := ob h
      refine r_cV (pc := 74) (Y := xX12_of) (As := [.int (eI ((18 + (2 * x2)) + 1))]) (rest := [.int (eI x2), .ref (gA G (gR a0 40))]) (v := (some (.int (eI q_5)))) (st1 := [.int (eI q_5), .int (eI x2), .ref (gA G (gR a0 40))]) ck_X12_beginBook_313 (kX12_of a0 ((18 + (2 * x2)) + 1) M oa0 hq_5) oa0 rfl rfl rfl rfl (Nat.le_of_ble_eq_true rfl) ⟨rfl, rfl⟩ rfl dX12_beginBook_74 ?_
      obtain ⟨c_6, h⟩ := og h
      obtain ⟨M_7, hM_7, h⟩ := ob h
      refine r_iast (pc := 77) o_4 rfl c_6 rfl hM_7 dX12_beginBook_77 ?_
      obtain ⟨v_8, hv_8, h⟩ := ob h
      refine r_iinc (pc := 78) (y := v_8) (lv' := [(2, .int (eI v_8)), (0, .ref (gA G a0)), (1, .int (eI x1))]) dX12_beginBook_78 2 rfl (Option.some.inj hv_8) (Nat.le_of_ble_eq_true rfl) rfl ?_
      refine r_goto (pc := 81) (tgt := 52) dX12_beginBook_81 (by decide) ?_
      refine r_sub (lv' := [(0, .ref (gA G a0)), (1, .int (eI x1)), (2, .int (eI v_8))]) [1, 2, 0] rfl ?_
      exact ih _ _ h
set_option maxHeartbeats 4000000 in
set_option maxRecDepth 100000 in
theorem bX12_beginBook_b0 {G : GG} (a0 : Nat) (x1 : Int) (oa0 : OB L0 a0 12)  (M : MM) {res : MM}  (h : sX12_beginBook_b0 a0 x1 M = some res) : VV G xX12_beginBook (ZM G xX12_beginBook (none) L0 res) L0 M 0 0 0 [(0, .ref (gA G a0)), (1, .int (eI x1))] [] := by
  unfold sX12_beginBook_b0 at h
  refine r_aload_n (pc := 0) (i := 0) dX12_beginBook_0 rfl 0 rfl ?_
  refine r_iconst (pc := 1) (v := (-1)) dX12_beginBook_1 (by decide +kernel) ?_
  obtain ⟨M_1, hM_1, h⟩ := ob h
  refine r_putI (pc := 2) fg_12_349 rfl oa0 hM_1 rfl rfl dX12_beginBook_2 ?_
  refine r_aload_n (pc := 5) (i := 0) dX12_beginBook_5 rfl 0 rfl ?_
  refine r_iconst (pc := 6) (v := 0) dX12_beginBook_6 (by decide +kernel) ?_
  obtain ⟨M_2, hM_2, h⟩ := ob h
  refine r_putI (pc := 7) fg_12_352 rfl oa0 hM_2 rfl rfl dX12_beginBook_7 ?_
  refine r_aload_n (pc := 10) (i := 0) dX12_beginBook_10 rfl 0 rfl ?_
  refine r_iconst (pc := 11) (v := (-1)) dX12_beginBook_11 (by decide +kernel) ?_
  obtain ⟨M_3, hM_3, h⟩ := ob h
  refine r_putI (pc := 12) fg_12_355 rfl oa0 hM_3 rfl rfl dX12_beginBook_12 ?_
  refine r_aload_n (pc := 15) (i := 0) dX12_beginBook_15 rfl 0 rfl ?_
  refine r_iconst (pc := 16) (v := 0) dX12_beginBook_16 (by decide +kernel) ?_
  obtain ⟨M_4, hM_4, h⟩ := ob h
  refine r_putI (pc := 17) fg_12_358 rfl oa0 hM_4 rfl rfl dX12_beginBook_17 ?_
  refine r_aload_n (pc := 20) (i := 0) dX12_beginBook_20 rfl 0 rfl ?_
  refine r_iconst (pc := 21) (v := (-1)) dX12_beginBook_21 (by decide +kernel) ?_
  obtain ⟨M_5, hM_5, h⟩ := ob h
  refine r_putI (pc := 22) fg_12_361 rfl oa0 hM_5 rfl rfl dX12_beginBook_22 ?_
  refine r_aload_n (pc := 25) (i := 0) dX12_beginBook_25 rfl 0 rfl ?_
  refine r_iconst (pc := 26) (v := (-1)) dX12_beginBook_26 (by decide +kernel) ?_
  obtain ⟨M_6, hM_6, h⟩ := ob h
  refine r_putI (pc := 27) fg_12_364 rfl oa0 hM_6 rfl rfl dX12_beginBook_27 ?_
  refine r_aload_n (pc := 30) (i := 0) dX12_beginBook_30 rfl 0 rfl ?_
  refine r_iconst (pc := 31) (v := 0) dX12_beginBook_31 (by decide +kernel) ?_
  obtain ⟨M_7, hM_7, h⟩ := ob h
  refine r_putI (pc := 32) fg_12_367 rfl oa0 hM_7 (by decide +kernel) (by decide +kernel) dX12_beginBook_32 ?_
  refine r_aload_n (pc := 35) (i := 0) dX12_beginBook_35 rfl 0 rfl ?_
  refine r_iconst (pc := 36) (v := 0) dX12_beginBook_36 (by decide +kernel) ?_
  obtain ⟨M_8, hM_8, h⟩ := ob h
  refine r_putI (pc := 37) fg_12_370 rfl oa0 hM_8 rfl rfl dX12_beginBook_37 ?_
  refine r_aload_n (pc := 40) (i := 0) dX12_beginBook_40 rfl 0 rfl ?_
  refine r_iconst (pc := 41) (v := (-1)) dX12_beginBook_41 (by decide +kernel) ?_
  obtain ⟨M_9, hM_9, h⟩ := ob h
  refine r_putI (pc := 42) fg_12_373 rfl oa0 hM_9 rfl rfl dX12_beginBook_42 ?_
  refine r_aload_n (pc := 45) (i := 0) dX12_beginBook_45 rfl 0 rfl ?_
  refine r_iconst (pc := 46) (v := (-1)) dX12_beginBook_46 (by decide +kernel) ?_
  obtain ⟨M_10, hM_10, h⟩ := ob h
  refine r_putI (pc := 47) fg_12_376 rfl oa0 hM_10 rfl rfl dX12_beginBook_47 ?_
  refine r_iconst (pc := 50) (v := 0) dX12_beginBook_50 (by decide +kernel) ?_
  refine r_istore_n (pc := 51) (i := 2) (lv' := [(2, .int (eI 0)), (0, .ref (gA G a0)), (1, .int (eI x1))]) dX12_beginBook_51 rfl (Nat.le_of_ble_eq_true rfl) rfl ?_
  refine r_sub (lv' := [(0, .ref (gA G a0)), (1, .int (eI x1)), (2, .int (eI 0))]) [1, 2, 0] rfl ?_
  exact bX12_beginBook_b52 a0 x1 oa0 _ _ _ h
theorem kX12_beginBook {G : GG} (a0 : Nat) (x1 : Int) (M : MM) {res : MM} (oa0 : OB L0 a0 12) (h : sX12_beginBook a0 x1 M = some res) : CO G xX12_beginBook [.ref (gA G a0), .int (eI x1)] L0 M (none) L0 res := CO_of (by decide +kernel) (Nat.le_of_ble_eq_true rfl) (bX12_beginBook_b0 a0 x1 oa0 M h)
abbrev xX12_apart : XX := (yX12_apart, cX12_apart, 3, (some .int), 1, 21, 0, 0)
theorem ck_X12_apart_379 : CKS xX12_apart 379 xX12_size 1 := ⟨⟨tb_i 1851 (by decide +kernel) (by decide +kernel), tb_i 152 (by decide +kernel) (by decide +kernel), tb_i 1853 (by decide +kernel) (by decide +kernel), ⟨by decide +kernel, by decide +kernel, by decide +kernel⟩, by decide, by decide⟩, tb_i 1852 (by decide +kernel) (by decide +kernel)⟩
theorem ck_X12_apart_381 : CKS xX12_apart 381 xX12_lesser 2 := ⟨⟨tb_i 1857 (by decide +kernel) (by decide +kernel), tb_i 152 (by decide +kernel) (by decide +kernel), tb_i 1859 (by decide +kernel) (by decide +kernel), ⟨by decide +kernel, by decide +kernel, by decide +kernel⟩, by decide, by decide⟩, tb_i 1858 (by decide +kernel) (by decide +kernel)⟩
def sX12_apart_b0 (x0 : Int) (x1 : Int)   : Int := (sX12_lesser (sX12_size (x0 - x1)) (8 - (sX12_size (x0 - x1))))
def sX12_apart (x0 : Int) (x1 : Int) : Int := sX12_apart_b0 x0 x1
set_option maxHeartbeats 4000000 in
set_option maxRecDepth 100000 in
theorem bX12_apart_b0 {G : GG} (x0 : Int) (x1 : Int) (M : MM)   {res : Int}  (h : sX12_apart_b0 x0 x1 = res) : VV G xX12_apart (ZM G xX12_apart (some (.int (eI res))) L0 M) L0 M 0 0 0 [(0, .int (eI x0)), (1, .int (eI x1))] [] := by
  unfold sX12_apart_b0 at h
  refine r_iload_n (pc := 0) (i := 0) dX12_apart_0 rfl 0 rfl ?_
  refine r_iload_n (pc := 1) (i := 1) dX12_apart_1 rfl 1 rfl ?_
  refine r_isub (pc := 2) dX12_apart_2 ?_
  refine r_cS (pc := 3) (Y := xX12_size) (As := [.int (eI (x0 - x1))]) (rest := []) (v := (some (.int (eI (sX12_size (x0 - x1)))))) (st1 := [.int (eI (sX12_size (x0 - x1)))]) ck_X12_apart_379 (kX12_size (x0 - x1) M ) rfl rfl (Nat.le_of_ble_eq_true rfl) ⟨rfl, rfl⟩ rfl dX12_apart_3 ?_
  refine r_istore_n (pc := 6) (i := 2) (lv' := [(2, .int (eI (sX12_size (x0 - x1)))), (0, .int (eI x0)), (1, .int (eI x1))]) dX12_apart_6 rfl (Nat.le_of_ble_eq_true rfl) rfl ?_
  refine r_iload_n (pc := 7) (i := 2) dX12_apart_7 rfl 0 rfl ?_
  refine r_bipush (pc := 8) (v := 8) dX12_apart_8 (by decide +kernel) ?_
  refine r_iload_n (pc := 10) (i := 2) dX12_apart_10 rfl 0 rfl ?_
  refine r_isub (pc := 11) dX12_apart_11 ?_
  refine r_cS (pc := 12) (Y := xX12_lesser) (As := [.int (eI (sX12_size (x0 - x1))), .int (eI (8 - (sX12_size (x0 - x1))))]) (rest := []) (v := (some (.int (eI (sX12_lesser (sX12_size (x0 - x1)) (8 - (sX12_size (x0 - x1)))))))) (st1 := [.int (eI (sX12_lesser (sX12_size (x0 - x1)) (8 - (sX12_size (x0 - x1)))))]) ck_X12_apart_381 (kX12_lesser (sX12_size (x0 - x1)) (8 - (sX12_size (x0 - x1))) M ) rfl rfl (Nat.le_of_ble_eq_true rfl) ⟨rfl, rfl⟩ rfl dX12_apart_12 ?_
  cases h
  exact r_iret (pc := 15) rfl rfl (Nat.le_refl 0) (Nat.le_refl 0) dX12_apart_15
theorem kX12_apart {G : GG} (x0 : Int) (x1 : Int) (M : MM)  : CO G xX12_apart [.int (eI x0), .int (eI x1)] L0 M (some (.int (eI (sX12_apart x0 x1)))) L0 M := CO_of (by decide +kernel) (Nat.le_of_ble_eq_true rfl) (bX12_apart_b0 x0 x1 M rfl)
abbrev xX12_struck : XX := (yX12_struck, cX12_struck, 6, (some .int), 2, 43, 0, 0)
theorem ck_X12_struck_313 : CKV xX12_struck 313 xX12_of 1 := ⟨⟨tb_i 1784 (by decide +kernel) (by decide +kernel), tb_i 152 (by decide +kernel) (by decide +kernel), tb_i 1787 (by decide +kernel) (by decide +kernel), ⟨by decide +kernel, by decide +kernel, by decide +kernel⟩, by decide, by decide⟩, tb_i 1786 (by decide +kernel) (by decide +kernel), tb_i 73 (by decide +kernel) (by decide +kernel)⟩
theorem ck_X12_struck_379 : CKS xX12_struck 379 xX12_size 1 := ⟨⟨tb_i 1851 (by decide +kernel) (by decide +kernel), tb_i 152 (by decide +kernel) (by decide +kernel), tb_i 1853 (by decide +kernel) (by decide +kernel), ⟨by decide +kernel, by decide +kernel, by decide +kernel⟩, by decide, by decide⟩, tb_i 1852 (by decide +kernel) (by decide +kernel)⟩
theorem ck_X12_struck_384 : CKS xX12_struck 384 xX12_apart 2 := ⟨⟨tb_i 1854 (by decide +kernel) (by decide +kernel), tb_i 152 (by decide +kernel) (by decide +kernel), tb_i 1856 (by decide +kernel) (by decide +kernel), ⟨by decide +kernel, by decide +kernel, by decide +kernel⟩, by decide, by decide⟩, tb_i 1855 (by decide +kernel) (by decide +kernel)⟩
def sX12_struck_b63 (a0 : Nat) (x1 : Int) (x2 : Int) (x3 : Int) (M : MM) (K3 : Int → Option Int) (x4 : Int) : Option Int := ((some (x4 + 1)).bind fun v_1 => (K3 v_1))
def sX12_struck_b3 (a0 : Nat) (x1 : Int) (x2 : Int) (x3 : Int) (M : MM)  : Nat → Int → Option Int
  | 0, _ => none
  | n + 1, x4 => (if wI (M a0 25) ≤ wI x4 then (some ((-1))) else ((sX12_of a0 (18 + (2 * x4)) M).bind fun q_2 => ((some ((sX12_size ((q_2 + (M a0 33)) - x2)) + (sX12_apart x1 (M a0 32)))).bind fun v_3 => (if 0 ≤ wI x4 ∧ wI x4 < 5 then (if wI (M (gR a0 40) (wI x4).toNat) ≤ 0 then (sX12_struck_b63 a0 x1 x2 x3 M (fun x4 => sX12_struck_b3 a0 x1 x2 x3 M n x4) x4) else (if wI v_3 = wI x3 then (some (x4)) else (sX12_struck_b63 a0 x1 x2 x3 M (fun x4 => sX12_struck_b3 a0 x1 x2 x3 M n x4) x4))) else none))))
def sX12_struck_b0 (a0 : Nat) (x1 : Int) (x2 : Int) (x3 : Int) (M : MM)   : Option Int := (sX12_struck_b3 a0 x1 x2 x3 M FU 0)
def sX12_struck (a0 : Nat) (x1 : Int) (x2 : Int) (x3 : Int) (M : MM) : Option Int := sX12_struck_b0 a0 x1 x2 x3 M
set_option maxHeartbeats 4000000 in
set_option maxRecDepth 100000 in
theorem bX12_struck_b63 {G : GG} (a0 : Nat) (x1 : Int) (x2 : Int) (x3 : Int) (M : MM) (oa0 : OB L0 a0 12) {K3 : Int → Option Int} (x4 : Int) {res : Int} (hK3 : ∀ (x4 : Int), K3 x4 = some res → VV G xX12_struck (ZM G xX12_struck (some (.int (eI res))) L0 M) L0 M 0 0 3 [(0, .ref (gA G a0)), (1, .int (eI x1)), (2, .int (eI x2)), (3, .int (eI x3)), (4, .int (eI x4))] [])  (h : sX12_struck_b63 a0 x1 x2 x3 M K3 x4 = some res) : VV G xX12_struck (ZM G xX12_struck (some (.int (eI res))) L0 M) L0 M 0 0 63 [(0, .ref (gA G a0)), (1, .int (eI x1)), (2, .int (eI x2)), (3, .int (eI x3)), (4, .int (eI x4))] [] := by
  unfold sX12_struck_b63 at h
  obtain ⟨v_1, hv_1, h⟩ := ob h
  refine r_iinc (pc := 63) (y := v_1) (lv' := [(4, .int (eI v_1)), (0, .ref (gA G a0)), (1, .int (eI x1)), (2, .int (eI x2)), (3, .int (eI x3))]) dX12_struck_63 4 rfl (Option.some.inj hv_1) (Nat.le_of_ble_eq_true rfl) rfl ?_
  refine r_goto (pc := 66) (tgt := 3) dX12_struck_66 (by decide) ?_
  refine r_sub (lv' := [(0, .ref (gA G a0)), (1, .int (eI x1)), (2, .int (eI x2)), (3, .int (eI x3)), (4, .int (eI v_1))]) [1, 2, 3, 4, 0] rfl ?_
  exact hK3 _ h
set_option maxHeartbeats 4000000 in
set_option maxRecDepth 100000 in
theorem bX12_struck_b3 {G : GG} (a0 : Nat) (x1 : Int) (x2 : Int) (x3 : Int) (M : MM) (oa0 : OB L0 a0 12) {res : Int} : ∀ (n : Nat) (x4 : Int)  (h : sX12_struck_b3 a0 x1 x2 x3 M n x4 = some res), VV G xX12_struck (ZM G xX12_struck (some (.int (eI res))) L0 M) L0 M 0 0 3 [(0, .ref (gA G a0)), (1, .int (eI x1)), (2, .int (eI x2)), (3, .int (eI x3)), (4, .int (eI x4))] [] := by
  intro n
  induction n with
  | zero =>
    intro x4 h
    rw [sX12_struck_b3] at h
    cases h
  | succ n ih =>
    intro x4 h
    rw [sX12_struck_b3] at h
    refine r_iload (pc := 3) dX12_struck_3 4 rfl ?_
    refine r_aload_n (pc := 5) (i := 0) dX12_struck_5 rfl 0 rfl ?_
    refine r_getI (pc := 6) fg_12_316 rfl oa0 dX12_struck_6 ?_
    refine r_icmp_ge (pc := 9) (tgt := 69) dX12_struck_9 (by decide) rfl rfl (fun c_1 => ?_) (fun c_1 => ?_)
    · replace h := (if_pos c_1).symm.trans h
      refine r_iconst (pc := 69) (v := (-1)) dX12_struck_69 (by decide +kernel) ?_
      cases h
      exact r_iret (pc := 70) rfl rfl (Nat.le_refl 0) (Nat.le_refl 0) dX12_struck_70
    · replace h := (if_neg c_1).symm.trans h
      refine r_aload_n (pc := 12) (i := 0) dX12_struck_12 rfl 0 rfl ?_
      refine r_bipush (pc := 13) (v := 18) dX12_struck_13 (by decide +kernel) ?_
      refine r_iconst (pc := 15) (v := 2) dX12_struck_15 (by decide +kernel) ?_
      refine r_iload (pc := 16) dX12_struck_16 4 rfl ?_
      refine r_imul (pc := 18) dX12_struck_18 ?_
      refine r_iadd (pc := 19) dX12_struck_19 ?_
      obtain ⟨q_2, hq_2, h⟩ := ob h
      refine r_cV (pc := 20) (Y := xX12_of) (As := [.int (eI (18 + (2 * x4)))]) (rest := []) (v := (some (.int (eI q_2)))) (st1 := [.int (eI q_2)]) ck_X12_struck_313 (kX12_of a0 (18 + (2 * x4)) M oa0 hq_2) oa0 rfl rfl rfl rfl (Nat.le_of_ble_eq_true rfl) ⟨rfl, rfl⟩ rfl dX12_struck_20 ?_
      refine r_aload_n (pc := 23) (i := 0) dX12_struck_23 rfl 0 rfl ?_
      refine r_getI (pc := 24) fg_12_358 rfl oa0 dX12_struck_24 ?_
      refine r_iadd (pc := 27) dX12_struck_27 ?_
      refine r_iload_n (pc := 28) (i := 2) dX12_struck_28 rfl 2 rfl ?_
      refine r_isub (pc := 29) dX12_struck_29 ?_
      refine r_cS (pc := 30) (Y := xX12_size) (As := [.int (eI ((q_2 + (M a0 33)) - x2))]) (rest := []) (v := (some (.int (eI (sX12_size ((q_2 + (M a0 33)) - x2)))))) (st1 := [.int (eI (sX12_size ((q_2 + (M a0 33)) - x2)))]) ck_X12_struck_379 (kX12_size ((q_2 + (M a0 33)) - x2) M ) rfl rfl (Nat.le_of_ble_eq_true rfl) ⟨rfl, rfl⟩ rfl dX12_struck_30 ?_
      refine r_iload_n (pc := 33) (i := 1) dX12_struck_33 rfl 1 rfl ?_
      refine r_aload_n (pc := 34) (i := 0) dX12_struck_34 rfl 0 rfl ?_
      refine r_getI (pc := 35) fg_12_355 rfl oa0 dX12_struck_35 ?_
      refine r_cS (pc := 38) (Y := xX12_apart) (As := [.int (eI x1), .int (eI (M a0 32))]) (rest := [.int (eI (sX12_size ((q_2 + (M a0 33)) - x2)))]) (v := (some (.int (eI (sX12_apart x1 (M a0 32)))))) (st1 := [.int (eI (sX12_apart x1 (M a0 32))), .int (eI (sX12_size ((q_2 + (M a0 33)) - x2)))]) ck_X12_struck_384 (kX12_apart x1 (M a0 32) M ) rfl rfl (Nat.le_of_ble_eq_true rfl) ⟨rfl, rfl⟩ rfl dX12_struck_38 ?_
      refine r_iadd (pc := 41) dX12_struck_41 ?_
      obtain ⟨v_3, hv_3, h⟩ := ob h
      refine r_nmI (pc := 42) hv_3 ?_
      refine r_istore (pc := 42) (lv' := [(5, .int (eI v_3)), (0, .ref (gA G a0)), (1, .int (eI x1)), (2, .int (eI x2)), (3, .int (eI x3)), (4, .int (eI x4))]) dX12_struck_42 (Nat.le_of_ble_eq_true rfl) rfl ?_
      refine r_aload_n (pc := 44) (i := 0) dX12_struck_44 rfl 1 rfl ?_
      have o_4 := (wt_12_40 oa0).2
      refine r_getR (pc := 45) fg_12_47 rfl oa0 (wt_12_40 oa0).1 dX12_struck_45 ?_
      refine r_iload (pc := 48) dX12_struck_48 5 rfl ?_
      obtain ⟨c_5, h⟩ := og h
      refine r_iald (pc := 50) o_4 rfl c_5 rfl dX12_struck_50 ?_
      refine r_if_le (pc := 51) (tgt := 63) dX12_struck_51 (by decide) rfl (fun c_6 => ?_) (fun c_6 => ?_)
      · replace h := (if_pos c_6).symm.trans h
        refine r_sub (lv' := [(0, .ref (gA G a0)), (1, .int (eI x1)), (2, .int (eI x2)), (3, .int (eI x3)), (4, .int (eI x4))]) [1, 2, 3, 4, 5] rfl ?_
        exact bX12_struck_b63 a0 x1 x2 x3 M oa0 _ (fun v0 v1 => ih v0 v1) h
      · replace h := (if_neg c_6).symm.trans h
        refine r_iload (pc := 54) dX12_struck_54 0 rfl ?_
        refine r_iload_n (pc := 56) (i := 3) dX12_struck_56 rfl 4 rfl ?_
        refine r_icmp_ne (pc := 57) (tgt := 63) dX12_struck_57 (by decide) rfl rfl (fun c_7 => ?_) (fun c_7 => ?_)
        · replace h := (if_neg c_7).symm.trans h
          refine r_sub (lv' := [(0, .ref (gA G a0)), (1, .int (eI x1)), (2, .int (eI x2)), (3, .int (eI x3)), (4, .int (eI x4))]) [1, 2, 3, 4, 5] rfl ?_
          exact bX12_struck_b63 a0 x1 x2 x3 M oa0 _ (fun v0 v1 => ih v0 v1) h
        · replace h := (if_pos c_7).symm.trans h
          refine r_iload (pc := 60) dX12_struck_60 5 rfl ?_
          cases h
          exact r_iret (pc := 62) rfl rfl (Nat.le_refl 0) (Nat.le_refl 0) dX12_struck_62
set_option maxHeartbeats 4000000 in
set_option maxRecDepth 100000 in
theorem bX12_struck_b0 {G : GG} (a0 : Nat) (x1 : Int) (x2 : Int) (x3 : Int) (M : MM) (oa0 : OB L0 a0 12)  {res : Int}  (h : sX12_struck_b0 a0 x1 x2 x3 M = some res) : VV G xX12_struck (ZM G xX12_struck (some (.int (eI res))) L0 M) L0 M 0 0 0 [(0, .ref (gA G a0)), (1, .int (eI x1)), (2, .int (eI x2)), (3, .int (eI x3))] [] := by
  unfold sX12_struck_b0 at h
  refine r_iconst (pc := 0) (v := 0) dX12_struck_0 (by decide +kernel) ?_
  refine r_istore (pc := 1) (lv' := [(4, .int (eI 0)), (0, .ref (gA G a0)), (1, .int (eI x1)), (2, .int (eI x2)), (3, .int (eI x3))]) dX12_struck_1 (Nat.le_of_ble_eq_true rfl) rfl ?_
  refine r_sub (lv' := [(0, .ref (gA G a0)), (1, .int (eI x1)), (2, .int (eI x2)), (3, .int (eI x3)), (4, .int (eI 0))]) [1, 2, 3, 4, 0] rfl ?_
  exact bX12_struck_b3 a0 x1 x2 x3 M oa0 _ _ h
theorem kX12_struck {G : GG} (a0 : Nat) (x1 : Int) (x2 : Int) (x3 : Int) (M : MM) {res : Int} (oa0 : OB L0 a0 12) (h : sX12_struck a0 x1 x2 x3 M = some res) : CO G xX12_struck [.ref (gA G a0), .int (eI x1), .int (eI x2), .int (eI x3)] L0 M (some (.int (eI res))) L0 M := CO_of (by decide +kernel) (Nat.le_of_ble_eq_true rfl) (bX12_struck_b0 a0 x1 x2 x3 M oa0 h)
abbrev xX12_strikes : XX := (yX12_strikes, cX12_strikes, 6, (some .boolean), 3, 68, 0, 0)
theorem ck_X12_strikes_334 : CKV xX12_strikes 334 xX12_ofChild 2 := ⟨⟨tb_i 1796 (by decide +kernel) (by decide +kernel), tb_i 152 (by decide +kernel) (by decide +kernel), tb_i 1799 (by decide +kernel) (by decide +kernel), ⟨by decide +kernel, by decide +kernel, by decide +kernel⟩, by decide, by decide⟩, tb_i 1798 (by decide +kernel) (by decide +kernel), tb_i 75 (by decide +kernel) (by decide +kernel)⟩
theorem ck_X12_strikes_381 : CKS xX12_strikes 381 xX12_lesser 2 := ⟨⟨tb_i 1857 (by decide +kernel) (by decide +kernel), tb_i 152 (by decide +kernel) (by decide +kernel), tb_i 1859 (by decide +kernel) (by decide +kernel), ⟨by decide +kernel, by decide +kernel, by decide +kernel⟩, by decide, by decide⟩, tb_i 1858 (by decide +kernel) (by decide +kernel)⟩
theorem ck_X12_strikes_387 : CKV xX12_strikes 387 xX12_struck 3 := ⟨⟨tb_i 1847 (by decide +kernel) (by decide +kernel), tb_i 152 (by decide +kernel) (by decide +kernel), tb_i 1850 (by decide +kernel) (by decide +kernel), ⟨by decide +kernel, by decide +kernel, by decide +kernel⟩, by decide, by decide⟩, tb_i 1849 (by decide +kernel) (by decide +kernel), tb_i 85 (by decide +kernel) (by decide +kernel)⟩
def sX12_strikes_b224 (a0 : Nat) (x1 : Int) (x2 : Int) (x3 : Int)   (M : MM) : Option (Int × MM) := (if wI (M (gR a0 40) 0) = 0 then ((some (mU M a0 34 (M a0 30))).bind fun M_3 => ((some (mU M_3 a0 35 x3)).bind fun M_4 => (some ((1, M_4))))) else (some ((1, M))))
def sX12_strikes_b187 (a0 : Nat) (x1 : Int) (x2 : Int) (x3 : Int)  (x90 : Int) (x91 : Int) (M : MM) : Option (Int × MM) := (if 0 ≤ wI (M a0 39) ∧ wI (M a0 39) < 5 then (if 0 ≤ wI (M a0 39) ∧ wI (M a0 39) < 5 then ((some (mU M (gR a0 40) (wI (M a0 39)).toNat ((M (gR a0 40) (wI (M a0 39)).toNat) - (sX12_lesser x90 x91)))).bind fun M_4 => (if 0 ≤ wI ((4 * (M_4 a0 30)) + 3) ∧ wI ((4 * (M_4 a0 30)) + 3) < 32 then (if 0 ≤ wI ((4 * (M_4 a0 30)) + 3) ∧ wI ((4 * (M_4 a0 30)) + 3) < 32 then ((some (mU M_4 (gR a0 41) (wI ((4 * (M_4 a0 30)) + 3)).toNat ((M_4 (gR a0 41) (wI ((4 * (M_4 a0 30)) + 3)).toNat) + (sX12_lesser x90 x91)))).bind fun M_8 => (sX12_strikes_b224 a0 x1 x2 x3 M_8)) else none) else none)) else none) else none)
def sX12_strikes_b114 (a0 : Nat) (x1 : Int) (x2 : Int) (x3 : Int)  (x4 : Int) (M : MM) : Option (Int × MM) := (if 0 ≤ wI x3 ∧ wI x3 < 40 then ((some (mU M (gR a0 42) (wI x3).toNat (M a0 38))).bind fun M_3 => (if 0 ≤ wI x3 ∧ wI x3 < 40 then ((some (mU M_3 (gR a0 43) (wI x3).toNat (M_3 a0 39))).bind fun M_6 => ((some ((4 * (M_6 a0 30)) + (M_6 a0 38))).bind fun v_8 => (if 0 ≤ wI v_8 ∧ wI v_8 < 32 then (if 0 ≤ wI v_8 ∧ wI v_8 < 32 then ((some (mU M_6 (gR a0 41) (wI v_8).toNat ((M_6 (gR a0 41) (wI v_8).toNat) + 1))).bind fun M_11 => (if wI (M_11 a0 38) = 0 then (sX12_strikes_b224 a0 x1 x2 x3 M_11) else (if 0 ≤ wI (M_11 a0 39) ∧ wI (M_11 a0 39) < 5 then (if wI (M_11 a0 38) = 2 then (sX12_strikes_b187 a0 x1 x2 x3 (M_11 (gR a0 40) (wI (M_11 a0 39)).toNat) x4 M_11) else (sX12_strikes_b187 a0 x1 x2 x3 (M_11 (gR a0 40) (wI (M_11 a0 39)).toNat) (Int.tdiv (wI x4) 2) M_11)) else none))) else none) else none))) else none)) else none)
def sX12_strikes_b111 (a0 : Nat) (x1 : Int) (x2 : Int) (x3 : Int)  (x4 : Int) (a90 : Nat) (x91 : Int) (M : MM) : Option (Int × MM) := ((some (mU M a90 38 x91)).bind fun M_1 => (sX12_strikes_b114 a0 x1 x2 x3 x4 M_1))
def sX12_strikes_b75 (a0 : Nat) (x1 : Int) (x2 : Int) (x3 : Int)  (x4 : Int) (a90 : Nat) (x91 : Int) (M : MM) : Option (Int × MM) := ((some (mU M a90 38 x91)).bind fun M_1 => (if wI (M_1 a0 39) = (-1) then ((sX12_struck a0 x1 x2 1 M_1).bind fun q_3 => ((some (mU M_1 a0 39 q_3)).bind fun M_4 => (if wI (M_4 a0 39) = (-1) then (sX12_strikes_b111 a0 x1 x2 x3 x4 a0 0 M_4) else (sX12_strikes_b111 a0 x1 x2 x3 x4 a0 1 M_4)))) else (sX12_strikes_b114 a0 x1 x2 x3 x4 M_1)))
def sX12_strikes_b0 (a0 : Nat) (x1 : Int) (x2 : Int) (x3 : Int)   (M : MM) : Option (Int × MM) := (if wI (M a0 30) = (-1) then (some ((0, M))) else (if wI (M a0 32) = (-1) then (some ((0, M))) else (if wI (M a0 31) < wI (M a0 27) then ((some (mU M a0 31 ((M a0 31) + 1))).bind fun M_4 => ((sX12_ofChild a0 (M_4 a0 30) 1 M_4).bind fun q_5 => ((sX12_struck a0 x1 x2 0 M_4).bind fun q_6 => ((some (mU M_4 a0 39 q_6)).bind fun M_7 => (if wI (M_7 a0 39) = (-1) then (sX12_strikes_b75 a0 x1 x2 x3 q_5 a0 0 M_7) else (sX12_strikes_b75 a0 x1 x2 x3 q_5 a0 2 M_7)))))) else (some ((0, M))))))
def sX12_strikes (a0 : Nat) (x1 : Int) (x2 : Int) (x3 : Int) (M : MM) : Option (Int × MM) := sX12_strikes_b0 a0 x1 x2 x3 M
set_option maxHeartbeats 4000000 in
set_option maxRecDepth 100000 in
theorem bX12_strikes_b224 {G : GG} (a0 : Nat) (x1 : Int) (x2 : Int) (x3 : Int) (oa0 : OB L0 a0 12)  (M : MM) {res : (Int × MM)}  (h : sX12_strikes_b224 a0 x1 x2 x3 M = some res) : VV G xX12_strikes (ZM G xX12_strikes (some (.int (eI res.1))) L0 res.2) L0 M 0 0 224 [(0, .ref (gA G a0)), (3, .int (eI x3))] [] := by
  unfold sX12_strikes_b224 at h
  refine r_aload_n (pc := 224) (i := 0) dX12_strikes_224 rfl 0 rfl ?_
  have o_1 := (wt_12_40 oa0).2
  refine r_getR (pc := 225) fg_12_47 rfl oa0 (wt_12_40 oa0).1 dX12_strikes_225 ?_
  refine r_iconst (pc := 228) (v := 0) dX12_strikes_228 (by decide +kernel) ?_
  refine r_iald (pc := 229) o_1 wl_0 ⟨by decide, by decide⟩ rfl dX12_strikes_229 ?_
  refine r_if_ne (pc := 230) (tgt := 246) dX12_strikes_230 (by decide) rfl (fun c_2 => ?_) (fun c_2 => ?_)
  · replace h := (if_neg c_2).symm.trans h
    refine r_iconst (pc := 246) (v := 1) dX12_strikes_246 (by decide +kernel) ?_
    cases h
    exact r_iret (pc := 247) rfl (zn_ok (Or.inr rfl)).1 (Nat.le_refl 0) (Nat.le_refl 0) dX12_strikes_247
  · replace h := (if_pos c_2).symm.trans h
    refine r_aload_n (pc := 233) (i := 0) dX12_strikes_233 rfl 0 rfl ?_
    refine r_aload_n (pc := 234) (i := 0) dX12_strikes_234 rfl 0 rfl ?_
    refine r_getI (pc := 235) fg_12_349 rfl oa0 dX12_strikes_235 ?_
    obtain ⟨M_3, hM_3, h⟩ := ob h
    refine r_putI (pc := 238) fg_12_361 rfl oa0 hM_3 rfl rfl dX12_strikes_238 ?_
    refine r_aload_n (pc := 241) (i := 0) dX12_strikes_241 rfl 0 rfl ?_
    refine r_iload_n (pc := 242) (i := 3) dX12_strikes_242 rfl 1 rfl ?_
    obtain ⟨M_4, hM_4, h⟩ := ob h
    refine r_putI (pc := 243) fg_12_364 rfl oa0 hM_4 rfl rfl dX12_strikes_243 ?_
    refine r_iconst (pc := 246) (v := 1) dX12_strikes_246 (by decide +kernel) ?_
    cases h
    exact r_iret (pc := 247) rfl (zn_ok (Or.inr rfl)).1 (Nat.le_refl 0) (Nat.le_refl 0) dX12_strikes_247
set_option maxHeartbeats 4000000 in
set_option maxRecDepth 100000 in
theorem bX12_strikes_b187 {G : GG} (a0 : Nat) (x1 : Int) (x2 : Int) (x3 : Int) (oa0 : OB L0 a0 12) (x90 : Int) (x91 : Int) (M : MM) {res : (Int × MM)}  (h : sX12_strikes_b187 a0 x1 x2 x3 x90 x91 M = some res) : VV G xX12_strikes (ZM G xX12_strikes (some (.int (eI res.1))) L0 res.2) L0 M 0 0 187 [(0, .ref (gA G a0)), (3, .int (eI x3))] [.int (eI x91), .int (eI x90)] := by
  unfold sX12_strikes_b187 at h
  refine r_cS (pc := 187) (Y := xX12_lesser) (As := [.int (eI x90), .int (eI x91)]) (rest := []) (v := (some (.int (eI (sX12_lesser x90 x91))))) (st1 := [.int (eI (sX12_lesser x90 x91))]) ck_X12_strikes_381 (kX12_lesser x90 x91 M ) rfl rfl (Nat.le_of_ble_eq_true rfl) ⟨rfl, rfl⟩ rfl dX12_strikes_187 ?_
  refine r_istore (pc := 190) (lv' := [(5, .int (eI (sX12_lesser x90 x91))), (0, .ref (gA G a0)), (3, .int (eI x3))]) dX12_strikes_190 (Nat.le_of_ble_eq_true rfl) rfl ?_
  refine r_aload_n (pc := 192) (i := 0) dX12_strikes_192 rfl 1 rfl ?_
  have o_1 := (wt_12_40 oa0).2
  refine r_getR (pc := 193) fg_12_47 rfl oa0 (wt_12_40 oa0).1 dX12_strikes_193 ?_
  refine r_aload_n (pc := 196) (i := 0) dX12_strikes_196 rfl 1 rfl ?_
  refine r_getI (pc := 197) fg_12_376 rfl oa0 dX12_strikes_197 ?_
  refine r_dup2 (pc := 200) dX12_strikes_200 rfl rfl ?_
  obtain ⟨c_2, h⟩ := og h
  refine r_iald (pc := 201) o_1 rfl c_2 rfl dX12_strikes_201 ?_
  refine r_iload (pc := 202) dX12_strikes_202 0 rfl ?_
  refine r_isub (pc := 204) dX12_strikes_204 ?_
  obtain ⟨c_3, h⟩ := og h
  obtain ⟨M_4, hM_4, h⟩ := ob h
  refine r_iast (pc := 205) o_1 rfl c_3 rfl hM_4 dX12_strikes_205 ?_
  refine r_aload_n (pc := 206) (i := 0) dX12_strikes_206 rfl 1 rfl ?_
  have o_5 := (wt_12_41 oa0).2
  refine r_getR (pc := 207) fg_12_50 rfl oa0 (wt_12_41 oa0).1 dX12_strikes_207 ?_
  refine r_iconst (pc := 210) (v := 4) dX12_strikes_210 (by decide +kernel) ?_
  refine r_aload_n (pc := 211) (i := 0) dX12_strikes_211 rfl 1 rfl ?_
  refine r_getI (pc := 212) fg_12_349 rfl oa0 dX12_strikes_212 ?_
  refine r_imul (pc := 215) dX12_strikes_215 ?_
  refine r_iconst (pc := 216) (v := 3) dX12_strikes_216 (by decide +kernel) ?_
  refine r_iadd (pc := 217) dX12_strikes_217 ?_
  refine r_dup2 (pc := 218) dX12_strikes_218 rfl rfl ?_
  obtain ⟨c_6, h⟩ := og h
  refine r_iald (pc := 219) o_5 rfl c_6 rfl dX12_strikes_219 ?_
  refine r_iload (pc := 220) dX12_strikes_220 0 rfl ?_
  refine r_iadd (pc := 222) dX12_strikes_222 ?_
  obtain ⟨c_7, h⟩ := og h
  obtain ⟨M_8, hM_8, h⟩ := ob h
  refine r_iast (pc := 223) o_5 rfl c_7 rfl hM_8 dX12_strikes_223 ?_
  refine r_sub (lv' := [(0, .ref (gA G a0)), (3, .int (eI x3))]) [1, 2] rfl ?_
  exact bX12_strikes_b224 a0 x1 x2 x3 oa0 _ h
set_option maxHeartbeats 4000000 in
set_option maxRecDepth 100000 in
theorem bX12_strikes_b114 {G : GG} (a0 : Nat) (x1 : Int) (x2 : Int) (x3 : Int) (oa0 : OB L0 a0 12) (x4 : Int) (M : MM) {res : (Int × MM)}  (h : sX12_strikes_b114 a0 x1 x2 x3 x4 M = some res) : VV G xX12_strikes (ZM G xX12_strikes (some (.int (eI res.1))) L0 res.2) L0 M 0 0 114 [(0, .ref (gA G a0)), (3, .int (eI x3)), (4, .int (eI x4))] [] := by
  unfold sX12_strikes_b114 at h
  refine r_aload_n (pc := 114) (i := 0) dX12_strikes_114 rfl 0 rfl ?_
  have o_1 := (wt_12_42 oa0).2
  refine r_getR (pc := 115) fg_12_53 rfl oa0 (wt_12_42 oa0).1 dX12_strikes_115 ?_
  refine r_iload_n (pc := 118) (i := 3) dX12_strikes_118 rfl 1 rfl ?_
  refine r_aload_n (pc := 119) (i := 0) dX12_strikes_119 rfl 0 rfl ?_
  refine r_getI (pc := 120) fg_12_373 rfl oa0 dX12_strikes_120 ?_
  obtain ⟨c_2, h⟩ := og h
  obtain ⟨M_3, hM_3, h⟩ := ob h
  refine r_iast (pc := 123) o_1 rfl c_2 rfl hM_3 dX12_strikes_123 ?_
  refine r_aload_n (pc := 124) (i := 0) dX12_strikes_124 rfl 0 rfl ?_
  have o_4 := (wt_12_43 oa0).2
  refine r_getR (pc := 125) fg_12_56 rfl oa0 (wt_12_43 oa0).1 dX12_strikes_125 ?_
  refine r_iload_n (pc := 128) (i := 3) dX12_strikes_128 rfl 1 rfl ?_
  refine r_aload_n (pc := 129) (i := 0) dX12_strikes_129 rfl 0 rfl ?_
  refine r_getI (pc := 130) fg_12_376 rfl oa0 dX12_strikes_130 ?_
  obtain ⟨c_5, h⟩ := og h
  obtain ⟨M_6, hM_6, h⟩ := ob h
  refine r_iast (pc := 133) o_4 rfl c_5 rfl hM_6 dX12_strikes_133 ?_
  refine r_aload_n (pc := 134) (i := 0) dX12_strikes_134 rfl 0 rfl ?_
  have o_7 := (wt_12_41 oa0).2
  refine r_getR (pc := 135) fg_12_50 rfl oa0 (wt_12_41 oa0).1 dX12_strikes_135 ?_
  refine r_iconst (pc := 138) (v := 4) dX12_strikes_138 (by decide +kernel) ?_
  refine r_aload_n (pc := 139) (i := 0) dX12_strikes_139 rfl 0 rfl ?_
  refine r_getI (pc := 140) fg_12_349 rfl oa0 dX12_strikes_140 ?_
  refine r_imul (pc := 143) dX12_strikes_143 ?_
  refine r_aload_n (pc := 144) (i := 0) dX12_strikes_144 rfl 0 rfl ?_
  refine r_getI (pc := 145) fg_12_373 rfl oa0 dX12_strikes_145 ?_
  refine r_iadd (pc := 148) dX12_strikes_148 ?_
  obtain ⟨v_8, hv_8, h⟩ := ob h
  refine r_nmI (pc := 149) hv_8 ?_
  refine r_dup2 (pc := 149) dX12_strikes_149 rfl rfl ?_
  obtain ⟨c_9, h⟩ := og h
  refine r_iald (pc := 150) o_7 rfl c_9 rfl dX12_strikes_150 ?_
  refine r_iconst (pc := 151) (v := 1) dX12_strikes_151 (by decide +kernel) ?_
  refine r_iadd (pc := 152) dX12_strikes_152 ?_
  obtain ⟨c_10, h⟩ := og h
  obtain ⟨M_11, hM_11, h⟩ := ob h
  refine r_iast (pc := 153) o_7 rfl c_10 rfl hM_11 dX12_strikes_153 ?_
  refine r_aload_n (pc := 154) (i := 0) dX12_strikes_154 rfl 0 rfl ?_
  refine r_getI (pc := 155) fg_12_373 rfl oa0 dX12_strikes_155 ?_
  refine r_if_eq (pc := 158) (tgt := 224) dX12_strikes_158 (by decide) rfl (fun c_12 => ?_) (fun c_12 => ?_)
  · replace h := (if_pos c_12).symm.trans h
    refine r_sub (lv' := [(0, .ref (gA G a0)), (3, .int (eI x3))]) [0, 1] rfl ?_
    exact bX12_strikes_b224 a0 x1 x2 x3 oa0 _ h
  · replace h := (if_neg c_12).symm.trans h
    refine r_aload_n (pc := 161) (i := 0) dX12_strikes_161 rfl 0 rfl ?_
    have o_13 := (wt_12_40 oa0).2
    refine r_getR (pc := 162) fg_12_47 rfl oa0 (wt_12_40 oa0).1 dX12_strikes_162 ?_
    refine r_aload_n (pc := 165) (i := 0) dX12_strikes_165 rfl 0 rfl ?_
    refine r_getI (pc := 166) fg_12_376 rfl oa0 dX12_strikes_166 ?_
    obtain ⟨c_14, h⟩ := og h
    refine r_iald (pc := 169) o_13 rfl c_14 rfl dX12_strikes_169 ?_
    refine r_aload_n (pc := 170) (i := 0) dX12_strikes_170 rfl 0 rfl ?_
    refine r_getI (pc := 171) fg_12_373 rfl oa0 dX12_strikes_171 ?_
    refine r_iconst (pc := 174) (v := 2) dX12_strikes_174 (by decide +kernel) ?_
    refine r_icmp_ne (pc := 175) (tgt := 183) dX12_strikes_175 (by decide) rfl wl_2 (fun c_15 => ?_) (fun c_15 => ?_)
    · replace h := (if_neg c_15).symm.trans h
      refine r_iload (pc := 183) dX12_strikes_183 2 rfl ?_
      refine r_iconst (pc := 185) (v := 2) dX12_strikes_185 (by decide +kernel) ?_
      refine r_idiv (pc := 186) dX12_strikes_186 rfl wl_2 (by decide) ?_
      refine r_sub (lv' := [(0, .ref (gA G a0)), (3, .int (eI x3))]) [0, 1] rfl ?_
      exact bX12_strikes_b187 a0 x1 x2 x3 oa0 _ _ _ h
    · replace h := (if_pos c_15).symm.trans h
      refine r_iload (pc := 178) dX12_strikes_178 2 rfl ?_
      refine r_goto (pc := 180) (tgt := 187) dX12_strikes_180 (by decide) ?_
      refine r_sub (lv' := [(0, .ref (gA G a0)), (3, .int (eI x3))]) [0, 1] rfl ?_
      exact bX12_strikes_b187 a0 x1 x2 x3 oa0 _ _ _ h
set_option maxHeartbeats 4000000 in
set_option maxRecDepth 100000 in
theorem bX12_strikes_b111 {G : GG} (a0 : Nat) (x1 : Int) (x2 : Int) (x3 : Int) (oa0 : OB L0 a0 12) (x4 : Int) (a90 : Nat) (x91 : Int) (M : MM) {res : (Int × MM)} (oa90 : OB L0 a90 12) (h : sX12_strikes_b111 a0 x1 x2 x3 x4 a90 x91 M = some res) : VV G xX12_strikes (ZM G xX12_strikes (some (.int (eI res.1))) L0 res.2) L0 M 0 0 111 [(0, .ref (gA G a0)), (3, .int (eI x3)), (4, .int (eI x4))] [.int (eI x91), .ref (gA G a90)] := by
  unfold sX12_strikes_b111 at h
  obtain ⟨M_1, hM_1, h⟩ := ob h
  refine r_putI (pc := 111) fg_12_373 rfl oa90 hM_1 rfl rfl dX12_strikes_111 ?_
  refine r_sub (lv' := [(0, .ref (gA G a0)), (3, .int (eI x3)), (4, .int (eI x4))]) [0, 1, 2] rfl ?_
  exact bX12_strikes_b114 a0 x1 x2 x3 oa0 _ _ h
set_option maxHeartbeats 4000000 in
set_option maxRecDepth 100000 in
theorem bX12_strikes_b75 {G : GG} (a0 : Nat) (x1 : Int) (x2 : Int) (x3 : Int) (oa0 : OB L0 a0 12) (x4 : Int) (a90 : Nat) (x91 : Int) (M : MM) {res : (Int × MM)} (oa90 : OB L0 a90 12) (h : sX12_strikes_b75 a0 x1 x2 x3 x4 a90 x91 M = some res) : VV G xX12_strikes (ZM G xX12_strikes (some (.int (eI res.1))) L0 res.2) L0 M 0 0 75 [(0, .ref (gA G a0)), (1, .int (eI x1)), (2, .int (eI x2)), (3, .int (eI x3)), (4, .int (eI x4))] [.int (eI x91), .ref (gA G a90)] := by
  unfold sX12_strikes_b75 at h
  obtain ⟨M_1, hM_1, h⟩ := ob h
  refine r_putI (pc := 75) fg_12_373 rfl oa90 hM_1 rfl rfl dX12_strikes_75 ?_
  refine r_aload_n (pc := 78) (i := 0) dX12_strikes_78 rfl 0 rfl ?_
  refine r_getI (pc := 79) fg_12_376 rfl oa0 dX12_strikes_79 ?_
  refine r_iconst (pc := 82) (v := (-1)) dX12_strikes_82 (by decide +kernel) ?_
  refine r_icmp_ne (pc := 83) (tgt := 114) dX12_strikes_83 (by decide) rfl wl_m1 (fun c_2 => ?_) (fun c_2 => ?_)
  · replace h := (if_neg c_2).symm.trans h
    refine r_sub (lv' := [(0, .ref (gA G a0)), (3, .int (eI x3)), (4, .int (eI x4))]) [0, 3, 4] rfl ?_
    exact bX12_strikes_b114 a0 x1 x2 x3 oa0 _ _ h
  · replace h := (if_pos c_2).symm.trans h
    refine r_aload_n (pc := 86) (i := 0) dX12_strikes_86 rfl 0 rfl ?_
    refine r_aload_n (pc := 87) (i := 0) dX12_strikes_87 rfl 0 rfl ?_
    refine r_iload_n (pc := 88) (i := 1) dX12_strikes_88 rfl 1 rfl ?_
    refine r_iload_n (pc := 89) (i := 2) dX12_strikes_89 rfl 2 rfl ?_
    refine r_iconst (pc := 90) (v := 1) dX12_strikes_90 (by decide +kernel) ?_
    obtain ⟨q_3, hq_3, h⟩ := ob h
    refine r_cV (pc := 91) (Y := xX12_struck) (As := [.int (eI x1), .int (eI x2), .int (eI 1)]) (rest := [.ref (gA G a0)]) (v := (some (.int (eI q_3)))) (st1 := [.int (eI q_3), .ref (gA G a0)]) ck_X12_strikes_387 (kX12_struck a0 x1 x2 1 M_1 oa0 hq_3) oa0 rfl rfl rfl rfl (Nat.le_of_ble_eq_true rfl) ⟨rfl, rfl⟩ rfl dX12_strikes_91 ?_
    obtain ⟨M_4, hM_4, h⟩ := ob h
    refine r_putI (pc := 94) fg_12_376 rfl oa0 hM_4 rfl rfl dX12_strikes_94 ?_
    refine r_aload_n (pc := 97) (i := 0) dX12_strikes_97 rfl 0 rfl ?_
    refine r_aload_n (pc := 98) (i := 0) dX12_strikes_98 rfl 0 rfl ?_
    refine r_getI (pc := 99) fg_12_376 rfl oa0 dX12_strikes_99 ?_
    refine r_iconst (pc := 102) (v := (-1)) dX12_strikes_102 (by decide +kernel) ?_
    refine r_icmp_ne (pc := 103) (tgt := 110) dX12_strikes_103 (by decide) rfl wl_m1 (fun c_5 => ?_) (fun c_5 => ?_)
    · replace h := (if_neg c_5).symm.trans h
      refine r_iconst (pc := 110) (v := 1) dX12_strikes_110 (by decide +kernel) ?_
      refine r_sub (lv' := [(0, .ref (gA G a0)), (3, .int (eI x3)), (4, .int (eI x4))]) [0, 3, 4] rfl ?_
      exact bX12_strikes_b111 a0 x1 x2 x3 oa0 _ _ _ _ oa0 h
    · replace h := (if_pos c_5).symm.trans h
      refine r_iconst (pc := 106) (v := 0) dX12_strikes_106 (by decide +kernel) ?_
      refine r_goto (pc := 107) (tgt := 111) dX12_strikes_107 (by decide) ?_
      refine r_sub (lv' := [(0, .ref (gA G a0)), (3, .int (eI x3)), (4, .int (eI x4))]) [0, 3, 4] rfl ?_
      exact bX12_strikes_b111 a0 x1 x2 x3 oa0 _ _ _ _ oa0 h
set_option maxHeartbeats 4000000 in
set_option maxRecDepth 100000 in
theorem bX12_strikes_b0 {G : GG} (a0 : Nat) (x1 : Int) (x2 : Int) (x3 : Int) (oa0 : OB L0 a0 12)  (M : MM) {res : (Int × MM)}  (h : sX12_strikes_b0 a0 x1 x2 x3 M = some res) : VV G xX12_strikes (ZM G xX12_strikes (some (.int (eI res.1))) L0 res.2) L0 M 0 0 0 [(0, .ref (gA G a0)), (1, .int (eI x1)), (2, .int (eI x2)), (3, .int (eI x3))] [] := by
  unfold sX12_strikes_b0 at h
  refine r_aload_n (pc := 0) (i := 0) dX12_strikes_0 rfl 0 rfl ?_
  refine r_getI (pc := 1) fg_12_349 rfl oa0 dX12_strikes_1 ?_
  refine r_iconst (pc := 4) (v := (-1)) dX12_strikes_4 (by decide +kernel) ?_
  refine r_icmp_eq (pc := 5) (tgt := 27) dX12_strikes_5 (by decide) rfl wl_m1 (fun c_1 => ?_) (fun c_1 => ?_)
  · replace h := (if_pos c_1).symm.trans h
    refine r_iconst (pc := 27) (v := 0) dX12_strikes_27 (by decide +kernel) ?_
    cases h
    exact r_iret (pc := 28) rfl (zn_ok (Or.inl rfl)).1 (Nat.le_refl 0) (Nat.le_refl 0) dX12_strikes_28
  · replace h := (if_neg c_1).symm.trans h
    refine r_aload_n (pc := 8) (i := 0) dX12_strikes_8 rfl 0 rfl ?_
    refine r_getI (pc := 9) fg_12_355 rfl oa0 dX12_strikes_9 ?_
    refine r_iconst (pc := 12) (v := (-1)) dX12_strikes_12 (by decide +kernel) ?_
    refine r_icmp_eq (pc := 13) (tgt := 27) dX12_strikes_13 (by decide) rfl wl_m1 (fun c_2 => ?_) (fun c_2 => ?_)
    · replace h := (if_pos c_2).symm.trans h
      refine r_iconst (pc := 27) (v := 0) dX12_strikes_27 (by decide +kernel) ?_
      cases h
      exact r_iret (pc := 28) rfl (zn_ok (Or.inl rfl)).1 (Nat.le_refl 0) (Nat.le_refl 0) dX12_strikes_28
    · replace h := (if_neg c_2).symm.trans h
      refine r_aload_n (pc := 16) (i := 0) dX12_strikes_16 rfl 0 rfl ?_
      refine r_getI (pc := 17) fg_12_352 rfl oa0 dX12_strikes_17 ?_
      refine r_aload_n (pc := 20) (i := 0) dX12_strikes_20 rfl 0 rfl ?_
      refine r_getI (pc := 21) fg_12_322 rfl oa0 dX12_strikes_21 ?_
      refine r_icmp_lt (pc := 24) (tgt := 29) dX12_strikes_24 (by decide) rfl rfl (fun c_3 => ?_) (fun c_3 => ?_)
      · replace h := (if_pos c_3).symm.trans h
        refine r_aload_n (pc := 29) (i := 0) dX12_strikes_29 rfl 0 rfl ?_
        refine r_dup (pc := 30) dX12_strikes_30 rfl ?_
        refine r_getI (pc := 31) fg_12_352 rfl oa0 dX12_strikes_31 ?_
        refine r_iconst (pc := 34) (v := 1) dX12_strikes_34 (by decide +kernel) ?_
        refine r_iadd (pc := 35) dX12_strikes_35 ?_
        obtain ⟨M_4, hM_4, h⟩ := ob h
        refine r_putI (pc := 36) fg_12_352 rfl oa0 hM_4 rfl rfl dX12_strikes_36 ?_
        refine r_aload_n (pc := 39) (i := 0) dX12_strikes_39 rfl 0 rfl ?_
        refine r_aload_n (pc := 40) (i := 0) dX12_strikes_40 rfl 0 rfl ?_
        refine r_getI (pc := 41) fg_12_349 rfl oa0 dX12_strikes_41 ?_
        refine r_iconst (pc := 44) (v := 1) dX12_strikes_44 (by decide +kernel) ?_
        obtain ⟨q_5, hq_5, h⟩ := ob h
        refine r_cV (pc := 45) (Y := xX12_ofChild) (As := [.int (eI (M_4 a0 30)), .int (eI 1)]) (rest := []) (v := (some (.int (eI q_5)))) (st1 := [.int (eI q_5)]) ck_X12_strikes_334 (kX12_ofChild a0 (M_4 a0 30) 1 M_4 oa0 hq_5) oa0 rfl rfl rfl rfl (Nat.le_of_ble_eq_true rfl) ⟨rfl, rfl⟩ rfl dX12_strikes_45 ?_
        refine r_istore (pc := 48) (lv' := [(4, .int (eI q_5)), (0, .ref (gA G a0)), (1, .int (eI x1)), (2, .int (eI x2)), (3, .int (eI x3))]) dX12_strikes_48 (Nat.le_of_ble_eq_true rfl) rfl ?_
        refine r_aload_n (pc := 50) (i := 0) dX12_strikes_50 rfl 1 rfl ?_
        refine r_aload_n (pc := 51) (i := 0) dX12_strikes_51 rfl 1 rfl ?_
        refine r_iload_n (pc := 52) (i := 1) dX12_strikes_52 rfl 2 rfl ?_
        refine r_iload_n (pc := 53) (i := 2) dX12_strikes_53 rfl 3 rfl ?_
        refine r_iconst (pc := 54) (v := 0) dX12_strikes_54 (by decide +kernel) ?_
        obtain ⟨q_6, hq_6, h⟩ := ob h
        refine r_cV (pc := 55) (Y := xX12_struck) (As := [.int (eI x1), .int (eI x2), .int (eI 0)]) (rest := [.ref (gA G a0)]) (v := (some (.int (eI q_6)))) (st1 := [.int (eI q_6), .ref (gA G a0)]) ck_X12_strikes_387 (kX12_struck a0 x1 x2 0 M_4 oa0 hq_6) oa0 rfl rfl rfl rfl (Nat.le_of_ble_eq_true rfl) ⟨rfl, rfl⟩ rfl dX12_strikes_55 ?_
        obtain ⟨M_7, hM_7, h⟩ := ob h
        refine r_putI (pc := 58) fg_12_376 rfl oa0 hM_7 rfl rfl dX12_strikes_58 ?_
        refine r_aload_n (pc := 61) (i := 0) dX12_strikes_61 rfl 1 rfl ?_
        refine r_aload_n (pc := 62) (i := 0) dX12_strikes_62 rfl 1 rfl ?_
        refine r_getI (pc := 63) fg_12_376 rfl oa0 dX12_strikes_63 ?_
        refine r_iconst (pc := 66) (v := (-1)) dX12_strikes_66 (by decide +kernel) ?_
        refine r_icmp_ne (pc := 67) (tgt := 74) dX12_strikes_67 (by decide) rfl wl_m1 (fun c_8 => ?_) (fun c_8 => ?_)
        · replace h := (if_neg c_8).symm.trans h
          refine r_iconst (pc := 74) (v := 2) dX12_strikes_74 (by decide +kernel) ?_
          refine r_sub (lv' := [(0, .ref (gA G a0)), (1, .int (eI x1)), (2, .int (eI x2)), (3, .int (eI x3)), (4, .int (eI q_5))]) [1, 2, 3, 4, 0] rfl ?_
          exact bX12_strikes_b75 a0 x1 x2 x3 oa0 _ _ _ _ oa0 h
        · replace h := (if_pos c_8).symm.trans h
          refine r_iconst (pc := 70) (v := 0) dX12_strikes_70 (by decide +kernel) ?_
          refine r_goto (pc := 71) (tgt := 75) dX12_strikes_71 (by decide) ?_
          refine r_sub (lv' := [(0, .ref (gA G a0)), (1, .int (eI x1)), (2, .int (eI x2)), (3, .int (eI x3)), (4, .int (eI q_5))]) [1, 2, 3, 4, 0] rfl ?_
          exact bX12_strikes_b75 a0 x1 x2 x3 oa0 _ _ _ _ oa0 h
      · replace h := (if_neg c_3).symm.trans h
        refine r_iconst (pc := 27) (v := 0) dX12_strikes_27 (by decide +kernel) ?_
        cases h
        exact r_iret (pc := 28) rfl (zn_ok (Or.inl rfl)).1 (Nat.le_refl 0) (Nat.le_refl 0) dX12_strikes_28
theorem kX12_strikes {G : GG} (a0 : Nat) (x1 : Int) (x2 : Int) (x3 : Int) (M : MM) {res : (Int × MM)} (oa0 : OB L0 a0 12) (h : sX12_strikes a0 x1 x2 x3 M = some res) : CO G xX12_strikes [.ref (gA G a0), .int (eI x1), .int (eI x2), .int (eI x3)] L0 M (some (.int (eI res.1))) L0 res.2 := CO_of (by decide +kernel) (Nat.le_of_ble_eq_true rfl) (bX12_strikes_b0 a0 x1 x2 x3 oa0 M h)
abbrev xX12_goes : XX := (yX12_goes, cX12_goes, 2, (some .boolean), 2, 43, 0, 0)
theorem ck_X12_goes_331 : CKV xX12_goes 331 xX12_isChild 1 := ⟨⟨tb_i 1792 (by decide +kernel) (by decide +kernel), tb_i 152 (by decide +kernel) (by decide +kernel), tb_i 1795 (by decide +kernel) (by decide +kernel), ⟨by decide +kernel, by decide +kernel, by decide +kernel⟩, by decide, by decide⟩, tb_i 1794 (by decide +kernel) (by decide +kernel), tb_i 74 (by decide +kernel) (by decide +kernel)⟩
theorem ck_X12_goes_391 : CKS xX12_goes 391 xX12_has 2 := ⟨⟨tb_i 1840 (by decide +kernel) (by decide +kernel), tb_i 152 (by decide +kernel) (by decide +kernel), tb_i 1842 (by decide +kernel) (by decide +kernel), ⟨by decide +kernel, by decide +kernel, by decide +kernel⟩, by decide, by decide⟩, tb_i 1841 (by decide +kernel) (by decide +kernel)⟩
def sX12_goes_b40 (a0 : Nat) (x1 : Int)   (M : MM) : Option (Int × MM) := ((some (mU M a0 30 x1)).bind fun M_1 => ((some (mU M_1 a0 31 0)).bind fun M_2 => ((some (mU M_2 a0 32 (-1))).bind fun M_3 => (if 0 ≤ wI x1 ∧ wI x1 < 32 then ((some (mU M_3 a0 37 (oI (M_3 a0 37) (1 * 2 ^ (wI x1).toNat)))).bind fun M_5 => (some ((1, M_5)))) else none))))
def sX12_goes_b0 (a0 : Nat) (x1 : Int)   (M : MM) : Option (Int × MM) := ((sX12_isChild a0 x1 M).bind fun q_1 => (if wI q_1 = 0 then (some ((0, M))) else ((sX12_has (M a0 37) x1).bind fun q_3 => (if wI q_3 = 0 then (if wI (M a0 30) = (-1) then (sX12_goes_b40 a0 x1 M) else (if wI (M a0 27) ≤ wI (M a0 31) then (sX12_goes_b40 a0 x1 M) else (some ((0, M))))) else (some ((0, M)))))))
def sX12_goes (a0 : Nat) (x1 : Int) (M : MM) : Option (Int × MM) := sX12_goes_b0 a0 x1 M
set_option maxHeartbeats 4000000 in
set_option maxRecDepth 100000 in
theorem bX12_goes_b40 {G : GG} (a0 : Nat) (x1 : Int) (oa0 : OB L0 a0 12)  (M : MM) {res : (Int × MM)}  (h : sX12_goes_b40 a0 x1 M = some res) : VV G xX12_goes (ZM G xX12_goes (some (.int (eI res.1))) L0 res.2) L0 M 0 0 40 [(0, .ref (gA G a0)), (1, .int (eI x1))] [] := by
  unfold sX12_goes_b40 at h
  refine r_aload_n (pc := 40) (i := 0) dX12_goes_40 rfl 0 rfl ?_
  refine r_iload_n (pc := 41) (i := 1) dX12_goes_41 rfl 1 rfl ?_
  obtain ⟨M_1, hM_1, h⟩ := ob h
  refine r_putI (pc := 42) fg_12_349 rfl oa0 hM_1 rfl rfl dX12_goes_42 ?_
  refine r_aload_n (pc := 45) (i := 0) dX12_goes_45 rfl 0 rfl ?_
  refine r_iconst (pc := 46) (v := 0) dX12_goes_46 (by decide +kernel) ?_
  obtain ⟨M_2, hM_2, h⟩ := ob h
  refine r_putI (pc := 47) fg_12_352 rfl oa0 hM_2 rfl rfl dX12_goes_47 ?_
  refine r_aload_n (pc := 50) (i := 0) dX12_goes_50 rfl 0 rfl ?_
  refine r_iconst (pc := 51) (v := (-1)) dX12_goes_51 (by decide +kernel) ?_
  obtain ⟨M_3, hM_3, h⟩ := ob h
  refine r_putI (pc := 52) fg_12_355 rfl oa0 hM_3 rfl rfl dX12_goes_52 ?_
  refine r_aload_n (pc := 55) (i := 0) dX12_goes_55 rfl 0 rfl ?_
  refine r_dup (pc := 56) dX12_goes_56 rfl ?_
  refine r_getI (pc := 57) fg_12_370 rfl oa0 dX12_goes_57 ?_
  refine r_iconst (pc := 60) (v := 1) dX12_goes_60 (by decide +kernel) ?_
  refine r_iload_n (pc := 61) (i := 1) dX12_goes_61 rfl 1 rfl ?_
  obtain ⟨c_4, h⟩ := og h
  refine r_ishl (pc := 62) rfl c_4 dX12_goes_62 ?_
  refine r_ior (pc := 63) dX12_goes_63 ?_
  obtain ⟨M_5, hM_5, h⟩ := ob h
  refine r_putI (pc := 64) fg_12_370 rfl oa0 hM_5 rfl rfl dX12_goes_64 ?_
  refine r_iconst (pc := 67) (v := 1) dX12_goes_67 (by decide +kernel) ?_
  cases h
  exact r_iret (pc := 68) rfl (zn_ok (Or.inr rfl)).1 (Nat.le_refl 0) (Nat.le_refl 0) dX12_goes_68
set_option maxHeartbeats 4000000 in
set_option maxRecDepth 100000 in
theorem bX12_goes_b0 {G : GG} (a0 : Nat) (x1 : Int) (oa0 : OB L0 a0 12)  (M : MM) {res : (Int × MM)}  (h : sX12_goes_b0 a0 x1 M = some res) : VV G xX12_goes (ZM G xX12_goes (some (.int (eI res.1))) L0 res.2) L0 M 0 0 0 [(0, .ref (gA G a0)), (1, .int (eI x1))] [] := by
  unfold sX12_goes_b0 at h
  refine r_aload_n (pc := 0) (i := 0) dX12_goes_0 rfl 0 rfl ?_
  refine r_iload_n (pc := 1) (i := 1) dX12_goes_1 rfl 1 rfl ?_
  obtain ⟨q_1, hq_1, h⟩ := ob h
  refine r_cV (pc := 2) (Y := xX12_isChild) (As := [.int (eI x1)]) (rest := []) (v := (some (.int (eI q_1)))) (st1 := [.int (eI q_1)]) ck_X12_goes_331 (kX12_isChild a0 x1 M oa0 hq_1) oa0 rfl rfl rfl rfl (Nat.le_of_ble_eq_true rfl) ⟨rfl, rfl⟩ rfl dX12_goes_2 ?_
  refine r_if_eq (pc := 5) (tgt := 38) dX12_goes_5 (by decide) rfl (fun c_2 => ?_) (fun c_2 => ?_)
  · replace h := (if_pos c_2).symm.trans h
    refine r_iconst (pc := 38) (v := 0) dX12_goes_38 (by decide +kernel) ?_
    cases h
    exact r_iret (pc := 39) rfl (zn_ok (Or.inl rfl)).1 (Nat.le_refl 0) (Nat.le_refl 0) dX12_goes_39
  · replace h := (if_neg c_2).symm.trans h
    refine r_aload_n (pc := 8) (i := 0) dX12_goes_8 rfl 0 rfl ?_
    refine r_getI (pc := 9) fg_12_370 rfl oa0 dX12_goes_9 ?_
    refine r_iload_n (pc := 12) (i := 1) dX12_goes_12 rfl 1 rfl ?_
    obtain ⟨q_3, hq_3, h⟩ := ob h
    refine r_cS (pc := 13) (Y := xX12_has) (As := [.int (eI (M a0 37)), .int (eI x1)]) (rest := []) (v := (some (.int (eI q_3)))) (st1 := [.int (eI q_3)]) ck_X12_goes_391 (kX12_has (M a0 37) x1 M  hq_3) rfl rfl (Nat.le_of_ble_eq_true rfl) ⟨rfl, rfl⟩ rfl dX12_goes_13 ?_
    refine r_if_ne (pc := 16) (tgt := 38) dX12_goes_16 (by decide) rfl (fun c_4 => ?_) (fun c_4 => ?_)
    · replace h := (if_neg c_4).symm.trans h
      refine r_iconst (pc := 38) (v := 0) dX12_goes_38 (by decide +kernel) ?_
      cases h
      exact r_iret (pc := 39) rfl (zn_ok (Or.inl rfl)).1 (Nat.le_refl 0) (Nat.le_refl 0) dX12_goes_39
    · replace h := (if_pos c_4).symm.trans h
      refine r_aload_n (pc := 19) (i := 0) dX12_goes_19 rfl 0 rfl ?_
      refine r_getI (pc := 20) fg_12_349 rfl oa0 dX12_goes_20 ?_
      refine r_iconst (pc := 23) (v := (-1)) dX12_goes_23 (by decide +kernel) ?_
      refine r_icmp_eq (pc := 24) (tgt := 40) dX12_goes_24 (by decide) rfl wl_m1 (fun c_5 => ?_) (fun c_5 => ?_)
      · replace h := (if_pos c_5).symm.trans h
        refine r_sub (lv' := [(0, .ref (gA G a0)), (1, .int (eI x1))]) [0, 1] rfl ?_
        exact bX12_goes_b40 a0 x1 oa0 _ h
      · replace h := (if_neg c_5).symm.trans h
        refine r_aload_n (pc := 27) (i := 0) dX12_goes_27 rfl 0 rfl ?_
        refine r_getI (pc := 28) fg_12_352 rfl oa0 dX12_goes_28 ?_
        refine r_aload_n (pc := 31) (i := 0) dX12_goes_31 rfl 0 rfl ?_
        refine r_getI (pc := 32) fg_12_322 rfl oa0 dX12_goes_32 ?_
        refine r_icmp_ge (pc := 35) (tgt := 40) dX12_goes_35 (by decide) rfl rfl (fun c_6 => ?_) (fun c_6 => ?_)
        · replace h := (if_pos c_6).symm.trans h
          refine r_sub (lv' := [(0, .ref (gA G a0)), (1, .int (eI x1))]) [0, 1] rfl ?_
          exact bX12_goes_b40 a0 x1 oa0 _ h
        · replace h := (if_neg c_6).symm.trans h
          refine r_iconst (pc := 38) (v := 0) dX12_goes_38 (by decide +kernel) ?_
          cases h
          exact r_iret (pc := 39) rfl (zn_ok (Or.inl rfl)).1 (Nat.le_refl 0) (Nat.le_refl 0) dX12_goes_39
theorem kX12_goes {G : GG} (a0 : Nat) (x1 : Int) (M : MM) {res : (Int × MM)} (oa0 : OB L0 a0 12) (h : sX12_goes a0 x1 M = some res) : CO G xX12_goes [.ref (gA G a0), .int (eI x1)] L0 M (some (.int (eI res.1))) L0 res.2 := CO_of (by decide +kernel) (Nat.le_of_ble_eq_true rfl) (bX12_goes_b0 a0 x1 oa0 M h)
abbrev xX12_rises : XX := (yX12_rises, cX12_rises, 2, (some .boolean), 1, 22, 0, 0)
theorem ck_X12_rises_105 : CKS xX12_rises 105 xX12_in 3 := ⟨⟨tb_i 1622 (by decide +kernel) (by decide +kernel), tb_i 152 (by decide +kernel) (by decide +kernel), tb_i 1624 (by decide +kernel) (by decide +kernel), ⟨by decide +kernel, by decide +kernel, by decide +kernel⟩, by decide, by decide⟩, tb_i 1623 (by decide +kernel) (by decide +kernel)⟩
def sX12_rises_b0 (a0 : Nat) (x1 : Int)   (M : MM) : Option (Int × MM) := (if wI (sX12_in ((M a0 33) + x1) 0 9) = 0 then (some ((0, M))) else ((some (mU M a0 33 ((M a0 33) + x1))).bind fun M_2 => (some ((1, M_2)))))
def sX12_rises (a0 : Nat) (x1 : Int) (M : MM) : Option (Int × MM) := sX12_rises_b0 a0 x1 M
set_option maxHeartbeats 4000000 in
set_option maxRecDepth 100000 in
theorem bX12_rises_b0 {G : GG} (a0 : Nat) (x1 : Int) (oa0 : OB L0 a0 12)  (M : MM) {res : (Int × MM)}  (h : sX12_rises_b0 a0 x1 M = some res) : VV G xX12_rises (ZM G xX12_rises (some (.int (eI res.1))) L0 res.2) L0 M 0 0 0 [(0, .ref (gA G a0)), (1, .int (eI x1))] [] := by
  unfold sX12_rises_b0 at h
  refine r_aload_n (pc := 0) (i := 0) dX12_rises_0 rfl 0 rfl ?_
  refine r_getI (pc := 1) fg_12_358 rfl oa0 dX12_rises_1 ?_
  refine r_iload_n (pc := 4) (i := 1) dX12_rises_4 rfl 1 rfl ?_
  refine r_iadd (pc := 5) dX12_rises_5 ?_
  refine r_iconst (pc := 6) (v := 0) dX12_rises_6 (by decide +kernel) ?_
  refine r_bipush (pc := 7) (v := 9) dX12_rises_7 (by decide +kernel) ?_
  refine r_cS (pc := 9) (Y := xX12_in) (As := [.int (eI ((M a0 33) + x1)), .int (eI 0), .int (eI 9)]) (rest := []) (v := (some (.int (eI (sX12_in ((M a0 33) + x1) 0 9))))) (st1 := [.int (eI (sX12_in ((M a0 33) + x1) 0 9))]) ck_X12_rises_105 (kX12_in ((M a0 33) + x1) 0 9 M ) rfl rfl (Nat.le_of_ble_eq_true rfl) ⟨rfl, rfl⟩ rfl dX12_rises_9 ?_
  refine r_if_ne (pc := 12) (tgt := 17) dX12_rises_12 (by decide) rfl (fun c_1 => ?_) (fun c_1 => ?_)
  · replace h := (if_neg c_1).symm.trans h
    refine r_aload_n (pc := 17) (i := 0) dX12_rises_17 rfl 0 rfl ?_
    refine r_dup (pc := 18) dX12_rises_18 rfl ?_
    refine r_getI (pc := 19) fg_12_358 rfl oa0 dX12_rises_19 ?_
    refine r_iload_n (pc := 22) (i := 1) dX12_rises_22 rfl 1 rfl ?_
    refine r_iadd (pc := 23) dX12_rises_23 ?_
    obtain ⟨M_2, hM_2, h⟩ := ob h
    refine r_putI (pc := 24) fg_12_358 rfl oa0 hM_2 rfl rfl dX12_rises_24 ?_
    refine r_iconst (pc := 27) (v := 1) dX12_rises_27 (by decide +kernel) ?_
    cases h
    exact r_iret (pc := 28) rfl (zn_ok (Or.inr rfl)).1 (Nat.le_refl 0) (Nat.le_refl 0) dX12_rises_28
  · replace h := (if_pos c_1).symm.trans h
    refine r_iconst (pc := 15) (v := 0) dX12_rises_15 (by decide +kernel) ?_
    cases h
    exact r_iret (pc := 16) rfl (zn_ok (Or.inl rfl)).1 (Nat.le_refl 0) (Nat.le_refl 0) dX12_rises_16
theorem kX12_rises {G : GG} (a0 : Nat) (x1 : Int) (M : MM) {res : (Int × MM)} (oa0 : OB L0 a0 12) (h : sX12_rises a0 x1 M = some res) : CO G xX12_rises [.ref (gA G a0), .int (eI x1)] L0 M (some (.int (eI res.1))) L0 res.2 := CO_of (by decide +kernel) (Nat.le_of_ble_eq_true rfl) (bX12_rises_b0 a0 x1 oa0 M h)
abbrev xX12_does : XX := (yX12_does, cX12_does, 3, (some .boolean), 4, 93, 0, 0)
theorem ck_X12_does_346 : CKV xX12_does 346 xX12_deedOf 2 := ⟨⟨tb_i 1812 (by decide +kernel) (by decide +kernel), tb_i 152 (by decide +kernel) (by decide +kernel), tb_i 1815 (by decide +kernel) (by decide +kernel), ⟨by decide +kernel, by decide +kernel, by decide +kernel⟩, by decide, by decide⟩, tb_i 1814 (by decide +kernel) (by decide +kernel), tb_i 78 (by decide +kernel) (by decide +kernel)⟩
theorem ck_X12_does_394 : CKV xX12_does 394 xX12_goes 1 := ⟨⟨tb_i 1836 (by decide +kernel) (by decide +kernel), tb_i 152 (by decide +kernel) (by decide +kernel), tb_i 1839 (by decide +kernel) (by decide +kernel), ⟨by decide +kernel, by decide +kernel, by decide +kernel⟩, by decide, by decide⟩, tb_i 1838 (by decide +kernel) (by decide +kernel), tb_i 83 (by decide +kernel) (by decide +kernel)⟩
theorem ck_X12_does_397 : CKV xX12_does 397 xX12_strikes 3 := ⟨⟨tb_i 1843 (by decide +kernel) (by decide +kernel), tb_i 152 (by decide +kernel) (by decide +kernel), tb_i 1846 (by decide +kernel) (by decide +kernel), ⟨by decide +kernel, by decide +kernel, by decide +kernel⟩, by decide, by decide⟩, tb_i 1845 (by decide +kernel) (by decide +kernel), tb_i 84 (by decide +kernel) (by decide +kernel)⟩
theorem ck_X12_does_400 : CKV xX12_does 400 xX12_rises 1 := ⟨⟨tb_i 1860 (by decide +kernel) (by decide +kernel), tb_i 152 (by decide +kernel) (by decide +kernel), tb_i 1863 (by decide +kernel) (by decide +kernel), ⟨by decide +kernel, by decide +kernel, by decide +kernel⟩, by decide, by decide⟩, tb_i 1862 (by decide +kernel) (by decide +kernel), tb_i 86 (by decide +kernel) (by decide +kernel)⟩
def sX12_does_b141 (a0 : Nat) (x1 : Int)  (a90 : Nat) (x91 : Int) (M : MM) : Option (Int × MM) := (if x91 = 0 ∨ x91 = 1 then ((some (mU M a90 36 x91)).bind fun M_1 => (if (M_1 a0 36) = 0 ∨ (M_1 a0 36) = 1 then (some (((M_1 a0 36), M_1))) else none)) else none)
def sX12_does_b0 (a0 : Nat) (x1 : Int)   (M : MM) : Option (Int × MM) := (if wI (M a0 34) = (-1) then (if wI (M a0 36) = 0 then ((sX12_deedOf a0 x1 1 M).bind fun q_3 => ((sX12_deedOf a0 x1 0 M).bind fun q_4 => (if wI q_4 = 0 then ((sX12_goes a0 q_3 M).bind fun q_6 => (if (q_6.1) = 0 ∨ (q_6.1) = 1 then (some (((q_6.1), q_6.2))) else none)) else (if wI q_4 = 1 then (if wI (M a0 30) = (-1) then (some ((0, M))) else (if wI (M a0 31) ≤ 0 then ((some (mU M a0 32 q_3)).bind fun M_11 => (some ((1, M_11)))) else (some ((0, M))))) else (if wI q_4 = 2 then ((sX12_deedOf a0 x1 2 M).bind fun q_13 => ((sX12_strikes a0 q_3 q_13 x1 M).bind fun q_14 => (if (q_14.1) = 0 ∨ (q_14.1) = 1 then (some (((q_14.1), q_14.2))) else none))) else (if wI q_4 = 3 then ((sX12_rises a0 q_3 M).bind fun q_17 => (if (q_17.1) = 0 ∨ (q_17.1) = 1 then (some (((q_17.1), q_17.2))) else none)) else (if wI q_4 = 4 then ((sX12_rises a0 (-q_3) M).bind fun q_20 => (if (q_20.1) = 0 ∨ (q_20.1) = 1 then (some (((q_20.1), q_20.2))) else none)) else (if 0 ≤ wI (M a0 26) ∧ wI (M a0 26) < 32 then (if wI (M a0 37) = wI ((1 * 2 ^ (wI (M a0 26)).toNat) - 1) then (sX12_does_b141 a0 x1 a0 1 M) else (sX12_does_b141 a0 x1 a0 0 M)) else none)))))))) else (some ((0, M)))) else (some ((0, M))))
def sX12_does (a0 : Nat) (x1 : Int) (M : MM) : Option (Int × MM) := sX12_does_b0 a0 x1 M
set_option maxHeartbeats 4000000 in
set_option maxRecDepth 100000 in
theorem bX12_does_b141 {G : GG} (a0 : Nat) (x1 : Int) (oa0 : OB L0 a0 12) (a90 : Nat) (x91 : Int) (M : MM) {res : (Int × MM)} (oa90 : OB L0 a90 12) (h : sX12_does_b141 a0 x1 a90 x91 M = some res) : VV G xX12_does (ZM G xX12_does (some (.int (eI res.1))) L0 res.2) L0 M 0 0 141 [(0, .ref (gA G a0))] [.int (eI x91), .ref (gA G a90)] := by
  unfold sX12_does_b141 at h
  obtain ⟨c_2, h⟩ := og h
  obtain ⟨M_1, hM_1, h⟩ := ob h
  refine r_putI (pc := 141) fg_12_367 rfl oa90 hM_1 (zn_ok c_2).1 (zn_ok c_2).2 dX12_does_141 ?_
  refine r_aload_n (pc := 144) (i := 0) dX12_does_144 rfl 0 rfl ?_
  refine r_getI (pc := 145) fg_12_367 rfl oa0 dX12_does_145 ?_
  obtain ⟨c_3, h⟩ := og h
  cases h
  exact r_iret (pc := 148) rfl (zn_ok c_3).1 (Nat.le_refl 0) (Nat.le_refl 0) dX12_does_148
set_option maxHeartbeats 4000000 in
set_option maxRecDepth 100000 in
theorem bX12_does_b0 {G : GG} (a0 : Nat) (x1 : Int) (oa0 : OB L0 a0 12)  (M : MM) {res : (Int × MM)}  (h : sX12_does_b0 a0 x1 M = some res) : VV G xX12_does (ZM G xX12_does (some (.int (eI res.1))) L0 res.2) L0 M 0 0 0 [(0, .ref (gA G a0)), (1, .int (eI x1))] [] := by
  unfold sX12_does_b0 at h
  refine r_aload_n (pc := 0) (i := 0) dX12_does_0 rfl 0 rfl ?_
  refine r_getI (pc := 1) fg_12_361 rfl oa0 dX12_does_1 ?_
  refine r_iconst (pc := 4) (v := (-1)) dX12_does_4 (by decide +kernel) ?_
  refine r_icmp_ne (pc := 5) (tgt := 15) dX12_does_5 (by decide) rfl wl_m1 (fun c_1 => ?_) (fun c_1 => ?_)
  · replace h := (if_neg c_1).symm.trans h
    refine r_iconst (pc := 15) (v := 0) dX12_does_15 (by decide +kernel) ?_
    cases h
    exact r_iret (pc := 16) rfl (zn_ok (Or.inl rfl)).1 (Nat.le_refl 0) (Nat.le_refl 0) dX12_does_16
  · replace h := (if_pos c_1).symm.trans h
    refine r_aload_n (pc := 8) (i := 0) dX12_does_8 rfl 0 rfl ?_
    refine r_getI (pc := 9) fg_12_367 rfl oa0 dX12_does_9 ?_
    refine r_if_eq (pc := 12) (tgt := 17) dX12_does_12 (by decide) rfl (fun c_2 => ?_) (fun c_2 => ?_)
    · replace h := (if_pos c_2).symm.trans h
      refine r_aload_n (pc := 17) (i := 0) dX12_does_17 rfl 0 rfl ?_
      refine r_iload_n (pc := 18) (i := 1) dX12_does_18 rfl 1 rfl ?_
      refine r_iconst (pc := 19) (v := 1) dX12_does_19 (by decide +kernel) ?_
      obtain ⟨q_3, hq_3, h⟩ := ob h
      refine r_cV (pc := 20) (Y := xX12_deedOf) (As := [.int (eI x1), .int (eI 1)]) (rest := []) (v := (some (.int (eI q_3)))) (st1 := [.int (eI q_3)]) ck_X12_does_346 (kX12_deedOf a0 x1 1 M oa0 hq_3) oa0 rfl rfl rfl rfl (Nat.le_of_ble_eq_true rfl) ⟨rfl, rfl⟩ rfl dX12_does_20 ?_
      refine r_istore_n (pc := 23) (i := 2) (lv' := [(2, .int (eI q_3)), (0, .ref (gA G a0)), (1, .int (eI x1))]) dX12_does_23 rfl (Nat.le_of_ble_eq_true rfl) rfl ?_
      refine r_aload_n (pc := 24) (i := 0) dX12_does_24 rfl 1 rfl ?_
      refine r_iload_n (pc := 25) (i := 1) dX12_does_25 rfl 2 rfl ?_
      refine r_iconst (pc := 26) (v := 0) dX12_does_26 (by decide +kernel) ?_
      obtain ⟨q_4, hq_4, h⟩ := ob h
      refine r_cV (pc := 27) (Y := xX12_deedOf) (As := [.int (eI x1), .int (eI 0)]) (rest := []) (v := (some (.int (eI q_4)))) (st1 := [.int (eI q_4)]) ck_X12_does_346 (kX12_deedOf a0 x1 0 M oa0 hq_4) oa0 rfl rfl rfl rfl (Nat.le_of_ble_eq_true rfl) ⟨rfl, rfl⟩ rfl dX12_does_27 ?_
      by_cases c_5 : wI q_4 = 0
      · replace h := (if_pos c_5).symm.trans h
        refine r_tsw (pc := 30) (tgt := 64) (k' := 0) (rfl.trans c_5) dX12_does_30 (by decide) rfl (by decide) ?_
        refine r_aload_n (pc := 64) (i := 0) dX12_does_64 rfl 1 rfl ?_
        refine r_iload_n (pc := 65) (i := 2) dX12_does_65 rfl 0 rfl ?_
        obtain ⟨q_6, hq_6, h⟩ := ob h
        refine r_cV (pc := 66) (Y := xX12_goes) (As := [.int (eI q_3)]) (rest := []) (v := (some (.int (eI (q_6.1))))) (st1 := [.int (eI (q_6.1))]) ck_X12_does_394 (kX12_goes a0 q_3 M oa0 hq_6) oa0 rfl rfl rfl rfl (Nat.le_of_ble_eq_true rfl) ⟨rfl, rfl⟩ rfl dX12_does_66 ?_
        obtain ⟨c_7, h⟩ := og h
        cases h
        exact r_iret (pc := 69) rfl (zn_ok c_7).1 (Nat.le_refl 0) (Nat.le_refl 0) dX12_does_69
      · replace h := (if_neg c_5).symm.trans h
        by_cases c_8 : wI q_4 = 1
        · replace h := (if_pos c_8).symm.trans h
          refine r_tsw (pc := 30) (tgt := 70) (k' := 1) (rfl.trans c_8) dX12_does_30 (by decide) rfl (by decide) ?_
          refine r_aload_n (pc := 70) (i := 0) dX12_does_70 rfl 1 rfl ?_
          refine r_getI (pc := 71) fg_12_349 rfl oa0 dX12_does_71 ?_
          refine r_iconst (pc := 74) (v := (-1)) dX12_does_74 (by decide +kernel) ?_
          refine r_icmp_eq (pc := 75) (tgt := 85) dX12_does_75 (by decide) rfl wl_m1 (fun c_9 => ?_) (fun c_9 => ?_)
          · replace h := (if_pos c_9).symm.trans h
            refine r_iconst (pc := 85) (v := 0) dX12_does_85 (by decide +kernel) ?_
            cases h
            exact r_iret (pc := 86) rfl (zn_ok (Or.inl rfl)).1 (Nat.le_refl 0) (Nat.le_refl 0) dX12_does_86
          · replace h := (if_neg c_9).symm.trans h
            refine r_aload_n (pc := 78) (i := 0) dX12_does_78 rfl 1 rfl ?_
            refine r_getI (pc := 79) fg_12_352 rfl oa0 dX12_does_79 ?_
            refine r_if_le (pc := 82) (tgt := 87) dX12_does_82 (by decide) rfl (fun c_10 => ?_) (fun c_10 => ?_)
            · replace h := (if_pos c_10).symm.trans h
              refine r_aload_n (pc := 87) (i := 0) dX12_does_87 rfl 1 rfl ?_
              refine r_iload_n (pc := 88) (i := 2) dX12_does_88 rfl 0 rfl ?_
              obtain ⟨M_11, hM_11, h⟩ := ob h
              refine r_putI (pc := 89) fg_12_355 rfl oa0 hM_11 rfl rfl dX12_does_89 ?_
              refine r_iconst (pc := 92) (v := 1) dX12_does_92 (by decide +kernel) ?_
              cases h
              exact r_iret (pc := 93) rfl (zn_ok (Or.inr rfl)).1 (Nat.le_refl 0) (Nat.le_refl 0) dX12_does_93
            · replace h := (if_neg c_10).symm.trans h
              refine r_iconst (pc := 85) (v := 0) dX12_does_85 (by decide +kernel) ?_
              cases h
              exact r_iret (pc := 86) rfl (zn_ok (Or.inl rfl)).1 (Nat.le_refl 0) (Nat.le_refl 0) dX12_does_86
        · replace h := (if_neg c_8).symm.trans h
          by_cases c_12 : wI q_4 = 2
          · replace h := (if_pos c_12).symm.trans h
            refine r_tsw (pc := 30) (tgt := 94) (k' := 2) (rfl.trans c_12) dX12_does_30 (by decide) rfl (by decide) ?_
            refine r_aload_n (pc := 94) (i := 0) dX12_does_94 rfl 1 rfl ?_
            refine r_iload_n (pc := 95) (i := 2) dX12_does_95 rfl 0 rfl ?_
            refine r_aload_n (pc := 96) (i := 0) dX12_does_96 rfl 1 rfl ?_
            refine r_iload_n (pc := 97) (i := 1) dX12_does_97 rfl 2 rfl ?_
            refine r_iconst (pc := 98) (v := 2) dX12_does_98 (by decide +kernel) ?_
            obtain ⟨q_13, hq_13, h⟩ := ob h
            refine r_cV (pc := 99) (Y := xX12_deedOf) (As := [.int (eI x1), .int (eI 2)]) (rest := [.int (eI q_3), .ref (gA G a0)]) (v := (some (.int (eI q_13)))) (st1 := [.int (eI q_13), .int (eI q_3), .ref (gA G a0)]) ck_X12_does_346 (kX12_deedOf a0 x1 2 M oa0 hq_13) oa0 rfl rfl rfl rfl (Nat.le_of_ble_eq_true rfl) ⟨rfl, rfl⟩ rfl dX12_does_99 ?_
            refine r_iload_n (pc := 102) (i := 1) dX12_does_102 rfl 2 rfl ?_
            obtain ⟨q_14, hq_14, h⟩ := ob h
            refine r_cV (pc := 103) (Y := xX12_strikes) (As := [.int (eI q_3), .int (eI q_13), .int (eI x1)]) (rest := []) (v := (some (.int (eI (q_14.1))))) (st1 := [.int (eI (q_14.1))]) ck_X12_does_397 (kX12_strikes a0 q_3 q_13 x1 M oa0 hq_14) oa0 rfl rfl rfl rfl (Nat.le_of_ble_eq_true rfl) ⟨rfl, rfl⟩ rfl dX12_does_103 ?_
            obtain ⟨c_15, h⟩ := og h
            cases h
            exact r_iret (pc := 106) rfl (zn_ok c_15).1 (Nat.le_refl 0) (Nat.le_refl 0) dX12_does_106
          · replace h := (if_neg c_12).symm.trans h
            by_cases c_16 : wI q_4 = 3
            · replace h := (if_pos c_16).symm.trans h
              refine r_tsw (pc := 30) (tgt := 107) (k' := 3) (rfl.trans c_16) dX12_does_30 (by decide) rfl (by decide) ?_
              refine r_aload_n (pc := 107) (i := 0) dX12_does_107 rfl 1 rfl ?_
              refine r_iload_n (pc := 108) (i := 2) dX12_does_108 rfl 0 rfl ?_
              obtain ⟨q_17, hq_17, h⟩ := ob h
              refine r_cV (pc := 109) (Y := xX12_rises) (As := [.int (eI q_3)]) (rest := []) (v := (some (.int (eI (q_17.1))))) (st1 := [.int (eI (q_17.1))]) ck_X12_does_400 (kX12_rises a0 q_3 M oa0 hq_17) oa0 rfl rfl rfl rfl (Nat.le_of_ble_eq_true rfl) ⟨rfl, rfl⟩ rfl dX12_does_109 ?_
              obtain ⟨c_18, h⟩ := og h
              cases h
              exact r_iret (pc := 112) rfl (zn_ok c_18).1 (Nat.le_refl 0) (Nat.le_refl 0) dX12_does_112
            · replace h := (if_neg c_16).symm.trans h
              by_cases c_19 : wI q_4 = 4
              · replace h := (if_pos c_19).symm.trans h
                refine r_tsw (pc := 30) (tgt := 113) (k' := 4) (rfl.trans c_19) dX12_does_30 (by decide) rfl (by decide) ?_
                refine r_aload_n (pc := 113) (i := 0) dX12_does_113 rfl 1 rfl ?_
                refine r_iload_n (pc := 114) (i := 2) dX12_does_114 rfl 0 rfl ?_
                refine r_ineg (pc := 115) dX12_does_115 ?_
                obtain ⟨q_20, hq_20, h⟩ := ob h
                refine r_cV (pc := 116) (Y := xX12_rises) (As := [.int (eI (-q_3))]) (rest := []) (v := (some (.int (eI (q_20.1))))) (st1 := [.int (eI (q_20.1))]) ck_X12_does_400 (kX12_rises a0 (-q_3) M oa0 hq_20) oa0 rfl rfl rfl rfl (Nat.le_of_ble_eq_true rfl) ⟨rfl, rfl⟩ rfl dX12_does_116 ?_
                obtain ⟨c_21, h⟩ := og h
                cases h
                exact r_iret (pc := 119) rfl (zn_ok c_21).1 (Nat.le_refl 0) (Nat.le_refl 0) dX12_does_119
              · replace h := (if_neg c_19).symm.trans h
                refine r_tswD (pc := 30) (tgt := 120) rfl dX12_does_30 (by omega) (by decide) ?_
                refine r_aload_n (pc := 120) (i := 0) dX12_does_120 rfl 1 rfl ?_
                refine r_aload_n (pc := 121) (i := 0) dX12_does_121 rfl 1 rfl ?_
                refine r_getI (pc := 122) fg_12_370 rfl oa0 dX12_does_122 ?_
                refine r_iconst (pc := 125) (v := 1) dX12_does_125 (by decide +kernel) ?_
                refine r_aload_n (pc := 126) (i := 0) dX12_does_126 rfl 1 rfl ?_
                refine r_getI (pc := 127) fg_12_319 rfl oa0 dX12_does_127 ?_
                obtain ⟨c_22, h⟩ := og h
                refine r_ishl (pc := 130) rfl c_22 dX12_does_130 ?_
                refine r_iconst (pc := 131) (v := 1) dX12_does_131 (by decide +kernel) ?_
                refine r_isub (pc := 132) dX12_does_132 ?_
                refine r_icmp_ne (pc := 133) (tgt := 140) dX12_does_133 (by decide) rfl rfl (fun c_23 => ?_) (fun c_23 => ?_)
                · replace h := (if_neg c_23).symm.trans h
                  refine r_iconst (pc := 140) (v := 0) dX12_does_140 (by decide +kernel) ?_
                  refine r_sub (lv' := [(0, .ref (gA G a0))]) [1] rfl ?_
                  exact bX12_does_b141 a0 x1 oa0 _ _ _ oa0 h
                · replace h := (if_pos c_23).symm.trans h
                  refine r_iconst (pc := 136) (v := 1) dX12_does_136 (by decide +kernel) ?_
                  refine r_goto (pc := 137) (tgt := 141) dX12_does_137 (by decide) ?_
                  refine r_sub (lv' := [(0, .ref (gA G a0))]) [1] rfl ?_
                  exact bX12_does_b141 a0 x1 oa0 _ _ _ oa0 h
    · replace h := (if_neg c_2).symm.trans h
      refine r_iconst (pc := 15) (v := 0) dX12_does_15 (by decide +kernel) ?_
      cases h
      exact r_iret (pc := 16) rfl (zn_ok (Or.inl rfl)).1 (Nat.le_refl 0) (Nat.le_refl 0) dX12_does_16
theorem kX12_does {G : GG} (a0 : Nat) (x1 : Int) (M : MM) {res : (Int × MM)} (oa0 : OB L0 a0 12) (h : sX12_does a0 x1 M = some res) : CO G xX12_does [.ref (gA G a0), .int (eI x1)] L0 M (some (.int (eI res.1))) L0 res.2 := CO_of (by decide +kernel) (Nat.le_of_ble_eq_true rfl) (bX12_does_b0 a0 x1 oa0 M h)
abbrev xX12_play : XX := (yX12_play, cX12_play, 4, (some .int), 5, 115, 0, 0)
theorem ck_X12_play_403 : CKV xX12_play 403 xX12_beginBook 1 := ⟨⟨tb_i 1828 (by decide +kernel) (by decide +kernel), tb_i 152 (by decide +kernel) (by decide +kernel), tb_i 1831 (by decide +kernel) (by decide +kernel), ⟨by decide +kernel, by decide +kernel, by decide +kernel⟩, by decide, by decide⟩, tb_i 1830 (by decide +kernel) (by decide +kernel), tb_i 81 (by decide +kernel) (by decide +kernel)⟩
theorem ck_X12_play_406 : CKV xX12_play 406 xX12_does 1 := ⟨⟨tb_i 1832 (by decide +kernel) (by decide +kernel), tb_i 152 (by decide +kernel) (by decide +kernel), tb_i 1835 (by decide +kernel) (by decide +kernel), ⟨by decide +kernel, by decide +kernel, by decide +kernel⟩, by decide, by decide⟩, tb_i 1834 (by decide +kernel) (by decide +kernel), tb_i 82 (by decide +kernel) (by decide +kernel)⟩
def sX12_play_b26 (a0 : Nat) (x1 : Int) (x2 : Int)  (x3 : Int) (M : MM) : Option (Int × MM) := (some ((x3, M)))
def sX12_play_b7 (a0 : Nat) (x1 : Int) (x2 : Int)  : Nat → Int → MM → Option (Int × MM)
  | 0, _, _ => none
  | n + 1, x3, M => (if wI x1 ≤ wI x3 then (sX12_play_b26 a0 x1 x2 x3 M) else ((sX12_does a0 x3 M).bind fun q_2 => (if wI (q_2.1) = 0 then (sX12_play_b26 a0 x1 x2 x3 q_2.2) else ((some (x3 + 1)).bind fun v_4 => (sX12_play_b7 a0 x1 x2 n v_4 q_2.2)))))
def sX12_play_b0 (a0 : Nat) (x1 : Int) (x2 : Int)   (M : MM) : Option (Int × MM) := ((sX12_beginBook a0 x2 M).bind fun q_1 => (sX12_play_b7 a0 x1 x2 FU 0 q_1))
def sX12_play (a0 : Nat) (x1 : Int) (x2 : Int) (M : MM) : Option (Int × MM) := sX12_play_b0 a0 x1 x2 M
set_option maxHeartbeats 4000000 in
set_option maxRecDepth 100000 in
theorem bX12_play_b26 {G : GG} (a0 : Nat) (x1 : Int) (x2 : Int) (oa0 : OB L0 a0 12) (x3 : Int) (M : MM) {res : (Int × MM)}  (h : sX12_play_b26 a0 x1 x2 x3 M = some res) : VV G xX12_play (ZM G xX12_play (some (.int (eI res.1))) L0 res.2) L0 M 0 0 26 [(3, .int (eI x3))] [] := by
  unfold sX12_play_b26 at h
  refine r_iload_n (pc := 26) (i := 3) dX12_play_26 rfl 0 rfl ?_
  cases h
  exact r_iret (pc := 27) rfl rfl (Nat.le_refl 0) (Nat.le_refl 0) dX12_play_27
set_option maxHeartbeats 4000000 in
set_option maxRecDepth 100000 in
theorem bX12_play_b7 {G : GG} (a0 : Nat) (x1 : Int) (x2 : Int) (oa0 : OB L0 a0 12) {res : (Int × MM)} : ∀ (n : Nat) (x3 : Int) (M : MM)  (h : sX12_play_b7 a0 x1 x2 n x3 M = some res), VV G xX12_play (ZM G xX12_play (some (.int (eI res.1))) L0 res.2) L0 M 0 0 7 [(0, .ref (gA G a0)), (1, .int (eI x1)), (3, .int (eI x3))] [] := by
  intro n
  induction n with
  | zero =>
    intro x3 M h
    rw [sX12_play_b7] at h
    cases h
  | succ n ih =>
    intro x3 M h
    rw [sX12_play_b7] at h
    refine r_iload_n (pc := 7) (i := 3) dX12_play_7 rfl 2 rfl ?_
    refine r_iload_n (pc := 8) (i := 1) dX12_play_8 rfl 1 rfl ?_
    refine r_icmp_ge (pc := 9) (tgt := 26) dX12_play_9 (by decide) rfl rfl (fun c_1 => ?_) (fun c_1 => ?_)
    · replace h := (if_pos c_1).symm.trans h
      refine r_sub (lv' := [(3, .int (eI x3))]) [2] rfl ?_
      exact bX12_play_b26 a0 x1 x2 oa0 _ _ h
    · replace h := (if_neg c_1).symm.trans h
      refine r_aload_n (pc := 12) (i := 0) dX12_play_12 rfl 0 rfl ?_
      refine r_iload_n (pc := 13) (i := 3) dX12_play_13 rfl 2 rfl ?_
      obtain ⟨q_2, hq_2, h⟩ := ob h
      refine r_cV (pc := 14) (Y := xX12_does) (As := [.int (eI x3)]) (rest := []) (v := (some (.int (eI (q_2.1))))) (st1 := [.int (eI (q_2.1))]) ck_X12_play_406 (kX12_does a0 x3 M oa0 hq_2) oa0 rfl rfl rfl rfl (Nat.le_of_ble_eq_true rfl) ⟨rfl, rfl⟩ rfl dX12_play_14 ?_
      refine r_if_eq (pc := 17) (tgt := 26) dX12_play_17 (by decide) rfl (fun c_3 => ?_) (fun c_3 => ?_)
      · replace h := (if_pos c_3).symm.trans h
        refine r_sub (lv' := [(3, .int (eI x3))]) [2] rfl ?_
        exact bX12_play_b26 a0 x1 x2 oa0 _ _ h
      · replace h := (if_neg c_3).symm.trans h
        obtain ⟨v_4, hv_4, h⟩ := ob h
        refine r_iinc (pc := 20) (y := v_4) (lv' := [(3, .int (eI v_4)), (0, .ref (gA G a0)), (1, .int (eI x1))]) dX12_play_20 2 rfl (Option.some.inj hv_4) (Nat.le_of_ble_eq_true rfl) rfl ?_
        refine r_goto (pc := 23) (tgt := 7) dX12_play_23 (by decide) ?_
        refine r_sub (lv' := [(0, .ref (gA G a0)), (1, .int (eI x1)), (3, .int (eI v_4))]) [1, 2, 0] rfl ?_
        exact ih _ _ h
set_option maxHeartbeats 4000000 in
set_option maxRecDepth 100000 in
theorem bX12_play_b0 {G : GG} (a0 : Nat) (x1 : Int) (x2 : Int) (oa0 : OB L0 a0 12)  (M : MM) {res : (Int × MM)}  (h : sX12_play_b0 a0 x1 x2 M = some res) : VV G xX12_play (ZM G xX12_play (some (.int (eI res.1))) L0 res.2) L0 M 0 0 0 [(0, .ref (gA G a0)), (1, .int (eI x1)), (2, .int (eI x2))] [] := by
  unfold sX12_play_b0 at h
  refine r_aload_n (pc := 0) (i := 0) dX12_play_0 rfl 0 rfl ?_
  refine r_iload_n (pc := 1) (i := 2) dX12_play_1 rfl 2 rfl ?_
  obtain ⟨q_1, hq_1, h⟩ := ob h
  refine r_cV (pc := 2) (Y := xX12_beginBook) (As := [.int (eI x2)]) (rest := []) (v := none) (st1 := []) ck_X12_play_403 (kX12_beginBook a0 x2 M oa0 hq_1) oa0 rfl rfl rfl rfl (Nat.le_of_ble_eq_true rfl) ⟨rfl, rfl⟩ rfl dX12_play_2 ?_
  refine r_iconst (pc := 5) (v := 0) dX12_play_5 (by decide +kernel) ?_
  refine r_istore_n (pc := 6) (i := 3) (lv' := [(3, .int (eI 0)), (0, .ref (gA G a0)), (1, .int (eI x1)), (2, .int (eI x2))]) dX12_play_6 rfl (Nat.le_of_ble_eq_true rfl) rfl ?_
  refine r_sub (lv' := [(0, .ref (gA G a0)), (1, .int (eI x1)), (3, .int (eI 0))]) [1, 2, 0] rfl ?_
  exact bX12_play_b7 a0 x1 x2 oa0 _ _ _ h
theorem kX12_play {G : GG} (a0 : Nat) (x1 : Int) (x2 : Int) (M : MM) {res : (Int × MM)} (oa0 : OB L0 a0 12) (h : sX12_play a0 x1 x2 M = some res) : CO G xX12_play [.ref (gA G a0), .int (eI x1), .int (eI x2)] L0 M (some (.int (eI res.1))) L0 res.2 := CO_of (by decide +kernel) (Nat.le_of_ble_eq_true rfl) (bX12_play_b0 a0 x1 x2 oa0 M h)
abbrev xX12_belly : XX := (yX12_belly, cX12_belly, 1, (some .int), 1, 21, 0, 0)
theorem ck_X12_belly_313 : CKV xX12_belly 313 xX12_of 1 := ⟨⟨tb_i 1784 (by decide +kernel) (by decide +kernel), tb_i 152 (by decide +kernel) (by decide +kernel), tb_i 1787 (by decide +kernel) (by decide +kernel), ⟨by decide +kernel, by decide +kernel, by decide +kernel⟩, by decide, by decide⟩, tb_i 1786 (by decide +kernel) (by decide +kernel), tb_i 73 (by decide +kernel) (by decide +kernel)⟩
def sX12_belly_b0 (a0 : Nat) (M : MM)   : Option Int := ((sX12_of a0 19 M).bind fun q_1 => (some (q_1)))
def sX12_belly (a0 : Nat) (M : MM) : Option Int := sX12_belly_b0 a0 M
set_option maxHeartbeats 4000000 in
set_option maxRecDepth 100000 in
theorem bX12_belly_b0 {G : GG} (a0 : Nat) (M : MM) (oa0 : OB L0 a0 12)  {res : Int}  (h : sX12_belly_b0 a0 M = some res) : VV G xX12_belly (ZM G xX12_belly (some (.int (eI res))) L0 M) L0 M 0 0 0 [(0, .ref (gA G a0))] [] := by
  unfold sX12_belly_b0 at h
  refine r_aload_n (pc := 0) (i := 0) dX12_belly_0 rfl 0 rfl ?_
  refine r_bipush (pc := 1) (v := 19) dX12_belly_1 (by decide +kernel) ?_
  obtain ⟨q_1, hq_1, h⟩ := ob h
  refine r_cV (pc := 3) (Y := xX12_of) (As := [.int (eI 19)]) (rest := []) (v := (some (.int (eI q_1)))) (st1 := [.int (eI q_1)]) ck_X12_belly_313 (kX12_of a0 19 M oa0 hq_1) oa0 rfl rfl rfl rfl (Nat.le_of_ble_eq_true rfl) ⟨rfl, rfl⟩ rfl dX12_belly_3 ?_
  cases h
  exact r_iret (pc := 6) rfl rfl (Nat.le_refl 0) (Nat.le_refl 0) dX12_belly_6
theorem kX12_belly {G : GG} (a0 : Nat) (M : MM) {res : Int} (oa0 : OB L0 a0 12) (h : sX12_belly a0 M = some res) : CO G xX12_belly [.ref (gA G a0)] L0 M (some (.int (eI res))) L0 M := CO_of (by decide +kernel) (Nat.le_of_ble_eq_true rfl) (bX12_belly_b0 a0 M oa0 h)
abbrev xX12_layState : XX := (yX12_layState, cX12_layState, 4, (some .boolean), 6, 138, 0, 0)
theorem ck_X12_layState_105 : CKS xX12_layState 105 xX12_in 3 := ⟨⟨tb_i 1622 (by decide +kernel) (by decide +kernel), tb_i 152 (by decide +kernel) (by decide +kernel), tb_i 1624 (by decide +kernel) (by decide +kernel), ⟨by decide +kernel, by decide +kernel, by decide +kernel⟩, by decide, by decide⟩, tb_i 1623 (by decide +kernel) (by decide +kernel)⟩
theorem ck_X12_layState_328 : CKV xX12_layState 328 xX12_hand 1 := ⟨⟨tb_i 1780 (by decide +kernel) (by decide +kernel), tb_i 152 (by decide +kernel) (by decide +kernel), tb_i 1783 (by decide +kernel) (by decide +kernel), ⟨by decide +kernel, by decide +kernel, by decide +kernel⟩, by decide, by decide⟩, tb_i 1782 (by decide +kernel) (by decide +kernel), tb_i 72 (by decide +kernel) (by decide +kernel)⟩
theorem ck_X12_layState_340 : CKV xX12_layState 340 xX12_hasBook 1 := ⟨⟨tb_i 1804 (by decide +kernel) (by decide +kernel), tb_i 152 (by decide +kernel) (by decide +kernel), tb_i 1807 (by decide +kernel) (by decide +kernel), ⟨by decide +kernel, by decide +kernel, by decide +kernel⟩, by decide, by decide⟩, tb_i 1806 (by decide +kernel) (by decide +kernel), tb_i 76 (by decide +kernel) (by decide +kernel)⟩
theorem ck_X12_layState_343 : CKV xX12_layState 343 xX12_deeds 0 := ⟨⟨tb_i 1808 (by decide +kernel) (by decide +kernel), tb_i 152 (by decide +kernel) (by decide +kernel), tb_i 1811 (by decide +kernel) (by decide +kernel), ⟨by decide +kernel, by decide +kernel, by decide +kernel⟩, by decide, by decide⟩, tb_i 1810 (by decide +kernel) (by decide +kernel), tb_i 77 (by decide +kernel) (by decide +kernel)⟩
theorem ck_X12_layState_409 : CKV xX12_layState 409 xX12_belly 0 := ⟨⟨tb_i 1820 (by decide +kernel) (by decide +kernel), tb_i 152 (by decide +kernel) (by decide +kernel), tb_i 1823 (by decide +kernel) (by decide +kernel), ⟨by decide +kernel, by decide +kernel, by decide +kernel⟩, by decide, by decide⟩, tb_i 1822 (by decide +kernel) (by decide +kernel), tb_i 79 (by decide +kernel) (by decide +kernel)⟩
theorem ck_X12_layState_412 : CKV xX12_layState 412 xX12_play 2 := ⟨⟨tb_i 1824 (by decide +kernel) (by decide +kernel), tb_i 152 (by decide +kernel) (by decide +kernel), tb_i 1827 (by decide +kernel) (by decide +kernel), ⟨by decide +kernel, by decide +kernel, by decide +kernel⟩, by decide, by decide⟩, tb_i 1826 (by decide +kernel) (by decide +kernel), tb_i 80 (by decide +kernel) (by decide +kernel)⟩
def sX12_layState_b0 (a0 : Nat) (x1 : Int) (x2 : Int) (x3 : Int)   (M : MM) : Option (Int × MM) := ((sX12_hasBook a0 x2 M).bind fun q_1 => (if wI (q_1.1) = 0 then (some ((0, q_1.2))) else ((sX12_hand a0 x1 q_1.2).bind fun q_3 => (if wI (q_3.1) = 0 then (some ((0, q_3.2))) else ((sX12_deeds a0 q_3.2).bind fun q_5 => (if wI (sX12_in x3 0 q_5) = 0 then (some ((0, q_3.2))) else ((sX12_belly a0 q_3.2).bind fun q_7 => ((sX12_play a0 x3 q_7 q_3.2).bind fun q_8 => (if wI (q_8.1) = wI x3 then (some ((1, q_8.2))) else (some ((0, q_8.2))))))))))))
def sX12_layState (a0 : Nat) (x1 : Int) (x2 : Int) (x3 : Int) (M : MM) : Option (Int × MM) := sX12_layState_b0 a0 x1 x2 x3 M
set_option maxHeartbeats 4000000 in
set_option maxRecDepth 100000 in
theorem bX12_layState_b0 {G : GG} (a0 : Nat) (x1 : Int) (x2 : Int) (x3 : Int) (oa0 : OB L0 a0 12)  (M : MM) {res : (Int × MM)}  (h : sX12_layState_b0 a0 x1 x2 x3 M = some res) : VV G xX12_layState (ZM G xX12_layState (some (.int (eI res.1))) L0 res.2) L0 M 0 0 0 [(0, .ref (gA G a0)), (1, .int (eI x1)), (2, .int (eI x2)), (3, .int (eI x3))] [] := by
  unfold sX12_layState_b0 at h
  refine r_aload_n (pc := 0) (i := 0) dX12_layState_0 rfl 0 rfl ?_
  refine r_iload_n (pc := 1) (i := 2) dX12_layState_1 rfl 2 rfl ?_
  obtain ⟨q_1, hq_1, h⟩ := ob h
  refine r_cV (pc := 2) (Y := xX12_hasBook) (As := [.int (eI x2)]) (rest := []) (v := (some (.int (eI (q_1.1))))) (st1 := [.int (eI (q_1.1))]) ck_X12_layState_340 (kX12_hasBook a0 x2 M oa0 hq_1) oa0 rfl rfl rfl rfl (Nat.le_of_ble_eq_true rfl) ⟨rfl, rfl⟩ rfl dX12_layState_2 ?_
  refine r_if_eq (pc := 5) (tgt := 45) dX12_layState_5 (by decide) rfl (fun c_2 => ?_) (fun c_2 => ?_)
  · replace h := (if_pos c_2).symm.trans h
    refine r_iconst (pc := 45) (v := 0) dX12_layState_45 (by decide +kernel) ?_
    cases h
    exact r_iret (pc := 46) rfl (zn_ok (Or.inl rfl)).1 (Nat.le_refl 0) (Nat.le_refl 0) dX12_layState_46
  · replace h := (if_neg c_2).symm.trans h
    refine r_aload_n (pc := 8) (i := 0) dX12_layState_8 rfl 0 rfl ?_
    refine r_iload_n (pc := 9) (i := 1) dX12_layState_9 rfl 1 rfl ?_
    obtain ⟨q_3, hq_3, h⟩ := ob h
    refine r_cV (pc := 10) (Y := xX12_hand) (As := [.int (eI x1)]) (rest := []) (v := (some (.int (eI (q_3.1))))) (st1 := [.int (eI (q_3.1))]) ck_X12_layState_328 (kX12_hand a0 x1 q_1.2 oa0 hq_3) oa0 rfl rfl rfl rfl (Nat.le_of_ble_eq_true rfl) ⟨rfl, rfl⟩ rfl dX12_layState_10 ?_
    refine r_if_eq (pc := 13) (tgt := 45) dX12_layState_13 (by decide) rfl (fun c_4 => ?_) (fun c_4 => ?_)
    · replace h := (if_pos c_4).symm.trans h
      refine r_iconst (pc := 45) (v := 0) dX12_layState_45 (by decide +kernel) ?_
      cases h
      exact r_iret (pc := 46) rfl (zn_ok (Or.inl rfl)).1 (Nat.le_refl 0) (Nat.le_refl 0) dX12_layState_46
    · replace h := (if_neg c_4).symm.trans h
      refine r_iload_n (pc := 16) (i := 3) dX12_layState_16 rfl 3 rfl ?_
      refine r_iconst (pc := 17) (v := 0) dX12_layState_17 (by decide +kernel) ?_
      refine r_aload_n (pc := 18) (i := 0) dX12_layState_18 rfl 0 rfl ?_
      obtain ⟨q_5, hq_5, h⟩ := ob h
      refine r_cV (pc := 19) (Y := xX12_deeds) (As := []) (rest := [.int (eI 0), .int (eI x3)]) (v := (some (.int (eI q_5)))) (st1 := [.int (eI q_5), .int (eI 0), .int (eI x3)]) ck_X12_layState_343 (kX12_deeds a0 q_3.2 oa0 hq_5) oa0 rfl rfl rfl rfl (Nat.le_of_ble_eq_true rfl) ⟨rfl, rfl⟩ rfl dX12_layState_19 ?_
      refine r_cS (pc := 22) (Y := xX12_in) (As := [.int (eI x3), .int (eI 0), .int (eI q_5)]) (rest := []) (v := (some (.int (eI (sX12_in x3 0 q_5))))) (st1 := [.int (eI (sX12_in x3 0 q_5))]) ck_X12_layState_105 (kX12_in x3 0 q_5 q_3.2 ) rfl rfl (Nat.le_of_ble_eq_true rfl) ⟨rfl, rfl⟩ rfl dX12_layState_22 ?_
      refine r_if_eq (pc := 25) (tgt := 45) dX12_layState_25 (by decide) rfl (fun c_6 => ?_) (fun c_6 => ?_)
      · replace h := (if_pos c_6).symm.trans h
        refine r_iconst (pc := 45) (v := 0) dX12_layState_45 (by decide +kernel) ?_
        cases h
        exact r_iret (pc := 46) rfl (zn_ok (Or.inl rfl)).1 (Nat.le_refl 0) (Nat.le_refl 0) dX12_layState_46
      · replace h := (if_neg c_6).symm.trans h
        refine r_aload_n (pc := 28) (i := 0) dX12_layState_28 rfl 0 rfl ?_
        refine r_iload_n (pc := 29) (i := 3) dX12_layState_29 rfl 3 rfl ?_
        refine r_aload_n (pc := 30) (i := 0) dX12_layState_30 rfl 0 rfl ?_
        obtain ⟨q_7, hq_7, h⟩ := ob h
        refine r_cV (pc := 31) (Y := xX12_belly) (As := []) (rest := [.int (eI x3), .ref (gA G a0)]) (v := (some (.int (eI q_7)))) (st1 := [.int (eI q_7), .int (eI x3), .ref (gA G a0)]) ck_X12_layState_409 (kX12_belly a0 q_3.2 oa0 hq_7) oa0 rfl rfl rfl rfl (Nat.le_of_ble_eq_true rfl) ⟨rfl, rfl⟩ rfl dX12_layState_31 ?_
        obtain ⟨q_8, hq_8, h⟩ := ob h
        refine r_cV (pc := 34) (Y := xX12_play) (As := [.int (eI x3), .int (eI q_7)]) (rest := []) (v := (some (.int (eI (q_8.1))))) (st1 := [.int (eI (q_8.1))]) ck_X12_layState_412 (kX12_play a0 x3 q_7 q_3.2 oa0 hq_8) oa0 rfl rfl rfl rfl (Nat.le_of_ble_eq_true rfl) ⟨rfl, rfl⟩ rfl dX12_layState_34 ?_
        refine r_iload_n (pc := 37) (i := 3) dX12_layState_37 rfl 3 rfl ?_
        refine r_icmp_ne (pc := 38) (tgt := 45) dX12_layState_38 (by decide) rfl rfl (fun c_9 => ?_) (fun c_9 => ?_)
        · replace h := (if_neg c_9).symm.trans h
          refine r_iconst (pc := 45) (v := 0) dX12_layState_45 (by decide +kernel) ?_
          cases h
          exact r_iret (pc := 46) rfl (zn_ok (Or.inl rfl)).1 (Nat.le_refl 0) (Nat.le_refl 0) dX12_layState_46
        · replace h := (if_pos c_9).symm.trans h
          refine r_iconst (pc := 41) (v := 1) dX12_layState_41 (by decide +kernel) ?_
          refine r_goto (pc := 42) (tgt := 46) dX12_layState_42 (by decide) ?_
          cases h
          exact r_iret (pc := 46) rfl (zn_ok (Or.inr rfl)).1 (Nat.le_refl 0) (Nat.le_refl 0) dX12_layState_46
theorem kX12_layState {G : GG} (a0 : Nat) (x1 : Int) (x2 : Int) (x3 : Int) (M : MM) {res : (Int × MM)} (oa0 : OB L0 a0 12) (h : sX12_layState a0 x1 x2 x3 M = some res) : CO G xX12_layState [.ref (gA G a0), .int (eI x1), .int (eI x2), .int (eI x3)] L0 M (some (.int (eI res.1))) L0 res.2 := CO_of (by decide +kernel) (Nat.le_of_ble_eq_true rfl) (bX12_layState_b0 a0 x1 x2 x3 oa0 M h)
abbrev xX12_stop : XX := (yX12_stop, cX12_stop, 3, (some .int), 6, 138, 0, 0)
theorem ck_X12_stop_328 : CKV xX12_stop 328 xX12_hand 1 := ⟨⟨tb_i 1780 (by decide +kernel) (by decide +kernel), tb_i 152 (by decide +kernel) (by decide +kernel), tb_i 1783 (by decide +kernel) (by decide +kernel), ⟨by decide +kernel, by decide +kernel, by decide +kernel⟩, by decide, by decide⟩, tb_i 1782 (by decide +kernel) (by decide +kernel), tb_i 72 (by decide +kernel) (by decide +kernel)⟩
theorem ck_X12_stop_340 : CKV xX12_stop 340 xX12_hasBook 1 := ⟨⟨tb_i 1804 (by decide +kernel) (by decide +kernel), tb_i 152 (by decide +kernel) (by decide +kernel), tb_i 1807 (by decide +kernel) (by decide +kernel), ⟨by decide +kernel, by decide +kernel, by decide +kernel⟩, by decide, by decide⟩, tb_i 1806 (by decide +kernel) (by decide +kernel), tb_i 76 (by decide +kernel) (by decide +kernel)⟩
theorem ck_X12_stop_343 : CKV xX12_stop 343 xX12_deeds 0 := ⟨⟨tb_i 1808 (by decide +kernel) (by decide +kernel), tb_i 152 (by decide +kernel) (by decide +kernel), tb_i 1811 (by decide +kernel) (by decide +kernel), ⟨by decide +kernel, by decide +kernel, by decide +kernel⟩, by decide, by decide⟩, tb_i 1810 (by decide +kernel) (by decide +kernel), tb_i 77 (by decide +kernel) (by decide +kernel)⟩
theorem ck_X12_stop_409 : CKV xX12_stop 409 xX12_belly 0 := ⟨⟨tb_i 1820 (by decide +kernel) (by decide +kernel), tb_i 152 (by decide +kernel) (by decide +kernel), tb_i 1823 (by decide +kernel) (by decide +kernel), ⟨by decide +kernel, by decide +kernel, by decide +kernel⟩, by decide, by decide⟩, tb_i 1822 (by decide +kernel) (by decide +kernel), tb_i 79 (by decide +kernel) (by decide +kernel)⟩
theorem ck_X12_stop_412 : CKV xX12_stop 412 xX12_play 2 := ⟨⟨tb_i 1824 (by decide +kernel) (by decide +kernel), tb_i 152 (by decide +kernel) (by decide +kernel), tb_i 1827 (by decide +kernel) (by decide +kernel), ⟨by decide +kernel, by decide +kernel, by decide +kernel⟩, by decide, by decide⟩, tb_i 1826 (by decide +kernel) (by decide +kernel), tb_i 80 (by decide +kernel) (by decide +kernel)⟩
def sX12_stop_b0 (a0 : Nat) (x1 : Int) (x2 : Int)   (M : MM) : Option (Int × MM) := ((some (mU M a0 0 0)).bind fun M_1 => ((sX12_hasBook a0 x2 M_1).bind fun q_2 => (if wI (q_2.1) = 0 then (some (((-1), q_2.2))) else ((sX12_hand a0 x1 q_2.2).bind fun q_4 => (if wI (q_4.1) = 0 then (some (((-1), q_4.2))) else ((sX12_deeds a0 q_4.2).bind fun q_6 => ((sX12_belly a0 q_4.2).bind fun q_7 => ((sX12_play a0 q_6 q_7 q_4.2).bind fun q_8 => (some (((q_8.1), q_8.2)))))))))))
def sX12_stop (a0 : Nat) (x1 : Int) (x2 : Int) (M : MM) : Option (Int × MM) := sX12_stop_b0 a0 x1 x2 M
set_option maxHeartbeats 4000000 in
set_option maxRecDepth 100000 in
theorem bX12_stop_b0 {G : GG} (a0 : Nat) (x1 : Int) (x2 : Int) (oa0 : OB L0 a0 12)  (M : MM) {res : (Int × MM)}  (h : sX12_stop_b0 a0 x1 x2 M = some res) : VV G xX12_stop (ZM G xX12_stop (some (.int (eI res.1))) L0 res.2) L0 M 0 0 0 [(0, .ref (gA G a0)), (1, .int (eI x1)), (2, .int (eI x2))] [] := by
  unfold sX12_stop_b0 at h
  refine r_aload_n (pc := 0) (i := 0) dX12_stop_0 rfl 0 rfl ?_
  refine r_iconst (pc := 1) (v := 0) dX12_stop_1 (by decide +kernel) ?_
  obtain ⟨M_1, hM_1, h⟩ := ob h
  refine r_putI (pc := 2) fg_12_97 rfl oa0 hM_1 rfl rfl dX12_stop_2 ?_
  refine r_aload_n (pc := 5) (i := 0) dX12_stop_5 rfl 0 rfl ?_
  refine r_iload_n (pc := 6) (i := 2) dX12_stop_6 rfl 2 rfl ?_
  obtain ⟨q_2, hq_2, h⟩ := ob h
  refine r_cV (pc := 7) (Y := xX12_hasBook) (As := [.int (eI x2)]) (rest := []) (v := (some (.int (eI (q_2.1))))) (st1 := [.int (eI (q_2.1))]) ck_X12_stop_340 (kX12_hasBook a0 x2 M_1 oa0 hq_2) oa0 rfl rfl rfl rfl (Nat.le_of_ble_eq_true rfl) ⟨rfl, rfl⟩ rfl dX12_stop_7 ?_
  refine r_if_eq (pc := 10) (tgt := 36) dX12_stop_10 (by decide) rfl (fun c_3 => ?_) (fun c_3 => ?_)
  · replace h := (if_pos c_3).symm.trans h
    refine r_iconst (pc := 36) (v := (-1)) dX12_stop_36 (by decide +kernel) ?_
    cases h
    exact r_iret (pc := 37) rfl rfl (Nat.le_refl 0) (Nat.le_refl 0) dX12_stop_37
  · replace h := (if_neg c_3).symm.trans h
    refine r_aload_n (pc := 13) (i := 0) dX12_stop_13 rfl 0 rfl ?_
    refine r_iload_n (pc := 14) (i := 1) dX12_stop_14 rfl 1 rfl ?_
    obtain ⟨q_4, hq_4, h⟩ := ob h
    refine r_cV (pc := 15) (Y := xX12_hand) (As := [.int (eI x1)]) (rest := []) (v := (some (.int (eI (q_4.1))))) (st1 := [.int (eI (q_4.1))]) ck_X12_stop_328 (kX12_hand a0 x1 q_2.2 oa0 hq_4) oa0 rfl rfl rfl rfl (Nat.le_of_ble_eq_true rfl) ⟨rfl, rfl⟩ rfl dX12_stop_15 ?_
    refine r_if_eq (pc := 18) (tgt := 36) dX12_stop_18 (by decide) rfl (fun c_5 => ?_) (fun c_5 => ?_)
    · replace h := (if_pos c_5).symm.trans h
      refine r_iconst (pc := 36) (v := (-1)) dX12_stop_36 (by decide +kernel) ?_
      cases h
      exact r_iret (pc := 37) rfl rfl (Nat.le_refl 0) (Nat.le_refl 0) dX12_stop_37
    · replace h := (if_neg c_5).symm.trans h
      refine r_aload_n (pc := 21) (i := 0) dX12_stop_21 rfl 0 rfl ?_
      refine r_aload_n (pc := 22) (i := 0) dX12_stop_22 rfl 0 rfl ?_
      obtain ⟨q_6, hq_6, h⟩ := ob h
      refine r_cV (pc := 23) (Y := xX12_deeds) (As := []) (rest := [.ref (gA G a0)]) (v := (some (.int (eI q_6)))) (st1 := [.int (eI q_6), .ref (gA G a0)]) ck_X12_stop_343 (kX12_deeds a0 q_4.2 oa0 hq_6) oa0 rfl rfl rfl rfl (Nat.le_of_ble_eq_true rfl) ⟨rfl, rfl⟩ rfl dX12_stop_23 ?_
      refine r_aload_n (pc := 26) (i := 0) dX12_stop_26 rfl 0 rfl ?_
      obtain ⟨q_7, hq_7, h⟩ := ob h
      refine r_cV (pc := 27) (Y := xX12_belly) (As := []) (rest := [.int (eI q_6), .ref (gA G a0)]) (v := (some (.int (eI q_7)))) (st1 := [.int (eI q_7), .int (eI q_6), .ref (gA G a0)]) ck_X12_stop_409 (kX12_belly a0 q_4.2 oa0 hq_7) oa0 rfl rfl rfl rfl (Nat.le_of_ble_eq_true rfl) ⟨rfl, rfl⟩ rfl dX12_stop_27 ?_
      obtain ⟨q_8, hq_8, h⟩ := ob h
      refine r_cV (pc := 30) (Y := xX12_play) (As := [.int (eI q_6), .int (eI q_7)]) (rest := []) (v := (some (.int (eI (q_8.1))))) (st1 := [.int (eI (q_8.1))]) ck_X12_stop_412 (kX12_play a0 q_6 q_7 q_4.2 oa0 hq_8) oa0 rfl rfl rfl rfl (Nat.le_of_ble_eq_true rfl) ⟨rfl, rfl⟩ rfl dX12_stop_30 ?_
      refine r_goto (pc := 33) (tgt := 37) dX12_stop_33 (by decide) ?_
      cases h
      exact r_iret (pc := 37) rfl rfl (Nat.le_refl 0) (Nat.le_refl 0) dX12_stop_37
theorem kX12_stop {G : GG} (a0 : Nat) (x1 : Int) (x2 : Int) (M : MM) {res : (Int × MM)} (oa0 : OB L0 a0 12) (h : sX12_stop a0 x1 x2 M = some res) : CO G xX12_stop [.ref (gA G a0), .int (eI x1), .int (eI x2)] L0 M (some (.int (eI res.1))) L0 res.2 := CO_of (by decide +kernel) (Nat.le_of_ble_eq_true rfl) (bX12_stop_b0 a0 x1 x2 oa0 M h)
abbrev xX12_state : XX := (yX12_state, cX12_state, 5, (some .int), 7, 161, 0, 0)
theorem ck_X12_state_105 : CKS xX12_state 105 xX12_in 3 := ⟨⟨tb_i 1622 (by decide +kernel) (by decide +kernel), tb_i 152 (by decide +kernel) (by decide +kernel), tb_i 1624 (by decide +kernel) (by decide +kernel), ⟨by decide +kernel, by decide +kernel, by decide +kernel⟩, by decide, by decide⟩, tb_i 1623 (by decide +kernel) (by decide +kernel)⟩
theorem ck_X12_state_415 : CKV xX12_state 415 xX12_layState 3 := ⟨⟨tb_i 1868 (by decide +kernel) (by decide +kernel), tb_i 152 (by decide +kernel) (by decide +kernel), tb_i 1871 (by decide +kernel) (by decide +kernel), ⟨by decide +kernel, by decide +kernel, by decide +kernel⟩, by decide, by decide⟩, tb_i 1870 (by decide +kernel) (by decide +kernel), tb_i 87 (by decide +kernel) (by decide +kernel)⟩
def sX12_state_b0 (a0 : Nat) (x1 : Int) (x2 : Int) (x3 : Int) (x4 : Int)   (M : MM) : Option (Int × MM) := ((some (mU M a0 0 0)).bind fun M_1 => ((sX12_layState a0 x1 x2 x3 M_1).bind fun q_2 => (if wI (q_2.1) = 0 then (some (((-2), q_2.2))) else (if wI (sX12_in x4 10 (9 + (q_2.2 a0 25))) = 0 then (if wI x4 = 0 then (some (((q_2.2 a0 30), q_2.2))) else (if wI x4 = 1 then (some (((q_2.2 a0 31), q_2.2))) else (if wI x4 = 2 then (some (((q_2.2 a0 32), q_2.2))) else (if wI x4 = 3 then (some (((q_2.2 a0 33), q_2.2))) else (if wI x4 = 4 then (some (((q_2.2 a0 34), q_2.2))) else (if wI x4 = 5 then (if wI (q_2.2 a0 36) = 0 then (some ((0, q_2.2))) else (some ((1, q_2.2)))) else (if wI x4 = 6 then (some (((q_2.2 a0 37), q_2.2))) else (if wI x4 = 7 then (some (((q_2.2 a0 38), q_2.2))) else (if wI x4 = 8 then (some (((q_2.2 a0 39), q_2.2))) else (some (((-2), q_2.2)))))))))))) else (if 0 ≤ wI (x4 - 10) ∧ wI (x4 - 10) < 5 then (some (((q_2.2 (gR a0 40) (wI (x4 - 10)).toNat), q_2.2))) else none)))))
def sX12_state (a0 : Nat) (x1 : Int) (x2 : Int) (x3 : Int) (x4 : Int) (M : MM) : Option (Int × MM) := sX12_state_b0 a0 x1 x2 x3 x4 M
set_option maxHeartbeats 4000000 in
set_option maxRecDepth 100000 in
theorem bX12_state_b0 {G : GG} (a0 : Nat) (x1 : Int) (x2 : Int) (x3 : Int) (x4 : Int) (oa0 : OB L0 a0 12)  (M : MM) {res : (Int × MM)}  (h : sX12_state_b0 a0 x1 x2 x3 x4 M = some res) : VV G xX12_state (ZM G xX12_state (some (.int (eI res.1))) L0 res.2) L0 M 0 0 0 [(0, .ref (gA G a0)), (1, .int (eI x1)), (2, .int (eI x2)), (3, .int (eI x3)), (4, .int (eI x4))] [] := by
  unfold sX12_state_b0 at h
  refine r_aload_n (pc := 0) (i := 0) dX12_state_0 rfl 0 rfl ?_
  refine r_iconst (pc := 1) (v := 0) dX12_state_1 (by decide +kernel) ?_
  obtain ⟨M_1, hM_1, h⟩ := ob h
  refine r_putI (pc := 2) fg_12_97 rfl oa0 hM_1 rfl rfl dX12_state_2 ?_
  refine r_aload_n (pc := 5) (i := 0) dX12_state_5 rfl 0 rfl ?_
  refine r_iload_n (pc := 6) (i := 1) dX12_state_6 rfl 1 rfl ?_
  refine r_iload_n (pc := 7) (i := 2) dX12_state_7 rfl 2 rfl ?_
  refine r_iload_n (pc := 8) (i := 3) dX12_state_8 rfl 3 rfl ?_
  obtain ⟨q_2, hq_2, h⟩ := ob h
  refine r_cV (pc := 9) (Y := xX12_layState) (As := [.int (eI x1), .int (eI x2), .int (eI x3)]) (rest := []) (v := (some (.int (eI (q_2.1))))) (st1 := [.int (eI (q_2.1))]) ck_X12_state_415 (kX12_layState a0 x1 x2 x3 M_1 oa0 hq_2) oa0 rfl rfl rfl rfl (Nat.le_of_ble_eq_true rfl) ⟨rfl, rfl⟩ rfl dX12_state_9 ?_
  refine r_if_ne (pc := 12) (tgt := 18) dX12_state_12 (by decide) rfl (fun c_3 => ?_) (fun c_3 => ?_)
  · replace h := (if_neg c_3).symm.trans h
    refine r_iload (pc := 18) dX12_state_18 4 rfl ?_
    refine r_bipush (pc := 20) (v := 10) dX12_state_20 (by decide +kernel) ?_
    refine r_bipush (pc := 22) (v := 9) dX12_state_22 (by decide +kernel) ?_
    refine r_aload_n (pc := 24) (i := 0) dX12_state_24 rfl 0 rfl ?_
    refine r_getI (pc := 25) fg_12_316 rfl oa0 dX12_state_25 ?_
    refine r_iadd (pc := 28) dX12_state_28 ?_
    refine r_cS (pc := 29) (Y := xX12_in) (As := [.int (eI x4), .int (eI 10), .int (eI (9 + (q_2.2 a0 25)))]) (rest := []) (v := (some (.int (eI (sX12_in x4 10 (9 + (q_2.2 a0 25))))))) (st1 := [.int (eI (sX12_in x4 10 (9 + (q_2.2 a0 25))))]) ck_X12_state_105 (kX12_in x4 10 (9 + (q_2.2 a0 25)) q_2.2 ) rfl rfl (Nat.le_of_ble_eq_true rfl) ⟨rfl, rfl⟩ rfl dX12_state_29 ?_
    refine r_if_eq (pc := 32) (tgt := 46) dX12_state_32 (by decide) rfl (fun c_4 => ?_) (fun c_4 => ?_)
    · replace h := (if_pos c_4).symm.trans h
      refine r_iload (pc := 46) dX12_state_46 4 rfl ?_
      by_cases c_5 : wI x4 = 0
      · replace h := (if_pos c_5).symm.trans h
        refine r_tsw (pc := 48) (tgt := 100) (k' := 0) (rfl.trans c_5) dX12_state_48 (by decide) rfl (by decide) ?_
        refine r_aload_n (pc := 100) (i := 0) dX12_state_100 rfl 0 rfl ?_
        refine r_getI (pc := 101) fg_12_349 rfl oa0 dX12_state_101 ?_
        cases h
        exact r_iret (pc := 104) rfl rfl (Nat.le_refl 0) (Nat.le_refl 0) dX12_state_104
      · replace h := (if_neg c_5).symm.trans h
        by_cases c_6 : wI x4 = 1
        · replace h := (if_pos c_6).symm.trans h
          refine r_tsw (pc := 48) (tgt := 105) (k' := 1) (rfl.trans c_6) dX12_state_48 (by decide) rfl (by decide) ?_
          refine r_aload_n (pc := 105) (i := 0) dX12_state_105 rfl 0 rfl ?_
          refine r_getI (pc := 106) fg_12_352 rfl oa0 dX12_state_106 ?_
          cases h
          exact r_iret (pc := 109) rfl rfl (Nat.le_refl 0) (Nat.le_refl 0) dX12_state_109
        · replace h := (if_neg c_6).symm.trans h
          by_cases c_7 : wI x4 = 2
          · replace h := (if_pos c_7).symm.trans h
            refine r_tsw (pc := 48) (tgt := 110) (k' := 2) (rfl.trans c_7) dX12_state_48 (by decide) rfl (by decide) ?_
            refine r_aload_n (pc := 110) (i := 0) dX12_state_110 rfl 0 rfl ?_
            refine r_getI (pc := 111) fg_12_355 rfl oa0 dX12_state_111 ?_
            cases h
            exact r_iret (pc := 114) rfl rfl (Nat.le_refl 0) (Nat.le_refl 0) dX12_state_114
          · replace h := (if_neg c_7).symm.trans h
            by_cases c_8 : wI x4 = 3
            · replace h := (if_pos c_8).symm.trans h
              refine r_tsw (pc := 48) (tgt := 115) (k' := 3) (rfl.trans c_8) dX12_state_48 (by decide) rfl (by decide) ?_
              refine r_aload_n (pc := 115) (i := 0) dX12_state_115 rfl 0 rfl ?_
              refine r_getI (pc := 116) fg_12_358 rfl oa0 dX12_state_116 ?_
              cases h
              exact r_iret (pc := 119) rfl rfl (Nat.le_refl 0) (Nat.le_refl 0) dX12_state_119
            · replace h := (if_neg c_8).symm.trans h
              by_cases c_9 : wI x4 = 4
              · replace h := (if_pos c_9).symm.trans h
                refine r_tsw (pc := 48) (tgt := 120) (k' := 4) (rfl.trans c_9) dX12_state_48 (by decide) rfl (by decide) ?_
                refine r_aload_n (pc := 120) (i := 0) dX12_state_120 rfl 0 rfl ?_
                refine r_getI (pc := 121) fg_12_361 rfl oa0 dX12_state_121 ?_
                cases h
                exact r_iret (pc := 124) rfl rfl (Nat.le_refl 0) (Nat.le_refl 0) dX12_state_124
              · replace h := (if_neg c_9).symm.trans h
                by_cases c_10 : wI x4 = 5
                · replace h := (if_pos c_10).symm.trans h
                  refine r_tsw (pc := 48) (tgt := 125) (k' := 5) (rfl.trans c_10) dX12_state_48 (by decide) rfl (by decide) ?_
                  refine r_aload_n (pc := 125) (i := 0) dX12_state_125 rfl 0 rfl ?_
                  refine r_getI (pc := 126) fg_12_367 rfl oa0 dX12_state_126 ?_
                  refine r_if_eq (pc := 129) (tgt := 136) dX12_state_129 (by decide) rfl (fun c_11 => ?_) (fun c_11 => ?_)
                  · replace h := (if_pos c_11).symm.trans h
                    refine r_iconst (pc := 136) (v := 0) dX12_state_136 (by decide +kernel) ?_
                    cases h
                    exact r_iret (pc := 137) rfl rfl (Nat.le_refl 0) (Nat.le_refl 0) dX12_state_137
                  · replace h := (if_neg c_11).symm.trans h
                    refine r_iconst (pc := 132) (v := 1) dX12_state_132 (by decide +kernel) ?_
                    refine r_goto (pc := 133) (tgt := 137) dX12_state_133 (by decide) ?_
                    cases h
                    exact r_iret (pc := 137) rfl rfl (Nat.le_refl 0) (Nat.le_refl 0) dX12_state_137
                · replace h := (if_neg c_10).symm.trans h
                  by_cases c_12 : wI x4 = 6
                  · replace h := (if_pos c_12).symm.trans h
                    refine r_tsw (pc := 48) (tgt := 138) (k' := 6) (rfl.trans c_12) dX12_state_48 (by decide) rfl (by decide) ?_
                    refine r_aload_n (pc := 138) (i := 0) dX12_state_138 rfl 0 rfl ?_
                    refine r_getI (pc := 139) fg_12_370 rfl oa0 dX12_state_139 ?_
                    cases h
                    exact r_iret (pc := 142) rfl rfl (Nat.le_refl 0) (Nat.le_refl 0) dX12_state_142
                  · replace h := (if_neg c_12).symm.trans h
                    by_cases c_13 : wI x4 = 7
                    · replace h := (if_pos c_13).symm.trans h
                      refine r_tsw (pc := 48) (tgt := 143) (k' := 7) (rfl.trans c_13) dX12_state_48 (by decide) rfl (by decide) ?_
                      refine r_aload_n (pc := 143) (i := 0) dX12_state_143 rfl 0 rfl ?_
                      refine r_getI (pc := 144) fg_12_373 rfl oa0 dX12_state_144 ?_
                      cases h
                      exact r_iret (pc := 147) rfl rfl (Nat.le_refl 0) (Nat.le_refl 0) dX12_state_147
                    · replace h := (if_neg c_13).symm.trans h
                      by_cases c_14 : wI x4 = 8
                      · replace h := (if_pos c_14).symm.trans h
                        refine r_tsw (pc := 48) (tgt := 148) (k' := 8) (rfl.trans c_14) dX12_state_48 (by decide) rfl (by decide) ?_
                        refine r_aload_n (pc := 148) (i := 0) dX12_state_148 rfl 0 rfl ?_
                        refine r_getI (pc := 149) fg_12_376 rfl oa0 dX12_state_149 ?_
                        cases h
                        exact r_iret (pc := 152) rfl rfl (Nat.le_refl 0) (Nat.le_refl 0) dX12_state_152
                      · replace h := (if_neg c_14).symm.trans h
                        refine r_tswD (pc := 48) (tgt := 153) rfl dX12_state_48 (by omega) (by decide) ?_
                        refine r_bipush (pc := 153) (v := (-2)) dX12_state_153 (by decide +kernel) ?_
                        cases h
                        exact r_iret (pc := 155) rfl rfl (Nat.le_refl 0) (Nat.le_refl 0) dX12_state_155
    · replace h := (if_neg c_4).symm.trans h
      refine r_aload_n (pc := 35) (i := 0) dX12_state_35 rfl 0 rfl ?_
      have o_15 := (wt_12_40 oa0).2
      refine r_getR (pc := 36) fg_12_47 rfl oa0 (wt_12_40 oa0).1 dX12_state_36 ?_
      refine r_iload (pc := 39) dX12_state_39 4 rfl ?_
      refine r_bipush (pc := 41) (v := 10) dX12_state_41 (by decide +kernel) ?_
      refine r_isub (pc := 43) dX12_state_43 ?_
      obtain ⟨c_16, h⟩ := og h
      refine r_iald (pc := 44) o_15 rfl c_16 rfl dX12_state_44 ?_
      cases h
      exact r_iret (pc := 45) rfl rfl (Nat.le_refl 0) (Nat.le_refl 0) dX12_state_45
  · replace h := (if_pos c_3).symm.trans h
    refine r_bipush (pc := 15) (v := (-2)) dX12_state_15 (by decide +kernel) ?_
    cases h
    exact r_iret (pc := 17) rfl rfl (Nat.le_refl 0) (Nat.le_refl 0) dX12_state_17
theorem kX12_state {G : GG} (a0 : Nat) (x1 : Int) (x2 : Int) (x3 : Int) (x4 : Int) (M : MM) {res : (Int × MM)} (oa0 : OB L0 a0 12) (h : sX12_state a0 x1 x2 x3 x4 M = some res) : CO G xX12_state [.ref (gA G a0), .int (eI x1), .int (eI x2), .int (eI x3), .int (eI x4)] L0 M (some (.int (eI res.1))) L0 res.2 := CO_of (by decide +kernel) (Nat.le_of_ble_eq_true rfl) (bX12_state_b0 a0 x1 x2 x3 x4 oa0 M h)
abbrev xX12_did : XX := (yX12_did, cX12_did, 6, (some .int), 7, 161, 0, 0)
theorem ck_X12_did_105 : CKS xX12_did 105 xX12_in 3 := ⟨⟨tb_i 1622 (by decide +kernel) (by decide +kernel), tb_i 152 (by decide +kernel) (by decide +kernel), tb_i 1624 (by decide +kernel) (by decide +kernel), ⟨by decide +kernel, by decide +kernel, by decide +kernel⟩, by decide, by decide⟩, tb_i 1623 (by decide +kernel) (by decide +kernel)⟩
theorem ck_X12_did_331 : CKV xX12_did 331 xX12_isChild 1 := ⟨⟨tb_i 1792 (by decide +kernel) (by decide +kernel), tb_i 152 (by decide +kernel) (by decide +kernel), tb_i 1795 (by decide +kernel) (by decide +kernel), ⟨by decide +kernel, by decide +kernel, by decide +kernel⟩, by decide, by decide⟩, tb_i 1794 (by decide +kernel) (by decide +kernel), tb_i 74 (by decide +kernel) (by decide +kernel)⟩
theorem ck_X12_did_415 : CKV xX12_did 415 xX12_layState 3 := ⟨⟨tb_i 1868 (by decide +kernel) (by decide +kernel), tb_i 152 (by decide +kernel) (by decide +kernel), tb_i 1871 (by decide +kernel) (by decide +kernel), ⟨by decide +kernel, by decide +kernel, by decide +kernel⟩, by decide, by decide⟩, tb_i 1870 (by decide +kernel) (by decide +kernel), tb_i 87 (by decide +kernel) (by decide +kernel)⟩
def sX12_did_b0 (a0 : Nat) (x1 : Int) (x2 : Int) (x3 : Int) (x4 : Int) (x5 : Int)   (M : MM) : Option (Int × MM) := ((some (mU M a0 0 0)).bind fun M_1 => ((sX12_layState a0 x1 x2 x3 M_1).bind fun q_2 => (if wI (q_2.1) = 0 then (some (((-2), q_2.2))) else ((sX12_isChild a0 x4 q_2.2).bind fun q_4 => (if wI q_4 = 0 then (some (((-2), q_2.2))) else (if wI (sX12_in x5 0 3) = 0 then (some (((-2), q_2.2))) else (if 0 ≤ wI ((4 * x4) + x5) ∧ wI ((4 * x4) + x5) < 32 then (some (((q_2.2 (gR a0 41) (wI ((4 * x4) + x5)).toNat), q_2.2))) else none)))))))
def sX12_did (a0 : Nat) (x1 : Int) (x2 : Int) (x3 : Int) (x4 : Int) (x5 : Int) (M : MM) : Option (Int × MM) := sX12_did_b0 a0 x1 x2 x3 x4 x5 M
set_option maxHeartbeats 4000000 in
set_option maxRecDepth 100000 in
theorem bX12_did_b0 {G : GG} (a0 : Nat) (x1 : Int) (x2 : Int) (x3 : Int) (x4 : Int) (x5 : Int) (oa0 : OB L0 a0 12)  (M : MM) {res : (Int × MM)}  (h : sX12_did_b0 a0 x1 x2 x3 x4 x5 M = some res) : VV G xX12_did (ZM G xX12_did (some (.int (eI res.1))) L0 res.2) L0 M 0 0 0 [(0, .ref (gA G a0)), (1, .int (eI x1)), (2, .int (eI x2)), (3, .int (eI x3)), (4, .int (eI x4)), (5, .int (eI x5))] [] := by
  unfold sX12_did_b0 at h
  refine r_aload_n (pc := 0) (i := 0) dX12_did_0 rfl 0 rfl ?_
  refine r_iconst (pc := 1) (v := 0) dX12_did_1 (by decide +kernel) ?_
  obtain ⟨M_1, hM_1, h⟩ := ob h
  refine r_putI (pc := 2) fg_12_97 rfl oa0 hM_1 rfl rfl dX12_did_2 ?_
  refine r_aload_n (pc := 5) (i := 0) dX12_did_5 rfl 0 rfl ?_
  refine r_iload_n (pc := 6) (i := 1) dX12_did_6 rfl 1 rfl ?_
  refine r_iload_n (pc := 7) (i := 2) dX12_did_7 rfl 2 rfl ?_
  refine r_iload_n (pc := 8) (i := 3) dX12_did_8 rfl 3 rfl ?_
  obtain ⟨q_2, hq_2, h⟩ := ob h
  refine r_cV (pc := 9) (Y := xX12_layState) (As := [.int (eI x1), .int (eI x2), .int (eI x3)]) (rest := []) (v := (some (.int (eI (q_2.1))))) (st1 := [.int (eI (q_2.1))]) ck_X12_did_415 (kX12_layState a0 x1 x2 x3 M_1 oa0 hq_2) oa0 rfl rfl rfl rfl (Nat.le_of_ble_eq_true rfl) ⟨rfl, rfl⟩ rfl dX12_did_9 ?_
  refine r_if_eq (pc := 12) (tgt := 49) dX12_did_12 (by decide) rfl (fun c_3 => ?_) (fun c_3 => ?_)
  · replace h := (if_pos c_3).symm.trans h
    refine r_bipush (pc := 49) (v := (-2)) dX12_did_49 (by decide +kernel) ?_
    cases h
    exact r_iret (pc := 51) rfl rfl (Nat.le_refl 0) (Nat.le_refl 0) dX12_did_51
  · replace h := (if_neg c_3).symm.trans h
    refine r_aload_n (pc := 15) (i := 0) dX12_did_15 rfl 0 rfl ?_
    refine r_iload (pc := 16) dX12_did_16 4 rfl ?_
    obtain ⟨q_4, hq_4, h⟩ := ob h
    refine r_cV (pc := 18) (Y := xX12_isChild) (As := [.int (eI x4)]) (rest := []) (v := (some (.int (eI q_4)))) (st1 := [.int (eI q_4)]) ck_X12_did_331 (kX12_isChild a0 x4 q_2.2 oa0 hq_4) oa0 rfl rfl rfl rfl (Nat.le_of_ble_eq_true rfl) ⟨rfl, rfl⟩ rfl dX12_did_18 ?_
    refine r_if_eq (pc := 21) (tgt := 49) dX12_did_21 (by decide) rfl (fun c_5 => ?_) (fun c_5 => ?_)
    · replace h := (if_pos c_5).symm.trans h
      refine r_bipush (pc := 49) (v := (-2)) dX12_did_49 (by decide +kernel) ?_
      cases h
      exact r_iret (pc := 51) rfl rfl (Nat.le_refl 0) (Nat.le_refl 0) dX12_did_51
    · replace h := (if_neg c_5).symm.trans h
      refine r_iload (pc := 24) dX12_did_24 5 rfl ?_
      refine r_iconst (pc := 26) (v := 0) dX12_did_26 (by decide +kernel) ?_
      refine r_iconst (pc := 27) (v := 3) dX12_did_27 (by decide +kernel) ?_
      refine r_cS (pc := 28) (Y := xX12_in) (As := [.int (eI x5), .int (eI 0), .int (eI 3)]) (rest := []) (v := (some (.int (eI (sX12_in x5 0 3))))) (st1 := [.int (eI (sX12_in x5 0 3))]) ck_X12_did_105 (kX12_in x5 0 3 q_2.2 ) rfl rfl (Nat.le_of_ble_eq_true rfl) ⟨rfl, rfl⟩ rfl dX12_did_28 ?_
      refine r_if_eq (pc := 31) (tgt := 49) dX12_did_31 (by decide) rfl (fun c_6 => ?_) (fun c_6 => ?_)
      · replace h := (if_pos c_6).symm.trans h
        refine r_bipush (pc := 49) (v := (-2)) dX12_did_49 (by decide +kernel) ?_
        cases h
        exact r_iret (pc := 51) rfl rfl (Nat.le_refl 0) (Nat.le_refl 0) dX12_did_51
      · replace h := (if_neg c_6).symm.trans h
        refine r_aload_n (pc := 34) (i := 0) dX12_did_34 rfl 0 rfl ?_
        have o_7 := (wt_12_41 oa0).2
        refine r_getR (pc := 35) fg_12_50 rfl oa0 (wt_12_41 oa0).1 dX12_did_35 ?_
        refine r_iconst (pc := 38) (v := 4) dX12_did_38 (by decide +kernel) ?_
        refine r_iload (pc := 39) dX12_did_39 4 rfl ?_
        refine r_imul (pc := 41) dX12_did_41 ?_
        refine r_iload (pc := 42) dX12_did_42 5 rfl ?_
        refine r_iadd (pc := 44) dX12_did_44 ?_
        obtain ⟨c_8, h⟩ := og h
        refine r_iald (pc := 45) o_7 rfl c_8 rfl dX12_did_45 ?_
        refine r_goto (pc := 46) (tgt := 51) dX12_did_46 (by decide) ?_
        cases h
        exact r_iret (pc := 51) rfl rfl (Nat.le_refl 0) (Nat.le_refl 0) dX12_did_51
theorem kX12_did {G : GG} (a0 : Nat) (x1 : Int) (x2 : Int) (x3 : Int) (x4 : Int) (x5 : Int) (M : MM) {res : (Int × MM)} (oa0 : OB L0 a0 12) (h : sX12_did a0 x1 x2 x3 x4 x5 M = some res) : CO G xX12_did [.ref (gA G a0), .int (eI x1), .int (eI x2), .int (eI x3), .int (eI x4), .int (eI x5)] L0 M (some (.int (eI res.1))) L0 res.2 := CO_of (by decide +kernel) (Nat.le_of_ble_eq_true rfl) (bX12_did_b0 a0 x1 x2 x3 x4 x5 oa0 M h)
abbrev xX12_goesSo : XX := (yX12_goesSo, cX12_goesSo, 5, (some .boolean), 6, 138, 0, 0)
theorem ck_X12_goesSo_346 : CKV xX12_goesSo 346 xX12_deedOf 2 := ⟨⟨tb_i 1812 (by decide +kernel) (by decide +kernel), tb_i 152 (by decide +kernel) (by decide +kernel), tb_i 1815 (by decide +kernel) (by decide +kernel), ⟨by decide +kernel, by decide +kernel, by decide +kernel⟩, by decide, by decide⟩, tb_i 1814 (by decide +kernel) (by decide +kernel), tb_i 78 (by decide +kernel) (by decide +kernel)⟩
theorem ck_X12_goesSo_412 : CKV xX12_goesSo 412 xX12_play 2 := ⟨⟨tb_i 1824 (by decide +kernel) (by decide +kernel), tb_i 152 (by decide +kernel) (by decide +kernel), tb_i 1827 (by decide +kernel) (by decide +kernel), ⟨by decide +kernel, by decide +kernel, by decide +kernel⟩, by decide, by decide⟩, tb_i 1826 (by decide +kernel) (by decide +kernel), tb_i 80 (by decide +kernel) (by decide +kernel)⟩
def sX12_goesSo_b76 (a0 : Nat) (x1 : Int) (x2 : Int) (x3 : Int) (K23 : Int → MM → Option (Int × MM)) (x4 : Int) (M : MM) : Option (Int × MM) := ((some (x4 + 1)).bind fun v_1 => (K23 v_1 M))
def sX12_goesSo_b23 (a0 : Nat) (x1 : Int) (x2 : Int) (x3 : Int)  : Nat → Int → MM → Option (Int × MM)
  | 0, _, _ => none
  | n + 1, x4, M => (if wI x2 ≤ wI x4 then (some ((1, M))) else ((sX12_deedOf a0 x4 0 M).bind fun q_2 => (if wI q_2 = 2 then (if 0 ≤ wI x4 ∧ wI x4 < 40 then (if 0 ≤ wI x4 ∧ wI x4 < 40 then (if wI (M (gR a0 42) (wI x4).toNat) = wI (M (gR a0 44) (wI x4).toNat) then (if 0 ≤ wI x4 ∧ wI x4 < 40 then (if 0 ≤ wI x4 ∧ wI x4 < 40 then (if wI (M (gR a0 43) (wI x4).toNat) = wI (M (gR a0 45) (wI x4).toNat) then (sX12_goesSo_b76 a0 x1 x2 x3 (fun x4 M => sX12_goesSo_b23 a0 x1 x2 x3 n x4 M) x4 M) else (some ((0, M)))) else none) else none) else (some ((0, M)))) else none) else none) else (sX12_goesSo_b76 a0 x1 x2 x3 (fun x4 M => sX12_goesSo_b23 a0 x1 x2 x3 n x4 M) x4 M))))
def sX12_goesSo_b0 (a0 : Nat) (x1 : Int) (x2 : Int) (x3 : Int)   (M : MM) : Option (Int × MM) := ((sX12_play a0 x2 x1 M).bind fun q_1 => (if wI (q_1.1) < wI x2 then (some ((0, q_1.2))) else (if wI (q_1.2 a0 35) = wI x3 then (sX12_goesSo_b23 a0 x1 x2 x3 FU 0 q_1.2) else (some ((0, q_1.2))))))
def sX12_goesSo (a0 : Nat) (x1 : Int) (x2 : Int) (x3 : Int) (M : MM) : Option (Int × MM) := sX12_goesSo_b0 a0 x1 x2 x3 M
set_option maxHeartbeats 4000000 in
set_option maxRecDepth 100000 in
theorem bX12_goesSo_b76 {G : GG} (a0 : Nat) (x1 : Int) (x2 : Int) (x3 : Int) (oa0 : OB L0 a0 12) {K23 : Int → MM → Option (Int × MM)} (x4 : Int) (M : MM) {res : (Int × MM)} (hK23 : ∀ (x4 : Int) (M : MM), K23 x4 M = some res → VV G xX12_goesSo (ZM G xX12_goesSo (some (.int (eI res.1))) L0 res.2) L0 M 0 0 23 [(0, .ref (gA G a0)), (2, .int (eI x2)), (4, .int (eI x4))] [])  (h : sX12_goesSo_b76 a0 x1 x2 x3 K23 x4 M = some res) : VV G xX12_goesSo (ZM G xX12_goesSo (some (.int (eI res.1))) L0 res.2) L0 M 0 0 76 [(0, .ref (gA G a0)), (2, .int (eI x2)), (4, .int (eI x4))] [] := by
  unfold sX12_goesSo_b76 at h
  obtain ⟨v_1, hv_1, h⟩ := ob h
  refine r_iinc (pc := 76) (y := v_1) (lv' := [(4, .int (eI v_1)), (0, .ref (gA G a0)), (2, .int (eI x2))]) dX12_goesSo_76 2 rfl (Option.some.inj hv_1) (Nat.le_of_ble_eq_true rfl) rfl ?_
  refine r_goto (pc := 79) (tgt := 23) dX12_goesSo_79 (by decide) ?_
  refine r_sub (lv' := [(0, .ref (gA G a0)), (2, .int (eI x2)), (4, .int (eI v_1))]) [1, 2, 0] rfl ?_
  exact hK23 _ _ h
set_option maxHeartbeats 4000000 in
set_option maxRecDepth 100000 in
theorem bX12_goesSo_b23 {G : GG} (a0 : Nat) (x1 : Int) (x2 : Int) (x3 : Int) (oa0 : OB L0 a0 12) {res : (Int × MM)} : ∀ (n : Nat) (x4 : Int) (M : MM)  (h : sX12_goesSo_b23 a0 x1 x2 x3 n x4 M = some res), VV G xX12_goesSo (ZM G xX12_goesSo (some (.int (eI res.1))) L0 res.2) L0 M 0 0 23 [(0, .ref (gA G a0)), (2, .int (eI x2)), (4, .int (eI x4))] [] := by
  intro n
  induction n with
  | zero =>
    intro x4 M h
    rw [sX12_goesSo_b23] at h
    cases h
  | succ n ih =>
    intro x4 M h
    rw [sX12_goesSo_b23] at h
    refine r_iload (pc := 23) dX12_goesSo_23 2 rfl ?_
    refine r_iload_n (pc := 25) (i := 2) dX12_goesSo_25 rfl 1 rfl ?_
    refine r_icmp_ge (pc := 26) (tgt := 82) dX12_goesSo_26 (by decide) rfl rfl (fun c_1 => ?_) (fun c_1 => ?_)
    · replace h := (if_pos c_1).symm.trans h
      refine r_iconst (pc := 82) (v := 1) dX12_goesSo_82 (by decide +kernel) ?_
      cases h
      exact r_iret (pc := 83) rfl (zn_ok (Or.inr rfl)).1 (Nat.le_refl 0) (Nat.le_refl 0) dX12_goesSo_83
    · replace h := (if_neg c_1).symm.trans h
      refine r_aload_n (pc := 29) (i := 0) dX12_goesSo_29 rfl 0 rfl ?_
      refine r_iload (pc := 30) dX12_goesSo_30 2 rfl ?_
      refine r_iconst (pc := 32) (v := 0) dX12_goesSo_32 (by decide +kernel) ?_
      obtain ⟨q_2, hq_2, h⟩ := ob h
      refine r_cV (pc := 33) (Y := xX12_deedOf) (As := [.int (eI x4), .int (eI 0)]) (rest := []) (v := (some (.int (eI q_2)))) (st1 := [.int (eI q_2)]) ck_X12_goesSo_346 (kX12_deedOf a0 x4 0 M oa0 hq_2) oa0 rfl rfl rfl rfl (Nat.le_of_ble_eq_true rfl) ⟨rfl, rfl⟩ rfl dX12_goesSo_33 ?_
      refine r_iconst (pc := 36) (v := 2) dX12_goesSo_36 (by decide +kernel) ?_
      refine r_icmp_ne (pc := 37) (tgt := 76) dX12_goesSo_37 (by decide) rfl wl_2 (fun c_3 => ?_) (fun c_3 => ?_)
      · replace h := (if_neg c_3).symm.trans h
        refine r_sub (lv' := [(0, .ref (gA G a0)), (2, .int (eI x2)), (4, .int (eI x4))]) [0, 1, 2] rfl ?_
        exact bX12_goesSo_b76 a0 x1 x2 x3 oa0 _ _ (fun v0 v1 v2 => ih v0 v1 v2) h
      · replace h := (if_pos c_3).symm.trans h
        refine r_aload_n (pc := 40) (i := 0) dX12_goesSo_40 rfl 0 rfl ?_
        have o_4 := (wt_12_42 oa0).2
        refine r_getR (pc := 41) fg_12_53 rfl oa0 (wt_12_42 oa0).1 dX12_goesSo_41 ?_
        refine r_iload (pc := 44) dX12_goesSo_44 2 rfl ?_
        obtain ⟨c_5, h⟩ := og h
        refine r_iald (pc := 46) o_4 rfl c_5 rfl dX12_goesSo_46 ?_
        refine r_aload_n (pc := 47) (i := 0) dX12_goesSo_47 rfl 0 rfl ?_
        have o_6 := (wt_12_44 oa0).2
        refine r_getR (pc := 48) fg_12_59 rfl oa0 (wt_12_44 oa0).1 dX12_goesSo_48 ?_
        refine r_iload (pc := 51) dX12_goesSo_51 2 rfl ?_
        obtain ⟨c_7, h⟩ := og h
        refine r_iald (pc := 53) o_6 rfl c_7 rfl dX12_goesSo_53 ?_
        refine r_icmp_ne (pc := 54) (tgt := 74) dX12_goesSo_54 (by decide) rfl rfl (fun c_8 => ?_) (fun c_8 => ?_)
        · replace h := (if_neg c_8).symm.trans h
          refine r_iconst (pc := 74) (v := 0) dX12_goesSo_74 (by decide +kernel) ?_
          cases h
          exact r_iret (pc := 75) rfl (zn_ok (Or.inl rfl)).1 (Nat.le_refl 0) (Nat.le_refl 0) dX12_goesSo_75
        · replace h := (if_pos c_8).symm.trans h
          refine r_aload_n (pc := 57) (i := 0) dX12_goesSo_57 rfl 0 rfl ?_
          have o_9 := (wt_12_43 oa0).2
          refine r_getR (pc := 58) fg_12_56 rfl oa0 (wt_12_43 oa0).1 dX12_goesSo_58 ?_
          refine r_iload (pc := 61) dX12_goesSo_61 2 rfl ?_
          obtain ⟨c_10, h⟩ := og h
          refine r_iald (pc := 63) o_9 rfl c_10 rfl dX12_goesSo_63 ?_
          refine r_aload_n (pc := 64) (i := 0) dX12_goesSo_64 rfl 0 rfl ?_
          have o_11 := (wt_12_45 oa0).2
          refine r_getR (pc := 65) fg_12_62 rfl oa0 (wt_12_45 oa0).1 dX12_goesSo_65 ?_
          refine r_iload (pc := 68) dX12_goesSo_68 2 rfl ?_
          obtain ⟨c_12, h⟩ := og h
          refine r_iald (pc := 70) o_11 rfl c_12 rfl dX12_goesSo_70 ?_
          refine r_icmp_eq (pc := 71) (tgt := 76) dX12_goesSo_71 (by decide) rfl rfl (fun c_13 => ?_) (fun c_13 => ?_)
          · replace h := (if_pos c_13).symm.trans h
            refine r_sub (lv' := [(0, .ref (gA G a0)), (2, .int (eI x2)), (4, .int (eI x4))]) [0, 1, 2] rfl ?_
            exact bX12_goesSo_b76 a0 x1 x2 x3 oa0 _ _ (fun v0 v1 v2 => ih v0 v1 v2) h
          · replace h := (if_neg c_13).symm.trans h
            refine r_iconst (pc := 74) (v := 0) dX12_goesSo_74 (by decide +kernel) ?_
            cases h
            exact r_iret (pc := 75) rfl (zn_ok (Or.inl rfl)).1 (Nat.le_refl 0) (Nat.le_refl 0) dX12_goesSo_75
set_option maxHeartbeats 4000000 in
set_option maxRecDepth 100000 in
theorem bX12_goesSo_b0 {G : GG} (a0 : Nat) (x1 : Int) (x2 : Int) (x3 : Int) (oa0 : OB L0 a0 12)  (M : MM) {res : (Int × MM)}  (h : sX12_goesSo_b0 a0 x1 x2 x3 M = some res) : VV G xX12_goesSo (ZM G xX12_goesSo (some (.int (eI res.1))) L0 res.2) L0 M 0 0 0 [(0, .ref (gA G a0)), (1, .int (eI x1)), (2, .int (eI x2)), (3, .int (eI x3))] [] := by
  unfold sX12_goesSo_b0 at h
  refine r_aload_n (pc := 0) (i := 0) dX12_goesSo_0 rfl 0 rfl ?_
  refine r_iload_n (pc := 1) (i := 2) dX12_goesSo_1 rfl 2 rfl ?_
  refine r_iload_n (pc := 2) (i := 1) dX12_goesSo_2 rfl 1 rfl ?_
  obtain ⟨q_1, hq_1, h⟩ := ob h
  refine r_cV (pc := 3) (Y := xX12_play) (As := [.int (eI x2), .int (eI x1)]) (rest := []) (v := (some (.int (eI (q_1.1))))) (st1 := [.int (eI (q_1.1))]) ck_X12_goesSo_412 (kX12_play a0 x2 x1 M oa0 hq_1) oa0 rfl rfl rfl rfl (Nat.le_of_ble_eq_true rfl) ⟨rfl, rfl⟩ rfl dX12_goesSo_3 ?_
  refine r_iload_n (pc := 6) (i := 2) dX12_goesSo_6 rfl 2 rfl ?_
  refine r_icmp_lt (pc := 7) (tgt := 18) dX12_goesSo_7 (by decide) rfl rfl (fun c_2 => ?_) (fun c_2 => ?_)
  · replace h := (if_pos c_2).symm.trans h
    refine r_iconst (pc := 18) (v := 0) dX12_goesSo_18 (by decide +kernel) ?_
    cases h
    exact r_iret (pc := 19) rfl (zn_ok (Or.inl rfl)).1 (Nat.le_refl 0) (Nat.le_refl 0) dX12_goesSo_19
  · replace h := (if_neg c_2).symm.trans h
    refine r_aload_n (pc := 10) (i := 0) dX12_goesSo_10 rfl 0 rfl ?_
    refine r_getI (pc := 11) fg_12_364 rfl oa0 dX12_goesSo_11 ?_
    refine r_iload_n (pc := 14) (i := 3) dX12_goesSo_14 rfl 3 rfl ?_
    refine r_icmp_eq (pc := 15) (tgt := 20) dX12_goesSo_15 (by decide) rfl rfl (fun c_3 => ?_) (fun c_3 => ?_)
    · replace h := (if_pos c_3).symm.trans h
      refine r_iconst (pc := 20) (v := 0) dX12_goesSo_20 (by decide +kernel) ?_
      refine r_istore (pc := 21) (lv' := [(4, .int (eI 0)), (0, .ref (gA G a0)), (1, .int (eI x1)), (2, .int (eI x2)), (3, .int (eI x3))]) dX12_goesSo_21 (Nat.le_of_ble_eq_true rfl) rfl ?_
      refine r_sub (lv' := [(0, .ref (gA G a0)), (2, .int (eI x2)), (4, .int (eI 0))]) [1, 3, 0] rfl ?_
      exact bX12_goesSo_b23 a0 x1 x2 x3 oa0 _ _ _ h
    · replace h := (if_neg c_3).symm.trans h
      refine r_iconst (pc := 18) (v := 0) dX12_goesSo_18 (by decide +kernel) ?_
      cases h
      exact r_iret (pc := 19) rfl (zn_ok (Or.inl rfl)).1 (Nat.le_refl 0) (Nat.le_refl 0) dX12_goesSo_19
theorem kX12_goesSo {G : GG} (a0 : Nat) (x1 : Int) (x2 : Int) (x3 : Int) (M : MM) {res : (Int × MM)} (oa0 : OB L0 a0 12) (h : sX12_goesSo a0 x1 x2 x3 M = some res) : CO G xX12_goesSo [.ref (gA G a0), .int (eI x1), .int (eI x2), .int (eI x3)] L0 M (some (.int (eI res.1))) L0 res.2 := CO_of (by decide +kernel) (Nat.le_of_ble_eq_true rfl) (bX12_goesSo_b0 a0 x1 x2 x3 oa0 M h)
abbrev xX12_span : XX := (yX12_span, cX12_span, 8, (some .int), 7, 162, 0, 0)
theorem ck_X12_span_328 : CKV xX12_span 328 xX12_hand 1 := ⟨⟨tb_i 1780 (by decide +kernel) (by decide +kernel), tb_i 152 (by decide +kernel) (by decide +kernel), tb_i 1783 (by decide +kernel) (by decide +kernel), ⟨by decide +kernel, by decide +kernel, by decide +kernel⟩, by decide, by decide⟩, tb_i 1782 (by decide +kernel) (by decide +kernel), tb_i 72 (by decide +kernel) (by decide +kernel)⟩
theorem ck_X12_span_340 : CKV xX12_span 340 xX12_hasBook 1 := ⟨⟨tb_i 1804 (by decide +kernel) (by decide +kernel), tb_i 152 (by decide +kernel) (by decide +kernel), tb_i 1807 (by decide +kernel) (by decide +kernel), ⟨by decide +kernel, by decide +kernel, by decide +kernel⟩, by decide, by decide⟩, tb_i 1806 (by decide +kernel) (by decide +kernel), tb_i 76 (by decide +kernel) (by decide +kernel)⟩
theorem ck_X12_span_343 : CKV xX12_span 343 xX12_deeds 0 := ⟨⟨tb_i 1808 (by decide +kernel) (by decide +kernel), tb_i 152 (by decide +kernel) (by decide +kernel), tb_i 1811 (by decide +kernel) (by decide +kernel), ⟨by decide +kernel, by decide +kernel, by decide +kernel⟩, by decide, by decide⟩, tb_i 1810 (by decide +kernel) (by decide +kernel), tb_i 77 (by decide +kernel) (by decide +kernel)⟩
theorem ck_X12_span_409 : CKV xX12_span 409 xX12_belly 0 := ⟨⟨tb_i 1820 (by decide +kernel) (by decide +kernel), tb_i 152 (by decide +kernel) (by decide +kernel), tb_i 1823 (by decide +kernel) (by decide +kernel), ⟨by decide +kernel, by decide +kernel, by decide +kernel⟩, by decide, by decide⟩, tb_i 1822 (by decide +kernel) (by decide +kernel), tb_i 79 (by decide +kernel) (by decide +kernel)⟩
theorem ck_X12_span_412 : CKV xX12_span 412 xX12_play 2 := ⟨⟨tb_i 1824 (by decide +kernel) (by decide +kernel), tb_i 152 (by decide +kernel) (by decide +kernel), tb_i 1827 (by decide +kernel) (by decide +kernel), ⟨by decide +kernel, by decide +kernel, by decide +kernel⟩, by decide, by decide⟩, tb_i 1826 (by decide +kernel) (by decide +kernel), tb_i 80 (by decide +kernel) (by decide +kernel)⟩
theorem ck_X12_span_418 : CKV xX12_span 418 xX12_goesSo 3 := ⟨⟨tb_i 1880 (by decide +kernel) (by decide +kernel), tb_i 152 (by decide +kernel) (by decide +kernel), tb_i 1883 (by decide +kernel) (by decide +kernel), ⟨by decide +kernel, by decide +kernel, by decide +kernel⟩, by decide, by decide⟩, tb_i 1882 (by decide +kernel) (by decide +kernel), tb_i 88 (by decide +kernel) (by decide +kernel)⟩
def sX12_span_b132 (a0 : Nat) (x1 : Int) (x2 : Int) (x3 : Int) (K93 : Int → Int → Int → Int → MM → Option (Int × MM)) (x4 : Int) (x5 : Int) (x6 : Int) (x7 : Int) (M : MM) : Option (Int × MM) := ((some (x7 + 1)).bind fun v_1 => (K93 x4 x5 x6 v_1 M))
def sX12_span_b130 (a0 : Nat) (x1 : Int) (x2 : Int) (x3 : Int) (K93 : Int → Int → Int → Int → MM → Option (Int × MM)) (x4 : Int) (x5 : Int) (x7 : Int) (x90 : Int) (M : MM) : Option (Int × MM) := (sX12_span_b132 a0 x1 x2 x3 K93 x4 x5 x90 x7 M)
def sX12_span_b123 (a0 : Nat) (x1 : Int) (x2 : Int) (x3 : Int) (K93 : Int → Int → Int → Int → MM → Option (Int × MM)) (x4 : Int) (x5 : Int) (x7 : Int) (M : MM) : Option (Int × MM) := (sX12_span_b130 a0 x1 x2 x3 K93 x4 x5 x7 x7 M)
def sX12_span_b93 (a0 : Nat) (x1 : Int) (x2 : Int) (x3 : Int)  : Nat → Int → Int → Int → Int → MM → Option (Int × MM)
  | 0, _, _, _, _, _ => none
  | n + 1, x4, x5, x6, x7, M => (if 30 < wI x7 then (some ((x6, M))) else ((sX12_goesSo a0 x7 x4 x5 M).bind fun q_2 => (if wI (q_2.1) = 0 then (sX12_span_b132 a0 x1 x2 x3 (fun x4 x5 x6 x7 M => sX12_span_b93 a0 x1 x2 x3 n x4 x5 x6 x7 M) x4 x5 x6 x7 q_2.2) else (if wI x3 = 0 then (if wI x6 = (-1) then (sX12_span_b123 a0 x1 x2 x3 (fun x4 x5 x6 x7 M => sX12_span_b93 a0 x1 x2 x3 n x4 x5 x6 x7 M) x4 x5 x7 q_2.2) else (sX12_span_b130 a0 x1 x2 x3 (fun x4 x5 x6 x7 M => sX12_span_b93 a0 x1 x2 x3 n x4 x5 x6 x7 M) x4 x5 x7 x6 q_2.2)) else (sX12_span_b123 a0 x1 x2 x3 (fun x4 x5 x6 x7 M => sX12_span_b93 a0 x1 x2 x3 n x4 x5 x6 x7 M) x4 x5 x7 q_2.2)))))
def sX12_span_b46 (a0 : Nat) (x1 : Int) (x2 : Int) (x3 : Int)  : Nat → Int → Int → Int → MM → Option (Int × MM)
  | 0, _, _, _, _ => none
  | n + 1, x4, x5, x6, M => (if 40 ≤ wI x6 then (sX12_span_b93 a0 x1 x2 x3 FU x4 x5 (-1) 1 M) else (if 0 ≤ wI x6 ∧ wI x6 < 40 then (if 0 ≤ wI x6 ∧ wI x6 < 40 then ((some (mU M (gR a0 44) (wI x6).toNat (M (gR a0 42) (wI x6).toNat))).bind fun M_6 => (if 0 ≤ wI x6 ∧ wI x6 < 40 then (if 0 ≤ wI x6 ∧ wI x6 < 40 then ((some (mU M_6 (gR a0 45) (wI x6).toNat (M_6 (gR a0 43) (wI x6).toNat))).bind fun M_11 => ((some (x6 + 1)).bind fun v_12 => (sX12_span_b46 a0 x1 x2 x3 n x4 x5 v_12 M_11))) else none) else none)) else none) else none))
def sX12_span_b0 (a0 : Nat) (x1 : Int) (x2 : Int) (x3 : Int)   (M : MM) : Option (Int × MM) := ((some (mU M a0 0 0)).bind fun M_1 => ((sX12_hasBook a0 x2 M_1).bind fun q_2 => (if wI (q_2.1) = 0 then (some (((-1), q_2.2))) else ((sX12_hand a0 x1 q_2.2).bind fun q_4 => (if wI (q_4.1) = 0 then (some (((-1), q_4.2))) else ((sX12_deeds a0 q_4.2).bind fun q_6 => ((sX12_belly a0 q_4.2).bind fun q_7 => ((sX12_play a0 q_6 q_7 q_4.2).bind fun q_8 => (sX12_span_b46 a0 x1 x2 x3 FU (q_8.1) (q_8.2 a0 35) 0 q_8.2)))))))))
def sX12_span (a0 : Nat) (x1 : Int) (x2 : Int) (x3 : Int) (M : MM) : Option (Int × MM) := sX12_span_b0 a0 x1 x2 x3 M
set_option maxHeartbeats 4000000 in
set_option maxRecDepth 100000 in
theorem bX12_span_b132 {G : GG} (a0 : Nat) (x1 : Int) (x2 : Int) (x3 : Int) (oa0 : OB L0 a0 12) {K93 : Int → Int → Int → Int → MM → Option (Int × MM)} (x4 : Int) (x5 : Int) (x6 : Int) (x7 : Int) (M : MM) {res : (Int × MM)} (hK93 : ∀ (x4 : Int) (x5 : Int) (x6 : Int) (x7 : Int) (M : MM), K93 x4 x5 x6 x7 M = some res → VV G xX12_span (ZM G xX12_span (some (.int (eI res.1))) L0 res.2) L0 M 0 0 93 [(0, .ref (gA G a0)), (3, .int (eI x3)), (4, .int (eI x4)), (5, .int (eI x5)), (6, .int (eI x6)), (7, .int (eI x7))] [])  (h : sX12_span_b132 a0 x1 x2 x3 K93 x4 x5 x6 x7 M = some res) : VV G xX12_span (ZM G xX12_span (some (.int (eI res.1))) L0 res.2) L0 M 0 0 132 [(0, .ref (gA G a0)), (3, .int (eI x3)), (4, .int (eI x4)), (5, .int (eI x5)), (6, .int (eI x6)), (7, .int (eI x7))] [] := by
  unfold sX12_span_b132 at h
  obtain ⟨v_1, hv_1, h⟩ := ob h
  refine r_iinc (pc := 132) (y := v_1) (lv' := [(7, .int (eI v_1)), (0, .ref (gA G a0)), (3, .int (eI x3)), (4, .int (eI x4)), (5, .int (eI x5)), (6, .int (eI x6))]) dX12_span_132 5 rfl (Option.some.inj hv_1) (Nat.le_of_ble_eq_true rfl) rfl ?_
  refine r_goto (pc := 135) (tgt := 93) dX12_span_135 (by decide) ?_
  refine r_sub (lv' := [(0, .ref (gA G a0)), (3, .int (eI x3)), (4, .int (eI x4)), (5, .int (eI x5)), (6, .int (eI x6)), (7, .int (eI v_1))]) [1, 2, 3, 4, 5, 0] rfl ?_
  exact hK93 _ _ _ _ _ h
set_option maxHeartbeats 4000000 in
set_option maxRecDepth 100000 in
theorem bX12_span_b130 {G : GG} (a0 : Nat) (x1 : Int) (x2 : Int) (x3 : Int) (oa0 : OB L0 a0 12) {K93 : Int → Int → Int → Int → MM → Option (Int × MM)} (x4 : Int) (x5 : Int) (x7 : Int) (x90 : Int) (M : MM) {res : (Int × MM)} (hK93 : ∀ (x4 : Int) (x5 : Int) (x6 : Int) (x7 : Int) (M : MM), K93 x4 x5 x6 x7 M = some res → VV G xX12_span (ZM G xX12_span (some (.int (eI res.1))) L0 res.2) L0 M 0 0 93 [(0, .ref (gA G a0)), (3, .int (eI x3)), (4, .int (eI x4)), (5, .int (eI x5)), (6, .int (eI x6)), (7, .int (eI x7))] [])  (h : sX12_span_b130 a0 x1 x2 x3 K93 x4 x5 x7 x90 M = some res) : VV G xX12_span (ZM G xX12_span (some (.int (eI res.1))) L0 res.2) L0 M 0 0 130 [(0, .ref (gA G a0)), (3, .int (eI x3)), (4, .int (eI x4)), (5, .int (eI x5)), (7, .int (eI x7))] [.int (eI x90)] := by
  unfold sX12_span_b130 at h
  refine r_istore (pc := 130) (lv' := [(6, .int (eI x90)), (0, .ref (gA G a0)), (3, .int (eI x3)), (4, .int (eI x4)), (5, .int (eI x5)), (7, .int (eI x7))]) dX12_span_130 (Nat.le_of_ble_eq_true rfl) rfl ?_
  refine r_sub (lv' := [(0, .ref (gA G a0)), (3, .int (eI x3)), (4, .int (eI x4)), (5, .int (eI x5)), (6, .int (eI x90)), (7, .int (eI x7))]) [1, 2, 3, 4, 0, 5] rfl ?_
  exact bX12_span_b132 a0 x1 x2 x3 oa0 _ _ _ _ _ hK93 h
set_option maxHeartbeats 4000000 in
set_option maxRecDepth 100000 in
theorem bX12_span_b123 {G : GG} (a0 : Nat) (x1 : Int) (x2 : Int) (x3 : Int) (oa0 : OB L0 a0 12) {K93 : Int → Int → Int → Int → MM → Option (Int × MM)} (x4 : Int) (x5 : Int) (x7 : Int) (M : MM) {res : (Int × MM)} (hK93 : ∀ (x4 : Int) (x5 : Int) (x6 : Int) (x7 : Int) (M : MM), K93 x4 x5 x6 x7 M = some res → VV G xX12_span (ZM G xX12_span (some (.int (eI res.1))) L0 res.2) L0 M 0 0 93 [(0, .ref (gA G a0)), (3, .int (eI x3)), (4, .int (eI x4)), (5, .int (eI x5)), (6, .int (eI x6)), (7, .int (eI x7))] [])  (h : sX12_span_b123 a0 x1 x2 x3 K93 x4 x5 x7 M = some res) : VV G xX12_span (ZM G xX12_span (some (.int (eI res.1))) L0 res.2) L0 M 0 0 123 [(0, .ref (gA G a0)), (3, .int (eI x3)), (4, .int (eI x4)), (5, .int (eI x5)), (7, .int (eI x7))] [] := by
  unfold sX12_span_b123 at h
  refine r_iload (pc := 123) dX12_span_123 4 rfl ?_
  refine r_goto (pc := 125) (tgt := 130) dX12_span_125 (by decide) ?_
  refine r_sub (lv' := [(0, .ref (gA G a0)), (3, .int (eI x3)), (4, .int (eI x4)), (5, .int (eI x5)), (7, .int (eI x7))]) [0, 1, 2, 3, 4] rfl ?_
  exact bX12_span_b130 a0 x1 x2 x3 oa0 _ _ _ _ _ hK93 h
set_option maxHeartbeats 4000000 in
set_option maxRecDepth 100000 in
theorem bX12_span_b93 {G : GG} (a0 : Nat) (x1 : Int) (x2 : Int) (x3 : Int) (oa0 : OB L0 a0 12) {res : (Int × MM)} : ∀ (n : Nat) (x4 : Int) (x5 : Int) (x6 : Int) (x7 : Int) (M : MM)  (h : sX12_span_b93 a0 x1 x2 x3 n x4 x5 x6 x7 M = some res), VV G xX12_span (ZM G xX12_span (some (.int (eI res.1))) L0 res.2) L0 M 0 0 93 [(0, .ref (gA G a0)), (3, .int (eI x3)), (4, .int (eI x4)), (5, .int (eI x5)), (6, .int (eI x6)), (7, .int (eI x7))] [] := by
  intro n
  induction n with
  | zero =>
    intro x4 x5 x6 x7 M h
    rw [sX12_span_b93] at h
    cases h
  | succ n ih =>
    intro x4 x5 x6 x7 M h
    rw [sX12_span_b93] at h
    refine r_iload (pc := 93) dX12_span_93 5 rfl ?_
    refine r_bipush (pc := 95) (v := 30) dX12_span_95 (by decide +kernel) ?_
    refine r_icmp_gt (pc := 97) (tgt := 138) dX12_span_97 (by decide) rfl wl_30 (fun c_1 => ?_) (fun c_1 => ?_)
    · replace h := (if_pos c_1).symm.trans h
      refine r_iload (pc := 138) dX12_span_138 4 rfl ?_
      cases h
      exact r_iret (pc := 140) rfl rfl (Nat.le_refl 0) (Nat.le_refl 0) dX12_span_140
    · replace h := (if_neg c_1).symm.trans h
      refine r_aload_n (pc := 100) (i := 0) dX12_span_100 rfl 0 rfl ?_
      refine r_iload (pc := 101) dX12_span_101 5 rfl ?_
      refine r_iload (pc := 103) dX12_span_103 2 rfl ?_
      refine r_iload (pc := 105) dX12_span_105 3 rfl ?_
      obtain ⟨q_2, hq_2, h⟩ := ob h
      refine r_cV (pc := 107) (Y := xX12_goesSo) (As := [.int (eI x7), .int (eI x4), .int (eI x5)]) (rest := []) (v := (some (.int (eI (q_2.1))))) (st1 := [.int (eI (q_2.1))]) ck_X12_span_418 (kX12_goesSo a0 x7 x4 x5 M oa0 hq_2) oa0 rfl rfl rfl rfl (Nat.le_of_ble_eq_true rfl) ⟨rfl, rfl⟩ rfl dX12_span_107 ?_
      refine r_if_eq (pc := 110) (tgt := 132) dX12_span_110 (by decide) rfl (fun c_3 => ?_) (fun c_3 => ?_)
      · replace h := (if_pos c_3).symm.trans h
        refine r_sub (lv' := [(0, .ref (gA G a0)), (3, .int (eI x3)), (4, .int (eI x4)), (5, .int (eI x5)), (6, .int (eI x6)), (7, .int (eI x7))]) [0, 1, 2, 3, 4, 5] rfl ?_
        exact bX12_span_b132 a0 x1 x2 x3 oa0 _ _ _ _ _ (fun v0 v1 v2 v3 v4 v5 => ih v0 v1 v2 v3 v4 v5) h
      · replace h := (if_neg c_3).symm.trans h
        refine r_iload_n (pc := 113) (i := 3) dX12_span_113 rfl 1 rfl ?_
        refine r_if_ne (pc := 114) (tgt := 123) dX12_span_114 (by decide) rfl (fun c_4 => ?_) (fun c_4 => ?_)
        · replace h := (if_neg c_4).symm.trans h
          refine r_sub (lv' := [(0, .ref (gA G a0)), (3, .int (eI x3)), (4, .int (eI x4)), (5, .int (eI x5)), (7, .int (eI x7))]) [0, 1, 2, 3, 5] rfl ?_
          exact bX12_span_b123 a0 x1 x2 x3 oa0 _ _ _ _ (fun v0 v1 v2 v3 v4 v5 => ih v0 v1 v2 v3 v4 v5) h
        · replace h := (if_pos c_4).symm.trans h
          refine r_iload (pc := 117) dX12_span_117 4 rfl ?_
          refine r_iconst (pc := 119) (v := (-1)) dX12_span_119 (by decide +kernel) ?_
          refine r_icmp_ne (pc := 120) (tgt := 128) dX12_span_120 (by decide) rfl wl_m1 (fun c_5 => ?_) (fun c_5 => ?_)
          · replace h := (if_neg c_5).symm.trans h
            refine r_iload (pc := 128) dX12_span_128 4 rfl ?_
            refine r_sub (lv' := [(0, .ref (gA G a0)), (3, .int (eI x3)), (4, .int (eI x4)), (5, .int (eI x5)), (7, .int (eI x7))]) [0, 1, 2, 3, 5] rfl ?_
            exact bX12_span_b130 a0 x1 x2 x3 oa0 _ _ _ _ _ (fun v0 v1 v2 v3 v4 v5 => ih v0 v1 v2 v3 v4 v5) h
          · replace h := (if_pos c_5).symm.trans h
            refine r_sub (lv' := [(0, .ref (gA G a0)), (3, .int (eI x3)), (4, .int (eI x4)), (5, .int (eI x5)), (7, .int (eI x7))]) [0, 1, 2, 3, 5] rfl ?_
            exact bX12_span_b123 a0 x1 x2 x3 oa0 _ _ _ _ (fun v0 v1 v2 v3 v4 v5 => ih v0 v1 v2 v3 v4 v5) h
set_option maxHeartbeats 4000000 in
set_option maxRecDepth 100000 in
theorem bX12_span_b46 {G : GG} (a0 : Nat) (x1 : Int) (x2 : Int) (x3 : Int) (oa0 : OB L0 a0 12) {res : (Int × MM)} : ∀ (n : Nat) (x4 : Int) (x5 : Int) (x6 : Int) (M : MM)  (h : sX12_span_b46 a0 x1 x2 x3 n x4 x5 x6 M = some res), VV G xX12_span (ZM G xX12_span (some (.int (eI res.1))) L0 res.2) L0 M 0 0 46 [(0, .ref (gA G a0)), (3, .int (eI x3)), (4, .int (eI x4)), (5, .int (eI x5)), (6, .int (eI x6))] [] := by
  intro n
  induction n with
  | zero =>
    intro x4 x5 x6 M h
    rw [sX12_span_b46] at h
    cases h
  | succ n ih =>
    intro x4 x5 x6 M h
    rw [sX12_span_b46] at h
    refine r_iload (pc := 46) dX12_span_46 4 rfl ?_
    refine r_bipush (pc := 48) (v := 40) dX12_span_48 (by decide +kernel) ?_
    refine r_icmp_ge (pc := 50) (tgt := 87) dX12_span_50 (by decide) rfl wl_40 (fun c_1 => ?_) (fun c_1 => ?_)
    · replace h := (if_pos c_1).symm.trans h
      refine r_iconst (pc := 87) (v := (-1)) dX12_span_87 (by decide +kernel) ?_
      refine r_istore (pc := 88) (lv' := [(6, .int (eI (-1))), (0, .ref (gA G a0)), (3, .int (eI x3)), (4, .int (eI x4)), (5, .int (eI x5))]) dX12_span_88 (Nat.le_of_ble_eq_true rfl) rfl ?_
      refine r_iconst (pc := 90) (v := 1) dX12_span_90 (by decide +kernel) ?_
      refine r_istore (pc := 91) (lv' := [(7, .int (eI 1)), (6, .int (eI (-1))), (0, .ref (gA G a0)), (3, .int (eI x3)), (4, .int (eI x4)), (5, .int (eI x5))]) dX12_span_91 (Nat.le_of_ble_eq_true rfl) rfl ?_
      refine r_sub (lv' := [(0, .ref (gA G a0)), (3, .int (eI x3)), (4, .int (eI x4)), (5, .int (eI x5)), (6, .int (eI (-1))), (7, .int (eI 1))]) [2, 3, 4, 5, 1, 0] rfl ?_
      exact bX12_span_b93 a0 x1 x2 x3 oa0 _ _ _ _ _ _ h
    · replace h := (if_neg c_1).symm.trans h
      refine r_aload_n (pc := 53) (i := 0) dX12_span_53 rfl 0 rfl ?_
      have o_2 := (wt_12_44 oa0).2
      refine r_getR (pc := 54) fg_12_59 rfl oa0 (wt_12_44 oa0).1 dX12_span_54 ?_
      refine r_iload (pc := 57) dX12_span_57 4 rfl ?_
      refine r_aload_n (pc := 59) (i := 0) dX12_span_59 rfl 0 rfl ?_
      have o_3 := (wt_12_42 oa0).2
      refine r_getR (pc := 60) fg_12_53 rfl oa0 (wt_12_42 oa0).1 dX12_span_60 ?_
      refine r_iload (pc := 63) dX12_span_63 4 rfl ?_
      obtain ⟨c_4, h⟩ := og h
      refine r_iald (pc := 65) o_3 rfl c_4 rfl dX12_span_65 ?_
      obtain ⟨c_5, h⟩ := og h
      obtain ⟨M_6, hM_6, h⟩ := ob h
      refine r_iast (pc := 66) o_2 rfl c_5 rfl hM_6 dX12_span_66 ?_
      refine r_aload_n (pc := 67) (i := 0) dX12_span_67 rfl 0 rfl ?_
      have o_7 := (wt_12_45 oa0).2
      refine r_getR (pc := 68) fg_12_62 rfl oa0 (wt_12_45 oa0).1 dX12_span_68 ?_
      refine r_iload (pc := 71) dX12_span_71 4 rfl ?_
      refine r_aload_n (pc := 73) (i := 0) dX12_span_73 rfl 0 rfl ?_
      have o_8 := (wt_12_43 oa0).2
      refine r_getR (pc := 74) fg_12_56 rfl oa0 (wt_12_43 oa0).1 dX12_span_74 ?_
      refine r_iload (pc := 77) dX12_span_77 4 rfl ?_
      obtain ⟨c_9, h⟩ := og h
      refine r_iald (pc := 79) o_8 rfl c_9 rfl dX12_span_79 ?_
      obtain ⟨c_10, h⟩ := og h
      obtain ⟨M_11, hM_11, h⟩ := ob h
      refine r_iast (pc := 80) o_7 rfl c_10 rfl hM_11 dX12_span_80 ?_
      obtain ⟨v_12, hv_12, h⟩ := ob h
      refine r_iinc (pc := 81) (y := v_12) (lv' := [(6, .int (eI v_12)), (0, .ref (gA G a0)), (3, .int (eI x3)), (4, .int (eI x4)), (5, .int (eI x5))]) dX12_span_81 4 rfl (Option.some.inj hv_12) (Nat.le_of_ble_eq_true rfl) rfl ?_
      refine r_goto (pc := 84) (tgt := 46) dX12_span_84 (by decide) ?_
      refine r_sub (lv' := [(0, .ref (gA G a0)), (3, .int (eI x3)), (4, .int (eI x4)), (5, .int (eI x5)), (6, .int (eI v_12))]) [1, 2, 3, 4, 0] rfl ?_
      exact ih _ _ _ _ h
set_option maxHeartbeats 4000000 in
set_option maxRecDepth 100000 in
theorem bX12_span_b0 {G : GG} (a0 : Nat) (x1 : Int) (x2 : Int) (x3 : Int) (oa0 : OB L0 a0 12)  (M : MM) {res : (Int × MM)}  (h : sX12_span_b0 a0 x1 x2 x3 M = some res) : VV G xX12_span (ZM G xX12_span (some (.int (eI res.1))) L0 res.2) L0 M 0 0 0 [(0, .ref (gA G a0)), (1, .int (eI x1)), (2, .int (eI x2)), (3, .int (eI x3))] [] := by
  unfold sX12_span_b0 at h
  refine r_aload_n (pc := 0) (i := 0) dX12_span_0 rfl 0 rfl ?_
  refine r_iconst (pc := 1) (v := 0) dX12_span_1 (by decide +kernel) ?_
  obtain ⟨M_1, hM_1, h⟩ := ob h
  refine r_putI (pc := 2) fg_12_97 rfl oa0 hM_1 rfl rfl dX12_span_2 ?_
  refine r_aload_n (pc := 5) (i := 0) dX12_span_5 rfl 0 rfl ?_
  refine r_iload_n (pc := 6) (i := 2) dX12_span_6 rfl 2 rfl ?_
  obtain ⟨q_2, hq_2, h⟩ := ob h
  refine r_cV (pc := 7) (Y := xX12_hasBook) (As := [.int (eI x2)]) (rest := []) (v := (some (.int (eI (q_2.1))))) (st1 := [.int (eI (q_2.1))]) ck_X12_span_340 (kX12_hasBook a0 x2 M_1 oa0 hq_2) oa0 rfl rfl rfl rfl (Nat.le_of_ble_eq_true rfl) ⟨rfl, rfl⟩ rfl dX12_span_7 ?_
  refine r_if_eq (pc := 10) (tgt := 21) dX12_span_10 (by decide) rfl (fun c_3 => ?_) (fun c_3 => ?_)
  · replace h := (if_pos c_3).symm.trans h
    refine r_iconst (pc := 21) (v := (-1)) dX12_span_21 (by decide +kernel) ?_
    cases h
    exact r_iret (pc := 22) rfl rfl (Nat.le_refl 0) (Nat.le_refl 0) dX12_span_22
  · replace h := (if_neg c_3).symm.trans h
    refine r_aload_n (pc := 13) (i := 0) dX12_span_13 rfl 0 rfl ?_
    refine r_iload_n (pc := 14) (i := 1) dX12_span_14 rfl 1 rfl ?_
    obtain ⟨q_4, hq_4, h⟩ := ob h
    refine r_cV (pc := 15) (Y := xX12_hand) (As := [.int (eI x1)]) (rest := []) (v := (some (.int (eI (q_4.1))))) (st1 := [.int (eI (q_4.1))]) ck_X12_span_328 (kX12_hand a0 x1 q_2.2 oa0 hq_4) oa0 rfl rfl rfl rfl (Nat.le_of_ble_eq_true rfl) ⟨rfl, rfl⟩ rfl dX12_span_15 ?_
    refine r_if_ne (pc := 18) (tgt := 23) dX12_span_18 (by decide) rfl (fun c_5 => ?_) (fun c_5 => ?_)
    · replace h := (if_neg c_5).symm.trans h
      refine r_aload_n (pc := 23) (i := 0) dX12_span_23 rfl 0 rfl ?_
      refine r_aload_n (pc := 24) (i := 0) dX12_span_24 rfl 0 rfl ?_
      obtain ⟨q_6, hq_6, h⟩ := ob h
      refine r_cV (pc := 25) (Y := xX12_deeds) (As := []) (rest := [.ref (gA G a0)]) (v := (some (.int (eI q_6)))) (st1 := [.int (eI q_6), .ref (gA G a0)]) ck_X12_span_343 (kX12_deeds a0 q_4.2 oa0 hq_6) oa0 rfl rfl rfl rfl (Nat.le_of_ble_eq_true rfl) ⟨rfl, rfl⟩ rfl dX12_span_25 ?_
      refine r_aload_n (pc := 28) (i := 0) dX12_span_28 rfl 0 rfl ?_
      obtain ⟨q_7, hq_7, h⟩ := ob h
      refine r_cV (pc := 29) (Y := xX12_belly) (As := []) (rest := [.int (eI q_6), .ref (gA G a0)]) (v := (some (.int (eI q_7)))) (st1 := [.int (eI q_7), .int (eI q_6), .ref (gA G a0)]) ck_X12_span_409 (kX12_belly a0 q_4.2 oa0 hq_7) oa0 rfl rfl rfl rfl (Nat.le_of_ble_eq_true rfl) ⟨rfl, rfl⟩ rfl dX12_span_29 ?_
      obtain ⟨q_8, hq_8, h⟩ := ob h
      refine r_cV (pc := 32) (Y := xX12_play) (As := [.int (eI q_6), .int (eI q_7)]) (rest := []) (v := (some (.int (eI (q_8.1))))) (st1 := [.int (eI (q_8.1))]) ck_X12_span_412 (kX12_play a0 q_6 q_7 q_4.2 oa0 hq_8) oa0 rfl rfl rfl rfl (Nat.le_of_ble_eq_true rfl) ⟨rfl, rfl⟩ rfl dX12_span_32 ?_
      refine r_istore (pc := 35) (lv' := [(4, .int (eI (q_8.1))), (0, .ref (gA G a0)), (1, .int (eI x1)), (2, .int (eI x2)), (3, .int (eI x3))]) dX12_span_35 (Nat.le_of_ble_eq_true rfl) rfl ?_
      refine r_aload_n (pc := 37) (i := 0) dX12_span_37 rfl 1 rfl ?_
      refine r_getI (pc := 38) fg_12_364 rfl oa0 dX12_span_38 ?_
      refine r_istore (pc := 41) (lv' := [(5, .int (eI (q_8.2 a0 35))), (4, .int (eI (q_8.1))), (0, .ref (gA G a0)), (1, .int (eI x1)), (2, .int (eI x2)), (3, .int (eI x3))]) dX12_span_41 (Nat.le_of_ble_eq_true rfl) rfl ?_
      refine r_iconst (pc := 43) (v := 0) dX12_span_43 (by decide +kernel) ?_
      refine r_istore (pc := 44) (lv' := [(6, .int (eI 0)), (5, .int (eI (q_8.2 a0 35))), (4, .int (eI (q_8.1))), (0, .ref (gA G a0)), (1, .int (eI x1)), (2, .int (eI x2)), (3, .int (eI x3))]) dX12_span_44 (Nat.le_of_ble_eq_true rfl) rfl ?_
      refine r_sub (lv' := [(0, .ref (gA G a0)), (3, .int (eI x3)), (4, .int (eI (q_8.1))), (5, .int (eI (q_8.2 a0 35))), (6, .int (eI 0))]) [3, 6, 2, 1, 0] rfl ?_
      exact bX12_span_b46 a0 x1 x2 x3 oa0 _ _ _ _ _ h
    · replace h := (if_pos c_5).symm.trans h
      refine r_iconst (pc := 21) (v := (-1)) dX12_span_21 (by decide +kernel) ?_
      cases h
      exact r_iret (pc := 22) rfl rfl (Nat.le_refl 0) (Nat.le_refl 0) dX12_span_22
theorem kX12_span {G : GG} (a0 : Nat) (x1 : Int) (x2 : Int) (x3 : Int) (M : MM) {res : (Int × MM)} (oa0 : OB L0 a0 12) (h : sX12_span a0 x1 x2 x3 M = some res) : CO G xX12_span [.ref (gA G a0), .int (eI x1), .int (eI x2), .int (eI x3)] L0 M (some (.int (eI res.1))) L0 res.2 := CO_of (by decide +kernel) (Nat.le_of_ble_eq_true rfl) (bX12_span_b0 a0 x1 x2 x3 oa0 M h)
abbrev xX12_clueOf : XX := (yX12_clueOf, cX12_clueOf, 3, (some .int), 0, 0, 0, 0)
def sX12_clueOf_b0 (a0 : Nat) (x1 : Int) (x2 : Int) (M : MM)   : Option Int := (if 0 ≤ wI ((((33 * (M a0 46)) + 9) + (3 * x1)) + x2) ∧ wI ((((33 * (M a0 46)) + 9) + (3 * x1)) + x2) < 264 then (some ((M (gR a0 8) (wI ((((33 * (M a0 46)) + 9) + (3 * x1)) + x2)).toNat))) else none)
def sX12_clueOf (a0 : Nat) (x1 : Int) (x2 : Int) (M : MM) : Option Int := sX12_clueOf_b0 a0 x1 x2 M
set_option maxHeartbeats 4000000 in
set_option maxRecDepth 100000 in
theorem bX12_clueOf_b0 {G : GG} (a0 : Nat) (x1 : Int) (x2 : Int) (M : MM) (oa0 : OB L0 a0 12)  {res : Int}  (h : sX12_clueOf_b0 a0 x1 x2 M = some res) : VV G xX12_clueOf (ZM G xX12_clueOf (some (.int (eI res))) L0 M) L0 M 0 0 0 [(0, .ref (gA G a0)), (1, .int (eI x1)), (2, .int (eI x2))] [] := by
  unfold sX12_clueOf_b0 at h
  refine r_aload_n (pc := 0) (i := 0) dX12_clueOf_0 rfl 0 rfl ?_
  have o_1 := (wt_12_8 oa0).2
  refine r_getR (pc := 1) fg_12_32 rfl oa0 (wt_12_8 oa0).1 dX12_clueOf_1 ?_
  refine r_bipush (pc := 4) (v := 33) dX12_clueOf_4 (by decide +kernel) ?_
  refine r_aload_n (pc := 6) (i := 0) dX12_clueOf_6 rfl 0 rfl ?_
  refine r_getI (pc := 7) fg_12_421 rfl oa0 dX12_clueOf_7 ?_
  refine r_imul (pc := 10) dX12_clueOf_10 ?_
  refine r_bipush (pc := 11) (v := 9) dX12_clueOf_11 (by decide +kernel) ?_
  refine r_iadd (pc := 13) dX12_clueOf_13 ?_
  refine r_iconst (pc := 14) (v := 3) dX12_clueOf_14 (by decide +kernel) ?_
  refine r_iload_n (pc := 15) (i := 1) dX12_clueOf_15 rfl 1 rfl ?_
  refine r_imul (pc := 16) dX12_clueOf_16 ?_
  refine r_iadd (pc := 17) dX12_clueOf_17 ?_
  refine r_iload_n (pc := 18) (i := 2) dX12_clueOf_18 rfl 2 rfl ?_
  refine r_iadd (pc := 19) dX12_clueOf_19 ?_
  obtain ⟨c_2, h⟩ := og h
  refine r_iald (pc := 20) o_1 rfl c_2 rfl dX12_clueOf_20 ?_
  cases h
  exact r_iret (pc := 21) rfl rfl (Nat.le_refl 0) (Nat.le_refl 0) dX12_clueOf_21
theorem kX12_clueOf {G : GG} (a0 : Nat) (x1 : Int) (x2 : Int) (M : MM) {res : Int} (oa0 : OB L0 a0 12) (h : sX12_clueOf a0 x1 x2 M = some res) : CO G xX12_clueOf [.ref (gA G a0), .int (eI x1), .int (eI x2)] L0 M (some (.int (eI res))) L0 M := CO_of (by decide +kernel) (Nat.le_of_ble_eq_true rfl) (bX12_clueOf_b0 a0 x1 x2 M oa0 h)
abbrev xX12_cluesTold : XX := (yX12_cluesTold, cX12_cluesTold, 1, (some .int), 0, 0, 0, 0)
def sX12_cluesTold_b0 (a0 : Nat) (M : MM)   : Option Int := (if 0 ≤ wI (33 * (M a0 46)) ∧ wI (33 * (M a0 46)) < 264 then (some ((M (gR a0 8) (wI (33 * (M a0 46))).toNat))) else none)
def sX12_cluesTold (a0 : Nat) (M : MM) : Option Int := sX12_cluesTold_b0 a0 M
set_option maxHeartbeats 4000000 in
set_option maxRecDepth 100000 in
theorem bX12_cluesTold_b0 {G : GG} (a0 : Nat) (M : MM) (oa0 : OB L0 a0 12)  {res : Int}  (h : sX12_cluesTold_b0 a0 M = some res) : VV G xX12_cluesTold (ZM G xX12_cluesTold (some (.int (eI res))) L0 M) L0 M 0 0 0 [(0, .ref (gA G a0))] [] := by
  unfold sX12_cluesTold_b0 at h
  refine r_aload_n (pc := 0) (i := 0) dX12_cluesTold_0 rfl 0 rfl ?_
  have o_1 := (wt_12_8 oa0).2
  refine r_getR (pc := 1) fg_12_32 rfl oa0 (wt_12_8 oa0).1 dX12_cluesTold_1 ?_
  refine r_bipush (pc := 4) (v := 33) dX12_cluesTold_4 (by decide +kernel) ?_
  refine r_aload_n (pc := 6) (i := 0) dX12_cluesTold_6 rfl 0 rfl ?_
  refine r_getI (pc := 7) fg_12_421 rfl oa0 dX12_cluesTold_7 ?_
  refine r_imul (pc := 10) dX12_cluesTold_10 ?_
  obtain ⟨c_2, h⟩ := og h
  refine r_iald (pc := 11) o_1 rfl c_2 rfl dX12_cluesTold_11 ?_
  cases h
  exact r_iret (pc := 12) rfl rfl (Nat.le_refl 0) (Nat.le_refl 0) dX12_cluesTold_12
theorem kX12_cluesTold {G : GG} (a0 : Nat) (M : MM) {res : Int} (oa0 : OB L0 a0 12) (h : sX12_cluesTold a0 M = some res) : CO G xX12_cluesTold [.ref (gA G a0)] L0 M (some (.int (eI res))) L0 M := CO_of (by decide +kernel) (Nat.le_of_ble_eq_true rfl) (bX12_cluesTold_b0 a0 M oa0 h)
abbrev xX12_hasClues : XX := (yX12_hasClues, cX12_hasClues, 2, (some .boolean), 2, 44, 0, 0)
theorem ck_X12_hasClues_301 : CKV xX12_hasClues 301 xX12_is 2 := ⟨⟨tb_i 1629 (by decide +kernel) (by decide +kernel), tb_i 152 (by decide +kernel) (by decide +kernel), tb_i 1632 (by decide +kernel) (by decide +kernel), ⟨by decide +kernel, by decide +kernel, by decide +kernel⟩, by decide, by decide⟩, tb_i 1631 (by decide +kernel) (by decide +kernel), tb_i 47 (by decide +kernel) (by decide +kernel)⟩
def sX12_hasClues_b0 (a0 : Nat) (x1 : Int)   (M : MM) : Option (Int × MM) := ((some (mU M a0 46 x1)).bind fun M_1 => ((sX12_is a0 2 x1 M_1).bind fun q_2 => (if q_2 = 0 ∨ q_2 = 1 then (some ((q_2, M_1))) else none)))
def sX12_hasClues (a0 : Nat) (x1 : Int) (M : MM) : Option (Int × MM) := sX12_hasClues_b0 a0 x1 M
set_option maxHeartbeats 4000000 in
set_option maxRecDepth 100000 in
theorem bX12_hasClues_b0 {G : GG} (a0 : Nat) (x1 : Int) (oa0 : OB L0 a0 12)  (M : MM) {res : (Int × MM)}  (h : sX12_hasClues_b0 a0 x1 M = some res) : VV G xX12_hasClues (ZM G xX12_hasClues (some (.int (eI res.1))) L0 res.2) L0 M 0 0 0 [(0, .ref (gA G a0)), (1, .int (eI x1))] [] := by
  unfold sX12_hasClues_b0 at h
  refine r_aload_n (pc := 0) (i := 0) dX12_hasClues_0 rfl 0 rfl ?_
  refine r_iload_n (pc := 1) (i := 1) dX12_hasClues_1 rfl 1 rfl ?_
  obtain ⟨M_1, hM_1, h⟩ := ob h
  refine r_putI (pc := 2) fg_12_421 rfl oa0 hM_1 rfl rfl dX12_hasClues_2 ?_
  refine r_aload_n (pc := 5) (i := 0) dX12_hasClues_5 rfl 0 rfl ?_
  refine r_iconst (pc := 6) (v := 2) dX12_hasClues_6 (by decide +kernel) ?_
  refine r_iload_n (pc := 7) (i := 1) dX12_hasClues_7 rfl 1 rfl ?_
  obtain ⟨q_2, hq_2, h⟩ := ob h
  refine r_cV (pc := 8) (Y := xX12_is) (As := [.int (eI 2), .int (eI x1)]) (rest := []) (v := (some (.int (eI q_2)))) (st1 := [.int (eI q_2)]) ck_X12_hasClues_301 (kX12_is a0 2 x1 M_1 oa0 hq_2) oa0 rfl rfl rfl rfl (Nat.le_of_ble_eq_true rfl) ⟨rfl, rfl⟩ rfl dX12_hasClues_8 ?_
  obtain ⟨c_3, h⟩ := og h
  cases h
  exact r_iret (pc := 11) rfl (zn_ok c_3).1 (Nat.le_refl 0) (Nat.le_refl 0) dX12_hasClues_11
theorem kX12_hasClues {G : GG} (a0 : Nat) (x1 : Int) (M : MM) {res : (Int × MM)} (oa0 : OB L0 a0 12) (h : sX12_hasClues a0 x1 M = some res) : CO G xX12_hasClues [.ref (gA G a0), .int (eI x1)] L0 M (some (.int (eI res.1))) L0 res.2 := CO_of (by decide +kernel) (Nat.le_of_ble_eq_true rfl) (bX12_hasClues_b0 a0 x1 oa0 M h)
abbrev xX12_clue : XX := (yX12_clue, cX12_clue, 4, (some .int), 3, 65, 0, 0)
theorem ck_X12_clue_105 : CKS xX12_clue 105 xX12_in 3 := ⟨⟨tb_i 1622 (by decide +kernel) (by decide +kernel), tb_i 152 (by decide +kernel) (by decide +kernel), tb_i 1624 (by decide +kernel) (by decide +kernel), ⟨by decide +kernel, by decide +kernel, by decide +kernel⟩, by decide, by decide⟩, tb_i 1623 (by decide +kernel) (by decide +kernel)⟩
theorem ck_X12_clue_424 : CKV xX12_clue 424 xX12_hasClues 1 := ⟨⟨tb_i 1888 (by decide +kernel) (by decide +kernel), tb_i 152 (by decide +kernel) (by decide +kernel), tb_i 1891 (by decide +kernel) (by decide +kernel), ⟨by decide +kernel, by decide +kernel, by decide +kernel⟩, by decide, by decide⟩, tb_i 1890 (by decide +kernel) (by decide +kernel), tb_i 89 (by decide +kernel) (by decide +kernel)⟩
theorem ck_X12_clue_427 : CKV xX12_clue 427 xX12_cluesTold 0 := ⟨⟨tb_i 1892 (by decide +kernel) (by decide +kernel), tb_i 152 (by decide +kernel) (by decide +kernel), tb_i 1895 (by decide +kernel) (by decide +kernel), ⟨by decide +kernel, by decide +kernel, by decide +kernel⟩, by decide, by decide⟩, tb_i 1894 (by decide +kernel) (by decide +kernel), tb_i 90 (by decide +kernel) (by decide +kernel)⟩
theorem ck_X12_clue_430 : CKV xX12_clue 430 xX12_clueOf 2 := ⟨⟨tb_i 1896 (by decide +kernel) (by decide +kernel), tb_i 152 (by decide +kernel) (by decide +kernel), tb_i 1899 (by decide +kernel) (by decide +kernel), ⟨by decide +kernel, by decide +kernel, by decide +kernel⟩, by decide, by decide⟩, tb_i 1898 (by decide +kernel) (by decide +kernel), tb_i 91 (by decide +kernel) (by decide +kernel)⟩
def sX12_clue_b0 (a0 : Nat) (x1 : Int) (x2 : Int) (x3 : Int)   (M : MM) : Option (Int × MM) := ((some (mU M a0 0 0)).bind fun M_1 => ((sX12_hasClues a0 x1 M_1).bind fun q_2 => (if wI (q_2.1) = 0 then (some (((-2), q_2.2))) else (if wI x2 = (-1) then (if wI x3 = 0 then ((sX12_cluesTold a0 q_2.2).bind fun q_13 => (some ((q_13, q_2.2)))) else (if wI (sX12_in x3 10 17) = 0 then (some (((-2), q_2.2))) else (if 0 ≤ wI ((((33 * x1) + 1) + x3) - 10) ∧ wI ((((33 * x1) + 1) + x3) - 10) < 264 then (some (((q_2.2 (gR a0 8) (wI ((((33 * x1) + 1) + x3) - 10)).toNat), q_2.2))) else none))) else ((sX12_cluesTold a0 q_2.2).bind fun q_5 => (if wI (sX12_in x2 0 (q_5 - 1)) = 0 then (some (((-2), q_2.2))) else (if wI (sX12_in x3 0 2) = 0 then (some (((-2), q_2.2))) else ((sX12_clueOf a0 x2 x3 q_2.2).bind fun q_8 => (some ((q_8, q_2.2)))))))))))
def sX12_clue (a0 : Nat) (x1 : Int) (x2 : Int) (x3 : Int) (M : MM) : Option (Int × MM) := sX12_clue_b0 a0 x1 x2 x3 M
set_option maxHeartbeats 4000000 in
set_option maxRecDepth 100000 in
theorem bX12_clue_b0 {G : GG} (a0 : Nat) (x1 : Int) (x2 : Int) (x3 : Int) (oa0 : OB L0 a0 12)  (M : MM) {res : (Int × MM)}  (h : sX12_clue_b0 a0 x1 x2 x3 M = some res) : VV G xX12_clue (ZM G xX12_clue (some (.int (eI res.1))) L0 res.2) L0 M 0 0 0 [(0, .ref (gA G a0)), (1, .int (eI x1)), (2, .int (eI x2)), (3, .int (eI x3))] [] := by
  unfold sX12_clue_b0 at h
  refine r_aload_n (pc := 0) (i := 0) dX12_clue_0 rfl 0 rfl ?_
  refine r_iconst (pc := 1) (v := 0) dX12_clue_1 (by decide +kernel) ?_
  obtain ⟨M_1, hM_1, h⟩ := ob h
  refine r_putI (pc := 2) fg_12_97 rfl oa0 hM_1 rfl rfl dX12_clue_2 ?_
  refine r_aload_n (pc := 5) (i := 0) dX12_clue_5 rfl 0 rfl ?_
  refine r_iload_n (pc := 6) (i := 1) dX12_clue_6 rfl 1 rfl ?_
  obtain ⟨q_2, hq_2, h⟩ := ob h
  refine r_cV (pc := 7) (Y := xX12_hasClues) (As := [.int (eI x1)]) (rest := []) (v := (some (.int (eI (q_2.1))))) (st1 := [.int (eI (q_2.1))]) ck_X12_clue_424 (kX12_hasClues a0 x1 M_1 oa0 hq_2) oa0 rfl rfl rfl rfl (Nat.le_of_ble_eq_true rfl) ⟨rfl, rfl⟩ rfl dX12_clue_7 ?_
  refine r_if_ne (pc := 10) (tgt := 16) dX12_clue_10 (by decide) rfl (fun c_3 => ?_) (fun c_3 => ?_)
  · replace h := (if_neg c_3).symm.trans h
    refine r_iload_n (pc := 16) (i := 2) dX12_clue_16 rfl 2 rfl ?_
    refine r_iconst (pc := 17) (v := (-1)) dX12_clue_17 (by decide +kernel) ?_
    refine r_icmp_ne (pc := 18) (tgt := 65) dX12_clue_18 (by decide) rfl wl_m1 (fun c_4 => ?_) (fun c_4 => ?_)
    · replace h := (if_neg c_4).symm.trans h
      refine r_iload_n (pc := 65) (i := 2) dX12_clue_65 rfl 2 rfl ?_
      refine r_iconst (pc := 66) (v := 0) dX12_clue_66 (by decide +kernel) ?_
      refine r_aload_n (pc := 67) (i := 0) dX12_clue_67 rfl 0 rfl ?_
      obtain ⟨q_5, hq_5, h⟩ := ob h
      refine r_cV (pc := 68) (Y := xX12_cluesTold) (As := []) (rest := [.int (eI 0), .int (eI x2)]) (v := (some (.int (eI q_5)))) (st1 := [.int (eI q_5), .int (eI 0), .int (eI x2)]) ck_X12_clue_427 (kX12_cluesTold a0 q_2.2 oa0 hq_5) oa0 rfl rfl rfl rfl (Nat.le_of_ble_eq_true rfl) ⟨rfl, rfl⟩ rfl dX12_clue_68 ?_
      refine r_iconst (pc := 71) (v := 1) dX12_clue_71 (by decide +kernel) ?_
      refine r_isub (pc := 72) dX12_clue_72 ?_
      refine r_cS (pc := 73) (Y := xX12_in) (As := [.int (eI x2), .int (eI 0), .int (eI (q_5 - 1))]) (rest := []) (v := (some (.int (eI (sX12_in x2 0 (q_5 - 1)))))) (st1 := [.int (eI (sX12_in x2 0 (q_5 - 1)))]) ck_X12_clue_105 (kX12_in x2 0 (q_5 - 1) q_2.2 ) rfl rfl (Nat.le_of_ble_eq_true rfl) ⟨rfl, rfl⟩ rfl dX12_clue_73 ?_
      refine r_if_eq (pc := 76) (tgt := 97) dX12_clue_76 (by decide) rfl (fun c_6 => ?_) (fun c_6 => ?_)
      · replace h := (if_pos c_6).symm.trans h
        refine r_bipush (pc := 97) (v := (-2)) dX12_clue_97 (by decide +kernel) ?_
        cases h
        exact r_iret (pc := 99) rfl rfl (Nat.le_refl 0) (Nat.le_refl 0) dX12_clue_99
      · replace h := (if_neg c_6).symm.trans h
        refine r_iload_n (pc := 79) (i := 3) dX12_clue_79 rfl 3 rfl ?_
        refine r_iconst (pc := 80) (v := 0) dX12_clue_80 (by decide +kernel) ?_
        refine r_iconst (pc := 81) (v := 2) dX12_clue_81 (by decide +kernel) ?_
        refine r_cS (pc := 82) (Y := xX12_in) (As := [.int (eI x3), .int (eI 0), .int (eI 2)]) (rest := []) (v := (some (.int (eI (sX12_in x3 0 2))))) (st1 := [.int (eI (sX12_in x3 0 2))]) ck_X12_clue_105 (kX12_in x3 0 2 q_2.2 ) rfl rfl (Nat.le_of_ble_eq_true rfl) ⟨rfl, rfl⟩ rfl dX12_clue_82 ?_
        refine r_if_eq (pc := 85) (tgt := 97) dX12_clue_85 (by decide) rfl (fun c_7 => ?_) (fun c_7 => ?_)
        · replace h := (if_pos c_7).symm.trans h
          refine r_bipush (pc := 97) (v := (-2)) dX12_clue_97 (by decide +kernel) ?_
          cases h
          exact r_iret (pc := 99) rfl rfl (Nat.le_refl 0) (Nat.le_refl 0) dX12_clue_99
        · replace h := (if_neg c_7).symm.trans h
          refine r_aload_n (pc := 88) (i := 0) dX12_clue_88 rfl 0 rfl ?_
          refine r_iload_n (pc := 89) (i := 2) dX12_clue_89 rfl 2 rfl ?_
          refine r_iload_n (pc := 90) (i := 3) dX12_clue_90 rfl 3 rfl ?_
          obtain ⟨q_8, hq_8, h⟩ := ob h
          refine r_cV (pc := 91) (Y := xX12_clueOf) (As := [.int (eI x2), .int (eI x3)]) (rest := []) (v := (some (.int (eI q_8)))) (st1 := [.int (eI q_8)]) ck_X12_clue_430 (kX12_clueOf a0 x2 x3 q_2.2 oa0 hq_8) oa0 rfl rfl rfl rfl (Nat.le_of_ble_eq_true rfl) ⟨rfl, rfl⟩ rfl dX12_clue_91 ?_
          refine r_goto (pc := 94) (tgt := 99) dX12_clue_94 (by decide) ?_
          cases h
          exact r_iret (pc := 99) rfl rfl (Nat.le_refl 0) (Nat.le_refl 0) dX12_clue_99
    · replace h := (if_pos c_4).symm.trans h
      refine r_iload_n (pc := 21) (i := 3) dX12_clue_21 rfl 3 rfl ?_
      refine r_if_ne (pc := 22) (tgt := 32) dX12_clue_22 (by decide) rfl (fun c_9 => ?_) (fun c_9 => ?_)
      · replace h := (if_neg c_9).symm.trans h
        refine r_iload_n (pc := 32) (i := 3) dX12_clue_32 rfl 3 rfl ?_
        refine r_bipush (pc := 33) (v := 10) dX12_clue_33 (by decide +kernel) ?_
        refine r_bipush (pc := 35) (v := 17) dX12_clue_35 (by decide +kernel) ?_
        refine r_cS (pc := 37) (Y := xX12_in) (As := [.int (eI x3), .int (eI 10), .int (eI 17)]) (rest := []) (v := (some (.int (eI (sX12_in x3 10 17))))) (st1 := [.int (eI (sX12_in x3 10 17))]) ck_X12_clue_105 (kX12_in x3 10 17 q_2.2 ) rfl rfl (Nat.le_of_ble_eq_true rfl) ⟨rfl, rfl⟩ rfl dX12_clue_37 ?_
        refine r_if_eq (pc := 40) (tgt := 62) dX12_clue_40 (by decide) rfl (fun c_10 => ?_) (fun c_10 => ?_)
        · replace h := (if_pos c_10).symm.trans h
          refine r_bipush (pc := 62) (v := (-2)) dX12_clue_62 (by decide +kernel) ?_
          cases h
          exact r_iret (pc := 64) rfl rfl (Nat.le_refl 0) (Nat.le_refl 0) dX12_clue_64
        · replace h := (if_neg c_10).symm.trans h
          refine r_aload_n (pc := 43) (i := 0) dX12_clue_43 rfl 0 rfl ?_
          have o_11 := (wt_12_8 oa0).2
          refine r_getR (pc := 44) fg_12_32 rfl oa0 (wt_12_8 oa0).1 dX12_clue_44 ?_
          refine r_bipush (pc := 47) (v := 33) dX12_clue_47 (by decide +kernel) ?_
          refine r_iload_n (pc := 49) (i := 1) dX12_clue_49 rfl 1 rfl ?_
          refine r_imul (pc := 50) dX12_clue_50 ?_
          refine r_iconst (pc := 51) (v := 1) dX12_clue_51 (by decide +kernel) ?_
          refine r_iadd (pc := 52) dX12_clue_52 ?_
          refine r_iload_n (pc := 53) (i := 3) dX12_clue_53 rfl 3 rfl ?_
          refine r_iadd (pc := 54) dX12_clue_54 ?_
          refine r_bipush (pc := 55) (v := 10) dX12_clue_55 (by decide +kernel) ?_
          refine r_isub (pc := 57) dX12_clue_57 ?_
          obtain ⟨c_12, h⟩ := og h
          refine r_iald (pc := 58) o_11 rfl c_12 rfl dX12_clue_58 ?_
          refine r_goto (pc := 59) (tgt := 64) dX12_clue_59 (by decide) ?_
          cases h
          exact r_iret (pc := 64) rfl rfl (Nat.le_refl 0) (Nat.le_refl 0) dX12_clue_64
      · replace h := (if_pos c_9).symm.trans h
        refine r_aload_n (pc := 25) (i := 0) dX12_clue_25 rfl 0 rfl ?_
        obtain ⟨q_13, hq_13, h⟩ := ob h
        refine r_cV (pc := 26) (Y := xX12_cluesTold) (As := []) (rest := []) (v := (some (.int (eI q_13)))) (st1 := [.int (eI q_13)]) ck_X12_clue_427 (kX12_cluesTold a0 q_2.2 oa0 hq_13) oa0 rfl rfl rfl rfl (Nat.le_of_ble_eq_true rfl) ⟨rfl, rfl⟩ rfl dX12_clue_26 ?_
        refine r_goto (pc := 29) (tgt := 64) dX12_clue_29 (by decide) ?_
        cases h
        exact r_iret (pc := 64) rfl rfl (Nat.le_refl 0) (Nat.le_refl 0) dX12_clue_64
  · replace h := (if_pos c_3).symm.trans h
    refine r_bipush (pc := 13) (v := (-2)) dX12_clue_13 (by decide +kernel) ?_
    cases h
    exact r_iret (pc := 15) rfl rfl (Nat.le_refl 0) (Nat.le_refl 0) dX12_clue_15
theorem kX12_clue {G : GG} (a0 : Nat) (x1 : Int) (x2 : Int) (x3 : Int) (M : MM) {res : (Int × MM)} (oa0 : OB L0 a0 12) (h : sX12_clue a0 x1 x2 x3 M = some res) : CO G xX12_clue [.ref (gA G a0), .int (eI x1), .int (eI x2), .int (eI x3)] L0 M (some (.int (eI res.1))) L0 res.2 := CO_of (by decide +kernel) (Nat.le_of_ble_eq_true rfl) (bX12_clue_b0 a0 x1 x2 x3 oa0 M h)
abbrev xX12_weightBy : XX := (yX12_weightBy, cX12_weightBy, 5, (some .int), 2, 43, 0, 0)
theorem ck_X12_weightBy_384 : CKS xX12_weightBy 384 xX12_apart 2 := ⟨⟨tb_i 1854 (by decide +kernel) (by decide +kernel), tb_i 152 (by decide +kernel) (by decide +kernel), tb_i 1856 (by decide +kernel) (by decide +kernel), ⟨by decide +kernel, by decide +kernel, by decide +kernel⟩, by decide, by decide⟩, tb_i 1855 (by decide +kernel) (by decide +kernel)⟩
theorem ck_X12_weightBy_430 : CKV xX12_weightBy 430 xX12_clueOf 2 := ⟨⟨tb_i 1896 (by decide +kernel) (by decide +kernel), tb_i 152 (by decide +kernel) (by decide +kernel), tb_i 1899 (by decide +kernel) (by decide +kernel), ⟨by decide +kernel, by decide +kernel, by decide +kernel⟩, by decide, by decide⟩, tb_i 1898 (by decide +kernel) (by decide +kernel), tb_i 91 (by decide +kernel) (by decide +kernel)⟩
def sX12_weightBy_b0 (a0 : Nat) (x1 : Int) (x2 : Int) (M : MM)   : Option Int := ((sX12_clueOf a0 x1 2 M).bind fun q_1 => ((sX12_clueOf a0 x1 0 M).bind fun q_2 => (if wI q_2 = 0 then ((sX12_clueOf a0 x1 1 M).bind fun q_5 => (if 0 ≤ wI (((33 * (M a0 46)) + 1) + q_5) ∧ wI (((33 * (M a0 46)) + 1) + q_5) < 264 then ((some (M (gR a0 8) (wI (((33 * (M a0 46)) + 1) + q_5)).toNat)).bind fun v_7 => (if wI (sX12_apart q_1 x2) = 0 then (some ((7 * v_7))) else (some ((10 - v_7))))) else none)) else (if wI q_2 = 1 then (if wI (sX12_apart q_1 x2) < 2 then (some (0)) else (some (1))) else (if wI q_2 = 2 then (if wI (sX12_apart q_1 x2) = 1 then (some (1)) else (some (0))) else (if wI (sX12_apart q_1 x2) = 0 then (some (1)) else (some (0))))))))
def sX12_weightBy (a0 : Nat) (x1 : Int) (x2 : Int) (M : MM) : Option Int := sX12_weightBy_b0 a0 x1 x2 M
set_option maxHeartbeats 4000000 in
set_option maxRecDepth 100000 in
theorem bX12_weightBy_b0 {G : GG} (a0 : Nat) (x1 : Int) (x2 : Int) (M : MM) (oa0 : OB L0 a0 12)  {res : Int}  (h : sX12_weightBy_b0 a0 x1 x2 M = some res) : VV G xX12_weightBy (ZM G xX12_weightBy (some (.int (eI res))) L0 M) L0 M 0 0 0 [(0, .ref (gA G a0)), (1, .int (eI x1)), (2, .int (eI x2))] [] := by
  unfold sX12_weightBy_b0 at h
  refine r_aload_n (pc := 0) (i := 0) dX12_weightBy_0 rfl 0 rfl ?_
  refine r_iload_n (pc := 1) (i := 1) dX12_weightBy_1 rfl 1 rfl ?_
  refine r_iconst (pc := 2) (v := 2) dX12_weightBy_2 (by decide +kernel) ?_
  obtain ⟨q_1, hq_1, h⟩ := ob h
  refine r_cV (pc := 3) (Y := xX12_clueOf) (As := [.int (eI x1), .int (eI 2)]) (rest := []) (v := (some (.int (eI q_1)))) (st1 := [.int (eI q_1)]) ck_X12_weightBy_430 (kX12_clueOf a0 x1 2 M oa0 hq_1) oa0 rfl rfl rfl rfl (Nat.le_of_ble_eq_true rfl) ⟨rfl, rfl⟩ rfl dX12_weightBy_3 ?_
  refine r_iload_n (pc := 6) (i := 2) dX12_weightBy_6 rfl 2 rfl ?_
  refine r_cS (pc := 7) (Y := xX12_apart) (As := [.int (eI q_1), .int (eI x2)]) (rest := []) (v := (some (.int (eI (sX12_apart q_1 x2))))) (st1 := [.int (eI (sX12_apart q_1 x2))]) ck_X12_weightBy_384 (kX12_apart q_1 x2 M ) rfl rfl (Nat.le_of_ble_eq_true rfl) ⟨rfl, rfl⟩ rfl dX12_weightBy_7 ?_
  refine r_istore_n (pc := 10) (i := 3) (lv' := [(3, .int (eI (sX12_apart q_1 x2))), (0, .ref (gA G a0)), (1, .int (eI x1)), (2, .int (eI x2))]) dX12_weightBy_10 rfl (Nat.le_of_ble_eq_true rfl) rfl ?_
  refine r_aload_n (pc := 11) (i := 0) dX12_weightBy_11 rfl 1 rfl ?_
  refine r_iload_n (pc := 12) (i := 1) dX12_weightBy_12 rfl 2 rfl ?_
  refine r_iconst (pc := 13) (v := 0) dX12_weightBy_13 (by decide +kernel) ?_
  obtain ⟨q_2, hq_2, h⟩ := ob h
  refine r_cV (pc := 14) (Y := xX12_clueOf) (As := [.int (eI x1), .int (eI 0)]) (rest := []) (v := (some (.int (eI q_2)))) (st1 := [.int (eI q_2)]) ck_X12_weightBy_430 (kX12_clueOf a0 x1 0 M oa0 hq_2) oa0 rfl rfl rfl rfl (Nat.le_of_ble_eq_true rfl) ⟨rfl, rfl⟩ rfl dX12_weightBy_14 ?_
  by_cases c_3 : wI q_2 = 0
  · replace h := (if_pos c_3).symm.trans h
    refine r_tsw (pc := 17) (tgt := 44) (k' := 0) (rfl.trans c_3) dX12_weightBy_17 (by decide) rfl (by decide) ?_
    refine r_aload_n (pc := 44) (i := 0) dX12_weightBy_44 rfl 1 rfl ?_
    have o_4 := (wt_12_8 oa0).2
    refine r_getR (pc := 45) fg_12_32 rfl oa0 (wt_12_8 oa0).1 dX12_weightBy_45 ?_
    refine r_bipush (pc := 48) (v := 33) dX12_weightBy_48 (by decide +kernel) ?_
    refine r_aload_n (pc := 50) (i := 0) dX12_weightBy_50 rfl 1 rfl ?_
    refine r_getI (pc := 51) fg_12_421 rfl oa0 dX12_weightBy_51 ?_
    refine r_imul (pc := 54) dX12_weightBy_54 ?_
    refine r_iconst (pc := 55) (v := 1) dX12_weightBy_55 (by decide +kernel) ?_
    refine r_iadd (pc := 56) dX12_weightBy_56 ?_
    refine r_aload_n (pc := 57) (i := 0) dX12_weightBy_57 rfl 1 rfl ?_
    refine r_iload_n (pc := 58) (i := 1) dX12_weightBy_58 rfl 2 rfl ?_
    refine r_iconst (pc := 59) (v := 1) dX12_weightBy_59 (by decide +kernel) ?_
    obtain ⟨q_5, hq_5, h⟩ := ob h
    refine r_cV (pc := 60) (Y := xX12_clueOf) (As := [.int (eI x1), .int (eI 1)]) (rest := [.int (eI ((33 * (M a0 46)) + 1)), .ref (gA G (gR a0 8))]) (v := (some (.int (eI q_5)))) (st1 := [.int (eI q_5), .int (eI ((33 * (M a0 46)) + 1)), .ref (gA G (gR a0 8))]) ck_X12_weightBy_430 (kX12_clueOf a0 x1 1 M oa0 hq_5) oa0 rfl rfl rfl rfl (Nat.le_of_ble_eq_true rfl) ⟨rfl, rfl⟩ rfl dX12_weightBy_60 ?_
    refine r_iadd (pc := 63) dX12_weightBy_63 ?_
    obtain ⟨c_6, h⟩ := og h
    refine r_iald (pc := 64) o_4 rfl c_6 rfl dX12_weightBy_64 ?_
    obtain ⟨v_7, hv_7, h⟩ := ob h
    refine r_nmI (pc := 65) hv_7 ?_
    refine r_istore (pc := 65) (lv' := [(4, .int (eI v_7)), (3, .int (eI (sX12_apart q_1 x2))), (0, .ref (gA G a0)), (1, .int (eI x1)), (2, .int (eI x2))]) dX12_weightBy_65 (Nat.le_of_ble_eq_true rfl) rfl ?_
    refine r_iload_n (pc := 67) (i := 3) dX12_weightBy_67 rfl 1 rfl ?_
    refine r_if_ne (pc := 68) (tgt := 79) dX12_weightBy_68 (by decide) rfl (fun c_8 => ?_) (fun c_8 => ?_)
    · replace h := (if_neg c_8).symm.trans h
      refine r_bipush (pc := 79) (v := 10) dX12_weightBy_79 (by decide +kernel) ?_
      refine r_iload (pc := 81) dX12_weightBy_81 0 rfl ?_
      refine r_isub (pc := 83) dX12_weightBy_83 ?_
      cases h
      exact r_iret (pc := 84) rfl rfl (Nat.le_refl 0) (Nat.le_refl 0) dX12_weightBy_84
    · replace h := (if_pos c_8).symm.trans h
      refine r_bipush (pc := 71) (v := 7) dX12_weightBy_71 (by decide +kernel) ?_
      refine r_iload (pc := 73) dX12_weightBy_73 0 rfl ?_
      refine r_imul (pc := 75) dX12_weightBy_75 ?_
      refine r_goto (pc := 76) (tgt := 84) dX12_weightBy_76 (by decide) ?_
      cases h
      exact r_iret (pc := 84) rfl rfl (Nat.le_refl 0) (Nat.le_refl 0) dX12_weightBy_84
  · replace h := (if_neg c_3).symm.trans h
    by_cases c_9 : wI q_2 = 1
    · replace h := (if_pos c_9).symm.trans h
      refine r_tsw (pc := 17) (tgt := 85) (k' := 1) (rfl.trans c_9) dX12_weightBy_17 (by decide) rfl (by decide) ?_
      refine r_iload_n (pc := 85) (i := 3) dX12_weightBy_85 rfl 0 rfl ?_
      refine r_iconst (pc := 86) (v := 2) dX12_weightBy_86 (by decide +kernel) ?_
      refine r_icmp_lt (pc := 87) (tgt := 94) dX12_weightBy_87 (by decide) rfl wl_2 (fun c_10 => ?_) (fun c_10 => ?_)
      · replace h := (if_pos c_10).symm.trans h
        refine r_iconst (pc := 94) (v := 0) dX12_weightBy_94 (by decide +kernel) ?_
        cases h
        exact r_iret (pc := 95) rfl rfl (Nat.le_refl 0) (Nat.le_refl 0) dX12_weightBy_95
      · replace h := (if_neg c_10).symm.trans h
        refine r_iconst (pc := 90) (v := 1) dX12_weightBy_90 (by decide +kernel) ?_
        refine r_goto (pc := 91) (tgt := 95) dX12_weightBy_91 (by decide) ?_
        cases h
        exact r_iret (pc := 95) rfl rfl (Nat.le_refl 0) (Nat.le_refl 0) dX12_weightBy_95
    · replace h := (if_neg c_9).symm.trans h
      by_cases c_11 : wI q_2 = 2
      · replace h := (if_pos c_11).symm.trans h
        refine r_tsw (pc := 17) (tgt := 96) (k' := 2) (rfl.trans c_11) dX12_weightBy_17 (by decide) rfl (by decide) ?_
        refine r_iload_n (pc := 96) (i := 3) dX12_weightBy_96 rfl 0 rfl ?_
        refine r_iconst (pc := 97) (v := 1) dX12_weightBy_97 (by decide +kernel) ?_
        refine r_icmp_ne (pc := 98) (tgt := 105) dX12_weightBy_98 (by decide) rfl wl_1 (fun c_12 => ?_) (fun c_12 => ?_)
        · replace h := (if_neg c_12).symm.trans h
          refine r_iconst (pc := 105) (v := 0) dX12_weightBy_105 (by decide +kernel) ?_
          cases h
          exact r_iret (pc := 106) rfl rfl (Nat.le_refl 0) (Nat.le_refl 0) dX12_weightBy_106
        · replace h := (if_pos c_12).symm.trans h
          refine r_iconst (pc := 101) (v := 1) dX12_weightBy_101 (by decide +kernel) ?_
          refine r_goto (pc := 102) (tgt := 106) dX12_weightBy_102 (by decide) ?_
          cases h
          exact r_iret (pc := 106) rfl rfl (Nat.le_refl 0) (Nat.le_refl 0) dX12_weightBy_106
      · replace h := (if_neg c_11).symm.trans h
        refine r_tswD (pc := 17) (tgt := 107) rfl dX12_weightBy_17 (by omega) (by decide) ?_
        refine r_iload_n (pc := 107) (i := 3) dX12_weightBy_107 rfl 0 rfl ?_
        refine r_if_ne (pc := 108) (tgt := 115) dX12_weightBy_108 (by decide) rfl (fun c_13 => ?_) (fun c_13 => ?_)
        · replace h := (if_neg c_13).symm.trans h
          refine r_iconst (pc := 115) (v := 0) dX12_weightBy_115 (by decide +kernel) ?_
          cases h
          exact r_iret (pc := 116) rfl rfl (Nat.le_refl 0) (Nat.le_refl 0) dX12_weightBy_116
        · replace h := (if_pos c_13).symm.trans h
          refine r_iconst (pc := 111) (v := 1) dX12_weightBy_111 (by decide +kernel) ?_
          refine r_goto (pc := 112) (tgt := 116) dX12_weightBy_112 (by decide) ?_
          cases h
          exact r_iret (pc := 116) rfl rfl (Nat.le_refl 0) (Nat.le_refl 0) dX12_weightBy_116
theorem kX12_weightBy {G : GG} (a0 : Nat) (x1 : Int) (x2 : Int) (M : MM) {res : Int} (oa0 : OB L0 a0 12) (h : sX12_weightBy a0 x1 x2 M = some res) : CO G xX12_weightBy [.ref (gA G a0), .int (eI x1), .int (eI x2)] L0 M (some (.int (eI res))) L0 M := CO_of (by decide +kernel) (Nat.le_of_ble_eq_true rfl) (bX12_weightBy_b0 a0 x1 x2 M oa0 h)
abbrev xX12_weigh : XX := (yX12_weigh, cX12_weigh, 6, none, 3, 67, 0, 0)
theorem ck_X12_weigh_313 : CKV xX12_weigh 313 xX12_of 1 := ⟨⟨tb_i 1784 (by decide +kernel) (by decide +kernel), tb_i 152 (by decide +kernel) (by decide +kernel), tb_i 1787 (by decide +kernel) (by decide +kernel), ⟨by decide +kernel, by decide +kernel, by decide +kernel⟩, by decide, by decide⟩, tb_i 1786 (by decide +kernel) (by decide +kernel), tb_i 73 (by decide +kernel) (by decide +kernel)⟩
theorem ck_X12_weigh_427 : CKV xX12_weigh 427 xX12_cluesTold 0 := ⟨⟨tb_i 1892 (by decide +kernel) (by decide +kernel), tb_i 152 (by decide +kernel) (by decide +kernel), tb_i 1895 (by decide +kernel) (by decide +kernel), ⟨by decide +kernel, by decide +kernel, by decide +kernel⟩, by decide, by decide⟩, tb_i 1894 (by decide +kernel) (by decide +kernel), tb_i 90 (by decide +kernel) (by decide +kernel)⟩
theorem ck_X12_weigh_436 : CKV xX12_weigh 436 xX12_weightBy 2 := ⟨⟨tb_i 1912 (by decide +kernel) (by decide +kernel), tb_i 152 (by decide +kernel) (by decide +kernel), tb_i 1915 (by decide +kernel) (by decide +kernel), ⟨by decide +kernel, by decide +kernel, by decide +kernel⟩, by decide, by decide⟩, tb_i 1914 (by decide +kernel) (by decide +kernel), tb_i 94 (by decide +kernel) (by decide +kernel)⟩
def sX12_weigh_b55 (a0 : Nat) (x1 : Int) (K26 : Int → Int → Int → MM → Option MM) (x2 : Int) (x5 : Int) (y90 : Int) (M : MM) : Option MM := ((some (x5 + 1)).bind fun v_1 => (K26 x2 y90 v_1 M))
def sX12_weigh_b26 (a0 : Nat) (x1 : Int) (K7 : Int → MM → Option MM) : Nat → Int → Int → Int → MM → Option MM
  | 0, _, _, _, _ => none
  | n + 1, x2, y3, x5, M => ((sX12_cluesTold a0 M).bind fun q_1 => (if wI q_1 ≤ wI x5 then (if 0 ≤ wI x2 ∧ wI x2 < 8 then ((some (mU M (gR a0 47) (wI x2).toNat y3)).bind fun M_5 => ((some (mU M_5 a0 48 ((M_5 a0 48) + y3))).bind fun M_6 => ((some (x2 + 1)).bind fun v_7 => (K7 v_7 M_6)))) else none) else (if wI x5 = wI x1 then (sX12_weigh_b55 a0 x1 (fun x2 y3 x5 M => sX12_weigh_b26 a0 x1 K7 n x2 y3 x5 M) x2 x5 y3 M) else ((sX12_weightBy a0 x5 x2 M).bind fun q_9 => (sX12_weigh_b55 a0 x1 (fun x2 y3 x5 M => sX12_weigh_b26 a0 x1 K7 n x2 y3 x5 M) x2 x5 (y3 * (wI q_9)) M)))))
def sX12_weigh_b7 (a0 : Nat) (x1 : Int)  : Nat → Int → MM → Option MM
  | 0, _, _ => none
  | n + 1, x2, M => (if 8 ≤ wI x2 then (some (M)) else ((sX12_of a0 (7 + x2) M).bind fun q_2 => (sX12_weigh_b26 a0 x1 (fun x2 M => sX12_weigh_b7 a0 x1 n x2 M) FU x2 (wI q_2) 0 M)))
def sX12_weigh_b0 (a0 : Nat) (x1 : Int)   (M : MM) : Option MM := ((some (mU M a0 48 0)).bind fun M_1 => (sX12_weigh_b7 a0 x1 FU 0 M_1))
def sX12_weigh (a0 : Nat) (x1 : Int) (M : MM) : Option MM := sX12_weigh_b0 a0 x1 M
set_option maxHeartbeats 4000000 in
set_option maxRecDepth 100000 in
theorem bX12_weigh_b55 {G : GG} (a0 : Nat) (x1 : Int) (oa0 : OB L0 a0 12) {K26 : Int → Int → Int → MM → Option MM} (x2 : Int) (x5 : Int) (y90 : Int) (M : MM) {res : MM} (hK26 : ∀ (x2 : Int) (y3 : Int) (x5 : Int) (M : MM), K26 x2 y3 x5 M = some res → VV G xX12_weigh (ZM G xX12_weigh (none) L0 res) L0 M 0 0 26 [(0, .ref (gA G a0)), (1, .int (eI x1)), (2, .int (eI x2)), (3, .long (eJ y3)), (5, .int (eI x5))] [])  (h : sX12_weigh_b55 a0 x1 K26 x2 x5 y90 M = some res) : VV G xX12_weigh (ZM G xX12_weigh (none) L0 res) L0 M 0 0 55 [(0, .ref (gA G a0)), (1, .int (eI x1)), (2, .int (eI x2)), (5, .int (eI x5))] [.long (eJ y90)] := by
  unfold sX12_weigh_b55 at h
  refine r_lstore_n (pc := 55) (i := 3) (lv' := [(3, .long (eJ y90)), (0, .ref (gA G a0)), (1, .int (eI x1)), (2, .int (eI x2)), (5, .int (eI x5))]) dX12_weigh_55 rfl (Nat.le_of_ble_eq_true rfl) rfl ?_
  obtain ⟨v_1, hv_1, h⟩ := ob h
  refine r_iinc (pc := 56) (y := v_1) (lv' := [(5, .int (eI v_1)), (3, .long (eJ y90)), (0, .ref (gA G a0)), (1, .int (eI x1)), (2, .int (eI x2))]) dX12_weigh_56 4 rfl (Option.some.inj hv_1) (Nat.le_of_ble_eq_true rfl) rfl ?_
  refine r_goto (pc := 59) (tgt := 26) dX12_weigh_59 (by decide) ?_
  refine r_sub (lv' := [(0, .ref (gA G a0)), (1, .int (eI x1)), (2, .int (eI x2)), (3, .long (eJ y90)), (5, .int (eI v_1))]) [2, 3, 4, 1, 0] rfl ?_
  exact hK26 _ _ _ _ h
set_option maxHeartbeats 4000000 in
set_option maxRecDepth 100000 in
theorem bX12_weigh_b26 {G : GG} (a0 : Nat) (x1 : Int) (oa0 : OB L0 a0 12) {K7 : Int → MM → Option MM} {res : MM} (hK7 : ∀ (x2 : Int) (M : MM), K7 x2 M = some res → VV G xX12_weigh (ZM G xX12_weigh (none) L0 res) L0 M 0 0 7 [(0, .ref (gA G a0)), (1, .int (eI x1)), (2, .int (eI x2))] []) : ∀ (n : Nat) (x2 : Int) (y3 : Int) (x5 : Int) (M : MM)  (h : sX12_weigh_b26 a0 x1 K7 n x2 y3 x5 M = some res), VV G xX12_weigh (ZM G xX12_weigh (none) L0 res) L0 M 0 0 26 [(0, .ref (gA G a0)), (1, .int (eI x1)), (2, .int (eI x2)), (3, .long (eJ y3)), (5, .int (eI x5))] [] := by
  intro n
  induction n with
  | zero =>
    intro x2 y3 x5 M h
    rw [sX12_weigh_b26] at h
    cases h
  | succ n ih =>
    intro x2 y3 x5 M h
    rw [sX12_weigh_b26] at h
    refine r_iload (pc := 26) dX12_weigh_26 4 rfl ?_
    refine r_aload_n (pc := 28) (i := 0) dX12_weigh_28 rfl 0 rfl ?_
    obtain ⟨q_1, hq_1, h⟩ := ob h
    refine r_cV (pc := 29) (Y := xX12_cluesTold) (As := []) (rest := [.int (eI x5)]) (v := (some (.int (eI q_1)))) (st1 := [.int (eI q_1), .int (eI x5)]) ck_X12_weigh_427 (kX12_cluesTold a0 M oa0 hq_1) oa0 rfl rfl rfl rfl (Nat.le_of_ble_eq_true rfl) ⟨rfl, rfl⟩ rfl dX12_weigh_29 ?_
    refine r_icmp_ge (pc := 32) (tgt := 62) dX12_weigh_32 (by decide) rfl rfl (fun c_2 => ?_) (fun c_2 => ?_)
    · replace h := (if_pos c_2).symm.trans h
      refine r_aload_n (pc := 62) (i := 0) dX12_weigh_62 rfl 0 rfl ?_
      have o_3 := (wt_12_47 oa0).2
      refine r_getR (pc := 63) fg_12_65 rfl oa0 (wt_12_47 oa0).1 dX12_weigh_63 ?_
      refine r_iload_n (pc := 66) (i := 2) dX12_weigh_66 rfl 2 rfl ?_
      refine r_lload_n (pc := 67) (i := 3) dX12_weigh_67 rfl 3 rfl ?_
      obtain ⟨c_4, h⟩ := og h
      obtain ⟨M_5, hM_5, h⟩ := ob h
      refine r_last (pc := 68) o_3 rfl c_4 rfl hM_5 dX12_weigh_68 ?_
      refine r_aload_n (pc := 69) (i := 0) dX12_weigh_69 rfl 0 rfl ?_
      refine r_dup (pc := 70) dX12_weigh_70 rfl ?_
      refine r_getJ (pc := 71) fg_12_433 rfl oa0 dX12_weigh_71 ?_
      refine r_lload_n (pc := 74) (i := 3) dX12_weigh_74 rfl 3 rfl ?_
      refine r_ladd (pc := 75) dX12_weigh_75 ?_
      obtain ⟨M_6, hM_6, h⟩ := ob h
      refine r_putJ (pc := 76) fg_12_433 rfl oa0 hM_6 rfl rfl dX12_weigh_76 ?_
      obtain ⟨v_7, hv_7, h⟩ := ob h
      refine r_iinc (pc := 79) (y := v_7) (lv' := [(2, .int (eI v_7)), (0, .ref (gA G a0)), (1, .int (eI x1)), (3, .long (eJ y3)), (5, .int (eI x5))]) dX12_weigh_79 2 rfl (Option.some.inj hv_7) (Nat.le_of_ble_eq_true rfl) rfl ?_
      refine r_goto (pc := 82) (tgt := 7) dX12_weigh_82 (by decide) ?_
      refine r_sub (lv' := [(0, .ref (gA G a0)), (1, .int (eI x1)), (2, .int (eI v_7))]) [1, 2, 0] rfl ?_
      exact hK7 _ _ h
    · replace h := (if_neg c_2).symm.trans h
      refine r_iload (pc := 35) dX12_weigh_35 4 rfl ?_
      refine r_iload_n (pc := 37) (i := 1) dX12_weigh_37 rfl 1 rfl ?_
      refine r_icmp_ne (pc := 38) (tgt := 45) dX12_weigh_38 (by decide) rfl rfl (fun c_8 => ?_) (fun c_8 => ?_)
      · replace h := (if_neg c_8).symm.trans h
        refine r_lload_n (pc := 45) (i := 3) dX12_weigh_45 rfl 3 rfl ?_
        refine r_aload_n (pc := 46) (i := 0) dX12_weigh_46 rfl 0 rfl ?_
        refine r_iload (pc := 47) dX12_weigh_47 4 rfl ?_
        refine r_iload_n (pc := 49) (i := 2) dX12_weigh_49 rfl 2 rfl ?_
        obtain ⟨q_9, hq_9, h⟩ := ob h
        refine r_cV (pc := 50) (Y := xX12_weightBy) (As := [.int (eI x5), .int (eI x2)]) (rest := [.long (eJ y3)]) (v := (some (.int (eI q_9)))) (st1 := [.int (eI q_9), .long (eJ y3)]) ck_X12_weigh_436 (kX12_weightBy a0 x5 x2 M oa0 hq_9) oa0 rfl rfl rfl rfl (Nat.le_of_ble_eq_true rfl) ⟨rfl, rfl⟩ rfl dX12_weigh_50 ?_
        refine r_i2l (pc := 53) rfl dX12_weigh_53 ?_
        refine r_lmul (pc := 54) dX12_weigh_54 ?_
        refine r_sub (lv' := [(0, .ref (gA G a0)), (1, .int (eI x1)), (2, .int (eI x2)), (5, .int (eI x5))]) [0, 1, 2, 4] rfl ?_
        exact bX12_weigh_b55 a0 x1 oa0 _ _ _ _ (fun v0 v1 v2 v3 v4 => ih v0 v1 v2 v3 v4) h
      · replace h := (if_pos c_8).symm.trans h
        refine r_lload_n (pc := 41) (i := 3) dX12_weigh_41 rfl 3 rfl ?_
        refine r_goto (pc := 42) (tgt := 55) dX12_weigh_42 (by decide) ?_
        refine r_sub (lv' := [(0, .ref (gA G a0)), (1, .int (eI x1)), (2, .int (eI x2)), (5, .int (eI x5))]) [0, 1, 2, 4] rfl ?_
        exact bX12_weigh_b55 a0 x1 oa0 _ _ _ _ (fun v0 v1 v2 v3 v4 => ih v0 v1 v2 v3 v4) h
set_option maxHeartbeats 4000000 in
set_option maxRecDepth 100000 in
theorem bX12_weigh_b7 {G : GG} (a0 : Nat) (x1 : Int) (oa0 : OB L0 a0 12) {res : MM} : ∀ (n : Nat) (x2 : Int) (M : MM)  (h : sX12_weigh_b7 a0 x1 n x2 M = some res), VV G xX12_weigh (ZM G xX12_weigh (none) L0 res) L0 M 0 0 7 [(0, .ref (gA G a0)), (1, .int (eI x1)), (2, .int (eI x2))] [] := by
  intro n
  induction n with
  | zero =>
    intro x2 M h
    rw [sX12_weigh_b7] at h
    cases h
  | succ n ih =>
    intro x2 M h
    rw [sX12_weigh_b7] at h
    refine r_iload_n (pc := 7) (i := 2) dX12_weigh_7 rfl 2 rfl ?_
    refine r_bipush (pc := 8) (v := 8) dX12_weigh_8 (by decide +kernel) ?_
    refine r_icmp_ge (pc := 10) (tgt := 85) dX12_weigh_10 (by decide) rfl wl_8 (fun c_1 => ?_) (fun c_1 => ?_)
    · replace h := (if_pos c_1).symm.trans h
      cases h
      exact r_vret (pc := 85) rfl (Nat.le_refl 0) (Nat.le_refl 0) dX12_weigh_85
    · replace h := (if_neg c_1).symm.trans h
      refine r_aload_n (pc := 13) (i := 0) dX12_weigh_13 rfl 0 rfl ?_
      refine r_bipush (pc := 14) (v := 7) dX12_weigh_14 (by decide +kernel) ?_
      refine r_iload_n (pc := 16) (i := 2) dX12_weigh_16 rfl 2 rfl ?_
      refine r_iadd (pc := 17) dX12_weigh_17 ?_
      obtain ⟨q_2, hq_2, h⟩ := ob h
      refine r_cV (pc := 18) (Y := xX12_of) (As := [.int (eI (7 + x2))]) (rest := []) (v := (some (.int (eI q_2)))) (st1 := [.int (eI q_2)]) ck_X12_weigh_313 (kX12_of a0 (7 + x2) M oa0 hq_2) oa0 rfl rfl rfl rfl (Nat.le_of_ble_eq_true rfl) ⟨rfl, rfl⟩ rfl dX12_weigh_18 ?_
      refine r_i2l (pc := 21) rfl dX12_weigh_21 ?_
      refine r_lstore_n (pc := 22) (i := 3) (lv' := [(3, .long (eJ (wI q_2))), (0, .ref (gA G a0)), (1, .int (eI x1)), (2, .int (eI x2))]) dX12_weigh_22 rfl (Nat.le_of_ble_eq_true rfl) rfl ?_
      refine r_iconst (pc := 23) (v := 0) dX12_weigh_23 (by decide +kernel) ?_
      refine r_istore (pc := 24) (lv' := [(5, .int (eI 0)), (3, .long (eJ (wI q_2))), (0, .ref (gA G a0)), (1, .int (eI x1)), (2, .int (eI x2))]) dX12_weigh_24 (Nat.le_of_ble_eq_true rfl) rfl ?_
      refine r_sub (lv' := [(0, .ref (gA G a0)), (1, .int (eI x1)), (2, .int (eI x2)), (3, .long (eJ (wI q_2))), (5, .int (eI 0))]) [2, 3, 4, 1, 0] rfl ?_
      exact bX12_weigh_b26 a0 x1 oa0 (fun v0 v1 v2 => ih v0 v1 v2) _ _ _ _ _ h
set_option maxHeartbeats 4000000 in
set_option maxRecDepth 100000 in
theorem bX12_weigh_b0 {G : GG} (a0 : Nat) (x1 : Int) (oa0 : OB L0 a0 12)  (M : MM) {res : MM}  (h : sX12_weigh_b0 a0 x1 M = some res) : VV G xX12_weigh (ZM G xX12_weigh (none) L0 res) L0 M 0 0 0 [(0, .ref (gA G a0)), (1, .int (eI x1))] [] := by
  unfold sX12_weigh_b0 at h
  refine r_aload_n (pc := 0) (i := 0) dX12_weigh_0 rfl 0 rfl ?_
  refine r_lconst (pc := 1) (v := 0) dX12_weigh_1 (by decide +kernel) ?_
  obtain ⟨M_1, hM_1, h⟩ := ob h
  refine r_putJ (pc := 2) fg_12_433 rfl oa0 hM_1 rfl rfl dX12_weigh_2 ?_
  refine r_iconst (pc := 5) (v := 0) dX12_weigh_5 (by decide +kernel) ?_
  refine r_istore_n (pc := 6) (i := 2) (lv' := [(2, .int (eI 0)), (0, .ref (gA G a0)), (1, .int (eI x1))]) dX12_weigh_6 rfl (Nat.le_of_ble_eq_true rfl) rfl ?_
  refine r_sub (lv' := [(0, .ref (gA G a0)), (1, .int (eI x1)), (2, .int (eI 0))]) [1, 2, 0] rfl ?_
  exact bX12_weigh_b7 a0 x1 oa0 _ _ _ h
theorem kX12_weigh {G : GG} (a0 : Nat) (x1 : Int) (M : MM) {res : MM} (oa0 : OB L0 a0 12) (h : sX12_weigh a0 x1 M = some res) : CO G xX12_weigh [.ref (gA G a0), .int (eI x1)] L0 M (none) L0 res := CO_of (by decide +kernel) (Nat.le_of_ble_eq_true rfl) (bX12_weigh_b0 a0 x1 oa0 M h)
abbrev xX12_around : XX := (yX12_around, cX12_around, 4, (some .long), 0, 0, 0, 0)
def sX12_around_b0 (a0 : Nat) (x1 : Int) (y2 : Int) (M : MM)   : Option Int := (if 0 ≤ wI x1 ∧ wI x1 < 8 then (if 0 ≤ wI (Int.tmod (wI (x1 + 1)) 8) ∧ wI (Int.tmod (wI (x1 + 1)) 8) < 8 then (if 0 ≤ wI (Int.tmod (wI ((x1 + 8) - 1)) 8) ∧ wI (Int.tmod (wI ((x1 + 8) - 1)) 8) < 8 then (some ((((y2 * (M (gR a0 47) (wI x1).toNat)) + (M (gR a0 47) (wI (Int.tmod (wI (x1 + 1)) 8)).toNat)) + (M (gR a0 47) (wI (Int.tmod (wI ((x1 + 8) - 1)) 8)).toNat)))) else none) else none) else none)
def sX12_around (a0 : Nat) (x1 : Int) (y2 : Int) (M : MM) : Option Int := sX12_around_b0 a0 x1 y2 M
set_option maxHeartbeats 4000000 in
set_option maxRecDepth 100000 in
theorem bX12_around_b0 {G : GG} (a0 : Nat) (x1 : Int) (y2 : Int) (M : MM) (oa0 : OB L0 a0 12)  {res : Int}  (h : sX12_around_b0 a0 x1 y2 M = some res) : VV G xX12_around (ZM G xX12_around (some (.long (eJ res))) L0 M) L0 M 0 0 0 [(0, .ref (gA G a0)), (1, .int (eI x1)), (2, .long (eJ y2))] [] := by
  unfold sX12_around_b0 at h
  refine r_lload_n (pc := 0) (i := 2) dX12_around_0 rfl 2 rfl ?_
  refine r_aload_n (pc := 1) (i := 0) dX12_around_1 rfl 0 rfl ?_
  have o_1 := (wt_12_47 oa0).2
  refine r_getR (pc := 2) fg_12_65 rfl oa0 (wt_12_47 oa0).1 dX12_around_2 ?_
  refine r_iload_n (pc := 5) (i := 1) dX12_around_5 rfl 1 rfl ?_
  obtain ⟨c_2, h⟩ := og h
  refine r_lald (pc := 6) o_1 rfl c_2 rfl dX12_around_6 ?_
  refine r_lmul (pc := 7) dX12_around_7 ?_
  refine r_aload_n (pc := 8) (i := 0) dX12_around_8 rfl 0 rfl ?_
  have o_3 := (wt_12_47 oa0).2
  refine r_getR (pc := 9) fg_12_65 rfl oa0 (wt_12_47 oa0).1 dX12_around_9 ?_
  refine r_iload_n (pc := 12) (i := 1) dX12_around_12 rfl 1 rfl ?_
  refine r_iconst (pc := 13) (v := 1) dX12_around_13 (by decide +kernel) ?_
  refine r_iadd (pc := 14) dX12_around_14 ?_
  refine r_bipush (pc := 15) (v := 8) dX12_around_15 (by decide +kernel) ?_
  refine r_irem (pc := 17) dX12_around_17 rfl wl_8 (by decide) ?_
  obtain ⟨c_4, h⟩ := og h
  refine r_lald (pc := 18) o_3 rfl c_4 rfl dX12_around_18 ?_
  refine r_ladd (pc := 19) dX12_around_19 ?_
  refine r_aload_n (pc := 20) (i := 0) dX12_around_20 rfl 0 rfl ?_
  have o_5 := (wt_12_47 oa0).2
  refine r_getR (pc := 21) fg_12_65 rfl oa0 (wt_12_47 oa0).1 dX12_around_21 ?_
  refine r_iload_n (pc := 24) (i := 1) dX12_around_24 rfl 1 rfl ?_
  refine r_bipush (pc := 25) (v := 8) dX12_around_25 (by decide +kernel) ?_
  refine r_iadd (pc := 27) dX12_around_27 ?_
  refine r_iconst (pc := 28) (v := 1) dX12_around_28 (by decide +kernel) ?_
  refine r_isub (pc := 29) dX12_around_29 ?_
  refine r_bipush (pc := 30) (v := 8) dX12_around_30 (by decide +kernel) ?_
  refine r_irem (pc := 32) dX12_around_32 rfl wl_8 (by decide) ?_
  obtain ⟨c_6, h⟩ := og h
  refine r_lald (pc := 33) o_5 rfl c_6 rfl dX12_around_33 ?_
  refine r_ladd (pc := 34) dX12_around_34 ?_
  cases h
  exact r_lret (pc := 35) rfl (Nat.le_refl 0) (Nat.le_refl 0) dX12_around_35
theorem kX12_around {G : GG} (a0 : Nat) (x1 : Int) (y2 : Int) (M : MM) {res : Int} (oa0 : OB L0 a0 12) (h : sX12_around a0 x1 y2 M = some res) : CO G xX12_around [.ref (gA G a0), .int (eI x1), .long (eJ y2)] L0 M (some (.long (eJ res))) L0 M := CO_of (by decide +kernel) (Nat.le_of_ble_eq_true rfl) (bX12_around_b0 a0 x1 y2 M oa0 h)
abbrev xX12_aimNow : XX := (yX12_aimNow, cX12_aimNow, 3, (some .int), 1, 23, 0, 0)
theorem ck_X12_aimNow_441 : CKV xX12_aimNow 441 xX12_around 2 := ⟨⟨tb_i 1932 (by decide +kernel) (by decide +kernel), tb_i 152 (by decide +kernel) (by decide +kernel), tb_i 1935 (by decide +kernel) (by decide +kernel), ⟨by decide +kernel, by decide +kernel, by decide +kernel⟩, by decide, by decide⟩, tb_i 1934 (by decide +kernel) (by decide +kernel), tb_i 96 (by decide +kernel) (by decide +kernel)⟩
def sX12_aimNow_b56 (a0 : Nat) (M : MM)  (x1 : Int) : Option Int := (some (x1))
def sX12_aimNow_b49 (a0 : Nat) (M : MM) (K4 : Int → Int → Option Int) (x2 : Int) (x90 : Int) : Option Int := ((some (x2 + 1)).bind fun v_1 => (K4 x90 v_1))
def sX12_aimNow_b44 (a0 : Nat) (M : MM) (K4 : Int → Int → Option Int) (x2 : Int) : Option Int := (sX12_aimNow_b49 a0 M K4 x2 x2)
def sX12_aimNow_b4 (a0 : Nat) (M : MM)  : Nat → Int → Int → Option Int
  | 0, _, _ => none
  | n + 1, x1, x2 => (if 8 ≤ wI x2 then (sX12_aimNow_b56 a0 M x1) else (if wJ (M a0 48) ≤ 0 then (sX12_aimNow_b56 a0 M x1) else (if wI x1 = (-1) then (sX12_aimNow_b44 a0 M (fun x1 x2 => sX12_aimNow_b4 a0 M n x1 x2) x2) else ((sX12_around a0 x2 2 M).bind fun q_4 => ((sX12_around a0 x1 2 M).bind fun q_5 => (if wJ q_4 ≤ wJ q_5 then (sX12_aimNow_b49 a0 M (fun x1 x2 => sX12_aimNow_b4 a0 M n x1 x2) x2 x1) else (sX12_aimNow_b44 a0 M (fun x1 x2 => sX12_aimNow_b4 a0 M n x1 x2) x2)))))))
def sX12_aimNow_b0 (a0 : Nat) (M : MM)   : Option Int := (sX12_aimNow_b4 a0 M FU (-1) 0)
def sX12_aimNow (a0 : Nat) (M : MM) : Option Int := sX12_aimNow_b0 a0 M
set_option maxHeartbeats 4000000 in
set_option maxRecDepth 100000 in
theorem bX12_aimNow_b56 {G : GG} (a0 : Nat) (M : MM) (oa0 : OB L0 a0 12) (x1 : Int) {res : Int}  (h : sX12_aimNow_b56 a0 M x1 = some res) : VV G xX12_aimNow (ZM G xX12_aimNow (some (.int (eI res))) L0 M) L0 M 0 0 56 [(1, .int (eI x1))] [] := by
  unfold sX12_aimNow_b56 at h
  refine r_iload_n (pc := 56) (i := 1) dX12_aimNow_56 rfl 0 rfl ?_
  cases h
  exact r_iret (pc := 57) rfl rfl (Nat.le_refl 0) (Nat.le_refl 0) dX12_aimNow_57
set_option maxHeartbeats 4000000 in
set_option maxRecDepth 100000 in
theorem bX12_aimNow_b49 {G : GG} (a0 : Nat) (M : MM) (oa0 : OB L0 a0 12) {K4 : Int → Int → Option Int} (x2 : Int) (x90 : Int) {res : Int} (hK4 : ∀ (x1 : Int) (x2 : Int), K4 x1 x2 = some res → VV G xX12_aimNow (ZM G xX12_aimNow (some (.int (eI res))) L0 M) L0 M 0 0 4 [(0, .ref (gA G a0)), (1, .int (eI x1)), (2, .int (eI x2))] [])  (h : sX12_aimNow_b49 a0 M K4 x2 x90 = some res) : VV G xX12_aimNow (ZM G xX12_aimNow (some (.int (eI res))) L0 M) L0 M 0 0 49 [(0, .ref (gA G a0)), (2, .int (eI x2))] [.int (eI x90)] := by
  unfold sX12_aimNow_b49 at h
  refine r_istore_n (pc := 49) (i := 1) (lv' := [(1, .int (eI x90)), (0, .ref (gA G a0)), (2, .int (eI x2))]) dX12_aimNow_49 rfl (Nat.le_of_ble_eq_true rfl) rfl ?_
  obtain ⟨v_1, hv_1, h⟩ := ob h
  refine r_iinc (pc := 50) (y := v_1) (lv' := [(2, .int (eI v_1)), (1, .int (eI x90)), (0, .ref (gA G a0))]) dX12_aimNow_50 2 rfl (Option.some.inj hv_1) (Nat.le_of_ble_eq_true rfl) rfl ?_
  refine r_goto (pc := 53) (tgt := 4) dX12_aimNow_53 (by decide) ?_
  refine r_sub (lv' := [(0, .ref (gA G a0)), (1, .int (eI x90)), (2, .int (eI v_1))]) [2, 1, 0] rfl ?_
  exact hK4 _ _ h
set_option maxHeartbeats 4000000 in
set_option maxRecDepth 100000 in
theorem bX12_aimNow_b44 {G : GG} (a0 : Nat) (M : MM) (oa0 : OB L0 a0 12) {K4 : Int → Int → Option Int} (x2 : Int) {res : Int} (hK4 : ∀ (x1 : Int) (x2 : Int), K4 x1 x2 = some res → VV G xX12_aimNow (ZM G xX12_aimNow (some (.int (eI res))) L0 M) L0 M 0 0 4 [(0, .ref (gA G a0)), (1, .int (eI x1)), (2, .int (eI x2))] [])  (h : sX12_aimNow_b44 a0 M K4 x2 = some res) : VV G xX12_aimNow (ZM G xX12_aimNow (some (.int (eI res))) L0 M) L0 M 0 0 44 [(0, .ref (gA G a0)), (2, .int (eI x2))] [] := by
  unfold sX12_aimNow_b44 at h
  refine r_iload_n (pc := 44) (i := 2) dX12_aimNow_44 rfl 1 rfl ?_
  refine r_goto (pc := 45) (tgt := 49) dX12_aimNow_45 (by decide) ?_
  refine r_sub (lv' := [(0, .ref (gA G a0)), (2, .int (eI x2))]) [0, 1] rfl ?_
  exact bX12_aimNow_b49 a0 M oa0 _ _ hK4 h
set_option maxHeartbeats 4000000 in
set_option maxRecDepth 100000 in
theorem bX12_aimNow_b4 {G : GG} (a0 : Nat) (M : MM) (oa0 : OB L0 a0 12) {res : Int} : ∀ (n : Nat) (x1 : Int) (x2 : Int)  (h : sX12_aimNow_b4 a0 M n x1 x2 = some res), VV G xX12_aimNow (ZM G xX12_aimNow (some (.int (eI res))) L0 M) L0 M 0 0 4 [(0, .ref (gA G a0)), (1, .int (eI x1)), (2, .int (eI x2))] [] := by
  intro n
  induction n with
  | zero =>
    intro x1 x2 h
    rw [sX12_aimNow_b4] at h
    cases h
  | succ n ih =>
    intro x1 x2 h
    rw [sX12_aimNow_b4] at h
    refine r_iload_n (pc := 4) (i := 2) dX12_aimNow_4 rfl 2 rfl ?_
    refine r_bipush (pc := 5) (v := 8) dX12_aimNow_5 (by decide +kernel) ?_
    refine r_icmp_ge (pc := 7) (tgt := 56) dX12_aimNow_7 (by decide) rfl wl_8 (fun c_1 => ?_) (fun c_1 => ?_)
    · replace h := (if_pos c_1).symm.trans h
      refine r_sub (lv' := [(1, .int (eI x1))]) [1] rfl ?_
      exact bX12_aimNow_b56 a0 M oa0 _ h
    · replace h := (if_neg c_1).symm.trans h
      refine r_aload_n (pc := 10) (i := 0) dX12_aimNow_10 rfl 0 rfl ?_
      refine r_getJ (pc := 11) fg_12_433 rfl oa0 dX12_aimNow_11 ?_
      refine r_lconst (pc := 14) (v := 0) dX12_aimNow_14 (by decide +kernel) ?_
      refine r_lcmp_le (pc := 15) (tgt := 56) dX12_aimNow_15 dX12_aimNow_16 (by decide) rfl wj_0 (fun c_2 => ?_) (fun c_2 => ?_)
      · replace h := (if_pos c_2).symm.trans h
        refine r_sub (lv' := [(1, .int (eI x1))]) [1] rfl ?_
        exact bX12_aimNow_b56 a0 M oa0 _ h
      · replace h := (if_neg c_2).symm.trans h
        refine r_iload_n (pc := 19) (i := 1) dX12_aimNow_19 rfl 1 rfl ?_
        refine r_iconst (pc := 20) (v := (-1)) dX12_aimNow_20 (by decide +kernel) ?_
        refine r_icmp_eq (pc := 21) (tgt := 44) dX12_aimNow_21 (by decide) rfl wl_m1 (fun c_3 => ?_) (fun c_3 => ?_)
        · replace h := (if_pos c_3).symm.trans h
          refine r_sub (lv' := [(0, .ref (gA G a0)), (2, .int (eI x2))]) [0, 2] rfl ?_
          exact bX12_aimNow_b44 a0 M oa0 _ (fun v0 v1 v2 => ih v0 v1 v2) h
        · replace h := (if_neg c_3).symm.trans h
          refine r_aload_n (pc := 24) (i := 0) dX12_aimNow_24 rfl 0 rfl ?_
          refine r_iload_n (pc := 25) (i := 2) dX12_aimNow_25 rfl 2 rfl ?_
          refine r_ldc2 (pc := 26) (v := 2) kc_12_439 dX12_aimNow_26 ?_
          obtain ⟨q_4, hq_4, h⟩ := ob h
          refine r_cV (pc := 29) (Y := xX12_around) (As := [.int (eI x2), .long (eJ 2)]) (rest := []) (v := (some (.long (eJ q_4)))) (st1 := [.long (eJ q_4)]) ck_X12_aimNow_441 (kX12_around a0 x2 2 M oa0 hq_4) oa0 rfl rfl rfl rfl (Nat.le_of_ble_eq_true rfl) ⟨rfl, rfl⟩ rfl dX12_aimNow_29 ?_
          refine r_aload_n (pc := 32) (i := 0) dX12_aimNow_32 rfl 0 rfl ?_
          refine r_iload_n (pc := 33) (i := 1) dX12_aimNow_33 rfl 1 rfl ?_
          refine r_ldc2 (pc := 34) (v := 2) kc_12_439 dX12_aimNow_34 ?_
          obtain ⟨q_5, hq_5, h⟩ := ob h
          refine r_cV (pc := 37) (Y := xX12_around) (As := [.int (eI x1), .long (eJ 2)]) (rest := [.long (eJ q_4)]) (v := (some (.long (eJ q_5)))) (st1 := [.long (eJ q_5), .long (eJ q_4)]) ck_X12_aimNow_441 (kX12_around a0 x1 2 M oa0 hq_5) oa0 rfl rfl rfl rfl (Nat.le_of_ble_eq_true rfl) ⟨rfl, rfl⟩ rfl dX12_aimNow_37 ?_
          refine r_lcmp_le (pc := 40) (tgt := 48) dX12_aimNow_40 dX12_aimNow_41 (by decide) rfl rfl (fun c_6 => ?_) (fun c_6 => ?_)
          · replace h := (if_pos c_6).symm.trans h
            refine r_iload_n (pc := 48) (i := 1) dX12_aimNow_48 rfl 1 rfl ?_
            refine r_sub (lv' := [(0, .ref (gA G a0)), (2, .int (eI x2))]) [0, 2] rfl ?_
            exact bX12_aimNow_b49 a0 M oa0 _ _ (fun v0 v1 v2 => ih v0 v1 v2) h
          · replace h := (if_neg c_6).symm.trans h
            refine r_sub (lv' := [(0, .ref (gA G a0)), (2, .int (eI x2))]) [0, 2] rfl ?_
            exact bX12_aimNow_b44 a0 M oa0 _ (fun v0 v1 v2 => ih v0 v1 v2) h
set_option maxHeartbeats 4000000 in
set_option maxRecDepth 100000 in
theorem bX12_aimNow_b0 {G : GG} (a0 : Nat) (M : MM) (oa0 : OB L0 a0 12)  {res : Int}  (h : sX12_aimNow_b0 a0 M = some res) : VV G xX12_aimNow (ZM G xX12_aimNow (some (.int (eI res))) L0 M) L0 M 0 0 0 [(0, .ref (gA G a0))] [] := by
  unfold sX12_aimNow_b0 at h
  refine r_iconst (pc := 0) (v := (-1)) dX12_aimNow_0 (by decide +kernel) ?_
  refine r_istore_n (pc := 1) (i := 1) (lv' := [(1, .int (eI (-1))), (0, .ref (gA G a0))]) dX12_aimNow_1 rfl (Nat.le_of_ble_eq_true rfl) rfl ?_
  refine r_iconst (pc := 2) (v := 0) dX12_aimNow_2 (by decide +kernel) ?_
  refine r_istore_n (pc := 3) (i := 2) (lv' := [(2, .int (eI 0)), (1, .int (eI (-1))), (0, .ref (gA G a0))]) dX12_aimNow_3 rfl (Nat.le_of_ble_eq_true rfl) rfl ?_
  refine r_sub (lv' := [(0, .ref (gA G a0)), (1, .int (eI (-1))), (2, .int (eI 0))]) [2, 1, 0] rfl ?_
  exact bX12_aimNow_b4 a0 M oa0 _ _ _ h
theorem kX12_aimNow {G : GG} (a0 : Nat) (M : MM) {res : Int} (oa0 : OB L0 a0 12) (h : sX12_aimNow a0 M = some res) : CO G xX12_aimNow [.ref (gA G a0)] L0 M (some (.int (eI res))) L0 M := CO_of (by decide +kernel) (Nat.le_of_ble_eq_true rfl) (bX12_aimNow_b0 a0 M oa0 h)
abbrev xX12_common : XX := (yX12_common, cX12_common, 10, (some .long), 0, 0, 0, 0)
def sX12_common_b6 (y0 : Int) (y2 : Int)  : Nat → Int → Int → Option Int
  | 0, _, _ => none
  | n + 1, y4, y6 => (if wJ y6 = 0 then (some (y4)) else (if wJ y6 ≠ 0 then (sX12_common_b6 y0 y2 n y6 (Int.tmod (wJ y4) (wJ y6))) else none))
def sX12_common_b0 (y0 : Int) (y2 : Int)   : Option Int := (sX12_common_b6 y0 y2 FU y0 y2)
def sX12_common (y0 : Int) (y2 : Int) : Option Int := sX12_common_b0 y0 y2
set_option maxHeartbeats 4000000 in
set_option maxRecDepth 100000 in
theorem bX12_common_b6 {G : GG} (y0 : Int) (y2 : Int) (M : MM)  {res : Int} : ∀ (n : Nat) (y4 : Int) (y6 : Int)  (h : sX12_common_b6 y0 y2 n y4 y6 = some res), VV G xX12_common (ZM G xX12_common (some (.long (eJ res))) L0 M) L0 M 0 0 6 [(4, .long (eJ y4)), (6, .long (eJ y6))] [] := by
  intro n
  induction n with
  | zero =>
    intro y4 y6 h
    rw [sX12_common_b6] at h
    cases h
  | succ n ih =>
    intro y4 y6 h
    rw [sX12_common_b6] at h
    refine r_lload (pc := 6) dX12_common_6 1 rfl ?_
    refine r_lconst (pc := 8) (v := 0) dX12_common_8 (by decide +kernel) ?_
    refine r_lcmp_eq (pc := 9) (tgt := 31) dX12_common_9 dX12_common_10 (by decide) rfl wj_0 (fun c_1 => ?_) (fun c_1 => ?_)
    · replace h := (if_pos c_1).symm.trans h
      refine r_lload (pc := 31) dX12_common_31 0 rfl ?_
      cases h
      exact r_lret (pc := 33) rfl (Nat.le_refl 0) (Nat.le_refl 0) dX12_common_33
    · replace h := (if_neg c_1).symm.trans h
      refine r_lload (pc := 13) dX12_common_13 0 rfl ?_
      refine r_lload (pc := 15) dX12_common_15 1 rfl ?_
      obtain ⟨c_2, h⟩ := og h
      refine r_lrem (pc := 17) dX12_common_17 rfl rfl c_2 ?_
      refine r_lstore (pc := 18) (lv' := [(8, .long (eJ (Int.tmod (wJ y4) (wJ y6)))), (4, .long (eJ y4)), (6, .long (eJ y6))]) dX12_common_18 (Nat.le_of_ble_eq_true rfl) rfl ?_
      refine r_lload (pc := 20) dX12_common_20 2 rfl ?_
      refine r_lstore (pc := 22) (lv' := [(4, .long (eJ y6)), (8, .long (eJ (Int.tmod (wJ y4) (wJ y6)))), (6, .long (eJ y6))]) dX12_common_22 (Nat.le_of_ble_eq_true rfl) rfl ?_
      refine r_lload (pc := 24) dX12_common_24 1 rfl ?_
      refine r_lstore (pc := 26) (lv' := [(6, .long (eJ (Int.tmod (wJ y4) (wJ y6)))), (4, .long (eJ y6)), (8, .long (eJ (Int.tmod (wJ y4) (wJ y6))))]) dX12_common_26 (Nat.le_of_ble_eq_true rfl) rfl ?_
      refine r_goto (pc := 28) (tgt := 6) dX12_common_28 (by decide) ?_
      refine r_sub (lv' := [(4, .long (eJ y6)), (6, .long (eJ (Int.tmod (wJ y4) (wJ y6))))]) [1, 0] rfl ?_
      exact ih _ _ h
set_option maxHeartbeats 4000000 in
set_option maxRecDepth 100000 in
theorem bX12_common_b0 {G : GG} (y0 : Int) (y2 : Int) (M : MM)   {res : Int}  (h : sX12_common_b0 y0 y2 = some res) : VV G xX12_common (ZM G xX12_common (some (.long (eJ res))) L0 M) L0 M 0 0 0 [(0, .long (eJ y0)), (2, .long (eJ y2))] [] := by
  unfold sX12_common_b0 at h
  refine r_lload_n (pc := 0) (i := 0) dX12_common_0 rfl 0 rfl ?_
  refine r_lstore (pc := 1) (lv' := [(4, .long (eJ y0)), (0, .long (eJ y0)), (2, .long (eJ y2))]) dX12_common_1 (Nat.le_of_ble_eq_true rfl) rfl ?_
  refine r_lload_n (pc := 3) (i := 2) dX12_common_3 rfl 2 rfl ?_
  refine r_lstore (pc := 4) (lv' := [(6, .long (eJ y2)), (4, .long (eJ y0)), (0, .long (eJ y0)), (2, .long (eJ y2))]) dX12_common_4 (Nat.le_of_ble_eq_true rfl) rfl ?_
  refine r_sub (lv' := [(4, .long (eJ y0)), (6, .long (eJ y2))]) [1, 0] rfl ?_
  exact bX12_common_b6 y0 y2 M _ _ _ h
theorem kX12_common {G : GG} (y0 : Int) (y2 : Int) (M : MM) {res : Int}  (h : sX12_common y0 y2 = some res) : CO G xX12_common [.long (eJ y0), .long (eJ y2)] L0 M (some (.long (eJ res))) L0 M := CO_of (by decide +kernel) (Nat.le_of_ble_eq_true rfl) (bX12_common_b0 y0 y2 M h)
abbrev xX12_least : XX := (yX12_least, cX12_least, 5, (some .long), 1, 29, 0, 0)
theorem ck_X12_least_445 : CKS xX12_least 445 xX12_common 2 := ⟨⟨tb_i 1919 (by decide +kernel) (by decide +kernel), tb_i 152 (by decide +kernel) (by decide +kernel), tb_i 1921 (by decide +kernel) (by decide +kernel), ⟨by decide +kernel, by decide +kernel, by decide +kernel⟩, by decide, by decide⟩, tb_i 1920 (by decide +kernel) (by decide +kernel)⟩
def sX12_least_b10 (y0 : Int) (y2 : Int) (x4 : Int)  (y90 : Int) : Option Int := ((sX12_common y0 y2).bind fun q_1 => (if wJ q_1 ≠ 0 then (some ((Int.tdiv (wJ y90) (wJ q_1)))) else none))
def sX12_least_b0 (y0 : Int) (y2 : Int) (x4 : Int)   : Option Int := (if wI x4 = 0 then (sX12_least_b10 y0 y2 x4 y0) else (sX12_least_b10 y0 y2 x4 y2))
def sX12_least (y0 : Int) (y2 : Int) (x4 : Int) : Option Int := sX12_least_b0 y0 y2 x4
set_option maxHeartbeats 4000000 in
set_option maxRecDepth 100000 in
theorem bX12_least_b10 {G : GG} (y0 : Int) (y2 : Int) (x4 : Int) (M : MM)  (y90 : Int) {res : Int}  (h : sX12_least_b10 y0 y2 x4 y90 = some res) : VV G xX12_least (ZM G xX12_least (some (.long (eJ res))) L0 M) L0 M 0 0 10 [(0, .long (eJ y0)), (2, .long (eJ y2))] [.long (eJ y90)] := by
  unfold sX12_least_b10 at h
  refine r_lload_n (pc := 10) (i := 0) dX12_least_10 rfl 0 rfl ?_
  refine r_lload_n (pc := 11) (i := 2) dX12_least_11 rfl 1 rfl ?_
  obtain ⟨q_1, hq_1, h⟩ := ob h
  refine r_cS (pc := 12) (Y := xX12_common) (As := [.long (eJ y0), .long (eJ y2)]) (rest := [.long (eJ y90)]) (v := (some (.long (eJ q_1)))) (st1 := [.long (eJ q_1), .long (eJ y90)]) ck_X12_least_445 (kX12_common y0 y2 M  hq_1) rfl rfl (Nat.le_of_ble_eq_true rfl) ⟨rfl, rfl⟩ rfl dX12_least_12 ?_
  obtain ⟨c_2, h⟩ := og h
  refine r_ldiv (pc := 15) dX12_least_15 rfl rfl c_2 ?_
  cases h
  exact r_lret (pc := 16) rfl (Nat.le_refl 0) (Nat.le_refl 0) dX12_least_16
set_option maxHeartbeats 4000000 in
set_option maxRecDepth 100000 in
theorem bX12_least_b0 {G : GG} (y0 : Int) (y2 : Int) (x4 : Int) (M : MM)   {res : Int}  (h : sX12_least_b0 y0 y2 x4 = some res) : VV G xX12_least (ZM G xX12_least (some (.long (eJ res))) L0 M) L0 M 0 0 0 [(0, .long (eJ y0)), (2, .long (eJ y2)), (4, .int (eI x4))] [] := by
  unfold sX12_least_b0 at h
  refine r_iload (pc := 0) dX12_least_0 2 rfl ?_
  refine r_if_eq (pc := 2) (tgt := 9) dX12_least_2 (by decide) rfl (fun c_1 => ?_) (fun c_1 => ?_)
  · replace h := (if_pos c_1).symm.trans h
    refine r_lload_n (pc := 9) (i := 0) dX12_least_9 rfl 0 rfl ?_
    refine r_sub (lv' := [(0, .long (eJ y0)), (2, .long (eJ y2))]) [0, 1] rfl ?_
    exact bX12_least_b10 y0 y2 x4 M _ h
  · replace h := (if_neg c_1).symm.trans h
    refine r_lload_n (pc := 5) (i := 2) dX12_least_5 rfl 1 rfl ?_
    refine r_goto (pc := 6) (tgt := 10) dX12_least_6 (by decide) ?_
    refine r_sub (lv' := [(0, .long (eJ y0)), (2, .long (eJ y2))]) [0, 1] rfl ?_
    exact bX12_least_b10 y0 y2 x4 M _ h
theorem kX12_least {G : GG} (y0 : Int) (y2 : Int) (x4 : Int) (M : MM) {res : Int}  (h : sX12_least y0 y2 x4 = some res) : CO G xX12_least [.long (eJ y0), .long (eJ y2), .int (eI x4)] L0 M (some (.long (eJ res))) L0 M := CO_of (by decide +kernel) (Nat.le_of_ble_eq_true rfl) (bX12_least_b0 y0 y2 x4 M h)
abbrev xX12_layClues : XX := (yX12_layClues, cX12_layClues, 3, (some .boolean), 4, 92, 0, 0)
theorem ck_X12_layClues_328 : CKV xX12_layClues 328 xX12_hand 1 := ⟨⟨tb_i 1780 (by decide +kernel) (by decide +kernel), tb_i 152 (by decide +kernel) (by decide +kernel), tb_i 1783 (by decide +kernel) (by decide +kernel), ⟨by decide +kernel, by decide +kernel, by decide +kernel⟩, by decide, by decide⟩, tb_i 1782 (by decide +kernel) (by decide +kernel), tb_i 72 (by decide +kernel) (by decide +kernel)⟩
theorem ck_X12_layClues_424 : CKV xX12_layClues 424 xX12_hasClues 1 := ⟨⟨tb_i 1888 (by decide +kernel) (by decide +kernel), tb_i 152 (by decide +kernel) (by decide +kernel), tb_i 1891 (by decide +kernel) (by decide +kernel), ⟨by decide +kernel, by decide +kernel, by decide +kernel⟩, by decide, by decide⟩, tb_i 1890 (by decide +kernel) (by decide +kernel), tb_i 89 (by decide +kernel) (by decide +kernel)⟩
theorem ck_X12_layClues_449 : CKV xX12_layClues 449 xX12_weigh 1 := ⟨⟨tb_i 1908 (by decide +kernel) (by decide +kernel), tb_i 152 (by decide +kernel) (by decide +kernel), tb_i 1911 (by decide +kernel) (by decide +kernel), ⟨by decide +kernel, by decide +kernel, by decide +kernel⟩, by decide, by decide⟩, tb_i 1910 (by decide +kernel) (by decide +kernel), tb_i 93 (by decide +kernel) (by decide +kernel)⟩
def sX12_layClues_b0 (a0 : Nat) (x1 : Int) (x2 : Int)   (M : MM) : Option (Int × MM) := ((sX12_hasClues a0 x2 M).bind fun q_1 => (if wI (q_1.1) = 0 then (some ((0, q_1.2))) else ((sX12_hand a0 x1 q_1.2).bind fun q_3 => (if wI (q_3.1) = 0 then (some ((0, q_3.2))) else ((sX12_weigh a0 (-1) q_3.2).bind fun q_5 => (some ((1, q_5))))))))
def sX12_layClues (a0 : Nat) (x1 : Int) (x2 : Int) (M : MM) : Option (Int × MM) := sX12_layClues_b0 a0 x1 x2 M
set_option maxHeartbeats 4000000 in
set_option maxRecDepth 100000 in
theorem bX12_layClues_b0 {G : GG} (a0 : Nat) (x1 : Int) (x2 : Int) (oa0 : OB L0 a0 12)  (M : MM) {res : (Int × MM)}  (h : sX12_layClues_b0 a0 x1 x2 M = some res) : VV G xX12_layClues (ZM G xX12_layClues (some (.int (eI res.1))) L0 res.2) L0 M 0 0 0 [(0, .ref (gA G a0)), (1, .int (eI x1)), (2, .int (eI x2))] [] := by
  unfold sX12_layClues_b0 at h
  refine r_aload_n (pc := 0) (i := 0) dX12_layClues_0 rfl 0 rfl ?_
  refine r_iload_n (pc := 1) (i := 2) dX12_layClues_1 rfl 2 rfl ?_
  obtain ⟨q_1, hq_1, h⟩ := ob h
  refine r_cV (pc := 2) (Y := xX12_hasClues) (As := [.int (eI x2)]) (rest := []) (v := (some (.int (eI (q_1.1))))) (st1 := [.int (eI (q_1.1))]) ck_X12_layClues_424 (kX12_hasClues a0 x2 M oa0 hq_1) oa0 rfl rfl rfl rfl (Nat.le_of_ble_eq_true rfl) ⟨rfl, rfl⟩ rfl dX12_layClues_2 ?_
  refine r_if_eq (pc := 5) (tgt := 16) dX12_layClues_5 (by decide) rfl (fun c_2 => ?_) (fun c_2 => ?_)
  · replace h := (if_pos c_2).symm.trans h
    refine r_iconst (pc := 16) (v := 0) dX12_layClues_16 (by decide +kernel) ?_
    cases h
    exact r_iret (pc := 17) rfl (zn_ok (Or.inl rfl)).1 (Nat.le_refl 0) (Nat.le_refl 0) dX12_layClues_17
  · replace h := (if_neg c_2).symm.trans h
    refine r_aload_n (pc := 8) (i := 0) dX12_layClues_8 rfl 0 rfl ?_
    refine r_iload_n (pc := 9) (i := 1) dX12_layClues_9 rfl 1 rfl ?_
    obtain ⟨q_3, hq_3, h⟩ := ob h
    refine r_cV (pc := 10) (Y := xX12_hand) (As := [.int (eI x1)]) (rest := []) (v := (some (.int (eI (q_3.1))))) (st1 := [.int (eI (q_3.1))]) ck_X12_layClues_328 (kX12_hand a0 x1 q_1.2 oa0 hq_3) oa0 rfl rfl rfl rfl (Nat.le_of_ble_eq_true rfl) ⟨rfl, rfl⟩ rfl dX12_layClues_10 ?_
    refine r_if_ne (pc := 13) (tgt := 18) dX12_layClues_13 (by decide) rfl (fun c_4 => ?_) (fun c_4 => ?_)
    · replace h := (if_neg c_4).symm.trans h
      refine r_aload_n (pc := 18) (i := 0) dX12_layClues_18 rfl 0 rfl ?_
      refine r_iconst (pc := 19) (v := (-1)) dX12_layClues_19 (by decide +kernel) ?_
      obtain ⟨q_5, hq_5, h⟩ := ob h
      refine r_cV (pc := 20) (Y := xX12_weigh) (As := [.int (eI (-1))]) (rest := []) (v := none) (st1 := []) ck_X12_layClues_449 (kX12_weigh a0 (-1) q_3.2 oa0 hq_5) oa0 rfl rfl rfl rfl (Nat.le_of_ble_eq_true rfl) ⟨rfl, rfl⟩ rfl dX12_layClues_20 ?_
      refine r_iconst (pc := 23) (v := 1) dX12_layClues_23 (by decide +kernel) ?_
      cases h
      exact r_iret (pc := 24) rfl (zn_ok (Or.inr rfl)).1 (Nat.le_refl 0) (Nat.le_refl 0) dX12_layClues_24
    · replace h := (if_pos c_4).symm.trans h
      refine r_iconst (pc := 16) (v := 0) dX12_layClues_16 (by decide +kernel) ?_
      cases h
      exact r_iret (pc := 17) rfl (zn_ok (Or.inl rfl)).1 (Nat.le_refl 0) (Nat.le_refl 0) dX12_layClues_17
theorem kX12_layClues {G : GG} (a0 : Nat) (x1 : Int) (x2 : Int) (M : MM) {res : (Int × MM)} (oa0 : OB L0 a0 12) (h : sX12_layClues a0 x1 x2 M = some res) : CO G xX12_layClues [.ref (gA G a0), .int (eI x1), .int (eI x2)] L0 M (some (.int (eI res.1))) L0 res.2 := CO_of (by decide +kernel) (Nat.le_of_ble_eq_true rfl) (bX12_layClues_b0 a0 x1 x2 oa0 M h)
