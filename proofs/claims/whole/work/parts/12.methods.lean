abbrev xX6_runs : XX := (yX6_runs, cX6_runs, 5, (some .int), 5, 118, 0, 0)
theorem ck_X6_runs_21 : CKV xX6_runs 21 xX6_begin 1 := ⟨⟨tb_i 911 (by decide +kernel) (by decide +kernel), tb_i 147 (by decide +kernel) (by decide +kernel), tb_i 914 (by decide +kernel) (by decide +kernel), ⟨by decide +kernel, by decide +kernel, by decide +kernel⟩, by decide, by decide⟩, tb_i 913 (by decide +kernel) (by decide +kernel), tb_i 15 (by decide +kernel) (by decide +kernel)⟩
theorem ck_X6_runs_40 : CKV xX6_runs 40 xX6_canDo 4 := ⟨⟨tb_i 916 (by decide +kernel) (by decide +kernel), tb_i 147 (by decide +kernel) (by decide +kernel), tb_i 919 (by decide +kernel) (by decide +kernel), ⟨by decide +kernel, by decide +kernel, by decide +kernel⟩, by decide, by decide⟩, tb_i 918 (by decide +kernel) (by decide +kernel), tb_i 16 (by decide +kernel) (by decide +kernel)⟩
def sX6_runs_b61 (a0 : Nat) (a1 : Nat) (a2 : Nat) (x3 : Int)  (x4 : Int) (M : MM) : Option (Int × MM) := (some ((x4, M)))
def sX6_runs_b8 (a0 : Nat) (a1 : Nat) (a2 : Nat) (x3 : Int)  : Nat → Int → MM → Option (Int × MM)
  | 0, _, _ => none
  | n + 1, x4, M => (if wI x3 ≤ wI x4 then (sX6_runs_b61 a0 a1 a2 x3 x4 M) else (if wI (M a2 4) ≤ wI x4 then (sX6_runs_b61 a0 a1 a2 x3 x4 M) else (if 0 ≤ wI x4 ∧ wI x4 < (ln (gR a2 1)) then (if 0 ≤ wI x4 ∧ wI x4 < (ln (gR a2 2)) then (if 0 ≤ wI x4 ∧ wI x4 < (ln (gR a2 3)) then ((sX6_canDo a0 a1 ((M (gR a2 1) (wI x4).toNat) + 12) (M (gR a2 2) (wI x4).toNat) (M (gR a2 3) (wI x4).toNat) M).bind fun q_9 => (if wI (q_9.1) = 0 then (sX6_runs_b61 a0 a1 a2 x3 x4 q_9.2) else ((some (x4 + 1)).bind fun v_11 => (sX6_runs_b8 a0 a1 a2 x3 n v_11 q_9.2)))) else none) else none) else none)))
def sX6_runs_b0 (a0 : Nat) (a1 : Nat) (a2 : Nat) (x3 : Int)   (M : MM) : Option (Int × MM) := ((sX6_begin a0 a1 M).bind fun q_1 => (sX6_runs_b8 a0 a1 a2 x3 FU 0 q_1))
def sX6_runs (a0 : Nat) (a1 : Nat) (a2 : Nat) (x3 : Int) (M : MM) : Option (Int × MM) := sX6_runs_b0 a0 a1 a2 x3 M
set_option maxHeartbeats 4000000 in
set_option maxRecDepth 100000 in
theorem bX6_runs_b61 {G : GG} (a0 : Nat) (a1 : Nat) (a2 : Nat) (x3 : Int) (oa0 : OB L0 a0 6) (oa1 : OB L0 a1 5) (oa2 : OB L0 a2 3) (x4 : Int) (M : MM) {res : (Int × MM)}  (h : sX6_runs_b61 a0 a1 a2 x3 x4 M = some res) : VV G xX6_runs (ZM G xX6_runs (some (.int (eI res.1))) L0 res.2) L0 M 0 0 61 [(4, .int (eI x4))] [] := by
  unfold sX6_runs_b61 at h
  refine r_iload (pc := 61) dX6_runs_61 0 rfl ?_
  cases h
  exact r_iret (pc := 63) rfl rfl (Nat.le_refl 0) (Nat.le_refl 0) dX6_runs_63
set_option maxHeartbeats 4000000 in
set_option maxRecDepth 100000 in
theorem bX6_runs_b8 {G : GG} (a0 : Nat) (a1 : Nat) (a2 : Nat) (x3 : Int) (oa0 : OB L0 a0 6) (oa1 : OB L0 a1 5) (oa2 : OB L0 a2 3) {res : (Int × MM)} : ∀ (n : Nat) (x4 : Int) (M : MM)  (h : sX6_runs_b8 a0 a1 a2 x3 n x4 M = some res), VV G xX6_runs (ZM G xX6_runs (some (.int (eI res.1))) L0 res.2) L0 M 0 0 8 [(0, .ref (gA G a0)), (1, .ref (gA G a1)), (2, .ref (gA G a2)), (3, .int (eI x3)), (4, .int (eI x4))] [] := by
  intro n
  induction n with
  | zero =>
    intro x4 M h
    rw [sX6_runs_b8] at h
    cases h
  | succ n ih =>
    intro x4 M h
    rw [sX6_runs_b8] at h
    refine r_iload (pc := 8) dX6_runs_8 4 rfl ?_
    refine r_iload_n (pc := 10) (i := 3) dX6_runs_10 rfl 3 rfl ?_
    refine r_icmp_ge (pc := 11) (tgt := 61) dX6_runs_11 (by decide) rfl rfl (fun c_1 => ?_) (fun c_1 => ?_)
    · replace h := (if_pos c_1).symm.trans h
      refine r_sub (lv' := [(4, .int (eI x4))]) [4] rfl ?_
      exact bX6_runs_b61 a0 a1 a2 x3 oa0 oa1 oa2 _ _ h
    · replace h := (if_neg c_1).symm.trans h
      refine r_iload (pc := 14) dX6_runs_14 4 rfl ?_
      refine r_aload_n (pc := 16) (i := 2) dX6_runs_16 rfl 2 rfl ?_
      refine r_getI (pc := 17) fg_6_25 rfl oa2 dX6_runs_17 ?_
      refine r_icmp_ge (pc := 20) (tgt := 61) dX6_runs_20 (by decide) rfl rfl (fun c_2 => ?_) (fun c_2 => ?_)
      · replace h := (if_pos c_2).symm.trans h
        refine r_sub (lv' := [(4, .int (eI x4))]) [4] rfl ?_
        exact bX6_runs_b61 a0 a1 a2 x3 oa0 oa1 oa2 _ _ h
      · replace h := (if_neg c_2).symm.trans h
        refine r_aload_n (pc := 23) (i := 0) dX6_runs_23 rfl 0 rfl ?_
        refine r_aload_n (pc := 24) (i := 1) dX6_runs_24 rfl 1 rfl ?_
        refine r_aload_n (pc := 25) (i := 2) dX6_runs_25 rfl 2 rfl ?_
        have o_3 := (wt_3_1 oa2).2
        refine r_getR (pc := 26) fg_6_31 rfl oa2 (wt_3_1 oa2).1 dX6_runs_26 ?_
        refine r_iload (pc := 29) dX6_runs_29 4 rfl ?_
        obtain ⟨c_4, h⟩ := og h
        refine r_iald (pc := 31) o_3 rfl c_4 rfl dX6_runs_31 ?_
        refine r_bipush (pc := 32) (v := 12) dX6_runs_32 (by decide +kernel) ?_
        refine r_iadd (pc := 34) dX6_runs_34 ?_
        refine r_aload_n (pc := 35) (i := 2) dX6_runs_35 rfl 2 rfl ?_
        have o_5 := (wt_3_2 oa2).2
        refine r_getR (pc := 36) fg_6_34 rfl oa2 (wt_3_2 oa2).1 dX6_runs_36 ?_
        refine r_iload (pc := 39) dX6_runs_39 4 rfl ?_
        obtain ⟨c_6, h⟩ := og h
        refine r_iald (pc := 41) o_5 rfl c_6 rfl dX6_runs_41 ?_
        refine r_aload_n (pc := 42) (i := 2) dX6_runs_42 rfl 2 rfl ?_
        have o_7 := (wt_3_3 oa2).2
        refine r_getR (pc := 43) fg_6_37 rfl oa2 (wt_3_3 oa2).1 dX6_runs_43 ?_
        refine r_iload (pc := 46) dX6_runs_46 4 rfl ?_
        obtain ⟨c_8, h⟩ := og h
        refine r_iald (pc := 48) o_7 rfl c_8 rfl dX6_runs_48 ?_
        obtain ⟨q_9, hq_9, h⟩ := ob h
        refine r_cV (pc := 49) (Y := xX6_canDo) (As := [.ref (gA G a1), .int (eI ((M (gR a2 1) (wI x4).toNat) + 12)), .int (eI (M (gR a2 2) (wI x4).toNat)), .int (eI (M (gR a2 3) (wI x4).toNat))]) (rest := []) (v := (some (.int (eI (q_9.1))))) (st1 := [.int (eI (q_9.1))]) ck_X6_runs_40 (kX6_canDo a0 a1 ((M (gR a2 1) (wI x4).toNat) + 12) (M (gR a2 2) (wI x4).toNat) (M (gR a2 3) (wI x4).toNat) M oa0 oa1 hq_9) oa0 rfl rfl rfl rfl (Nat.le_of_ble_eq_true rfl) ⟨rfl, rfl⟩ rfl dX6_runs_49 ?_
        refine r_if_eq (pc := 52) (tgt := 61) dX6_runs_52 (by decide) rfl (fun c_10 => ?_) (fun c_10 => ?_)
        · replace h := (if_pos c_10).symm.trans h
          refine r_sub (lv' := [(4, .int (eI x4))]) [4] rfl ?_
          exact bX6_runs_b61 a0 a1 a2 x3 oa0 oa1 oa2 _ _ h
        · replace h := (if_neg c_10).symm.trans h
          obtain ⟨v_11, hv_11, h⟩ := ob h
          refine r_iinc (pc := 55) (y := v_11) (lv' := [(4, .int (eI v_11)), (0, .ref (gA G a0)), (1, .ref (gA G a1)), (2, .ref (gA G a2)), (3, .int (eI x3))]) dX6_runs_55 4 rfl (Option.some.inj hv_11) (Nat.le_of_ble_eq_true rfl) rfl ?_
          refine r_goto (pc := 58) (tgt := 8) dX6_runs_58 (by decide) ?_
          refine r_sub (lv' := [(0, .ref (gA G a0)), (1, .ref (gA G a1)), (2, .ref (gA G a2)), (3, .int (eI x3)), (4, .int (eI v_11))]) [1, 2, 3, 4, 0] rfl ?_
          exact ih _ _ h
set_option maxHeartbeats 4000000 in
set_option maxRecDepth 100000 in
theorem bX6_runs_b0 {G : GG} (a0 : Nat) (a1 : Nat) (a2 : Nat) (x3 : Int) (oa0 : OB L0 a0 6) (oa1 : OB L0 a1 5) (oa2 : OB L0 a2 3)  (M : MM) {res : (Int × MM)}  (h : sX6_runs_b0 a0 a1 a2 x3 M = some res) : VV G xX6_runs (ZM G xX6_runs (some (.int (eI res.1))) L0 res.2) L0 M 0 0 0 [(0, .ref (gA G a0)), (1, .ref (gA G a1)), (2, .ref (gA G a2)), (3, .int (eI x3))] [] := by
  unfold sX6_runs_b0 at h
  refine r_aload_n (pc := 0) (i := 0) dX6_runs_0 rfl 0 rfl ?_
  refine r_aload_n (pc := 1) (i := 1) dX6_runs_1 rfl 1 rfl ?_
  obtain ⟨q_1, hq_1, h⟩ := ob h
  refine r_cV (pc := 2) (Y := xX6_begin) (As := [.ref (gA G a1)]) (rest := []) (v := none) (st1 := []) ck_X6_runs_21 (kX6_begin a0 a1 M oa0 oa1 hq_1) oa0 rfl rfl rfl rfl (Nat.le_of_ble_eq_true rfl) ⟨rfl, rfl⟩ rfl dX6_runs_2 ?_
  refine r_iconst (pc := 5) (v := 0) dX6_runs_5 (by decide +kernel) ?_
  refine r_istore (pc := 6) (lv' := [(4, .int (eI 0)), (0, .ref (gA G a0)), (1, .ref (gA G a1)), (2, .ref (gA G a2)), (3, .int (eI x3))]) dX6_runs_6 (Nat.le_of_ble_eq_true rfl) rfl ?_
  refine r_sub (lv' := [(0, .ref (gA G a0)), (1, .ref (gA G a1)), (2, .ref (gA G a2)), (3, .int (eI x3)), (4, .int (eI 0))]) [1, 2, 3, 4, 0] rfl ?_
  exact bX6_runs_b8 a0 a1 a2 x3 oa0 oa1 oa2 _ _ _ h
theorem kX6_runs {G : GG} (a0 : Nat) (a1 : Nat) (a2 : Nat) (x3 : Int) (M : MM) {res : (Int × MM)} (oa0 : OB L0 a0 6) (oa1 : OB L0 a1 5) (oa2 : OB L0 a2 3) (h : sX6_runs a0 a1 a2 x3 M = some res) : CO G xX6_runs [.ref (gA G a0), .ref (gA G a1), .ref (gA G a2), .int (eI x3)] L0 M (some (.int (eI res.1))) L0 res.2 := CO_of (by decide +kernel) (Nat.le_of_ble_eq_true rfl) (bX6_runs_b0 a0 a1 a2 x3 oa0 oa1 oa2 M h)
abbrev xX6_leastBelly : XX := (yX6_leastBelly, cX6_leastBelly, 1, (some .int), 0, 0, 0, 0)
def sX6_leastBelly_b0 (a0 : Nat) (M : MM)   : Int := (if wI (M a0 4) = (-1) then ((M a0 12) + 1) else (((M a0 12) - (M a0 13)) + 1))
def sX6_leastBelly (a0 : Nat) (M : MM) : Int := sX6_leastBelly_b0 a0 M
set_option maxHeartbeats 4000000 in
set_option maxRecDepth 100000 in
theorem bX6_leastBelly_b0 {G : GG} (a0 : Nat) (M : MM) (oa0 : OB L0 a0 6)  {res : Int}  (h : sX6_leastBelly_b0 a0 M = res) : VV G xX6_leastBelly (ZM G xX6_leastBelly (some (.int (eI res))) L0 M) L0 M 0 0 0 [(0, .ref (gA G a0))] [] := by
  unfold sX6_leastBelly_b0 at h
  refine r_aload_n (pc := 0) (i := 0) dX6_leastBelly_0 rfl 0 rfl ?_
  refine r_getI (pc := 1) fg_6_56 rfl oa0 dX6_leastBelly_1 ?_
  refine r_iconst (pc := 4) (v := (-1)) dX6_leastBelly_4 (by decide +kernel) ?_
  refine r_icmp_ne (pc := 5) (tgt := 17) dX6_leastBelly_5 (by decide) rfl wl_m1 (fun c_1 => ?_) (fun c_1 => ?_)
  · replace h := (if_neg c_1).symm.trans h
    refine r_aload_n (pc := 17) (i := 0) dX6_leastBelly_17 rfl 0 rfl ?_
    refine r_getI (pc := 18) fg_6_72 rfl oa0 dX6_leastBelly_18 ?_
    refine r_aload_n (pc := 21) (i := 0) dX6_leastBelly_21 rfl 0 rfl ?_
    refine r_getI (pc := 22) fg_6_75 rfl oa0 dX6_leastBelly_22 ?_
    refine r_isub (pc := 25) dX6_leastBelly_25 ?_
    refine r_iconst (pc := 26) (v := 1) dX6_leastBelly_26 (by decide +kernel) ?_
    refine r_iadd (pc := 27) dX6_leastBelly_27 ?_
    cases h
    exact r_iret (pc := 28) rfl rfl (Nat.le_refl 0) (Nat.le_refl 0) dX6_leastBelly_28
  · replace h := (if_pos c_1).symm.trans h
    refine r_aload_n (pc := 8) (i := 0) dX6_leastBelly_8 rfl 0 rfl ?_
    refine r_getI (pc := 9) fg_6_72 rfl oa0 dX6_leastBelly_9 ?_
    refine r_iconst (pc := 12) (v := 1) dX6_leastBelly_12 (by decide +kernel) ?_
    refine r_iadd (pc := 13) dX6_leastBelly_13 ?_
    refine r_goto (pc := 14) (tgt := 28) dX6_leastBelly_14 (by decide) ?_
    cases h
    exact r_iret (pc := 28) rfl rfl (Nat.le_refl 0) (Nat.le_refl 0) dX6_leastBelly_28
theorem kX6_leastBelly {G : GG} (a0 : Nat) (M : MM) (oa0 : OB L0 a0 6) : CO G xX6_leastBelly [.ref (gA G a0)] L0 M (some (.int (eI (sX6_leastBelly a0 M)))) L0 M := CO_of (by decide +kernel) (Nat.le_of_ble_eq_true rfl) (bX6_leastBelly_b0 a0 M oa0 rfl)
abbrev xX6_mostBelly : XX := (yX6_mostBelly, cX6_mostBelly, 1, (some .int), 1, 23, 0, 0)
def sX6_mostBelly_b0 (a0 : Nat) (M : MM)   : Int := (if wI (M a0 4) = (-1) then 30 else (min 30 (wI (M a0 12))))
def sX6_mostBelly (a0 : Nat) (M : MM) : Int := sX6_mostBelly_b0 a0 M
set_option maxHeartbeats 4000000 in
set_option maxRecDepth 100000 in
theorem bX6_mostBelly_b0 {G : GG} (a0 : Nat) (M : MM) (oa0 : OB L0 a0 6)  {res : Int}  (h : sX6_mostBelly_b0 a0 M = res) : VV G xX6_mostBelly (ZM G xX6_mostBelly (some (.int (eI res))) L0 M) L0 M 0 0 0 [(0, .ref (gA G a0))] [] := by
  unfold sX6_mostBelly_b0 at h
  refine r_aload_n (pc := 0) (i := 0) dX6_mostBelly_0 rfl 0 rfl ?_
  refine r_getI (pc := 1) fg_6_56 rfl oa0 dX6_mostBelly_1 ?_
  refine r_iconst (pc := 4) (v := (-1)) dX6_mostBelly_4 (by decide +kernel) ?_
  refine r_icmp_ne (pc := 5) (tgt := 13) dX6_mostBelly_5 (by decide) rfl wl_m1 (fun c_1 => ?_) (fun c_1 => ?_)
  · replace h := (if_neg c_1).symm.trans h
    refine r_bipush (pc := 13) (v := 30) dX6_mostBelly_13 (by decide +kernel) ?_
    refine r_aload_n (pc := 15) (i := 0) dX6_mostBelly_15 rfl 0 rfl ?_
    refine r_getI (pc := 16) fg_6_72 rfl oa0 dX6_mostBelly_16 ?_
    refine r_mmin (pc := 19) ml_6_144 ⟨Nat.le_of_ble_eq_true rfl, Nat.le_of_ble_eq_true rfl, Nat.le_of_ble_eq_true rfl, Nat.le_of_ble_eq_true rfl⟩ wl_30 rfl dX6_mostBelly_19 ?_
    cases h
    exact r_iret (pc := 22) rfl rfl (Nat.le_refl 0) (Nat.le_refl 0) dX6_mostBelly_22
  · replace h := (if_pos c_1).symm.trans h
    refine r_bipush (pc := 8) (v := 30) dX6_mostBelly_8 (by decide +kernel) ?_
    refine r_goto (pc := 10) (tgt := 22) dX6_mostBelly_10 (by decide) ?_
    cases h
    exact r_iret (pc := 22) rfl rfl (Nat.le_refl 0) (Nat.le_refl 0) dX6_mostBelly_22
theorem kX6_mostBelly {G : GG} (a0 : Nat) (M : MM) (oa0 : OB L0 a0 6) : CO G xX6_mostBelly [.ref (gA G a0)] L0 M (some (.int (eI (sX6_mostBelly a0 M)))) L0 M := CO_of (by decide +kernel) (Nat.le_of_ble_eq_true rfl) (bX6_mostBelly_b0 a0 M oa0 rfl)
abbrev xX6_answer : XX := (yX6_answer, cX6_answer, 3, (some .int), 0, 0, 0, 0)
def sX6_answer_b27 (a0 : Nat) (a1 : Nat) (x2 : Int) (M : MM)   : Option Int := (if wI x2 = 0 then (some ((M a0 0))) else (if wI x2 = 1 then (some ((M a0 1))) else (if wI x2 = 2 then (some ((M a0 2))) else (if wI x2 = 3 then (some ((M a0 3))) else (if wI x2 = 4 then (some ((M a0 4))) else (if wI x2 = 5 then (if wI (M a0 5) = 0 then (some (0)) else (some (1))) else (if wI x2 = 6 then (some ((M a0 6))) else (if wI x2 = 7 then (some ((M a0 7))) else (if wI x2 = 8 then (some ((M a0 8))) else (some ((-2))))))))))))
def sX6_answer_b0 (a0 : Nat) (a1 : Nat) (x2 : Int) (M : MM)   : Option Int := (if wI x2 < 10 then (sX6_answer_b27 a0 a1 x2 M) else (if wI (10 + (M a1 0)) ≤ wI x2 then (sX6_answer_b27 a0 a1 x2 M) else (if 0 ≤ wI (x2 - 10) ∧ wI (x2 - 10) < 5 then (some ((M (gR a0 9) (wI (x2 - 10)).toNat))) else none)))
def sX6_answer (a0 : Nat) (a1 : Nat) (x2 : Int) (M : MM) : Option Int := sX6_answer_b0 a0 a1 x2 M
set_option maxHeartbeats 4000000 in
set_option maxRecDepth 100000 in
theorem bX6_answer_b27 {G : GG} (a0 : Nat) (a1 : Nat) (x2 : Int) (M : MM) (oa0 : OB L0 a0 6) (oa1 : OB L0 a1 5)  {res : Int}  (h : sX6_answer_b27 a0 a1 x2 M = some res) : VV G xX6_answer (ZM G xX6_answer (some (.int (eI res))) L0 M) L0 M 0 0 27 [(0, .ref (gA G a0)), (2, .int (eI x2))] [] := by
  unfold sX6_answer_b27 at h
  refine r_iload_n (pc := 27) (i := 2) dX6_answer_27 rfl 1 rfl ?_
  by_cases c_1 : wI x2 = 0
  · replace h := (if_pos c_1).symm.trans h
    refine r_tsw (pc := 28) (tgt := 80) (k' := 0) (rfl.trans c_1) dX6_answer_28 (by decide) rfl (by decide) ?_
    refine r_aload_n (pc := 80) (i := 0) dX6_answer_80 rfl 0 rfl ?_
    refine r_getI (pc := 81) fg_6_44 rfl oa0 dX6_answer_81 ?_
    cases h
    exact r_iret (pc := 84) rfl rfl (Nat.le_refl 0) (Nat.le_refl 0) dX6_answer_84
  · replace h := (if_neg c_1).symm.trans h
    by_cases c_2 : wI x2 = 1
    · replace h := (if_pos c_2).symm.trans h
      refine r_tsw (pc := 28) (tgt := 85) (k' := 1) (rfl.trans c_2) dX6_answer_28 (by decide) rfl (by decide) ?_
      refine r_aload_n (pc := 85) (i := 0) dX6_answer_85 rfl 0 rfl ?_
      refine r_getI (pc := 86) fg_6_47 rfl oa0 dX6_answer_86 ?_
      cases h
      exact r_iret (pc := 89) rfl rfl (Nat.le_refl 0) (Nat.le_refl 0) dX6_answer_89
    · replace h := (if_neg c_2).symm.trans h
      by_cases c_3 : wI x2 = 2
      · replace h := (if_pos c_3).symm.trans h
        refine r_tsw (pc := 28) (tgt := 90) (k' := 2) (rfl.trans c_3) dX6_answer_28 (by decide) rfl (by decide) ?_
        refine r_aload_n (pc := 90) (i := 0) dX6_answer_90 rfl 0 rfl ?_
        refine r_getI (pc := 91) fg_6_50 rfl oa0 dX6_answer_91 ?_
        cases h
        exact r_iret (pc := 94) rfl rfl (Nat.le_refl 0) (Nat.le_refl 0) dX6_answer_94
      · replace h := (if_neg c_3).symm.trans h
        by_cases c_4 : wI x2 = 3
        · replace h := (if_pos c_4).symm.trans h
          refine r_tsw (pc := 28) (tgt := 95) (k' := 3) (rfl.trans c_4) dX6_answer_28 (by decide) rfl (by decide) ?_
          refine r_aload_n (pc := 95) (i := 0) dX6_answer_95 rfl 0 rfl ?_
          refine r_getI (pc := 96) fg_6_53 rfl oa0 dX6_answer_96 ?_
          cases h
          exact r_iret (pc := 99) rfl rfl (Nat.le_refl 0) (Nat.le_refl 0) dX6_answer_99
        · replace h := (if_neg c_4).symm.trans h
          by_cases c_5 : wI x2 = 4
          · replace h := (if_pos c_5).symm.trans h
            refine r_tsw (pc := 28) (tgt := 100) (k' := 4) (rfl.trans c_5) dX6_answer_28 (by decide) rfl (by decide) ?_
            refine r_aload_n (pc := 100) (i := 0) dX6_answer_100 rfl 0 rfl ?_
            refine r_getI (pc := 101) fg_6_56 rfl oa0 dX6_answer_101 ?_
            cases h
            exact r_iret (pc := 104) rfl rfl (Nat.le_refl 0) (Nat.le_refl 0) dX6_answer_104
          · replace h := (if_neg c_5).symm.trans h
            by_cases c_6 : wI x2 = 5
            · replace h := (if_pos c_6).symm.trans h
              refine r_tsw (pc := 28) (tgt := 105) (k' := 5) (rfl.trans c_6) dX6_answer_28 (by decide) rfl (by decide) ?_
              refine r_aload_n (pc := 105) (i := 0) dX6_answer_105 rfl 0 rfl ?_
              refine r_getI (pc := 106) fg_6_59 rfl oa0 dX6_answer_106 ?_
              refine r_if_eq (pc := 109) (tgt := 116) dX6_answer_109 (by decide) rfl (fun c_7 => ?_) (fun c_7 => ?_)
              · replace h := (if_pos c_7).symm.trans h
                refine r_iconst (pc := 116) (v := 0) dX6_answer_116 (by decide +kernel) ?_
                cases h
                exact r_iret (pc := 117) rfl rfl (Nat.le_refl 0) (Nat.le_refl 0) dX6_answer_117
              · replace h := (if_neg c_7).symm.trans h
                refine r_iconst (pc := 112) (v := 1) dX6_answer_112 (by decide +kernel) ?_
                refine r_goto (pc := 113) (tgt := 117) dX6_answer_113 (by decide) ?_
                cases h
                exact r_iret (pc := 117) rfl rfl (Nat.le_refl 0) (Nat.le_refl 0) dX6_answer_117
            · replace h := (if_neg c_6).symm.trans h
              by_cases c_8 : wI x2 = 6
              · replace h := (if_pos c_8).symm.trans h
                refine r_tsw (pc := 28) (tgt := 118) (k' := 6) (rfl.trans c_8) dX6_answer_28 (by decide) rfl (by decide) ?_
                refine r_aload_n (pc := 118) (i := 0) dX6_answer_118 rfl 0 rfl ?_
                refine r_getI (pc := 119) fg_6_63 rfl oa0 dX6_answer_119 ?_
                cases h
                exact r_iret (pc := 122) rfl rfl (Nat.le_refl 0) (Nat.le_refl 0) dX6_answer_122
              · replace h := (if_neg c_8).symm.trans h
                by_cases c_9 : wI x2 = 7
                · replace h := (if_pos c_9).symm.trans h
                  refine r_tsw (pc := 28) (tgt := 123) (k' := 7) (rfl.trans c_9) dX6_answer_28 (by decide) rfl (by decide) ?_
                  refine r_aload_n (pc := 123) (i := 0) dX6_answer_123 rfl 0 rfl ?_
                  refine r_getI (pc := 124) fg_6_66 rfl oa0 dX6_answer_124 ?_
                  cases h
                  exact r_iret (pc := 127) rfl rfl (Nat.le_refl 0) (Nat.le_refl 0) dX6_answer_127
                · replace h := (if_neg c_9).symm.trans h
                  by_cases c_10 : wI x2 = 8
                  · replace h := (if_pos c_10).symm.trans h
                    refine r_tsw (pc := 28) (tgt := 128) (k' := 8) (rfl.trans c_10) dX6_answer_28 (by decide) rfl (by decide) ?_
                    refine r_aload_n (pc := 128) (i := 0) dX6_answer_128 rfl 0 rfl ?_
                    refine r_getI (pc := 129) fg_6_69 rfl oa0 dX6_answer_129 ?_
                    cases h
                    exact r_iret (pc := 132) rfl rfl (Nat.le_refl 0) (Nat.le_refl 0) dX6_answer_132
                  · replace h := (if_neg c_10).symm.trans h
                    refine r_tswD (pc := 28) (tgt := 133) rfl dX6_answer_28 (by omega) (by decide) ?_
                    refine r_bipush (pc := 133) (v := (-2)) dX6_answer_133 (by decide +kernel) ?_
                    cases h
                    exact r_iret (pc := 135) rfl rfl (Nat.le_refl 0) (Nat.le_refl 0) dX6_answer_135
set_option maxHeartbeats 4000000 in
set_option maxRecDepth 100000 in
theorem bX6_answer_b0 {G : GG} (a0 : Nat) (a1 : Nat) (x2 : Int) (M : MM) (oa0 : OB L0 a0 6) (oa1 : OB L0 a1 5)  {res : Int}  (h : sX6_answer_b0 a0 a1 x2 M = some res) : VV G xX6_answer (ZM G xX6_answer (some (.int (eI res))) L0 M) L0 M 0 0 0 [(0, .ref (gA G a0)), (1, .ref (gA G a1)), (2, .int (eI x2))] [] := by
  unfold sX6_answer_b0 at h
  refine r_iload_n (pc := 0) (i := 2) dX6_answer_0 rfl 2 rfl ?_
  refine r_bipush (pc := 1) (v := 10) dX6_answer_1 (by decide +kernel) ?_
  refine r_icmp_lt (pc := 3) (tgt := 27) dX6_answer_3 (by decide) rfl wl_10 (fun c_1 => ?_) (fun c_1 => ?_)
  · replace h := (if_pos c_1).symm.trans h
    refine r_sub (lv' := [(0, .ref (gA G a0)), (2, .int (eI x2))]) [0, 2] rfl ?_
    exact bX6_answer_b27 a0 a1 x2 M oa0 oa1 h
  · replace h := (if_neg c_1).symm.trans h
    refine r_iload_n (pc := 6) (i := 2) dX6_answer_6 rfl 2 rfl ?_
    refine r_bipush (pc := 7) (v := 10) dX6_answer_7 (by decide +kernel) ?_
    refine r_aload_n (pc := 9) (i := 1) dX6_answer_9 rfl 1 rfl ?_
    refine r_getI (pc := 10) fg_6_128 rfl oa1 dX6_answer_10 ?_
    refine r_iadd (pc := 13) dX6_answer_13 ?_
    refine r_icmp_ge (pc := 14) (tgt := 27) dX6_answer_14 (by decide) rfl rfl (fun c_2 => ?_) (fun c_2 => ?_)
    · replace h := (if_pos c_2).symm.trans h
      refine r_sub (lv' := [(0, .ref (gA G a0)), (2, .int (eI x2))]) [0, 2] rfl ?_
      exact bX6_answer_b27 a0 a1 x2 M oa0 oa1 h
    · replace h := (if_neg c_2).symm.trans h
      refine r_aload_n (pc := 17) (i := 0) dX6_answer_17 rfl 0 rfl ?_
      have o_3 := (wt_6_9 oa0).2
      refine r_getR (pc := 18) fg_6_9 rfl oa0 (wt_6_9 oa0).1 dX6_answer_18 ?_
      refine r_iload_n (pc := 21) (i := 2) dX6_answer_21 rfl 2 rfl ?_
      refine r_bipush (pc := 22) (v := 10) dX6_answer_22 (by decide +kernel) ?_
      refine r_isub (pc := 24) dX6_answer_24 ?_
      obtain ⟨c_4, h⟩ := og h
      refine r_iald (pc := 25) o_3 rfl c_4 rfl dX6_answer_25 ?_
      cases h
      exact r_iret (pc := 26) rfl rfl (Nat.le_refl 0) (Nat.le_refl 0) dX6_answer_26
theorem kX6_answer {G : GG} (a0 : Nat) (a1 : Nat) (x2 : Int) (M : MM) {res : Int} (oa0 : OB L0 a0 6) (oa1 : OB L0 a1 5) (h : sX6_answer a0 a1 x2 M = some res) : CO G xX6_answer [.ref (gA G a0), .ref (gA G a1), .int (eI x2)] L0 M (some (.int (eI res))) L0 M := CO_of (by decide +kernel) (Nat.le_of_ble_eq_true rfl) (bX6_answer_b0 a0 a1 x2 M oa0 oa1 h)
abbrev xX6_answerOf : XX := (yX6_answerOf, cX6_answerOf, 3, (some .int), 0, 0, 0, 0)
def sX6_answerOf_b0 (a0 : Nat) (x1 : Int) (x2 : Int) (M : MM)   : Option Int := (if wI x1 < 0 then (some ((-2))) else (if wI x1 < 8 then (if wI x2 = 3 then (if 0 ≤ wI x1 ∧ wI x1 < 8 then (some ((M (gR a0 11) (wI x1).toNat))) else none) else (if wI x2 < 0 then (some ((-2))) else (if 3 ≤ wI x2 then (some ((-2))) else (if 0 ≤ wI ((x2 * 8) + x1) ∧ wI ((x2 * 8) + x1) < 24 then (some ((M (gR a0 10) (wI ((x2 * 8) + x1)).toNat))) else none)))) else (some ((-2)))))
def sX6_answerOf (a0 : Nat) (x1 : Int) (x2 : Int) (M : MM) : Option Int := sX6_answerOf_b0 a0 x1 x2 M
set_option maxHeartbeats 4000000 in
set_option maxRecDepth 100000 in
theorem bX6_answerOf_b0 {G : GG} (a0 : Nat) (x1 : Int) (x2 : Int) (M : MM) (oa0 : OB L0 a0 6)  {res : Int}  (h : sX6_answerOf_b0 a0 x1 x2 M = some res) : VV G xX6_answerOf (ZM G xX6_answerOf (some (.int (eI res))) L0 M) L0 M 0 0 0 [(0, .ref (gA G a0)), (1, .int (eI x1)), (2, .int (eI x2))] [] := by
  unfold sX6_answerOf_b0 at h
  refine r_iload_n (pc := 0) (i := 1) dX6_answerOf_0 rfl 1 rfl ?_
  refine r_if_lt (pc := 1) (tgt := 10) dX6_answerOf_1 (by decide) rfl (fun c_1 => ?_) (fun c_1 => ?_)
  · replace h := (if_pos c_1).symm.trans h
    refine r_bipush (pc := 10) (v := (-2)) dX6_answerOf_10 (by decide +kernel) ?_
    cases h
    exact r_iret (pc := 12) rfl rfl (Nat.le_refl 0) (Nat.le_refl 0) dX6_answerOf_12
  · replace h := (if_neg c_1).symm.trans h
    refine r_iload_n (pc := 4) (i := 1) dX6_answerOf_4 rfl 1 rfl ?_
    refine r_bipush (pc := 5) (v := 8) dX6_answerOf_5 (by decide +kernel) ?_
    refine r_icmp_lt (pc := 7) (tgt := 13) dX6_answerOf_7 (by decide) rfl wl_8 (fun c_2 => ?_) (fun c_2 => ?_)
    · replace h := (if_pos c_2).symm.trans h
      refine r_iload_n (pc := 13) (i := 2) dX6_answerOf_13 rfl 2 rfl ?_
      refine r_iconst (pc := 14) (v := 3) dX6_answerOf_14 (by decide +kernel) ?_
      refine r_icmp_ne (pc := 15) (tgt := 25) dX6_answerOf_15 (by decide) rfl wl_3 (fun c_3 => ?_) (fun c_3 => ?_)
      · replace h := (if_neg c_3).symm.trans h
        refine r_iload_n (pc := 25) (i := 2) dX6_answerOf_25 rfl 2 rfl ?_
        refine r_if_lt (pc := 26) (tgt := 48) dX6_answerOf_26 (by decide) rfl (fun c_4 => ?_) (fun c_4 => ?_)
        · replace h := (if_pos c_4).symm.trans h
          refine r_bipush (pc := 48) (v := (-2)) dX6_answerOf_48 (by decide +kernel) ?_
          cases h
          exact r_iret (pc := 50) rfl rfl (Nat.le_refl 0) (Nat.le_refl 0) dX6_answerOf_50
        · replace h := (if_neg c_4).symm.trans h
          refine r_iload_n (pc := 29) (i := 2) dX6_answerOf_29 rfl 2 rfl ?_
          refine r_iconst (pc := 30) (v := 3) dX6_answerOf_30 (by decide +kernel) ?_
          refine r_icmp_ge (pc := 31) (tgt := 48) dX6_answerOf_31 (by decide) rfl wl_3 (fun c_5 => ?_) (fun c_5 => ?_)
          · replace h := (if_pos c_5).symm.trans h
            refine r_bipush (pc := 48) (v := (-2)) dX6_answerOf_48 (by decide +kernel) ?_
            cases h
            exact r_iret (pc := 50) rfl rfl (Nat.le_refl 0) (Nat.le_refl 0) dX6_answerOf_50
          · replace h := (if_neg c_5).symm.trans h
            refine r_aload_n (pc := 34) (i := 0) dX6_answerOf_34 rfl 0 rfl ?_
            have o_6 := (wt_6_10 oa0).2
            refine r_getR (pc := 35) fg_6_15 rfl oa0 (wt_6_10 oa0).1 dX6_answerOf_35 ?_
            refine r_iload_n (pc := 38) (i := 2) dX6_answerOf_38 rfl 2 rfl ?_
            refine r_bipush (pc := 39) (v := 8) dX6_answerOf_39 (by decide +kernel) ?_
            refine r_imul (pc := 41) dX6_answerOf_41 ?_
            refine r_iload_n (pc := 42) (i := 1) dX6_answerOf_42 rfl 1 rfl ?_
            refine r_iadd (pc := 43) dX6_answerOf_43 ?_
            obtain ⟨c_7, h⟩ := og h
            refine r_iald (pc := 44) o_6 rfl c_7 rfl dX6_answerOf_44 ?_
            refine r_goto (pc := 45) (tgt := 50) dX6_answerOf_45 (by decide) ?_
            cases h
            exact r_iret (pc := 50) rfl rfl (Nat.le_refl 0) (Nat.le_refl 0) dX6_answerOf_50
      · replace h := (if_pos c_3).symm.trans h
        refine r_aload_n (pc := 18) (i := 0) dX6_answerOf_18 rfl 0 rfl ?_
        have o_8 := (wt_6_11 oa0).2
        refine r_getR (pc := 19) fg_6_18 rfl oa0 (wt_6_11 oa0).1 dX6_answerOf_19 ?_
        refine r_iload_n (pc := 22) (i := 1) dX6_answerOf_22 rfl 1 rfl ?_
        obtain ⟨c_9, h⟩ := og h
        refine r_iald (pc := 23) o_8 rfl c_9 rfl dX6_answerOf_23 ?_
        cases h
        exact r_iret (pc := 24) rfl rfl (Nat.le_refl 0) (Nat.le_refl 0) dX6_answerOf_24
    · replace h := (if_neg c_2).symm.trans h
      refine r_bipush (pc := 10) (v := (-2)) dX6_answerOf_10 (by decide +kernel) ?_
      cases h
      exact r_iret (pc := 12) rfl rfl (Nat.le_refl 0) (Nat.le_refl 0) dX6_answerOf_12
theorem kX6_answerOf {G : GG} (a0 : Nat) (x1 : Int) (x2 : Int) (M : MM) {res : Int} (oa0 : OB L0 a0 6) (h : sX6_answerOf a0 x1 x2 M = some res) : CO G xX6_answerOf [.ref (gA G a0), .int (eI x1), .int (eI x2)] L0 M (some (.int (eI res))) L0 M := CO_of (by decide +kernel) (Nat.le_of_ble_eq_true rfl) (bX6_answerOf_b0 a0 x1 x2 M oa0 h)
abbrev xX8_clear : XX := (yX8_clear, cX8_clear, 1, none, 0, 0, 0, 0)
def sX8_clear_b0 (a0 : Nat)   (M : MM) : Option MM := ((some (mU M (gR a0 0) 4 0)).bind fun M_2 => ((some (mU M_2 (gR a0 1) 4 0)).bind fun M_4 => (some (M_4))))
def sX8_clear (a0 : Nat) (M : MM) : Option MM := sX8_clear_b0 a0 M
set_option maxHeartbeats 4000000 in
set_option maxRecDepth 100000 in
theorem bX8_clear_b0 {G : GG} (a0 : Nat) (oa0 : OB L0 a0 8)  (M : MM) {res : MM}  (h : sX8_clear_b0 a0 M = some res) : VV G xX8_clear (ZM G xX8_clear (none) L0 res) L0 M 0 0 0 [(0, .ref (gA G a0))] [] := by
  unfold sX8_clear_b0 at h
  refine r_aload_n (pc := 0) (i := 0) dX8_clear_0 rfl 0 rfl ?_
  have o_1 := (wt_8_0 oa0).2
  refine r_getR (pc := 1) fg_8_14 rfl oa0 (wt_8_0 oa0).1 dX8_clear_1 ?_
  refine r_iconst (pc := 4) (v := 0) dX8_clear_4 (by decide +kernel) ?_
  obtain ⟨M_2, hM_2, h⟩ := ob h
  refine r_putI (pc := 5) fg_8_23 rfl o_1 hM_2 rfl rfl dX8_clear_5 ?_
  refine r_aload_n (pc := 8) (i := 0) dX8_clear_8 rfl 0 rfl ?_
  have o_3 := (wt_8_1 oa0).2
  refine r_getR (pc := 9) fg_8_20 rfl oa0 (wt_8_1 oa0).1 dX8_clear_9 ?_
  refine r_iconst (pc := 12) (v := 0) dX8_clear_12 (by decide +kernel) ?_
  obtain ⟨M_4, hM_4, h⟩ := ob h
  refine r_putI (pc := 13) fg_8_23 rfl o_3 hM_4 rfl rfl dX8_clear_13 ?_
  cases h
  exact r_vret (pc := 16) rfl (Nat.le_refl 0) (Nat.le_refl 0) dX8_clear_16
theorem kX8_clear {G : GG} (a0 : Nat) (M : MM) {res : MM} (oa0 : OB L0 a0 8) (h : sX8_clear a0 M = some res) : CO G xX8_clear [.ref (gA G a0)] L0 M (none) L0 res := CO_of (by decide +kernel) (Nat.le_of_ble_eq_true rfl) (bX8_clear_b0 a0 oa0 M h)
abbrev xX7_clearDrafts : XX := (yX7_clearDrafts, cX7_clearDrafts, 1, none, 1, 21, 0, 0)
theorem ck_X7_clearDrafts_94 : CKV xX7_clearDrafts 94 xX5_clear 0 := ⟨⟨tb_i 639 (by decide +kernel) (by decide +kernel), tb_i 141 (by decide +kernel) (by decide +kernel), tb_i 642 (by decide +kernel) (by decide +kernel), ⟨by decide +kernel, by decide +kernel, by decide +kernel⟩, by decide, by decide⟩, tb_i 640 (by decide +kernel) (by decide +kernel), tb_i 641 (by decide +kernel) (by decide +kernel)⟩
theorem ck_X7_clearDrafts_100 : CKV xX7_clearDrafts 100 xX1_clear 0 := ⟨⟨tb_i 643 (by decide +kernel) (by decide +kernel), tb_i 144 (by decide +kernel) (by decide +kernel), tb_i 646 (by decide +kernel) (by decide +kernel), ⟨by decide +kernel, by decide +kernel, by decide +kernel⟩, by decide, by decide⟩, tb_i 644 (by decide +kernel) (by decide +kernel), tb_i 645 (by decide +kernel) (by decide +kernel)⟩
theorem ck_X7_clearDrafts_101 : CKV xX7_clearDrafts 101 xX8_clear 0 := ⟨⟨tb_i 647 (by decide +kernel) (by decide +kernel), tb_i 145 (by decide +kernel) (by decide +kernel), tb_i 650 (by decide +kernel) (by decide +kernel), ⟨by decide +kernel, by decide +kernel, by decide +kernel⟩, by decide, by decide⟩, tb_i 648 (by decide +kernel) (by decide +kernel), tb_i 649 (by decide +kernel) (by decide +kernel)⟩
def sX7_clearDrafts_b0 (a0 : Nat)   (M : MM) : Option MM := ((sX5_clear (gR a0 0) M).bind fun q_2 => ((some (mU q_2 a0 12 0)).bind fun M_3 => ((some (mU M_3 (gR a0 1) 4 0)).bind fun M_5 => ((sX1_clear (gR a0 2) M_5).bind fun q_7 => ((some (mU q_7 (gR a0 3) 4 0)).bind fun M_9 => ((sX8_clear (gR a0 4) M_9).bind fun q_11 => (some (q_11))))))))
def sX7_clearDrafts (a0 : Nat) (M : MM) : Option MM := sX7_clearDrafts_b0 a0 M
set_option maxHeartbeats 4000000 in
set_option maxRecDepth 100000 in
theorem bX7_clearDrafts_b0 {G : GG} (a0 : Nat) (oa0 : OB L0 a0 7)  (M : MM) {res : MM}  (h : sX7_clearDrafts_b0 a0 M = some res) : VV G xX7_clearDrafts (ZM G xX7_clearDrafts (none) L0 res) L0 M 0 0 0 [(0, .ref (gA G a0))] [] := by
  unfold sX7_clearDrafts_b0 at h
  refine r_aload_n (pc := 0) (i := 0) dX7_clearDrafts_0 rfl 0 rfl ?_
  have o_1 := (wt_7_0 oa0).2
  refine r_getR (pc := 1) fg_7_12 rfl oa0 (wt_7_0 oa0).1 dX7_clearDrafts_1 ?_
  obtain ⟨q_2, hq_2, h⟩ := ob h
  refine r_cV (pc := 4) (Y := xX5_clear) (As := []) (rest := []) (v := none) (st1 := []) ck_X7_clearDrafts_94 (kX5_clear (gR a0 0) M o_1 hq_2) o_1 rfl rfl rfl rfl (Nat.le_of_ble_eq_true rfl) ⟨rfl, rfl⟩ rfl dX7_clearDrafts_4 ?_
  refine r_aload_n (pc := 7) (i := 0) dX7_clearDrafts_7 rfl 0 rfl ?_
  refine r_iconst (pc := 8) (v := 0) dX7_clearDrafts_8 (by decide +kernel) ?_
  obtain ⟨M_3, hM_3, h⟩ := ob h
  refine r_putI (pc := 9) fg_7_79 rfl oa0 hM_3 rfl rfl dX7_clearDrafts_9 ?_
  refine r_aload_n (pc := 12) (i := 0) dX7_clearDrafts_12 rfl 0 rfl ?_
  have o_4 := (wt_7_1 oa0).2
  refine r_getR (pc := 13) fg_7_23 rfl oa0 (wt_7_1 oa0).1 dX7_clearDrafts_13 ?_
  refine r_iconst (pc := 16) (v := 0) dX7_clearDrafts_16 (by decide +kernel) ?_
  obtain ⟨M_5, hM_5, h⟩ := ob h
  refine r_putI (pc := 17) fg_7_97 rfl o_4 hM_5 rfl rfl dX7_clearDrafts_17 ?_
  refine r_aload_n (pc := 20) (i := 0) dX7_clearDrafts_20 rfl 0 rfl ?_
  have o_6 := (wt_7_2 oa0).2
  refine r_getR (pc := 21) fg_7_30 rfl oa0 (wt_7_2 oa0).1 dX7_clearDrafts_21 ?_
  obtain ⟨q_7, hq_7, h⟩ := ob h
  refine r_cV (pc := 24) (Y := xX1_clear) (As := []) (rest := []) (v := none) (st1 := []) ck_X7_clearDrafts_100 (kX1_clear (gR a0 2) M_5 o_6 hq_7) o_6 rfl rfl rfl rfl (Nat.le_of_ble_eq_true rfl) ⟨rfl, rfl⟩ rfl dX7_clearDrafts_24 ?_
  refine r_aload_n (pc := 27) (i := 0) dX7_clearDrafts_27 rfl 0 rfl ?_
  have o_8 := (wt_7_3 oa0).2
  refine r_getR (pc := 28) fg_7_34 rfl oa0 (wt_7_3 oa0).1 dX7_clearDrafts_28 ?_
  refine r_iconst (pc := 31) (v := 0) dX7_clearDrafts_31 (by decide +kernel) ?_
  obtain ⟨M_9, hM_9, h⟩ := ob h
  refine r_putI (pc := 32) fg_7_97 rfl o_8 hM_9 rfl rfl dX7_clearDrafts_32 ?_
  refine r_aload_n (pc := 35) (i := 0) dX7_clearDrafts_35 rfl 0 rfl ?_
  have o_10 := (wt_7_4 oa0).2
  refine r_getR (pc := 36) fg_7_40 rfl oa0 (wt_7_4 oa0).1 dX7_clearDrafts_36 ?_
  obtain ⟨q_11, hq_11, h⟩ := ob h
  refine r_cV (pc := 39) (Y := xX8_clear) (As := []) (rest := []) (v := none) (st1 := []) ck_X7_clearDrafts_101 (kX8_clear (gR a0 4) M_9 o_10 hq_11) o_10 rfl rfl rfl rfl (Nat.le_of_ble_eq_true rfl) ⟨rfl, rfl⟩ rfl dX7_clearDrafts_39 ?_
  cases h
  exact r_vret (pc := 42) rfl (Nat.le_refl 0) (Nat.le_refl 0) dX7_clearDrafts_42
theorem kX7_clearDrafts {G : GG} (a0 : Nat) (M : MM) {res : MM} (oa0 : OB L0 a0 7) (h : sX7_clearDrafts a0 M = some res) : CO G xX7_clearDrafts [.ref (gA G a0)] L0 M (none) L0 res := CO_of (by decide +kernel) (Nat.le_of_ble_eq_true rfl) (bX7_clearDrafts_b0 a0 oa0 M h)
abbrev xX7_isBlank : XX := (yX7_isBlank, cX7_isBlank, 1, (some .boolean), 0, 0, 0, 0)
def sX7_isBlank_b0 (x0 : Int)   : Int := (if wI x0 = 10 then 1 else (if wI x0 = 32 then 1 else 0))
def sX7_isBlank (x0 : Int) : Int := sX7_isBlank_b0 x0
set_option maxHeartbeats 4000000 in
set_option maxRecDepth 100000 in
theorem bX7_isBlank_b0 {G : GG} (x0 : Int) (M : MM)   {res : Int}  (h : sX7_isBlank_b0 x0 = res) : VV G xX7_isBlank (ZM G xX7_isBlank (some (.int (eI res))) L0 M) L0 M 0 0 0 [(0, .int (eI x0))] [] := by
  unfold sX7_isBlank_b0 at h
  refine r_iload_n (pc := 0) (i := 0) dX7_isBlank_0 rfl 0 rfl ?_
  refine r_bipush (pc := 1) (v := 10) dX7_isBlank_1 (by decide +kernel) ?_
  refine r_icmp_eq (pc := 3) (tgt := 12) dX7_isBlank_3 (by decide) rfl wl_10 (fun c_1 => ?_) (fun c_1 => ?_)
  · replace h := (if_pos c_1).symm.trans h
    refine r_iconst (pc := 12) (v := 1) dX7_isBlank_12 (by decide +kernel) ?_
    refine r_goto (pc := 13) (tgt := 17) dX7_isBlank_13 (by decide) ?_
    cases h
    exact r_iret (pc := 17) rfl (zn_ok (Or.inr rfl)).1 (Nat.le_refl 0) (Nat.le_refl 0) dX7_isBlank_17
  · replace h := (if_neg c_1).symm.trans h
    refine r_iload_n (pc := 6) (i := 0) dX7_isBlank_6 rfl 0 rfl ?_
    refine r_bipush (pc := 7) (v := 32) dX7_isBlank_7 (by decide +kernel) ?_
    refine r_icmp_ne (pc := 9) (tgt := 16) dX7_isBlank_9 (by decide) rfl wl_32 (fun c_2 => ?_) (fun c_2 => ?_)
    · replace h := (if_neg c_2).symm.trans h
      refine r_iconst (pc := 16) (v := 0) dX7_isBlank_16 (by decide +kernel) ?_
      cases h
      exact r_iret (pc := 17) rfl (zn_ok (Or.inl rfl)).1 (Nat.le_refl 0) (Nat.le_refl 0) dX7_isBlank_17
    · replace h := (if_pos c_2).symm.trans h
      refine r_iconst (pc := 12) (v := 1) dX7_isBlank_12 (by decide +kernel) ?_
      refine r_goto (pc := 13) (tgt := 17) dX7_isBlank_13 (by decide) ?_
      cases h
      exact r_iret (pc := 17) rfl (zn_ok (Or.inr rfl)).1 (Nat.le_refl 0) (Nat.le_refl 0) dX7_isBlank_17
theorem kX7_isBlank {G : GG} (x0 : Int) (M : MM)  : CO G xX7_isBlank [.int (eI x0)] L0 M (some (.int (eI (sX7_isBlank x0)))) L0 M := CO_of (by decide +kernel) (Nat.le_of_ble_eq_true rfl) (bX7_isBlank_b0 x0 M rfl)
abbrev xX7_isLetter : XX := (yX7_isLetter, cX7_isLetter, 1, (some .boolean), 0, 0, 0, 0)
def sX7_isLetter_b0 (x0 : Int)   : Int := (if wI x0 < 97 then 0 else (if 122 < wI x0 then 0 else 1))
def sX7_isLetter (x0 : Int) : Int := sX7_isLetter_b0 x0
set_option maxHeartbeats 4000000 in
set_option maxRecDepth 100000 in
theorem bX7_isLetter_b0 {G : GG} (x0 : Int) (M : MM)   {res : Int}  (h : sX7_isLetter_b0 x0 = res) : VV G xX7_isLetter (ZM G xX7_isLetter (some (.int (eI res))) L0 M) L0 M 0 0 0 [(0, .int (eI x0))] [] := by
  unfold sX7_isLetter_b0 at h
  refine r_iload_n (pc := 0) (i := 0) dX7_isLetter_0 rfl 0 rfl ?_
  refine r_bipush (pc := 1) (v := 97) dX7_isLetter_1 (by decide +kernel) ?_
  refine r_icmp_lt (pc := 3) (tgt := 16) dX7_isLetter_3 (by decide) rfl wl_97 (fun c_1 => ?_) (fun c_1 => ?_)
  · replace h := (if_pos c_1).symm.trans h
    refine r_iconst (pc := 16) (v := 0) dX7_isLetter_16 (by decide +kernel) ?_
    cases h
    exact r_iret (pc := 17) rfl (zn_ok (Or.inl rfl)).1 (Nat.le_refl 0) (Nat.le_refl 0) dX7_isLetter_17
  · replace h := (if_neg c_1).symm.trans h
    refine r_iload_n (pc := 6) (i := 0) dX7_isLetter_6 rfl 0 rfl ?_
    refine r_bipush (pc := 7) (v := 122) dX7_isLetter_7 (by decide +kernel) ?_
    refine r_icmp_gt (pc := 9) (tgt := 16) dX7_isLetter_9 (by decide) rfl wl_122 (fun c_2 => ?_) (fun c_2 => ?_)
    · replace h := (if_pos c_2).symm.trans h
      refine r_iconst (pc := 16) (v := 0) dX7_isLetter_16 (by decide +kernel) ?_
      cases h
      exact r_iret (pc := 17) rfl (zn_ok (Or.inl rfl)).1 (Nat.le_refl 0) (Nat.le_refl 0) dX7_isLetter_17
    · replace h := (if_neg c_2).symm.trans h
      refine r_iconst (pc := 12) (v := 1) dX7_isLetter_12 (by decide +kernel) ?_
      refine r_goto (pc := 13) (tgt := 17) dX7_isLetter_13 (by decide) ?_
      cases h
      exact r_iret (pc := 17) rfl (zn_ok (Or.inr rfl)).1 (Nat.le_refl 0) (Nat.le_refl 0) dX7_isLetter_17
theorem kX7_isLetter {G : GG} (x0 : Int) (M : MM)  : CO G xX7_isLetter [.int (eI x0)] L0 M (some (.int (eI (sX7_isLetter x0)))) L0 M := CO_of (by decide +kernel) (Nat.le_of_ble_eq_true rfl) (bX7_isLetter_b0 x0 M rfl)
abbrev xX7_isDigit : XX := (yX7_isDigit, cX7_isDigit, 1, (some .boolean), 0, 0, 0, 0)
def sX7_isDigit_b0 (x0 : Int)   : Int := (if wI x0 < 48 then 0 else (if 57 < wI x0 then 0 else 1))
def sX7_isDigit (x0 : Int) : Int := sX7_isDigit_b0 x0
set_option maxHeartbeats 4000000 in
set_option maxRecDepth 100000 in
theorem bX7_isDigit_b0 {G : GG} (x0 : Int) (M : MM)   {res : Int}  (h : sX7_isDigit_b0 x0 = res) : VV G xX7_isDigit (ZM G xX7_isDigit (some (.int (eI res))) L0 M) L0 M 0 0 0 [(0, .int (eI x0))] [] := by
  unfold sX7_isDigit_b0 at h
  refine r_iload_n (pc := 0) (i := 0) dX7_isDigit_0 rfl 0 rfl ?_
  refine r_bipush (pc := 1) (v := 48) dX7_isDigit_1 (by decide +kernel) ?_
  refine r_icmp_lt (pc := 3) (tgt := 16) dX7_isDigit_3 (by decide) rfl wl_48 (fun c_1 => ?_) (fun c_1 => ?_)
  · replace h := (if_pos c_1).symm.trans h
    refine r_iconst (pc := 16) (v := 0) dX7_isDigit_16 (by decide +kernel) ?_
    cases h
    exact r_iret (pc := 17) rfl (zn_ok (Or.inl rfl)).1 (Nat.le_refl 0) (Nat.le_refl 0) dX7_isDigit_17
  · replace h := (if_neg c_1).symm.trans h
    refine r_iload_n (pc := 6) (i := 0) dX7_isDigit_6 rfl 0 rfl ?_
    refine r_bipush (pc := 7) (v := 57) dX7_isDigit_7 (by decide +kernel) ?_
    refine r_icmp_gt (pc := 9) (tgt := 16) dX7_isDigit_9 (by decide) rfl wl_57 (fun c_2 => ?_) (fun c_2 => ?_)
    · replace h := (if_pos c_2).symm.trans h
      refine r_iconst (pc := 16) (v := 0) dX7_isDigit_16 (by decide +kernel) ?_
      cases h
      exact r_iret (pc := 17) rfl (zn_ok (Or.inl rfl)).1 (Nat.le_refl 0) (Nat.le_refl 0) dX7_isDigit_17
    · replace h := (if_neg c_2).symm.trans h
      refine r_iconst (pc := 12) (v := 1) dX7_isDigit_12 (by decide +kernel) ?_
      refine r_goto (pc := 13) (tgt := 17) dX7_isDigit_13 (by decide) ?_
      cases h
      exact r_iret (pc := 17) rfl (zn_ok (Or.inr rfl)).1 (Nat.le_refl 0) (Nat.le_refl 0) dX7_isDigit_17
theorem kX7_isDigit {G : GG} (x0 : Int) (M : MM)  : CO G xX7_isDigit [.int (eI x0)] L0 M (some (.int (eI (sX7_isDigit x0)))) L0 M := CO_of (by decide +kernel) (Nat.le_of_ble_eq_true rfl) (bX7_isDigit_b0 x0 M rfl)
abbrev xX7_takeNumber : XX := (yX7_takeNumber, cX7_takeNumber, 3, none, 1, 20, 0, 0)
theorem ck_X7_takeNumber_223 : CKS xX7_takeNumber 223 xX7_isDigit 1 := ⟨⟨tb_i 664 (by decide +kernel) (by decide +kernel), tb_i 146 (by decide +kernel) (by decide +kernel), tb_i 666 (by decide +kernel) (by decide +kernel), ⟨by decide +kernel, by decide +kernel, by decide +kernel⟩, by decide, by decide⟩, tb_i 665 (by decide +kernel) (by decide +kernel)⟩
def sX7_takeNumber_b97 (a0 : Nat) (a1 : Nat) (x2 : Int)  (a90 : Nat) (x91 : Int) (M : MM) : Option MM := ((some (mU M a90 8 x91)).bind fun M_1 => (some (M_1)))
def sX7_takeNumber_b78 (a0 : Nat) (a1 : Nat) (x2 : Int)   (M : MM) : Option MM := (if 2 < wI ((M a0 10) - (M a0 9)) then (sX7_takeNumber_b97 a0 a1 x2 a0 4 M) else (sX7_takeNumber_b97 a0 a1 x2 a0 2 M))
def sX7_takeNumber_b65 (a0 : Nat) (a1 : Nat) (x2 : Int) (K5 : MM → Option MM)  (M : MM) : Option MM := ((some (mU M a0 10 ((M a0 10) + 1))).bind fun M_1 => (K5 M_1))
def sX7_takeNumber_b5 (a0 : Nat) (a1 : Nat) (x2 : Int)  : Nat → MM → Option MM
  | 0, _ => none
  | n + 1, M => (if wI x2 ≤ wI (M a0 10) then (sX7_takeNumber_b78 a0 a1 x2 M) else (if 0 ≤ wI (M a0 10) ∧ wI (M a0 10) < 600 then (if wI (sX7_isDigit (M (gR a1 0) (wI (M a0 10)).toNat)) = 0 then (sX7_takeNumber_b78 a0 a1 x2 M) else (if 2 ≤ wI ((M a0 10) - (M a0 9)) then (sX7_takeNumber_b65 a0 a1 x2 (fun M => sX7_takeNumber_b5 a0 a1 x2 n M) M) else (if 0 ≤ wI (M a0 10) ∧ wI (M a0 10) < 600 then ((some (mU M a0 11 ((((M a0 11) * 10) + (M (gR a1 0) (wI (M a0 10)).toNat)) - 48))).bind fun M_8 => (sX7_takeNumber_b65 a0 a1 x2 (fun M => sX7_takeNumber_b5 a0 a1 x2 n M) M_8)) else none))) else none))
def sX7_takeNumber_b0 (a0 : Nat) (a1 : Nat) (x2 : Int)   (M : MM) : Option MM := ((some (mU M a0 11 0)).bind fun M_1 => (sX7_takeNumber_b5 a0 a1 x2 FU M_1))
def sX7_takeNumber (a0 : Nat) (a1 : Nat) (x2 : Int) (M : MM) : Option MM := sX7_takeNumber_b0 a0 a1 x2 M
set_option maxHeartbeats 4000000 in
set_option maxRecDepth 100000 in
theorem bX7_takeNumber_b97 {G : GG} (a0 : Nat) (a1 : Nat) (x2 : Int) (oa0 : OB L0 a0 7) (oa1 : OB L0 a1 9) (a90 : Nat) (x91 : Int) (M : MM) {res : MM} (oa90 : OB L0 a90 7) (h : sX7_takeNumber_b97 a0 a1 x2 a90 x91 M = some res) : VV G xX7_takeNumber (ZM G xX7_takeNumber (none) L0 res) L0 M 0 0 97 [] [.int (eI x91), .ref (gA G a90)] := by
  unfold sX7_takeNumber_b97 at h
  obtain ⟨M_1, hM_1, h⟩ := ob h
  refine r_putI (pc := 97) fg_7_65 rfl oa90 hM_1 rfl rfl dX7_takeNumber_97 ?_
  cases h
  exact r_vret (pc := 100) rfl (Nat.le_refl 0) (Nat.le_refl 0) dX7_takeNumber_100
set_option maxHeartbeats 4000000 in
set_option maxRecDepth 100000 in
theorem bX7_takeNumber_b78 {G : GG} (a0 : Nat) (a1 : Nat) (x2 : Int) (oa0 : OB L0 a0 7) (oa1 : OB L0 a1 9)  (M : MM) {res : MM}  (h : sX7_takeNumber_b78 a0 a1 x2 M = some res) : VV G xX7_takeNumber (ZM G xX7_takeNumber (none) L0 res) L0 M 0 0 78 [(0, .ref (gA G a0))] [] := by
  unfold sX7_takeNumber_b78 at h
  refine r_aload_n (pc := 78) (i := 0) dX7_takeNumber_78 rfl 0 rfl ?_
  refine r_aload_n (pc := 79) (i := 0) dX7_takeNumber_79 rfl 0 rfl ?_
  refine r_getI (pc := 80) fg_7_58 rfl oa0 dX7_takeNumber_80 ?_
  refine r_aload_n (pc := 83) (i := 0) dX7_takeNumber_83 rfl 0 rfl ?_
  refine r_getI (pc := 84) fg_7_72 rfl oa0 dX7_takeNumber_84 ?_
  refine r_isub (pc := 87) dX7_takeNumber_87 ?_
  refine r_iconst (pc := 88) (v := 2) dX7_takeNumber_88 (by decide +kernel) ?_
  refine r_icmp_gt (pc := 89) (tgt := 96) dX7_takeNumber_89 (by decide) rfl wl_2 (fun c_1 => ?_) (fun c_1 => ?_)
  · replace h := (if_pos c_1).symm.trans h
    refine r_iconst (pc := 96) (v := 4) dX7_takeNumber_96 (by decide +kernel) ?_
    refine r_sub (lv' := []) [] rfl ?_
    exact bX7_takeNumber_b97 a0 a1 x2 oa0 oa1 _ _ _ oa0 h
  · replace h := (if_neg c_1).symm.trans h
    refine r_iconst (pc := 92) (v := 2) dX7_takeNumber_92 (by decide +kernel) ?_
    refine r_goto (pc := 93) (tgt := 97) dX7_takeNumber_93 (by decide) ?_
    refine r_sub (lv' := []) [] rfl ?_
    exact bX7_takeNumber_b97 a0 a1 x2 oa0 oa1 _ _ _ oa0 h
set_option maxHeartbeats 4000000 in
set_option maxRecDepth 100000 in
theorem bX7_takeNumber_b65 {G : GG} (a0 : Nat) (a1 : Nat) (x2 : Int) (oa0 : OB L0 a0 7) (oa1 : OB L0 a1 9) {K5 : MM → Option MM}  (M : MM) {res : MM} (hK5 : ∀  (M : MM), K5  M = some res → VV G xX7_takeNumber (ZM G xX7_takeNumber (none) L0 res) L0 M 0 0 5 [(0, .ref (gA G a0)), (1, .ref (gA G a1)), (2, .int (eI x2))] [])  (h : sX7_takeNumber_b65 a0 a1 x2 K5 M = some res) : VV G xX7_takeNumber (ZM G xX7_takeNumber (none) L0 res) L0 M 0 0 65 [(0, .ref (gA G a0)), (1, .ref (gA G a1)), (2, .int (eI x2))] [] := by
  unfold sX7_takeNumber_b65 at h
  refine r_aload_n (pc := 65) (i := 0) dX7_takeNumber_65 rfl 0 rfl ?_
  refine r_dup (pc := 66) dX7_takeNumber_66 rfl ?_
  refine r_getI (pc := 67) fg_7_58 rfl oa0 dX7_takeNumber_67 ?_
  refine r_iconst (pc := 70) (v := 1) dX7_takeNumber_70 (by decide +kernel) ?_
  refine r_iadd (pc := 71) dX7_takeNumber_71 ?_
  obtain ⟨M_1, hM_1, h⟩ := ob h
  refine r_putI (pc := 72) fg_7_58 rfl oa0 hM_1 rfl rfl dX7_takeNumber_72 ?_
  refine r_goto (pc := 75) (tgt := 5) dX7_takeNumber_75 (by decide) ?_
  refine r_sub (lv' := [(0, .ref (gA G a0)), (1, .ref (gA G a1)), (2, .int (eI x2))]) [0, 1, 2] rfl ?_
  exact hK5 _ h
set_option maxHeartbeats 4000000 in
set_option maxRecDepth 100000 in
theorem bX7_takeNumber_b5 {G : GG} (a0 : Nat) (a1 : Nat) (x2 : Int) (oa0 : OB L0 a0 7) (oa1 : OB L0 a1 9) {res : MM} : ∀ (n : Nat)  (M : MM)  (h : sX7_takeNumber_b5 a0 a1 x2 n M = some res), VV G xX7_takeNumber (ZM G xX7_takeNumber (none) L0 res) L0 M 0 0 5 [(0, .ref (gA G a0)), (1, .ref (gA G a1)), (2, .int (eI x2))] [] := by
  intro n
  induction n with
  | zero =>
    intro M h
    rw [sX7_takeNumber_b5] at h
    cases h
  | succ n ih =>
    intro M h
    rw [sX7_takeNumber_b5] at h
    refine r_aload_n (pc := 5) (i := 0) dX7_takeNumber_5 rfl 0 rfl ?_
    refine r_getI (pc := 6) fg_7_58 rfl oa0 dX7_takeNumber_6 ?_
    refine r_iload_n (pc := 9) (i := 2) dX7_takeNumber_9 rfl 2 rfl ?_
    refine r_icmp_ge (pc := 10) (tgt := 78) dX7_takeNumber_10 (by decide) rfl rfl (fun c_1 => ?_) (fun c_1 => ?_)
    · replace h := (if_pos c_1).symm.trans h
      refine r_sub (lv' := [(0, .ref (gA G a0))]) [0] rfl ?_
      exact bX7_takeNumber_b78 a0 a1 x2 oa0 oa1 _ h
    · replace h := (if_neg c_1).symm.trans h
      refine r_aload_n (pc := 13) (i := 1) dX7_takeNumber_13 rfl 1 rfl ?_
      have o_2 := (wt_9_0 oa1).2
      refine r_getR (pc := 14) fg_7_139 rfl oa1 (wt_9_0 oa1).1 dX7_takeNumber_14 ?_
      refine r_aload_n (pc := 17) (i := 0) dX7_takeNumber_17 rfl 0 rfl ?_
      refine r_getI (pc := 18) fg_7_58 rfl oa0 dX7_takeNumber_18 ?_
      obtain ⟨c_3, h⟩ := og h
      refine r_bald (pc := 21) o_2 rfl c_3 rfl dX7_takeNumber_21 ?_
      refine r_cS (pc := 22) (Y := xX7_isDigit) (As := [.int (eI (M (gR a1 0) (wI (M a0 10)).toNat))]) (rest := []) (v := (some (.int (eI (sX7_isDigit (M (gR a1 0) (wI (M a0 10)).toNat)))))) (st1 := [.int (eI (sX7_isDigit (M (gR a1 0) (wI (M a0 10)).toNat)))]) ck_X7_takeNumber_223 (kX7_isDigit (M (gR a1 0) (wI (M a0 10)).toNat) M ) rfl rfl (Nat.le_of_ble_eq_true rfl) ⟨rfl, rfl⟩ rfl dX7_takeNumber_22 ?_
      refine r_if_eq (pc := 25) (tgt := 78) dX7_takeNumber_25 (by decide) rfl (fun c_4 => ?_) (fun c_4 => ?_)
      · replace h := (if_pos c_4).symm.trans h
        refine r_sub (lv' := [(0, .ref (gA G a0))]) [0] rfl ?_
        exact bX7_takeNumber_b78 a0 a1 x2 oa0 oa1 _ h
      · replace h := (if_neg c_4).symm.trans h
        refine r_aload_n (pc := 28) (i := 0) dX7_takeNumber_28 rfl 0 rfl ?_
        refine r_getI (pc := 29) fg_7_58 rfl oa0 dX7_takeNumber_29 ?_
        refine r_aload_n (pc := 32) (i := 0) dX7_takeNumber_32 rfl 0 rfl ?_
        refine r_getI (pc := 33) fg_7_72 rfl oa0 dX7_takeNumber_33 ?_
        refine r_isub (pc := 36) dX7_takeNumber_36 ?_
        refine r_iconst (pc := 37) (v := 2) dX7_takeNumber_37 (by decide +kernel) ?_
        refine r_icmp_ge (pc := 38) (tgt := 65) dX7_takeNumber_38 (by decide) rfl wl_2 (fun c_5 => ?_) (fun c_5 => ?_)
        · replace h := (if_pos c_5).symm.trans h
          refine r_sub (lv' := [(0, .ref (gA G a0)), (1, .ref (gA G a1)), (2, .int (eI x2))]) [0, 1, 2] rfl ?_
          exact bX7_takeNumber_b65 a0 a1 x2 oa0 oa1 _ (fun v0 v1 => ih v0 v1) h
        · replace h := (if_neg c_5).symm.trans h
          refine r_aload_n (pc := 41) (i := 0) dX7_takeNumber_41 rfl 0 rfl ?_
          refine r_aload_n (pc := 42) (i := 0) dX7_takeNumber_42 rfl 0 rfl ?_
          refine r_getI (pc := 43) fg_7_113 rfl oa0 dX7_takeNumber_43 ?_
          refine r_bipush (pc := 46) (v := 10) dX7_takeNumber_46 (by decide +kernel) ?_
          refine r_imul (pc := 48) dX7_takeNumber_48 ?_
          refine r_aload_n (pc := 49) (i := 1) dX7_takeNumber_49 rfl 1 rfl ?_
          have o_6 := (wt_9_0 oa1).2
          refine r_getR (pc := 50) fg_7_139 rfl oa1 (wt_9_0 oa1).1 dX7_takeNumber_50 ?_
          refine r_aload_n (pc := 53) (i := 0) dX7_takeNumber_53 rfl 0 rfl ?_
          refine r_getI (pc := 54) fg_7_58 rfl oa0 dX7_takeNumber_54 ?_
          obtain ⟨c_7, h⟩ := og h
          refine r_bald (pc := 57) o_6 rfl c_7 rfl dX7_takeNumber_57 ?_
          refine r_iadd (pc := 58) dX7_takeNumber_58 ?_
          refine r_bipush (pc := 59) (v := 48) dX7_takeNumber_59 (by decide +kernel) ?_
          refine r_isub (pc := 61) dX7_takeNumber_61 ?_
          obtain ⟨M_8, hM_8, h⟩ := ob h
          refine r_putI (pc := 62) fg_7_113 rfl oa0 hM_8 rfl rfl dX7_takeNumber_62 ?_
          refine r_sub (lv' := [(0, .ref (gA G a0)), (1, .ref (gA G a1)), (2, .int (eI x2))]) [0, 1, 2] rfl ?_
          exact bX7_takeNumber_b65 a0 a1 x2 oa0 oa1 _ (fun v0 v1 => ih v0 v1) h
set_option maxHeartbeats 4000000 in
set_option maxRecDepth 100000 in
theorem bX7_takeNumber_b0 {G : GG} (a0 : Nat) (a1 : Nat) (x2 : Int) (oa0 : OB L0 a0 7) (oa1 : OB L0 a1 9)  (M : MM) {res : MM}  (h : sX7_takeNumber_b0 a0 a1 x2 M = some res) : VV G xX7_takeNumber (ZM G xX7_takeNumber (none) L0 res) L0 M 0 0 0 [(0, .ref (gA G a0)), (1, .ref (gA G a1)), (2, .int (eI x2))] [] := by
  unfold sX7_takeNumber_b0 at h
  refine r_aload_n (pc := 0) (i := 0) dX7_takeNumber_0 rfl 0 rfl ?_
  refine r_iconst (pc := 1) (v := 0) dX7_takeNumber_1 (by decide +kernel) ?_
  obtain ⟨M_1, hM_1, h⟩ := ob h
  refine r_putI (pc := 2) fg_7_113 rfl oa0 hM_1 rfl rfl dX7_takeNumber_2 ?_
  refine r_sub (lv' := [(0, .ref (gA G a0)), (1, .ref (gA G a1)), (2, .int (eI x2))]) [0, 1, 2] rfl ?_
  exact bX7_takeNumber_b5 a0 a1 x2 oa0 oa1 _ _ h
theorem kX7_takeNumber {G : GG} (a0 : Nat) (a1 : Nat) (x2 : Int) (M : MM) {res : MM} (oa0 : OB L0 a0 7) (oa1 : OB L0 a1 9) (h : sX7_takeNumber a0 a1 x2 M = some res) : CO G xX7_takeNumber [.ref (gA G a0), .ref (gA G a1), .int (eI x2)] L0 M (none) L0 res := CO_of (by decide +kernel) (Nat.le_of_ble_eq_true rfl) (bX7_takeNumber_b0 a0 a1 x2 oa0 oa1 M h)
abbrev xX7_take : XX := (yX7_take, cX7_take, 3, none, 2, 42, 0, 0)
theorem ck_X7_take_217 : CKS xX7_take 217 xX7_isBlank 1 := ⟨⟨tb_i 658 (by decide +kernel) (by decide +kernel), tb_i 146 (by decide +kernel) (by decide +kernel), tb_i 660 (by decide +kernel) (by decide +kernel), ⟨by decide +kernel, by decide +kernel, by decide +kernel⟩, by decide, by decide⟩, tb_i 659 (by decide +kernel) (by decide +kernel)⟩
theorem ck_X7_take_220 : CKS xX7_take 220 xX7_isLetter 1 := ⟨⟨tb_i 661 (by decide +kernel) (by decide +kernel), tb_i 146 (by decide +kernel) (by decide +kernel), tb_i 663 (by decide +kernel) (by decide +kernel), ⟨by decide +kernel, by decide +kernel, by decide +kernel⟩, by decide, by decide⟩, tb_i 662 (by decide +kernel) (by decide +kernel)⟩
theorem ck_X7_take_223 : CKS xX7_take 223 xX7_isDigit 1 := ⟨⟨tb_i 664 (by decide +kernel) (by decide +kernel), tb_i 146 (by decide +kernel) (by decide +kernel), tb_i 666 (by decide +kernel) (by decide +kernel), ⟨by decide +kernel, by decide +kernel, by decide +kernel⟩, by decide, by decide⟩, tb_i 665 (by decide +kernel) (by decide +kernel)⟩
theorem ck_X7_take_226 : CKV xX7_take 226 xX7_takeNumber 2 := ⟨⟨tb_i 667 (by decide +kernel) (by decide +kernel), tb_i 146 (by decide +kernel) (by decide +kernel), tb_i 670 (by decide +kernel) (by decide +kernel), ⟨by decide +kernel, by decide +kernel, by decide +kernel⟩, by decide, by decide⟩, tb_i 669 (by decide +kernel) (by decide +kernel), tb_i 3 (by decide +kernel) (by decide +kernel)⟩
def sX7_take_b182 (a0 : Nat) (a1 : Nat)  (a90 : Nat) (x91 : Int) (M : MM) : Option MM := ((some (mU M a90 8 x91)).bind fun M_1 => ((some (mU M_1 a0 10 ((M_1 a0 10) + 1))).bind fun M_2 => (some (M_2))))
def sX7_take_b130 (a0 : Nat) (a1 : Nat)   (M : MM) : Option MM := ((some (mU M a0 8 1)).bind fun M_1 => (some (M_1)))
def sX7_take_b94 (a0 : Nat) (a1 : Nat)  : Nat → Int → MM → Option MM
  | 0, _, _ => none
  | n + 1, x2, M => (if wI x2 ≤ wI (M a0 10) then (sX7_take_b130 a0 a1 M) else (if 0 ≤ wI (M a0 10) ∧ wI (M a0 10) < 600 then (if wI (sX7_isLetter (M (gR a1 0) (wI (M a0 10)).toNat)) = 0 then (sX7_take_b130 a0 a1 M) else ((some (mU M a0 10 ((M a0 10) + 1))).bind fun M_5 => (sX7_take_b94 a0 a1 n x2 M_5))) else none))
def sX7_take_b55 (a0 : Nat) (a1 : Nat)  (x2 : Int) (M : MM) : Option MM := ((some (mU M a0 10 (M a0 9))).bind fun M_1 => (if wI (M_1 a0 9) < wI x2 then (if 0 ≤ wI (M_1 a0 9) ∧ wI (M_1 a0 9) < 600 then (if wI (sX7_isLetter (M_1 (gR a1 0) (wI (M_1 a0 9)).toNat)) = 0 then (if 0 ≤ wI (M_1 a0 9) ∧ wI (M_1 a0 9) < 600 then (if wI (sX7_isDigit (M_1 (gR a1 0) (wI (M_1 a0 9)).toNat)) = 0 then (if 0 ≤ wI (M_1 a0 9) ∧ wI (M_1 a0 9) < 600 then (if wI (M_1 (gR a1 0) (wI (M_1 a0 9)).toNat) = 59 then (sX7_take_b182 a0 a1 a0 3 M_1) else (sX7_take_b182 a0 a1 a0 4 M_1)) else none) else ((sX7_takeNumber a0 a1 x2 M_1).bind fun q_12 => (some (q_12)))) else none) else (sX7_take_b94 a0 a1 FU x2 M_1)) else none) else ((some (mU M_1 a0 8 0)).bind fun M_13 => (some (M_13)))))
def sX7_take_b19 (a0 : Nat) (a1 : Nat)  : Nat → Int → MM → Option MM
  | 0, _, _ => none
  | n + 1, x2, M => (if wI x2 ≤ wI (M a0 9) then (sX7_take_b55 a0 a1 x2 M) else (if 0 ≤ wI (M a0 9) ∧ wI (M a0 9) < 600 then (if wI (sX7_isBlank (M (gR a1 0) (wI (M a0 9)).toNat)) = 0 then (sX7_take_b55 a0 a1 x2 M) else ((some (mU M a0 9 ((M a0 9) + 1))).bind fun M_5 => (sX7_take_b19 a0 a1 n x2 M_5))) else none))
def sX7_take_b0 (a0 : Nat) (a1 : Nat)   (M : MM) : Option MM := ((some (mU M a0 9 (M a0 10))).bind fun M_1 => (sX7_take_b19 a0 a1 FU (min (wI (M a1 1)) 600) M_1))
def sX7_take (a0 : Nat) (a1 : Nat) (M : MM) : Option MM := sX7_take_b0 a0 a1 M
set_option maxHeartbeats 4000000 in
set_option maxRecDepth 100000 in
theorem bX7_take_b182 {G : GG} (a0 : Nat) (a1 : Nat) (oa0 : OB L0 a0 7) (oa1 : OB L0 a1 9) (a90 : Nat) (x91 : Int) (M : MM) {res : MM} (oa90 : OB L0 a90 7) (h : sX7_take_b182 a0 a1 a90 x91 M = some res) : VV G xX7_take (ZM G xX7_take (none) L0 res) L0 M 0 0 182 [(0, .ref (gA G a0))] [.int (eI x91), .ref (gA G a90)] := by
  unfold sX7_take_b182 at h
  obtain ⟨M_1, hM_1, h⟩ := ob h
  refine r_putI (pc := 182) fg_7_65 rfl oa90 hM_1 rfl rfl dX7_take_182 ?_
  refine r_aload_n (pc := 185) (i := 0) dX7_take_185 rfl 0 rfl ?_
  refine r_dup (pc := 186) dX7_take_186 rfl ?_
  refine r_getI (pc := 187) fg_7_58 rfl oa0 dX7_take_187 ?_
  refine r_iconst (pc := 190) (v := 1) dX7_take_190 (by decide +kernel) ?_
  refine r_iadd (pc := 191) dX7_take_191 ?_
  obtain ⟨M_2, hM_2, h⟩ := ob h
  refine r_putI (pc := 192) fg_7_58 rfl oa0 hM_2 rfl rfl dX7_take_192 ?_
  cases h
  exact r_vret (pc := 195) rfl (Nat.le_refl 0) (Nat.le_refl 0) dX7_take_195
set_option maxHeartbeats 4000000 in
set_option maxRecDepth 100000 in
theorem bX7_take_b130 {G : GG} (a0 : Nat) (a1 : Nat) (oa0 : OB L0 a0 7) (oa1 : OB L0 a1 9)  (M : MM) {res : MM}  (h : sX7_take_b130 a0 a1 M = some res) : VV G xX7_take (ZM G xX7_take (none) L0 res) L0 M 0 0 130 [(0, .ref (gA G a0))] [] := by
  unfold sX7_take_b130 at h
  refine r_aload_n (pc := 130) (i := 0) dX7_take_130 rfl 0 rfl ?_
  refine r_iconst (pc := 131) (v := 1) dX7_take_131 (by decide +kernel) ?_
  obtain ⟨M_1, hM_1, h⟩ := ob h
  refine r_putI (pc := 132) fg_7_65 rfl oa0 hM_1 rfl rfl dX7_take_132 ?_
  refine r_goto (pc := 135) (tgt := 195) dX7_take_135 (by decide) ?_
  cases h
  exact r_vret (pc := 195) rfl (Nat.le_refl 0) (Nat.le_refl 0) dX7_take_195
set_option maxHeartbeats 4000000 in
set_option maxRecDepth 100000 in
theorem bX7_take_b94 {G : GG} (a0 : Nat) (a1 : Nat) (oa0 : OB L0 a0 7) (oa1 : OB L0 a1 9) {res : MM} : ∀ (n : Nat) (x2 : Int) (M : MM)  (h : sX7_take_b94 a0 a1 n x2 M = some res), VV G xX7_take (ZM G xX7_take (none) L0 res) L0 M 0 0 94 [(0, .ref (gA G a0)), (1, .ref (gA G a1)), (2, .int (eI x2))] [] := by
  intro n
  induction n with
  | zero =>
    intro x2 M h
    rw [sX7_take_b94] at h
    cases h
  | succ n ih =>
    intro x2 M h
    rw [sX7_take_b94] at h
    refine r_aload_n (pc := 94) (i := 0) dX7_take_94 rfl 0 rfl ?_
    refine r_getI (pc := 95) fg_7_58 rfl oa0 dX7_take_95 ?_
    refine r_iload_n (pc := 98) (i := 2) dX7_take_98 rfl 2 rfl ?_
    refine r_icmp_ge (pc := 99) (tgt := 130) dX7_take_99 (by decide) rfl rfl (fun c_1 => ?_) (fun c_1 => ?_)
    · replace h := (if_pos c_1).symm.trans h
      refine r_sub (lv' := [(0, .ref (gA G a0))]) [0] rfl ?_
      exact bX7_take_b130 a0 a1 oa0 oa1 _ h
    · replace h := (if_neg c_1).symm.trans h
      refine r_aload_n (pc := 102) (i := 1) dX7_take_102 rfl 1 rfl ?_
      have o_2 := (wt_9_0 oa1).2
      refine r_getR (pc := 103) fg_7_139 rfl oa1 (wt_9_0 oa1).1 dX7_take_103 ?_
      refine r_aload_n (pc := 106) (i := 0) dX7_take_106 rfl 0 rfl ?_
      refine r_getI (pc := 107) fg_7_58 rfl oa0 dX7_take_107 ?_
      obtain ⟨c_3, h⟩ := og h
      refine r_bald (pc := 110) o_2 rfl c_3 rfl dX7_take_110 ?_
      refine r_cS (pc := 111) (Y := xX7_isLetter) (As := [.int (eI (M (gR a1 0) (wI (M a0 10)).toNat))]) (rest := []) (v := (some (.int (eI (sX7_isLetter (M (gR a1 0) (wI (M a0 10)).toNat)))))) (st1 := [.int (eI (sX7_isLetter (M (gR a1 0) (wI (M a0 10)).toNat)))]) ck_X7_take_220 (kX7_isLetter (M (gR a1 0) (wI (M a0 10)).toNat) M ) rfl rfl (Nat.le_of_ble_eq_true rfl) ⟨rfl, rfl⟩ rfl dX7_take_111 ?_
      refine r_if_eq (pc := 114) (tgt := 130) dX7_take_114 (by decide) rfl (fun c_4 => ?_) (fun c_4 => ?_)
      · replace h := (if_pos c_4).symm.trans h
        refine r_sub (lv' := [(0, .ref (gA G a0))]) [0] rfl ?_
        exact bX7_take_b130 a0 a1 oa0 oa1 _ h
      · replace h := (if_neg c_4).symm.trans h
        refine r_aload_n (pc := 117) (i := 0) dX7_take_117 rfl 0 rfl ?_
        refine r_dup (pc := 118) dX7_take_118 rfl ?_
        refine r_getI (pc := 119) fg_7_58 rfl oa0 dX7_take_119 ?_
        refine r_iconst (pc := 122) (v := 1) dX7_take_122 (by decide +kernel) ?_
        refine r_iadd (pc := 123) dX7_take_123 ?_
        obtain ⟨M_5, hM_5, h⟩ := ob h
        refine r_putI (pc := 124) fg_7_58 rfl oa0 hM_5 rfl rfl dX7_take_124 ?_
        refine r_goto (pc := 127) (tgt := 94) dX7_take_127 (by decide) ?_
        refine r_sub (lv' := [(0, .ref (gA G a0)), (1, .ref (gA G a1)), (2, .int (eI x2))]) [0, 1, 2] rfl ?_
        exact ih _ _ h
set_option maxHeartbeats 4000000 in
set_option maxRecDepth 100000 in
theorem bX7_take_b55 {G : GG} (a0 : Nat) (a1 : Nat) (oa0 : OB L0 a0 7) (oa1 : OB L0 a1 9) (x2 : Int) (M : MM) {res : MM}  (h : sX7_take_b55 a0 a1 x2 M = some res) : VV G xX7_take (ZM G xX7_take (none) L0 res) L0 M 0 0 55 [(0, .ref (gA G a0)), (1, .ref (gA G a1)), (2, .int (eI x2))] [] := by
  unfold sX7_take_b55 at h
  refine r_aload_n (pc := 55) (i := 0) dX7_take_55 rfl 0 rfl ?_
  refine r_aload_n (pc := 56) (i := 0) dX7_take_56 rfl 0 rfl ?_
  refine r_getI (pc := 57) fg_7_72 rfl oa0 dX7_take_57 ?_
  obtain ⟨M_1, hM_1, h⟩ := ob h
  refine r_putI (pc := 60) fg_7_58 rfl oa0 hM_1 rfl rfl dX7_take_60 ?_
  refine r_aload_n (pc := 63) (i := 0) dX7_take_63 rfl 0 rfl ?_
  refine r_getI (pc := 64) fg_7_72 rfl oa0 dX7_take_64 ?_
  refine r_iload_n (pc := 67) (i := 2) dX7_take_67 rfl 2 rfl ?_
  refine r_icmp_lt (pc := 68) (tgt := 79) dX7_take_68 (by decide) rfl rfl (fun c_2 => ?_) (fun c_2 => ?_)
  · replace h := (if_pos c_2).symm.trans h
    refine r_aload_n (pc := 79) (i := 1) dX7_take_79 rfl 1 rfl ?_
    have o_3 := (wt_9_0 oa1).2
    refine r_getR (pc := 80) fg_7_139 rfl oa1 (wt_9_0 oa1).1 dX7_take_80 ?_
    refine r_aload_n (pc := 83) (i := 0) dX7_take_83 rfl 0 rfl ?_
    refine r_getI (pc := 84) fg_7_72 rfl oa0 dX7_take_84 ?_
    obtain ⟨c_4, h⟩ := og h
    refine r_bald (pc := 87) o_3 rfl c_4 rfl dX7_take_87 ?_
    refine r_cS (pc := 88) (Y := xX7_isLetter) (As := [.int (eI (M_1 (gR a1 0) (wI (M_1 a0 9)).toNat))]) (rest := []) (v := (some (.int (eI (sX7_isLetter (M_1 (gR a1 0) (wI (M_1 a0 9)).toNat)))))) (st1 := [.int (eI (sX7_isLetter (M_1 (gR a1 0) (wI (M_1 a0 9)).toNat)))]) ck_X7_take_220 (kX7_isLetter (M_1 (gR a1 0) (wI (M_1 a0 9)).toNat) M_1 ) rfl rfl (Nat.le_of_ble_eq_true rfl) ⟨rfl, rfl⟩ rfl dX7_take_88 ?_
    refine r_if_eq (pc := 91) (tgt := 138) dX7_take_91 (by decide) rfl (fun c_5 => ?_) (fun c_5 => ?_)
    · replace h := (if_pos c_5).symm.trans h
      refine r_aload_n (pc := 138) (i := 1) dX7_take_138 rfl 1 rfl ?_
      have o_6 := (wt_9_0 oa1).2
      refine r_getR (pc := 139) fg_7_139 rfl oa1 (wt_9_0 oa1).1 dX7_take_139 ?_
      refine r_aload_n (pc := 142) (i := 0) dX7_take_142 rfl 0 rfl ?_
      refine r_getI (pc := 143) fg_7_72 rfl oa0 dX7_take_143 ?_
      obtain ⟨c_7, h⟩ := og h
      refine r_bald (pc := 146) o_6 rfl c_7 rfl dX7_take_146 ?_
      refine r_cS (pc := 147) (Y := xX7_isDigit) (As := [.int (eI (M_1 (gR a1 0) (wI (M_1 a0 9)).toNat))]) (rest := []) (v := (some (.int (eI (sX7_isDigit (M_1 (gR a1 0) (wI (M_1 a0 9)).toNat)))))) (st1 := [.int (eI (sX7_isDigit (M_1 (gR a1 0) (wI (M_1 a0 9)).toNat)))]) ck_X7_take_223 (kX7_isDigit (M_1 (gR a1 0) (wI (M_1 a0 9)).toNat) M_1 ) rfl rfl (Nat.le_of_ble_eq_true rfl) ⟨rfl, rfl⟩ rfl dX7_take_147 ?_
      refine r_if_eq (pc := 150) (tgt := 162) dX7_take_150 (by decide) rfl (fun c_8 => ?_) (fun c_8 => ?_)
      · replace h := (if_pos c_8).symm.trans h
        refine r_aload_n (pc := 162) (i := 0) dX7_take_162 rfl 0 rfl ?_
        refine r_aload_n (pc := 163) (i := 1) dX7_take_163 rfl 1 rfl ?_
        have o_9 := (wt_9_0 oa1).2
        refine r_getR (pc := 164) fg_7_139 rfl oa1 (wt_9_0 oa1).1 dX7_take_164 ?_
        refine r_aload_n (pc := 167) (i := 0) dX7_take_167 rfl 0 rfl ?_
        refine r_getI (pc := 168) fg_7_72 rfl oa0 dX7_take_168 ?_
        obtain ⟨c_10, h⟩ := og h
        refine r_bald (pc := 171) o_9 rfl c_10 rfl dX7_take_171 ?_
        refine r_bipush (pc := 172) (v := 59) dX7_take_172 (by decide +kernel) ?_
        refine r_icmp_ne (pc := 174) (tgt := 181) dX7_take_174 (by decide) rfl wl_59 (fun c_11 => ?_) (fun c_11 => ?_)
        · replace h := (if_neg c_11).symm.trans h
          refine r_iconst (pc := 181) (v := 4) dX7_take_181 (by decide +kernel) ?_
          refine r_sub (lv' := [(0, .ref (gA G a0))]) [0] rfl ?_
          exact bX7_take_b182 a0 a1 oa0 oa1 _ _ _ oa0 h
        · replace h := (if_pos c_11).symm.trans h
          refine r_iconst (pc := 177) (v := 3) dX7_take_177 (by decide +kernel) ?_
          refine r_goto (pc := 178) (tgt := 182) dX7_take_178 (by decide) ?_
          refine r_sub (lv' := [(0, .ref (gA G a0))]) [0] rfl ?_
          exact bX7_take_b182 a0 a1 oa0 oa1 _ _ _ oa0 h
      · replace h := (if_neg c_8).symm.trans h
        refine r_aload_n (pc := 153) (i := 0) dX7_take_153 rfl 0 rfl ?_
        refine r_aload_n (pc := 154) (i := 1) dX7_take_154 rfl 1 rfl ?_
        refine r_iload_n (pc := 155) (i := 2) dX7_take_155 rfl 2 rfl ?_
        obtain ⟨q_12, hq_12, h⟩ := ob h
        refine r_cV (pc := 156) (Y := xX7_takeNumber) (As := [.ref (gA G a1), .int (eI x2)]) (rest := []) (v := none) (st1 := []) ck_X7_take_226 (kX7_takeNumber a0 a1 x2 M_1 oa0 oa1 hq_12) oa0 rfl rfl rfl rfl (Nat.le_of_ble_eq_true rfl) ⟨rfl, rfl⟩ rfl dX7_take_156 ?_
        refine r_goto (pc := 159) (tgt := 195) dX7_take_159 (by decide) ?_
        cases h
        exact r_vret (pc := 195) rfl (Nat.le_refl 0) (Nat.le_refl 0) dX7_take_195
    · replace h := (if_neg c_5).symm.trans h
      refine r_sub (lv' := [(0, .ref (gA G a0)), (1, .ref (gA G a1)), (2, .int (eI x2))]) [0, 1, 2] rfl ?_
      exact bX7_take_b94 a0 a1 oa0 oa1 _ _ _ h
  · replace h := (if_neg c_2).symm.trans h
    refine r_aload_n (pc := 71) (i := 0) dX7_take_71 rfl 0 rfl ?_
    refine r_iconst (pc := 72) (v := 0) dX7_take_72 (by decide +kernel) ?_
    obtain ⟨M_13, hM_13, h⟩ := ob h
    refine r_putI (pc := 73) fg_7_65 rfl oa0 hM_13 rfl rfl dX7_take_73 ?_
    refine r_goto (pc := 76) (tgt := 195) dX7_take_76 (by decide) ?_
    cases h
    exact r_vret (pc := 195) rfl (Nat.le_refl 0) (Nat.le_refl 0) dX7_take_195
set_option maxHeartbeats 4000000 in
set_option maxRecDepth 100000 in
theorem bX7_take_b19 {G : GG} (a0 : Nat) (a1 : Nat) (oa0 : OB L0 a0 7) (oa1 : OB L0 a1 9) {res : MM} : ∀ (n : Nat) (x2 : Int) (M : MM)  (h : sX7_take_b19 a0 a1 n x2 M = some res), VV G xX7_take (ZM G xX7_take (none) L0 res) L0 M 0 0 19 [(0, .ref (gA G a0)), (1, .ref (gA G a1)), (2, .int (eI x2))] [] := by
  intro n
  induction n with
  | zero =>
    intro x2 M h
    rw [sX7_take_b19] at h
    cases h
  | succ n ih =>
    intro x2 M h
    rw [sX7_take_b19] at h
    refine r_aload_n (pc := 19) (i := 0) dX7_take_19 rfl 0 rfl ?_
    refine r_getI (pc := 20) fg_7_72 rfl oa0 dX7_take_20 ?_
    refine r_iload_n (pc := 23) (i := 2) dX7_take_23 rfl 2 rfl ?_
    refine r_icmp_ge (pc := 24) (tgt := 55) dX7_take_24 (by decide) rfl rfl (fun c_1 => ?_) (fun c_1 => ?_)
    · replace h := (if_pos c_1).symm.trans h
      refine r_sub (lv' := [(0, .ref (gA G a0)), (1, .ref (gA G a1)), (2, .int (eI x2))]) [0, 1, 2] rfl ?_
      exact bX7_take_b55 a0 a1 oa0 oa1 _ _ h
    · replace h := (if_neg c_1).symm.trans h
      refine r_aload_n (pc := 27) (i := 1) dX7_take_27 rfl 1 rfl ?_
      have o_2 := (wt_9_0 oa1).2
      refine r_getR (pc := 28) fg_7_139 rfl oa1 (wt_9_0 oa1).1 dX7_take_28 ?_
      refine r_aload_n (pc := 31) (i := 0) dX7_take_31 rfl 0 rfl ?_
      refine r_getI (pc := 32) fg_7_72 rfl oa0 dX7_take_32 ?_
      obtain ⟨c_3, h⟩ := og h
      refine r_bald (pc := 35) o_2 rfl c_3 rfl dX7_take_35 ?_
      refine r_cS (pc := 36) (Y := xX7_isBlank) (As := [.int (eI (M (gR a1 0) (wI (M a0 9)).toNat))]) (rest := []) (v := (some (.int (eI (sX7_isBlank (M (gR a1 0) (wI (M a0 9)).toNat)))))) (st1 := [.int (eI (sX7_isBlank (M (gR a1 0) (wI (M a0 9)).toNat)))]) ck_X7_take_217 (kX7_isBlank (M (gR a1 0) (wI (M a0 9)).toNat) M ) rfl rfl (Nat.le_of_ble_eq_true rfl) ⟨rfl, rfl⟩ rfl dX7_take_36 ?_
      refine r_if_eq (pc := 39) (tgt := 55) dX7_take_39 (by decide) rfl (fun c_4 => ?_) (fun c_4 => ?_)
      · replace h := (if_pos c_4).symm.trans h
        refine r_sub (lv' := [(0, .ref (gA G a0)), (1, .ref (gA G a1)), (2, .int (eI x2))]) [0, 1, 2] rfl ?_
        exact bX7_take_b55 a0 a1 oa0 oa1 _ _ h
      · replace h := (if_neg c_4).symm.trans h
        refine r_aload_n (pc := 42) (i := 0) dX7_take_42 rfl 0 rfl ?_
        refine r_dup (pc := 43) dX7_take_43 rfl ?_
        refine r_getI (pc := 44) fg_7_72 rfl oa0 dX7_take_44 ?_
        refine r_iconst (pc := 47) (v := 1) dX7_take_47 (by decide +kernel) ?_
        refine r_iadd (pc := 48) dX7_take_48 ?_
        obtain ⟨M_5, hM_5, h⟩ := ob h
        refine r_putI (pc := 49) fg_7_72 rfl oa0 hM_5 rfl rfl dX7_take_49 ?_
        refine r_goto (pc := 52) (tgt := 19) dX7_take_52 (by decide) ?_
        refine r_sub (lv' := [(0, .ref (gA G a0)), (1, .ref (gA G a1)), (2, .int (eI x2))]) [0, 1, 2] rfl ?_
        exact ih _ _ h
set_option maxHeartbeats 4000000 in
set_option maxRecDepth 100000 in
theorem bX7_take_b0 {G : GG} (a0 : Nat) (a1 : Nat) (oa0 : OB L0 a0 7) (oa1 : OB L0 a1 9)  (M : MM) {res : MM}  (h : sX7_take_b0 a0 a1 M = some res) : VV G xX7_take (ZM G xX7_take (none) L0 res) L0 M 0 0 0 [(0, .ref (gA G a0)), (1, .ref (gA G a1))] [] := by
  unfold sX7_take_b0 at h
  refine r_aload_n (pc := 0) (i := 1) dX7_take_0 rfl 1 rfl ?_
  refine r_getI (pc := 1) fg_7_85 rfl oa1 dX7_take_1 ?_
  refine r_sipush (pc := 4) (v := 600) dX7_take_4 (by decide +kernel) ?_
  refine r_mmin (pc := 7) ml_7_211 ⟨Nat.le_of_ble_eq_true rfl, Nat.le_of_ble_eq_true rfl, Nat.le_of_ble_eq_true rfl, Nat.le_of_ble_eq_true rfl⟩ rfl wl_600 dX7_take_7 ?_
  refine r_istore_n (pc := 10) (i := 2) (lv' := [(2, .int (eI (min (wI (M a1 1)) 600))), (0, .ref (gA G a0)), (1, .ref (gA G a1))]) dX7_take_10 rfl (Nat.le_of_ble_eq_true rfl) rfl ?_
  refine r_aload_n (pc := 11) (i := 0) dX7_take_11 rfl 1 rfl ?_
  refine r_aload_n (pc := 12) (i := 0) dX7_take_12 rfl 1 rfl ?_
  refine r_getI (pc := 13) fg_7_58 rfl oa0 dX7_take_13 ?_
  obtain ⟨M_1, hM_1, h⟩ := ob h
  refine r_putI (pc := 16) fg_7_72 rfl oa0 hM_1 rfl rfl dX7_take_16 ?_
  refine r_sub (lv' := [(0, .ref (gA G a0)), (1, .ref (gA G a1)), (2, .int (eI (min (wI (M a1 1)) 600)))]) [1, 2, 0] rfl ?_
  exact bX7_take_b19 a0 a1 oa0 oa1 _ _ _ h
theorem kX7_take {G : GG} (a0 : Nat) (a1 : Nat) (M : MM) {res : MM} (oa0 : OB L0 a0 7) (oa1 : OB L0 a1 9) (h : sX7_take a0 a1 M = some res) : CO G xX7_take [.ref (gA G a0), .ref (gA G a1)] L0 M (none) L0 res := CO_of (by decide +kernel) (Nat.le_of_ble_eq_true rfl) (bX7_take_b0 a0 a1 oa0 oa1 M h)
abbrev xX11_wordOf : XX := (yX11_wordOf, cX11_wordOf, 1, (some (.object "java/lang/String")), 0, 0, 0, 0)
def sX11_wordOf_b0 (x0 : Int)   : Nat := (if wI x0 = 0 then 0 else (if wI x0 = 1 then 1 else (if wI x0 = 2 then 2 else (if wI x0 = 3 then 3 else (if wI x0 = 4 then 4 else (if wI x0 = 5 then 5 else (if wI x0 = 6 then 6 else (if wI x0 = 7 then 7 else (if wI x0 = 8 then 8 else (if wI x0 = 9 then 9 else (if wI x0 = 10 then 10 else (if wI x0 = 11 then 11 else (if wI x0 = 12 then 12 else (if wI x0 = 13 then 13 else (if wI x0 = 14 then 14 else (if wI x0 = 15 then 15 else (if wI x0 = 16 then 16 else (if wI x0 = 17 then 17 else (if wI x0 = 18 then 18 else (if wI x0 = 19 then 19 else (if wI x0 = 20 then 20 else (if wI x0 = 21 then 21 else (if wI x0 = 22 then 22 else (if wI x0 = 23 then 23 else (if wI x0 = 24 then 24 else (if wI x0 = 25 then 25 else (if wI x0 = 26 then 26 else 27)))))))))))))))))))))))))))
def sX11_wordOf (x0 : Int) : Nat := sX11_wordOf_b0 x0
set_option maxHeartbeats 4000000 in
set_option maxRecDepth 100000 in
theorem bX11_wordOf_b0 {G : GG} (x0 : Int) (M : MM)   {res : Nat}  (h : sX11_wordOf_b0 x0 = res) : VV G xX11_wordOf (ZM G xX11_wordOf (some (.ref (gK G res))) L0 M) L0 M 0 0 0 [(0, .int (eI x0))] [] := by
  unfold sX11_wordOf_b0 at h
  refine r_iload_n (pc := 0) (i := 0) dX11_wordOf_0 rfl 0 rfl ?_
  by_cases c_1 : wI x0 = 0
  · replace h := (if_pos c_1).symm.trans h
    refine r_tsw (pc := 1) (tgt := 124) (k' := 0) (rfl.trans c_1) dX11_wordOf_1 (by decide) rfl (by decide) ?_
    refine r_ldcS (pc := 124) (j := 0) (by decide) rfl rfl dX11_wordOf_124 ?_
    cases h
    exact r_aret (pc := 127) rfl (Or.inr ⟨_, rfl⟩) (Nat.le_refl 0) (Nat.le_refl 0) dX11_wordOf_127
  · replace h := (if_neg c_1).symm.trans h
    by_cases c_2 : wI x0 = 1
    · replace h := (if_pos c_2).symm.trans h
      refine r_tsw (pc := 1) (tgt := 128) (k' := 1) (rfl.trans c_2) dX11_wordOf_1 (by decide) rfl (by decide) ?_
      refine r_ldcS (pc := 128) (j := 1) (by decide) rfl rfl dX11_wordOf_128 ?_
      cases h
      exact r_aret (pc := 131) rfl (Or.inr ⟨_, rfl⟩) (Nat.le_refl 0) (Nat.le_refl 0) dX11_wordOf_131
    · replace h := (if_neg c_2).symm.trans h
      by_cases c_3 : wI x0 = 2
      · replace h := (if_pos c_3).symm.trans h
        refine r_tsw (pc := 1) (tgt := 132) (k' := 2) (rfl.trans c_3) dX11_wordOf_1 (by decide) rfl (by decide) ?_
        refine r_ldcS (pc := 132) (j := 2) (by decide) rfl rfl dX11_wordOf_132 ?_
        cases h
        exact r_aret (pc := 135) rfl (Or.inr ⟨_, rfl⟩) (Nat.le_refl 0) (Nat.le_refl 0) dX11_wordOf_135
      · replace h := (if_neg c_3).symm.trans h
        by_cases c_4 : wI x0 = 3
        · replace h := (if_pos c_4).symm.trans h
          refine r_tsw (pc := 1) (tgt := 136) (k' := 3) (rfl.trans c_4) dX11_wordOf_1 (by decide) rfl (by decide) ?_
          refine r_ldcS (pc := 136) (j := 3) (by decide) rfl rfl dX11_wordOf_136 ?_
          cases h
          exact r_aret (pc := 139) rfl (Or.inr ⟨_, rfl⟩) (Nat.le_refl 0) (Nat.le_refl 0) dX11_wordOf_139
        · replace h := (if_neg c_4).symm.trans h
          by_cases c_5 : wI x0 = 4
          · replace h := (if_pos c_5).symm.trans h
            refine r_tsw (pc := 1) (tgt := 140) (k' := 4) (rfl.trans c_5) dX11_wordOf_1 (by decide) rfl (by decide) ?_
            refine r_ldcS (pc := 140) (j := 4) (by decide) rfl rfl dX11_wordOf_140 ?_
            cases h
            exact r_aret (pc := 143) rfl (Or.inr ⟨_, rfl⟩) (Nat.le_refl 0) (Nat.le_refl 0) dX11_wordOf_143
          · replace h := (if_neg c_5).symm.trans h
            by_cases c_6 : wI x0 = 5
            · replace h := (if_pos c_6).symm.trans h
              refine r_tsw (pc := 1) (tgt := 144) (k' := 5) (rfl.trans c_6) dX11_wordOf_1 (by decide) rfl (by decide) ?_
              refine r_ldcS (pc := 144) (j := 5) (by decide) rfl rfl dX11_wordOf_144 ?_
              cases h
              exact r_aret (pc := 147) rfl (Or.inr ⟨_, rfl⟩) (Nat.le_refl 0) (Nat.le_refl 0) dX11_wordOf_147
            · replace h := (if_neg c_6).symm.trans h
              by_cases c_7 : wI x0 = 6
              · replace h := (if_pos c_7).symm.trans h
                refine r_tsw (pc := 1) (tgt := 148) (k' := 6) (rfl.trans c_7) dX11_wordOf_1 (by decide) rfl (by decide) ?_
                refine r_ldcS (pc := 148) (j := 6) (by decide) rfl rfl dX11_wordOf_148 ?_
                cases h
                exact r_aret (pc := 151) rfl (Or.inr ⟨_, rfl⟩) (Nat.le_refl 0) (Nat.le_refl 0) dX11_wordOf_151
              · replace h := (if_neg c_7).symm.trans h
                by_cases c_8 : wI x0 = 7
                · replace h := (if_pos c_8).symm.trans h
                  refine r_tsw (pc := 1) (tgt := 152) (k' := 7) (rfl.trans c_8) dX11_wordOf_1 (by decide) rfl (by decide) ?_
                  refine r_ldcS (pc := 152) (j := 7) (by decide) rfl rfl dX11_wordOf_152 ?_
                  cases h
                  exact r_aret (pc := 155) rfl (Or.inr ⟨_, rfl⟩) (Nat.le_refl 0) (Nat.le_refl 0) dX11_wordOf_155
                · replace h := (if_neg c_8).symm.trans h
                  by_cases c_9 : wI x0 = 8
                  · replace h := (if_pos c_9).symm.trans h
                    refine r_tsw (pc := 1) (tgt := 156) (k' := 8) (rfl.trans c_9) dX11_wordOf_1 (by decide) rfl (by decide) ?_
                    refine r_ldcS (pc := 156) (j := 8) (by decide) rfl rfl dX11_wordOf_156 ?_
                    cases h
                    exact r_aret (pc := 159) rfl (Or.inr ⟨_, rfl⟩) (Nat.le_refl 0) (Nat.le_refl 0) dX11_wordOf_159
                  · replace h := (if_neg c_9).symm.trans h
                    by_cases c_10 : wI x0 = 9
                    · replace h := (if_pos c_10).symm.trans h
                      refine r_tsw (pc := 1) (tgt := 160) (k' := 9) (rfl.trans c_10) dX11_wordOf_1 (by decide) rfl (by decide) ?_
                      refine r_ldcS (pc := 160) (j := 9) (by decide) rfl rfl dX11_wordOf_160 ?_
                      cases h
                      exact r_aret (pc := 163) rfl (Or.inr ⟨_, rfl⟩) (Nat.le_refl 0) (Nat.le_refl 0) dX11_wordOf_163
                    · replace h := (if_neg c_10).symm.trans h
                      by_cases c_11 : wI x0 = 10
                      · replace h := (if_pos c_11).symm.trans h
                        refine r_tsw (pc := 1) (tgt := 164) (k' := 10) (rfl.trans c_11) dX11_wordOf_1 (by decide) rfl (by decide) ?_
                        refine r_ldcS (pc := 164) (j := 10) (by decide) rfl rfl dX11_wordOf_164 ?_
                        cases h
                        exact r_aret (pc := 167) rfl (Or.inr ⟨_, rfl⟩) (Nat.le_refl 0) (Nat.le_refl 0) dX11_wordOf_167
                      · replace h := (if_neg c_11).symm.trans h
                        by_cases c_12 : wI x0 = 11
                        · replace h := (if_pos c_12).symm.trans h
                          refine r_tsw (pc := 1) (tgt := 168) (k' := 11) (rfl.trans c_12) dX11_wordOf_1 (by decide) rfl (by decide) ?_
                          refine r_ldcS (pc := 168) (j := 11) (by decide) rfl rfl dX11_wordOf_168 ?_
                          cases h
                          exact r_aret (pc := 171) rfl (Or.inr ⟨_, rfl⟩) (Nat.le_refl 0) (Nat.le_refl 0) dX11_wordOf_171
                        · replace h := (if_neg c_12).symm.trans h
                          by_cases c_13 : wI x0 = 12
                          · replace h := (if_pos c_13).symm.trans h
                            refine r_tsw (pc := 1) (tgt := 172) (k' := 12) (rfl.trans c_13) dX11_wordOf_1 (by decide) rfl (by decide) ?_
                            refine r_ldcS (pc := 172) (j := 12) (by decide) rfl rfl dX11_wordOf_172 ?_
                            cases h
                            exact r_aret (pc := 175) rfl (Or.inr ⟨_, rfl⟩) (Nat.le_refl 0) (Nat.le_refl 0) dX11_wordOf_175
                          · replace h := (if_neg c_13).symm.trans h
                            by_cases c_14 : wI x0 = 13
                            · replace h := (if_pos c_14).symm.trans h
                              refine r_tsw (pc := 1) (tgt := 176) (k' := 13) (rfl.trans c_14) dX11_wordOf_1 (by decide) rfl (by decide) ?_
                              refine r_ldcS (pc := 176) (j := 13) (by decide) rfl rfl dX11_wordOf_176 ?_
                              cases h
                              exact r_aret (pc := 179) rfl (Or.inr ⟨_, rfl⟩) (Nat.le_refl 0) (Nat.le_refl 0) dX11_wordOf_179
                            · replace h := (if_neg c_14).symm.trans h
                              by_cases c_15 : wI x0 = 14
                              · replace h := (if_pos c_15).symm.trans h
                                refine r_tsw (pc := 1) (tgt := 180) (k' := 14) (rfl.trans c_15) dX11_wordOf_1 (by decide) rfl (by decide) ?_
                                refine r_ldcS (pc := 180) (j := 14) (by decide) rfl rfl dX11_wordOf_180 ?_
                                cases h
                                exact r_aret (pc := 183) rfl (Or.inr ⟨_, rfl⟩) (Nat.le_refl 0) (Nat.le_refl 0) dX11_wordOf_183
                              · replace h := (if_neg c_15).symm.trans h
                                by_cases c_16 : wI x0 = 15
                                · replace h := (if_pos c_16).symm.trans h
                                  refine r_tsw (pc := 1) (tgt := 184) (k' := 15) (rfl.trans c_16) dX11_wordOf_1 (by decide) rfl (by decide) ?_
                                  refine r_ldcS (pc := 184) (j := 15) (by decide) rfl rfl dX11_wordOf_184 ?_
                                  cases h
                                  exact r_aret (pc := 187) rfl (Or.inr ⟨_, rfl⟩) (Nat.le_refl 0) (Nat.le_refl 0) dX11_wordOf_187
                                · replace h := (if_neg c_16).symm.trans h
                                  by_cases c_17 : wI x0 = 16
                                  · replace h := (if_pos c_17).symm.trans h
                                    refine r_tsw (pc := 1) (tgt := 188) (k' := 16) (rfl.trans c_17) dX11_wordOf_1 (by decide) rfl (by decide) ?_
                                    refine r_ldcS (pc := 188) (j := 16) (by decide) rfl rfl dX11_wordOf_188 ?_
                                    cases h
                                    exact r_aret (pc := 191) rfl (Or.inr ⟨_, rfl⟩) (Nat.le_refl 0) (Nat.le_refl 0) dX11_wordOf_191
                                  · replace h := (if_neg c_17).symm.trans h
                                    by_cases c_18 : wI x0 = 17
                                    · replace h := (if_pos c_18).symm.trans h
                                      refine r_tsw (pc := 1) (tgt := 192) (k' := 17) (rfl.trans c_18) dX11_wordOf_1 (by decide) rfl (by decide) ?_
                                      refine r_ldcS (pc := 192) (j := 17) (by decide) rfl rfl dX11_wordOf_192 ?_
                                      cases h
                                      exact r_aret (pc := 195) rfl (Or.inr ⟨_, rfl⟩) (Nat.le_refl 0) (Nat.le_refl 0) dX11_wordOf_195
                                    · replace h := (if_neg c_18).symm.trans h
                                      by_cases c_19 : wI x0 = 18
                                      · replace h := (if_pos c_19).symm.trans h
                                        refine r_tsw (pc := 1) (tgt := 196) (k' := 18) (rfl.trans c_19) dX11_wordOf_1 (by decide) rfl (by decide) ?_
                                        refine r_ldcS (pc := 196) (j := 18) (by decide) rfl rfl dX11_wordOf_196 ?_
                                        cases h
                                        exact r_aret (pc := 199) rfl (Or.inr ⟨_, rfl⟩) (Nat.le_refl 0) (Nat.le_refl 0) dX11_wordOf_199
                                      · replace h := (if_neg c_19).symm.trans h
                                        by_cases c_20 : wI x0 = 19
                                        · replace h := (if_pos c_20).symm.trans h
                                          refine r_tsw (pc := 1) (tgt := 200) (k' := 19) (rfl.trans c_20) dX11_wordOf_1 (by decide) rfl (by decide) ?_
                                          refine r_ldcS (pc := 200) (j := 19) (by decide) rfl rfl dX11_wordOf_200 ?_
                                          cases h
                                          exact r_aret (pc := 203) rfl (Or.inr ⟨_, rfl⟩) (Nat.le_refl 0) (Nat.le_refl 0) dX11_wordOf_203
                                        · replace h := (if_neg c_20).symm.trans h
                                          by_cases c_21 : wI x0 = 20
                                          · replace h := (if_pos c_21).symm.trans h
                                            refine r_tsw (pc := 1) (tgt := 204) (k' := 20) (rfl.trans c_21) dX11_wordOf_1 (by decide) rfl (by decide) ?_
                                            refine r_ldcS (pc := 204) (j := 20) (by decide) rfl rfl dX11_wordOf_204 ?_
                                            cases h
                                            exact r_aret (pc := 207) rfl (Or.inr ⟨_, rfl⟩) (Nat.le_refl 0) (Nat.le_refl 0) dX11_wordOf_207
                                          · replace h := (if_neg c_21).symm.trans h
                                            by_cases c_22 : wI x0 = 21
                                            · replace h := (if_pos c_22).symm.trans h
                                              refine r_tsw (pc := 1) (tgt := 208) (k' := 21) (rfl.trans c_22) dX11_wordOf_1 (by decide) rfl (by decide) ?_
                                              refine r_ldcS (pc := 208) (j := 21) (by decide) rfl rfl dX11_wordOf_208 ?_
                                              cases h
                                              exact r_aret (pc := 211) rfl (Or.inr ⟨_, rfl⟩) (Nat.le_refl 0) (Nat.le_refl 0) dX11_wordOf_211
                                            · replace h := (if_neg c_22).symm.trans h
                                              by_cases c_23 : wI x0 = 22
                                              · replace h := (if_pos c_23).symm.trans h
                                                refine r_tsw (pc := 1) (tgt := 212) (k' := 22) (rfl.trans c_23) dX11_wordOf_1 (by decide) rfl (by decide) ?_
                                                refine r_ldcS (pc := 212) (j := 22) (by decide) rfl rfl dX11_wordOf_212 ?_
                                                cases h
                                                exact r_aret (pc := 215) rfl (Or.inr ⟨_, rfl⟩) (Nat.le_refl 0) (Nat.le_refl 0) dX11_wordOf_215
                                              · replace h := (if_neg c_23).symm.trans h
                                                by_cases c_24 : wI x0 = 23
                                                · replace h := (if_pos c_24).symm.trans h
                                                  refine r_tsw (pc := 1) (tgt := 216) (k' := 23) (rfl.trans c_24) dX11_wordOf_1 (by decide) rfl (by decide) ?_
                                                  refine r_ldcS (pc := 216) (j := 23) (by decide) rfl rfl dX11_wordOf_216 ?_
                                                  cases h
                                                  exact r_aret (pc := 219) rfl (Or.inr ⟨_, rfl⟩) (Nat.le_refl 0) (Nat.le_refl 0) dX11_wordOf_219
                                                · replace h := (if_neg c_24).symm.trans h
                                                  by_cases c_25 : wI x0 = 24
                                                  · replace h := (if_pos c_25).symm.trans h
                                                    refine r_tsw (pc := 1) (tgt := 220) (k' := 24) (rfl.trans c_25) dX11_wordOf_1 (by decide) rfl (by decide) ?_
                                                    refine r_ldcS (pc := 220) (j := 24) (by decide) rfl rfl dX11_wordOf_220 ?_
                                                    cases h
                                                    exact r_aret (pc := 223) rfl (Or.inr ⟨_, rfl⟩) (Nat.le_refl 0) (Nat.le_refl 0) dX11_wordOf_223
                                                  · replace h := (if_neg c_25).symm.trans h
                                                    by_cases c_26 : wI x0 = 25
                                                    · replace h := (if_pos c_26).symm.trans h
                                                      refine r_tsw (pc := 1) (tgt := 224) (k' := 25) (rfl.trans c_26) dX11_wordOf_1 (by decide) rfl (by decide) ?_
                                                      refine r_ldcS (pc := 224) (j := 25) (by decide) rfl rfl dX11_wordOf_224 ?_
                                                      cases h
                                                      exact r_aret (pc := 227) rfl (Or.inr ⟨_, rfl⟩) (Nat.le_refl 0) (Nat.le_refl 0) dX11_wordOf_227
                                                    · replace h := (if_neg c_26).symm.trans h
                                                      by_cases c_27 : wI x0 = 26
                                                      · replace h := (if_pos c_27).symm.trans h
                                                        refine r_tsw (pc := 1) (tgt := 228) (k' := 26) (rfl.trans c_27) dX11_wordOf_1 (by decide) rfl (by decide) ?_
                                                        refine r_ldcS (pc := 228) (j := 26) (by decide) rfl rfl dX11_wordOf_228 ?_
                                                        cases h
                                                        exact r_aret (pc := 231) rfl (Or.inr ⟨_, rfl⟩) (Nat.le_refl 0) (Nat.le_refl 0) dX11_wordOf_231
                                                      · replace h := (if_neg c_27).symm.trans h
                                                        refine r_tswD (pc := 1) (tgt := 232) rfl dX11_wordOf_1 (by omega) (by decide) ?_
                                                        refine r_ldcS (pc := 232) (j := 27) (by decide) rfl rfl dX11_wordOf_232 ?_
                                                        cases h
                                                        exact r_aret (pc := 235) rfl (Or.inr ⟨_, rfl⟩) (Nat.le_refl 0) (Nat.le_refl 0) dX11_wordOf_235
theorem kX11_wordOf {G : GG} (x0 : Int) (M : MM)  : CO G xX11_wordOf [.int (eI x0)] L0 M (some (.ref (gK G (sX11_wordOf x0)))) L0 M := CO_of (by decide +kernel) (Nat.le_of_ble_eq_true rfl) (bX11_wordOf_b0 x0 M rfl)
theorem ite_lt {c : Prop} [Decidable c] {a b n : Nat} (h1 : a < n) (h2 : b < n) : (if c then a else b) < n := by
  split <;> assumption
theorem nX11_wordOf (x0 : Int) : sX11_wordOf x0 < 28 := by
  unfold sX11_wordOf sX11_wordOf_b0
  repeat (refine ite_lt ?_ ?_; · decide)
  decide
abbrev xX7_spells : XX := (yX7_spells, cX7_spells, 4, (some .boolean), 4, 85, 0, 0)
theorem ck_X7_spells_134 : CKV xX7_spells 134 xJ0_length_8abf5 0 := ⟨⟨tb_i 716 (by decide +kernel) (by decide +kernel), tb_i 153 (by decide +kernel) (by decide +kernel), tb_i 719 (by decide +kernel) (by decide +kernel), ⟨by decide +kernel, by decide +kernel, by decide +kernel⟩, by decide, by decide⟩, tb_i 717 (by decide +kernel) (by decide +kernel), tb_i 718 (by decide +kernel) (by decide +kernel)⟩
theorem ck_X7_spells_143 : CKV xX7_spells 143 xJ0_charAt_5068e 1 := ⟨⟨tb_i 726 (by decide +kernel) (by decide +kernel), tb_i 153 (by decide +kernel) (by decide +kernel), tb_i 729 (by decide +kernel) (by decide +kernel), ⟨by decide +kernel, by decide +kernel, by decide +kernel⟩, by decide, by decide⟩, tb_i 727 (by decide +kernel) (by decide +kernel), tb_i 728 (by decide +kernel) (by decide +kernel)⟩
def sX7_spells_b20 (a0 : Nat) (a1 : Nat) (s2 : Nat) (M : MM)  : Nat → Int → Option Int
  | 0, _ => none
  | n + 1, x3 => (if wI (sJ0_length_8abf5 s2) ≤ wI x3 then (some (1)) else (if 600 ≤ wI ((M a0 9) + x3) then (some (0)) else (if 0 ≤ wI ((M a0 9) + x3) ∧ wI ((M a0 9) + x3) < 600 then ((sJ0_charAt_5068e s2 x3).bind fun q_5 => (if wI (M (gR a1 0) (wI ((M a0 9) + x3)).toNat) = wI q_5 then ((some (x3 + 1)).bind fun v_7 => (sX7_spells_b20 a0 a1 s2 M n v_7)) else (some (0)))) else none)))
def sX7_spells_b0 (a0 : Nat) (a1 : Nat) (s2 : Nat) (M : MM)   : Option Int := (if wI (sJ0_length_8abf5 s2) = wI ((M a0 10) - (M a0 9)) then (sX7_spells_b20 a0 a1 s2 M FU 0) else (some (0)))
def sX7_spells (a0 : Nat) (a1 : Nat) (s2 : Nat) (M : MM) : Option Int := sX7_spells_b0 a0 a1 s2 M
set_option maxHeartbeats 4000000 in
set_option maxRecDepth 100000 in
theorem bX7_spells_b20 {G : GG} (a0 : Nat) (a1 : Nat) (s2 : Nat) (M : MM) (oa0 : OB L0 a0 7) (oa1 : OB L0 a1 9) (os2 : s2 < 28) {res : Int} : ∀ (n : Nat) (x3 : Int)  (h : sX7_spells_b20 a0 a1 s2 M n x3 = some res), VV G xX7_spells (ZM G xX7_spells (some (.int (eI res))) L0 M) L0 M 0 0 20 [(0, .ref (gA G a0)), (1, .ref (gA G a1)), (2, .ref (gK G s2)), (3, .int (eI x3))] [] := by
  intro n
  induction n with
  | zero =>
    intro x3 h
    rw [sX7_spells_b20] at h
    cases h
  | succ n ih =>
    intro x3 h
    rw [sX7_spells_b20] at h
    refine r_iload_n (pc := 20) (i := 3) dX7_spells_20 rfl 3 rfl ?_
    refine r_aload_n (pc := 21) (i := 2) dX7_spells_21 rfl 2 rfl ?_
    refine r_cK (pc := 22) (Y := xJ0_length_8abf5) (As := []) (rest := [.int (eI x3)]) (v := (some (.int (eI (sJ0_length_8abf5 s2))))) (st1 := [.int (eI (sJ0_length_8abf5 s2)), .int (eI x3)]) ck_X7_spells_134 (kJ0_length_8abf5 s2 M os2) os2 rfl rfl rfl (Nat.le_of_ble_eq_true rfl) ⟨rfl, rfl⟩ rfl dX7_spells_22 ?_
    refine r_icmp_ge (pc := 25) (tgt := 67) dX7_spells_25 (by decide) rfl rfl (fun c_1 => ?_) (fun c_1 => ?_)
    · replace h := (if_pos c_1).symm.trans h
      refine r_iconst (pc := 67) (v := 1) dX7_spells_67 (by decide +kernel) ?_
      cases h
      exact r_iret (pc := 68) rfl (zn_ok (Or.inr rfl)).1 (Nat.le_refl 0) (Nat.le_refl 0) dX7_spells_68
    · replace h := (if_neg c_1).symm.trans h
      refine r_aload_n (pc := 28) (i := 0) dX7_spells_28 rfl 0 rfl ?_
      refine r_getI (pc := 29) fg_7_72 rfl oa0 dX7_spells_29 ?_
      refine r_iload_n (pc := 32) (i := 3) dX7_spells_32 rfl 3 rfl ?_
      refine r_iadd (pc := 33) dX7_spells_33 ?_
      refine r_sipush (pc := 34) (v := 600) dX7_spells_34 (by decide +kernel) ?_
      refine r_icmp_ge (pc := 37) (tgt := 59) dX7_spells_37 (by decide) rfl wl_600 (fun c_2 => ?_) (fun c_2 => ?_)
      · replace h := (if_pos c_2).symm.trans h
        refine r_iconst (pc := 59) (v := 0) dX7_spells_59 (by decide +kernel) ?_
        cases h
        exact r_iret (pc := 60) rfl (zn_ok (Or.inl rfl)).1 (Nat.le_refl 0) (Nat.le_refl 0) dX7_spells_60
      · replace h := (if_neg c_2).symm.trans h
        refine r_aload_n (pc := 40) (i := 1) dX7_spells_40 rfl 1 rfl ?_
        have o_3 := (wt_9_0 oa1).2
        refine r_getR (pc := 41) fg_7_139 rfl oa1 (wt_9_0 oa1).1 dX7_spells_41 ?_
        refine r_aload_n (pc := 44) (i := 0) dX7_spells_44 rfl 0 rfl ?_
        refine r_getI (pc := 45) fg_7_72 rfl oa0 dX7_spells_45 ?_
        refine r_iload_n (pc := 48) (i := 3) dX7_spells_48 rfl 3 rfl ?_
        refine r_iadd (pc := 49) dX7_spells_49 ?_
        obtain ⟨c_4, h⟩ := og h
        refine r_bald (pc := 50) o_3 rfl c_4 rfl dX7_spells_50 ?_
        refine r_aload_n (pc := 51) (i := 2) dX7_spells_51 rfl 2 rfl ?_
        refine r_iload_n (pc := 52) (i := 3) dX7_spells_52 rfl 3 rfl ?_
        obtain ⟨q_5, hq_5, h⟩ := ob h
        refine r_cK (pc := 53) (Y := xJ0_charAt_5068e) (As := [.int (eI x3)]) (rest := [.int (eI (M (gR a1 0) (wI ((M a0 9) + x3)).toNat))]) (v := (some (.int (eI q_5)))) (st1 := [.int (eI q_5), .int (eI (M (gR a1 0) (wI ((M a0 9) + x3)).toNat))]) ck_X7_spells_143 (kJ0_charAt_5068e s2 x3 M os2 hq_5) os2 rfl rfl rfl (Nat.le_of_ble_eq_true rfl) ⟨rfl, rfl⟩ rfl dX7_spells_53 ?_
        refine r_icmp_eq (pc := 56) (tgt := 61) dX7_spells_56 (by decide) rfl rfl (fun c_6 => ?_) (fun c_6 => ?_)
        · replace h := (if_pos c_6).symm.trans h
          obtain ⟨v_7, hv_7, h⟩ := ob h
          refine r_iinc (pc := 61) (y := v_7) (lv' := [(3, .int (eI v_7)), (0, .ref (gA G a0)), (1, .ref (gA G a1)), (2, .ref (gK G s2))]) dX7_spells_61 3 rfl (Option.some.inj hv_7) (Nat.le_of_ble_eq_true rfl) rfl ?_
          refine r_goto (pc := 64) (tgt := 20) dX7_spells_64 (by decide) ?_
          refine r_sub (lv' := [(0, .ref (gA G a0)), (1, .ref (gA G a1)), (2, .ref (gK G s2)), (3, .int (eI v_7))]) [1, 2, 3, 0] rfl ?_
          exact ih _ h
        · replace h := (if_neg c_6).symm.trans h
          refine r_iconst (pc := 59) (v := 0) dX7_spells_59 (by decide +kernel) ?_
          cases h
          exact r_iret (pc := 60) rfl (zn_ok (Or.inl rfl)).1 (Nat.le_refl 0) (Nat.le_refl 0) dX7_spells_60
set_option maxHeartbeats 4000000 in
set_option maxRecDepth 100000 in
theorem bX7_spells_b0 {G : GG} (a0 : Nat) (a1 : Nat) (s2 : Nat) (M : MM) (oa0 : OB L0 a0 7) (oa1 : OB L0 a1 9) (os2 : s2 < 28)  {res : Int}  (h : sX7_spells_b0 a0 a1 s2 M = some res) : VV G xX7_spells (ZM G xX7_spells (some (.int (eI res))) L0 M) L0 M 0 0 0 [(0, .ref (gA G a0)), (1, .ref (gA G a1)), (2, .ref (gK G s2))] [] := by
  unfold sX7_spells_b0 at h
  refine r_aload_n (pc := 0) (i := 2) dX7_spells_0 rfl 2 rfl ?_
  refine r_cK (pc := 1) (Y := xJ0_length_8abf5) (As := []) (rest := []) (v := (some (.int (eI (sJ0_length_8abf5 s2))))) (st1 := [.int (eI (sJ0_length_8abf5 s2))]) ck_X7_spells_134 (kJ0_length_8abf5 s2 M os2) os2 rfl rfl rfl (Nat.le_of_ble_eq_true rfl) ⟨rfl, rfl⟩ rfl dX7_spells_1 ?_
  refine r_aload_n (pc := 4) (i := 0) dX7_spells_4 rfl 0 rfl ?_
  refine r_getI (pc := 5) fg_7_58 rfl oa0 dX7_spells_5 ?_
  refine r_aload_n (pc := 8) (i := 0) dX7_spells_8 rfl 0 rfl ?_
  refine r_getI (pc := 9) fg_7_72 rfl oa0 dX7_spells_9 ?_
  refine r_isub (pc := 12) dX7_spells_12 ?_
  refine r_icmp_eq (pc := 13) (tgt := 18) dX7_spells_13 (by decide) rfl rfl (fun c_1 => ?_) (fun c_1 => ?_)
  · replace h := (if_pos c_1).symm.trans h
    refine r_iconst (pc := 18) (v := 0) dX7_spells_18 (by decide +kernel) ?_
    refine r_istore_n (pc := 19) (i := 3) (lv' := [(3, .int (eI 0)), (0, .ref (gA G a0)), (1, .ref (gA G a1)), (2, .ref (gK G s2))]) dX7_spells_19 rfl (Nat.le_of_ble_eq_true rfl) rfl ?_
    refine r_sub (lv' := [(0, .ref (gA G a0)), (1, .ref (gA G a1)), (2, .ref (gK G s2)), (3, .int (eI 0))]) [1, 2, 3, 0] rfl ?_
    exact bX7_spells_b20 a0 a1 s2 M oa0 oa1 os2 _ _ h
  · replace h := (if_neg c_1).symm.trans h
    refine r_iconst (pc := 16) (v := 0) dX7_spells_16 (by decide +kernel) ?_
    cases h
    exact r_iret (pc := 17) rfl (zn_ok (Or.inl rfl)).1 (Nat.le_refl 0) (Nat.le_refl 0) dX7_spells_17
theorem kX7_spells {G : GG} (a0 : Nat) (a1 : Nat) (s2 : Nat) (M : MM) {res : Int} (oa0 : OB L0 a0 7) (oa1 : OB L0 a1 9) (os2 : s2 < 28) (h : sX7_spells a0 a1 s2 M = some res) : CO G xX7_spells [.ref (gA G a0), .ref (gA G a1), .ref (gK G s2)] L0 M (some (.int (eI res))) L0 M := CO_of (by decide +kernel) (Nat.le_of_ble_eq_true rfl) (bX7_spells_b0 a0 a1 s2 M oa0 oa1 os2 h)
abbrev xX7_kindOf : XX := (yX7_kindOf, cX7_kindOf, 4, (some .int), 5, 108, 0, 0)
theorem ck_X7_kindOf_126 : CKN xX7_kindOf 126 xX11_wordOf 1 "PaperDonkey" := ⟨tn_i 681 (by decide +kernel) rfl, tb_i 139 (by decide +kernel) (by decide +kernel), tb_i 683 (by decide +kernel) (by decide +kernel), ⟨by decide +kernel, by decide +kernel, by decide +kernel⟩, by decide, by decide, tb_i 682 (by decide +kernel) (by decide +kernel)⟩
theorem ck_X7_kindOf_130 : CKV xX7_kindOf 130 xX7_spells 2 := ⟨⟨tb_i 712 (by decide +kernel) (by decide +kernel), tb_i 146 (by decide +kernel) (by decide +kernel), tb_i 715 (by decide +kernel) (by decide +kernel), ⟨by decide +kernel, by decide +kernel, by decide +kernel⟩, by decide, by decide⟩, tb_i 714 (by decide +kernel) (by decide +kernel), tb_i 6 (by decide +kernel) (by decide +kernel)⟩
def sX7_kindOf_b17 (a0 : Nat) (a1 : Nat) (x2 : Int) (M : MM)  : Nat → Int → Option Int
  | 0, _ => none
  | n + 1, x3 => (if 0 ≤ wI (x2 + 1) ∧ wI (x2 + 1) < 6 then (if wI ((sT 0).getD (wI (x2 + 1)).toNat 0) ≤ wI x3 then (some ((-1))) else ((sX7_spells a0 a1 (sX11_wordOf x3) M).bind fun q_3 => (if wI q_3 = 0 then ((some (x3 + 1)).bind fun v_5 => (sX7_kindOf_b17 a0 a1 x2 M n v_5)) else (some (x3))))) else none)
def sX7_kindOf_b0 (a0 : Nat) (a1 : Nat) (x2 : Int) (M : MM)   : Option Int := (if wI x2 < 0 then (some ((-1))) else (if wI x2 < 5 then (if 0 ≤ wI x2 ∧ wI x2 < 6 then (sX7_kindOf_b17 a0 a1 x2 M FU ((sT 0).getD (wI x2).toNat 0)) else none) else (some ((-1)))))
def sX7_kindOf (a0 : Nat) (a1 : Nat) (x2 : Int) (M : MM) : Option Int := sX7_kindOf_b0 a0 a1 x2 M
set_option maxHeartbeats 4000000 in
set_option maxRecDepth 100000 in
theorem bX7_kindOf_b17 {G : GG} (a0 : Nat) (a1 : Nat) (x2 : Int) (M : MM) (oa0 : OB L0 a0 7) (oa1 : OB L0 a1 9) {res : Int} : ∀ (n : Nat) (x3 : Int)  (h : sX7_kindOf_b17 a0 a1 x2 M n x3 = some res), VV G xX7_kindOf (ZM G xX7_kindOf (some (.int (eI res))) L0 M) L0 M 0 0 17 [(0, .ref (gA G a0)), (1, .ref (gA G a1)), (2, .int (eI x2)), (3, .int (eI x3))] [] := by
  intro n
  induction n with
  | zero =>
    intro x3 h
    rw [sX7_kindOf_b17] at h
    cases h
  | succ n ih =>
    intro x3 h
    rw [sX7_kindOf_b17] at h
    refine r_iload_n (pc := 17) (i := 3) dX7_kindOf_17 rfl 3 rfl ?_
    refine r_gets (pc := 18) (j := 0) sg_7_123 dX7_kindOf_18 ?_
    refine r_iload_n (pc := 21) (i := 2) dX7_kindOf_21 rfl 2 rfl ?_
    refine r_iconst (pc := 22) (v := 1) dX7_kindOf_22 (by decide +kernel) ?_
    refine r_iadd (pc := 23) dX7_kindOf_23 ?_
    obtain ⟨c_1, h⟩ := og h
    refine r_tald (pc := 24) (n := 6) (by decide) (by decide +kernel) rfl c_1 rfl dX7_kindOf_24 ?_
    refine r_icmp_ge (pc := 25) (tgt := 48) dX7_kindOf_25 (by decide) rfl rfl (fun c_2 => ?_) (fun c_2 => ?_)
    · replace h := (if_pos c_2).symm.trans h
      refine r_iconst (pc := 48) (v := (-1)) dX7_kindOf_48 (by decide +kernel) ?_
      cases h
      exact r_iret (pc := 49) rfl rfl (Nat.le_refl 0) (Nat.le_refl 0) dX7_kindOf_49
    · replace h := (if_neg c_2).symm.trans h
      refine r_aload_n (pc := 28) (i := 0) dX7_kindOf_28 rfl 0 rfl ?_
      refine r_aload_n (pc := 29) (i := 1) dX7_kindOf_29 rfl 1 rfl ?_
      refine r_iload_n (pc := 30) (i := 3) dX7_kindOf_30 rfl 3 rfl ?_
      refine r_cN (pc := 31) (Y := xX11_wordOf) (As := [.int (eI x3)]) (rest := [.ref (gA G a1), .ref (gA G a0)]) (v := (some (.ref (gK G (sX11_wordOf x3))))) (st1 := [.ref (gK G (sX11_wordOf x3)), .ref (gA G a1), .ref (gA G a0)]) ck_X7_kindOf_126 (kX11_wordOf x3 M ) rfl rfl (Nat.le_of_ble_eq_true rfl) ⟨rfl, rfl⟩ rfl dX7_kindOf_31 ?_
      obtain ⟨q_3, hq_3, h⟩ := ob h
      refine r_cV (pc := 34) (Y := xX7_spells) (As := [.ref (gA G a1), .ref (gK G (sX11_wordOf x3))]) (rest := []) (v := (some (.int (eI q_3)))) (st1 := [.int (eI q_3)]) ck_X7_kindOf_130 (kX7_spells a0 a1 (sX11_wordOf x3) M oa0 oa1 (nX11_wordOf x3) hq_3) oa0 rfl rfl rfl rfl (Nat.le_of_ble_eq_true rfl) ⟨rfl, rfl⟩ rfl dX7_kindOf_34 ?_
      refine r_if_eq (pc := 37) (tgt := 42) dX7_kindOf_37 (by decide) rfl (fun c_4 => ?_) (fun c_4 => ?_)
      · replace h := (if_pos c_4).symm.trans h
        obtain ⟨v_5, hv_5, h⟩ := ob h
        refine r_iinc (pc := 42) (y := v_5) (lv' := [(3, .int (eI v_5)), (0, .ref (gA G a0)), (1, .ref (gA G a1)), (2, .int (eI x2))]) dX7_kindOf_42 3 rfl (Option.some.inj hv_5) (Nat.le_of_ble_eq_true rfl) rfl ?_
        refine r_goto (pc := 45) (tgt := 17) dX7_kindOf_45 (by decide) ?_
        refine r_sub (lv' := [(0, .ref (gA G a0)), (1, .ref (gA G a1)), (2, .int (eI x2)), (3, .int (eI v_5))]) [1, 2, 3, 0] rfl ?_
        exact ih _ h
      · replace h := (if_neg c_4).symm.trans h
        refine r_iload_n (pc := 40) (i := 3) dX7_kindOf_40 rfl 3 rfl ?_
        cases h
        exact r_iret (pc := 41) rfl rfl (Nat.le_refl 0) (Nat.le_refl 0) dX7_kindOf_41
set_option maxHeartbeats 4000000 in
set_option maxRecDepth 100000 in
theorem bX7_kindOf_b0 {G : GG} (a0 : Nat) (a1 : Nat) (x2 : Int) (M : MM) (oa0 : OB L0 a0 7) (oa1 : OB L0 a1 9)  {res : Int}  (h : sX7_kindOf_b0 a0 a1 x2 M = some res) : VV G xX7_kindOf (ZM G xX7_kindOf (some (.int (eI res))) L0 M) L0 M 0 0 0 [(0, .ref (gA G a0)), (1, .ref (gA G a1)), (2, .int (eI x2))] [] := by
  unfold sX7_kindOf_b0 at h
  refine r_iload_n (pc := 0) (i := 2) dX7_kindOf_0 rfl 2 rfl ?_
  refine r_if_lt (pc := 1) (tgt := 9) dX7_kindOf_1 (by decide) rfl (fun c_1 => ?_) (fun c_1 => ?_)
  · replace h := (if_pos c_1).symm.trans h
    refine r_iconst (pc := 9) (v := (-1)) dX7_kindOf_9 (by decide +kernel) ?_
    cases h
    exact r_iret (pc := 10) rfl rfl (Nat.le_refl 0) (Nat.le_refl 0) dX7_kindOf_10
  · replace h := (if_neg c_1).symm.trans h
    refine r_iload_n (pc := 4) (i := 2) dX7_kindOf_4 rfl 2 rfl ?_
    refine r_iconst (pc := 5) (v := 5) dX7_kindOf_5 (by decide +kernel) ?_
    refine r_icmp_lt (pc := 6) (tgt := 11) dX7_kindOf_6 (by decide) rfl wl_5 (fun c_2 => ?_) (fun c_2 => ?_)
    · replace h := (if_pos c_2).symm.trans h
      refine r_gets (pc := 11) (j := 0) sg_7_123 dX7_kindOf_11 ?_
      refine r_iload_n (pc := 14) (i := 2) dX7_kindOf_14 rfl 2 rfl ?_
      obtain ⟨c_3, h⟩ := og h
      refine r_tald (pc := 15) (n := 6) (by decide) (by decide +kernel) rfl c_3 rfl dX7_kindOf_15 ?_
      refine r_istore_n (pc := 16) (i := 3) (lv' := [(3, .int (eI ((sT 0).getD (wI x2).toNat 0))), (0, .ref (gA G a0)), (1, .ref (gA G a1)), (2, .int (eI x2))]) dX7_kindOf_16 rfl (Nat.le_of_ble_eq_true rfl) rfl ?_
      refine r_sub (lv' := [(0, .ref (gA G a0)), (1, .ref (gA G a1)), (2, .int (eI x2)), (3, .int (eI ((sT 0).getD (wI x2).toNat 0)))]) [1, 2, 3, 0] rfl ?_
      exact bX7_kindOf_b17 a0 a1 x2 M oa0 oa1 _ _ h
    · replace h := (if_neg c_2).symm.trans h
      refine r_iconst (pc := 9) (v := (-1)) dX7_kindOf_9 (by decide +kernel) ?_
      cases h
      exact r_iret (pc := 10) rfl rfl (Nat.le_refl 0) (Nat.le_refl 0) dX7_kindOf_10
theorem kX7_kindOf {G : GG} (a0 : Nat) (a1 : Nat) (x2 : Int) (M : MM) {res : Int} (oa0 : OB L0 a0 7) (oa1 : OB L0 a1 9) (h : sX7_kindOf a0 a1 x2 M = some res) : CO G xX7_kindOf [.ref (gA G a0), .ref (gA G a1), .int (eI x2)] L0 M (some (.int (eI res))) L0 M := CO_of (by decide +kernel) (Nat.le_of_ble_eq_true rfl) (bX7_kindOf_b0 a0 a1 x2 M oa0 oa1 h)
abbrev xX7_isFull : XX := (yX7_isFull, cX7_isFull, 2, (some .boolean), 1, 20, 0, 0)
theorem ck_X7_isFull_156 : CKV xX7_isFull 156 xX3_isFull 0 := ⟨⟨tb_i 768 (by decide +kernel) (by decide +kernel), tb_i 142 (by decide +kernel) (by decide +kernel), tb_i 771 (by decide +kernel) (by decide +kernel), ⟨by decide +kernel, by decide +kernel, by decide +kernel⟩, by decide, by decide⟩, tb_i 769 (by decide +kernel) (by decide +kernel), tb_i 770 (by decide +kernel) (by decide +kernel)⟩
def sX7_isFull_b136 (a0 : Nat) (x1 : Int) (M : MM)   : Option Int := (if wI (sX3_isFull (gR (gR a0 4) 1) M) = 0 then (some (0)) else (some (1)))
def sX7_isFull_b113 (a0 : Nat) (x1 : Int) (M : MM)   : Option Int := (if (sX3_isFull (gR (gR a0 4) 0) M) = 0 ∨ (sX3_isFull (gR (gR a0 4) 0) M) = 1 then (some ((sX3_isFull (gR (gR a0 4) 0) M))) else none)
def sX7_isFull_b87 (a0 : Nat) (x1 : Int) (M : MM)   : Option Int := (if wI x1 = 23 then (if (sX3_isFull (gR a0 3) M) = 0 ∨ (sX3_isFull (gR a0 3) M) = 1 then (some ((sX3_isFull (gR a0 3) M))) else none) else (if wI x1 = 24 then (sX7_isFull_b113 a0 x1 M) else (if wI x1 = 25 then (sX7_isFull_b113 a0 x1 M) else (if wI x1 = 26 then (sX7_isFull_b136 a0 x1 M) else (if wI x1 = 27 then (sX7_isFull_b136 a0 x1 M) else (some (0)))))))
def sX7_isFull_b64 (a0 : Nat) (x1 : Int) (M : MM)   : Option Int := (if wI x1 < 18 then (sX7_isFull_b87 a0 x1 M) else (if 21 < wI x1 then (sX7_isFull_b87 a0 x1 M) else (if (sX3_isFull (gR (gR a0 2) 0) M) = 0 ∨ (sX3_isFull (gR (gR a0 2) 0) M) = 1 then (some ((sX3_isFull (gR (gR a0 2) 0) M))) else none)))
def sX7_isFull_b0 (a0 : Nat) (x1 : Int) (M : MM)   : Option Int := (if wI x1 = 0 then (if wI (M (gR a0 0) 0) < 5 then (some (0)) else (some (1))) else (if wI x1 = 1 then (if wI (M (gR a0 0) 3) < 8 then (some (0)) else (some (1))) else (if wI x1 < 12 then (sX7_isFull_b64 a0 x1 M) else (if 17 < wI x1 then (sX7_isFull_b64 a0 x1 M) else (if (sX3_isFull (gR a0 1) M) = 0 ∨ (sX3_isFull (gR a0 1) M) = 1 then (some ((sX3_isFull (gR a0 1) M))) else none)))))
def sX7_isFull (a0 : Nat) (x1 : Int) (M : MM) : Option Int := sX7_isFull_b0 a0 x1 M
set_option maxHeartbeats 4000000 in
set_option maxRecDepth 100000 in
theorem bX7_isFull_b136 {G : GG} (a0 : Nat) (x1 : Int) (M : MM) (oa0 : OB L0 a0 7)  {res : Int}  (h : sX7_isFull_b136 a0 x1 M = some res) : VV G xX7_isFull (ZM G xX7_isFull (some (.int (eI res))) L0 M) L0 M 0 0 136 [(0, .ref (gA G a0))] [] := by
  unfold sX7_isFull_b136 at h
  refine r_aload_n (pc := 136) (i := 0) dX7_isFull_136 rfl 0 rfl ?_
  have o_1 := (wt_7_4 oa0).2
  refine r_getR (pc := 137) fg_7_40 rfl oa0 (wt_7_4 oa0).1 dX7_isFull_137 ?_
  have o_2 := (wt_8_1 o_1).2
  refine r_getR (pc := 140) fg_7_164 rfl o_1 (wt_8_1 o_1).1 dX7_isFull_140 ?_
  refine r_cV (pc := 143) (Y := xX3_isFull) (As := []) (rest := []) (v := (some (.int (eI (sX3_isFull (gR (gR a0 4) 1) M))))) (st1 := [.int (eI (sX3_isFull (gR (gR a0 4) 1) M))]) ck_X7_isFull_156 (kX3_isFull (gR (gR a0 4) 1) M o_2) o_2 rfl rfl rfl rfl (Nat.le_of_ble_eq_true rfl) ⟨rfl, rfl⟩ rfl dX7_isFull_143 ?_
  refine r_if_eq (pc := 146) (tgt := 153) dX7_isFull_146 (by decide) rfl (fun c_3 => ?_) (fun c_3 => ?_)
  · replace h := (if_pos c_3).symm.trans h
    refine r_iconst (pc := 153) (v := 0) dX7_isFull_153 (by decide +kernel) ?_
    cases h
    exact r_iret (pc := 154) rfl (zn_ok (Or.inl rfl)).1 (Nat.le_refl 0) (Nat.le_refl 0) dX7_isFull_154
  · replace h := (if_neg c_3).symm.trans h
    refine r_iconst (pc := 149) (v := 1) dX7_isFull_149 (by decide +kernel) ?_
    refine r_goto (pc := 150) (tgt := 154) dX7_isFull_150 (by decide) ?_
    cases h
    exact r_iret (pc := 154) rfl (zn_ok (Or.inr rfl)).1 (Nat.le_refl 0) (Nat.le_refl 0) dX7_isFull_154
set_option maxHeartbeats 4000000 in
set_option maxRecDepth 100000 in
theorem bX7_isFull_b113 {G : GG} (a0 : Nat) (x1 : Int) (M : MM) (oa0 : OB L0 a0 7)  {res : Int}  (h : sX7_isFull_b113 a0 x1 M = some res) : VV G xX7_isFull (ZM G xX7_isFull (some (.int (eI res))) L0 M) L0 M 0 0 113 [(0, .ref (gA G a0))] [] := by
  unfold sX7_isFull_b113 at h
  refine r_aload_n (pc := 113) (i := 0) dX7_isFull_113 rfl 0 rfl ?_
  have o_1 := (wt_7_4 oa0).2
  refine r_getR (pc := 114) fg_7_40 rfl oa0 (wt_7_4 oa0).1 dX7_isFull_114 ?_
  have o_2 := (wt_8_0 o_1).2
  refine r_getR (pc := 117) fg_7_161 rfl o_1 (wt_8_0 o_1).1 dX7_isFull_117 ?_
  refine r_cV (pc := 120) (Y := xX3_isFull) (As := []) (rest := []) (v := (some (.int (eI (sX3_isFull (gR (gR a0 4) 0) M))))) (st1 := [.int (eI (sX3_isFull (gR (gR a0 4) 0) M))]) ck_X7_isFull_156 (kX3_isFull (gR (gR a0 4) 0) M o_2) o_2 rfl rfl rfl rfl (Nat.le_of_ble_eq_true rfl) ⟨rfl, rfl⟩ rfl dX7_isFull_120 ?_
  obtain ⟨c_3, h⟩ := og h
  cases h
  exact r_iret (pc := 123) rfl (zn_ok c_3).1 (Nat.le_refl 0) (Nat.le_refl 0) dX7_isFull_123
set_option maxHeartbeats 4000000 in
set_option maxRecDepth 100000 in
theorem bX7_isFull_b87 {G : GG} (a0 : Nat) (x1 : Int) (M : MM) (oa0 : OB L0 a0 7)  {res : Int}  (h : sX7_isFull_b87 a0 x1 M = some res) : VV G xX7_isFull (ZM G xX7_isFull (some (.int (eI res))) L0 M) L0 M 0 0 87 [(0, .ref (gA G a0)), (1, .int (eI x1))] [] := by
  unfold sX7_isFull_b87 at h
  refine r_iload_n (pc := 87) (i := 1) dX7_isFull_87 rfl 1 rfl ?_
  refine r_bipush (pc := 88) (v := 23) dX7_isFull_88 (by decide +kernel) ?_
  refine r_icmp_ne (pc := 90) (tgt := 101) dX7_isFull_90 (by decide) rfl wl_23 (fun c_1 => ?_) (fun c_1 => ?_)
  · replace h := (if_neg c_1).symm.trans h
    refine r_iload_n (pc := 101) (i := 1) dX7_isFull_101 rfl 1 rfl ?_
    refine r_bipush (pc := 102) (v := 24) dX7_isFull_102 (by decide +kernel) ?_
    refine r_icmp_eq (pc := 104) (tgt := 113) dX7_isFull_104 (by decide) rfl wl_24 (fun c_2 => ?_) (fun c_2 => ?_)
    · replace h := (if_pos c_2).symm.trans h
      refine r_sub (lv' := [(0, .ref (gA G a0))]) [0] rfl ?_
      exact bX7_isFull_b113 a0 x1 M oa0 h
    · replace h := (if_neg c_2).symm.trans h
      refine r_iload_n (pc := 107) (i := 1) dX7_isFull_107 rfl 1 rfl ?_
      refine r_bipush (pc := 108) (v := 25) dX7_isFull_108 (by decide +kernel) ?_
      refine r_icmp_ne (pc := 110) (tgt := 124) dX7_isFull_110 (by decide) rfl wl_25 (fun c_3 => ?_) (fun c_3 => ?_)
      · replace h := (if_neg c_3).symm.trans h
        refine r_iload_n (pc := 124) (i := 1) dX7_isFull_124 rfl 1 rfl ?_
        refine r_bipush (pc := 125) (v := 26) dX7_isFull_125 (by decide +kernel) ?_
        refine r_icmp_eq (pc := 127) (tgt := 136) dX7_isFull_127 (by decide) rfl wl_26 (fun c_4 => ?_) (fun c_4 => ?_)
        · replace h := (if_pos c_4).symm.trans h
          refine r_sub (lv' := [(0, .ref (gA G a0))]) [0] rfl ?_
          exact bX7_isFull_b136 a0 x1 M oa0 h
        · replace h := (if_neg c_4).symm.trans h
          refine r_iload_n (pc := 130) (i := 1) dX7_isFull_130 rfl 1 rfl ?_
          refine r_bipush (pc := 131) (v := 27) dX7_isFull_131 (by decide +kernel) ?_
          refine r_icmp_ne (pc := 133) (tgt := 153) dX7_isFull_133 (by decide) rfl wl_27 (fun c_5 => ?_) (fun c_5 => ?_)
          · replace h := (if_neg c_5).symm.trans h
            refine r_iconst (pc := 153) (v := 0) dX7_isFull_153 (by decide +kernel) ?_
            cases h
            exact r_iret (pc := 154) rfl (zn_ok (Or.inl rfl)).1 (Nat.le_refl 0) (Nat.le_refl 0) dX7_isFull_154
          · replace h := (if_pos c_5).symm.trans h
            refine r_sub (lv' := [(0, .ref (gA G a0))]) [0] rfl ?_
            exact bX7_isFull_b136 a0 x1 M oa0 h
      · replace h := (if_pos c_3).symm.trans h
        refine r_sub (lv' := [(0, .ref (gA G a0))]) [0] rfl ?_
        exact bX7_isFull_b113 a0 x1 M oa0 h
  · replace h := (if_pos c_1).symm.trans h
    refine r_aload_n (pc := 93) (i := 0) dX7_isFull_93 rfl 0 rfl ?_
    have o_6 := (wt_7_3 oa0).2
    refine r_getR (pc := 94) fg_7_34 rfl oa0 (wt_7_3 oa0).1 dX7_isFull_94 ?_
    refine r_cV (pc := 97) (Y := xX3_isFull) (As := []) (rest := []) (v := (some (.int (eI (sX3_isFull (gR a0 3) M))))) (st1 := [.int (eI (sX3_isFull (gR a0 3) M))]) ck_X7_isFull_156 (kX3_isFull (gR a0 3) M o_6) o_6 rfl rfl rfl rfl (Nat.le_of_ble_eq_true rfl) ⟨rfl, rfl⟩ rfl dX7_isFull_97 ?_
    obtain ⟨c_7, h⟩ := og h
    cases h
    exact r_iret (pc := 100) rfl (zn_ok c_7).1 (Nat.le_refl 0) (Nat.le_refl 0) dX7_isFull_100
set_option maxHeartbeats 4000000 in
set_option maxRecDepth 100000 in
theorem bX7_isFull_b64 {G : GG} (a0 : Nat) (x1 : Int) (M : MM) (oa0 : OB L0 a0 7)  {res : Int}  (h : sX7_isFull_b64 a0 x1 M = some res) : VV G xX7_isFull (ZM G xX7_isFull (some (.int (eI res))) L0 M) L0 M 0 0 64 [(0, .ref (gA G a0)), (1, .int (eI x1))] [] := by
  unfold sX7_isFull_b64 at h
  refine r_iload_n (pc := 64) (i := 1) dX7_isFull_64 rfl 1 rfl ?_
  refine r_bipush (pc := 65) (v := 18) dX7_isFull_65 (by decide +kernel) ?_
  refine r_icmp_lt (pc := 67) (tgt := 87) dX7_isFull_67 (by decide) rfl wl_18 (fun c_1 => ?_) (fun c_1 => ?_)
  · replace h := (if_pos c_1).symm.trans h
    refine r_sub (lv' := [(0, .ref (gA G a0)), (1, .int (eI x1))]) [0, 1] rfl ?_
    exact bX7_isFull_b87 a0 x1 M oa0 h
  · replace h := (if_neg c_1).symm.trans h
    refine r_iload_n (pc := 70) (i := 1) dX7_isFull_70 rfl 1 rfl ?_
    refine r_bipush (pc := 71) (v := 21) dX7_isFull_71 (by decide +kernel) ?_
    refine r_icmp_gt (pc := 73) (tgt := 87) dX7_isFull_73 (by decide) rfl wl_21 (fun c_2 => ?_) (fun c_2 => ?_)
    · replace h := (if_pos c_2).symm.trans h
      refine r_sub (lv' := [(0, .ref (gA G a0)), (1, .int (eI x1))]) [0, 1] rfl ?_
      exact bX7_isFull_b87 a0 x1 M oa0 h
    · replace h := (if_neg c_2).symm.trans h
      refine r_aload_n (pc := 76) (i := 0) dX7_isFull_76 rfl 0 rfl ?_
      have o_3 := (wt_7_2 oa0).2
      refine r_getR (pc := 77) fg_7_30 rfl oa0 (wt_7_2 oa0).1 dX7_isFull_77 ?_
      have o_4 := (wt_1_0 o_3).2
      refine r_getR (pc := 80) fg_7_158 rfl o_3 (wt_1_0 o_3).1 dX7_isFull_80 ?_
      refine r_cV (pc := 83) (Y := xX3_isFull) (As := []) (rest := []) (v := (some (.int (eI (sX3_isFull (gR (gR a0 2) 0) M))))) (st1 := [.int (eI (sX3_isFull (gR (gR a0 2) 0) M))]) ck_X7_isFull_156 (kX3_isFull (gR (gR a0 2) 0) M o_4) o_4 rfl rfl rfl rfl (Nat.le_of_ble_eq_true rfl) ⟨rfl, rfl⟩ rfl dX7_isFull_83 ?_
      obtain ⟨c_5, h⟩ := og h
      cases h
      exact r_iret (pc := 86) rfl (zn_ok c_5).1 (Nat.le_refl 0) (Nat.le_refl 0) dX7_isFull_86
set_option maxHeartbeats 4000000 in
set_option maxRecDepth 100000 in
theorem bX7_isFull_b0 {G : GG} (a0 : Nat) (x1 : Int) (M : MM) (oa0 : OB L0 a0 7)  {res : Int}  (h : sX7_isFull_b0 a0 x1 M = some res) : VV G xX7_isFull (ZM G xX7_isFull (some (.int (eI res))) L0 M) L0 M 0 0 0 [(0, .ref (gA G a0)), (1, .int (eI x1))] [] := by
  unfold sX7_isFull_b0 at h
  refine r_iload_n (pc := 0) (i := 1) dX7_isFull_0 rfl 1 rfl ?_
  refine r_if_ne (pc := 1) (tgt := 21) dX7_isFull_1 (by decide) rfl (fun c_1 => ?_) (fun c_1 => ?_)
  · replace h := (if_neg c_1).symm.trans h
    refine r_iload_n (pc := 21) (i := 1) dX7_isFull_21 rfl 1 rfl ?_
    refine r_iconst (pc := 22) (v := 1) dX7_isFull_22 (by decide +kernel) ?_
    refine r_icmp_ne (pc := 23) (tgt := 44) dX7_isFull_23 (by decide) rfl wl_1 (fun c_2 => ?_) (fun c_2 => ?_)
    · replace h := (if_neg c_2).symm.trans h
      refine r_iload_n (pc := 44) (i := 1) dX7_isFull_44 rfl 1 rfl ?_
      refine r_bipush (pc := 45) (v := 12) dX7_isFull_45 (by decide +kernel) ?_
      refine r_icmp_lt (pc := 47) (tgt := 64) dX7_isFull_47 (by decide) rfl wl_12 (fun c_3 => ?_) (fun c_3 => ?_)
      · replace h := (if_pos c_3).symm.trans h
        refine r_sub (lv' := [(0, .ref (gA G a0)), (1, .int (eI x1))]) [0, 1] rfl ?_
        exact bX7_isFull_b64 a0 x1 M oa0 h
      · replace h := (if_neg c_3).symm.trans h
        refine r_iload_n (pc := 50) (i := 1) dX7_isFull_50 rfl 1 rfl ?_
        refine r_bipush (pc := 51) (v := 17) dX7_isFull_51 (by decide +kernel) ?_
        refine r_icmp_gt (pc := 53) (tgt := 64) dX7_isFull_53 (by decide) rfl wl_17 (fun c_4 => ?_) (fun c_4 => ?_)
        · replace h := (if_pos c_4).symm.trans h
          refine r_sub (lv' := [(0, .ref (gA G a0)), (1, .int (eI x1))]) [0, 1] rfl ?_
          exact bX7_isFull_b64 a0 x1 M oa0 h
        · replace h := (if_neg c_4).symm.trans h
          refine r_aload_n (pc := 56) (i := 0) dX7_isFull_56 rfl 0 rfl ?_
          have o_5 := (wt_7_1 oa0).2
          refine r_getR (pc := 57) fg_7_23 rfl oa0 (wt_7_1 oa0).1 dX7_isFull_57 ?_
          refine r_cV (pc := 60) (Y := xX3_isFull) (As := []) (rest := []) (v := (some (.int (eI (sX3_isFull (gR a0 1) M))))) (st1 := [.int (eI (sX3_isFull (gR a0 1) M))]) ck_X7_isFull_156 (kX3_isFull (gR a0 1) M o_5) o_5 rfl rfl rfl rfl (Nat.le_of_ble_eq_true rfl) ⟨rfl, rfl⟩ rfl dX7_isFull_60 ?_
          obtain ⟨c_6, h⟩ := og h
          cases h
          exact r_iret (pc := 63) rfl (zn_ok c_6).1 (Nat.le_refl 0) (Nat.le_refl 0) dX7_isFull_63
    · replace h := (if_pos c_2).symm.trans h
      refine r_aload_n (pc := 26) (i := 0) dX7_isFull_26 rfl 0 rfl ?_
      have o_7 := (wt_7_0 oa0).2
      refine r_getR (pc := 27) fg_7_12 rfl oa0 (wt_7_0 oa0).1 dX7_isFull_27 ?_
      refine r_getI (pc := 30) fg_7_82 rfl o_7 dX7_isFull_30 ?_
      refine r_bipush (pc := 33) (v := 8) dX7_isFull_33 (by decide +kernel) ?_
      refine r_icmp_lt (pc := 35) (tgt := 42) dX7_isFull_35 (by decide) rfl wl_8 (fun c_8 => ?_) (fun c_8 => ?_)
      · replace h := (if_pos c_8).symm.trans h
        refine r_iconst (pc := 42) (v := 0) dX7_isFull_42 (by decide +kernel) ?_
        cases h
        exact r_iret (pc := 43) rfl (zn_ok (Or.inl rfl)).1 (Nat.le_refl 0) (Nat.le_refl 0) dX7_isFull_43
      · replace h := (if_neg c_8).symm.trans h
        refine r_iconst (pc := 38) (v := 1) dX7_isFull_38 (by decide +kernel) ?_
        refine r_goto (pc := 39) (tgt := 43) dX7_isFull_39 (by decide) ?_
        cases h
        exact r_iret (pc := 43) rfl (zn_ok (Or.inr rfl)).1 (Nat.le_refl 0) (Nat.le_refl 0) dX7_isFull_43
  · replace h := (if_pos c_1).symm.trans h
    refine r_aload_n (pc := 4) (i := 0) dX7_isFull_4 rfl 0 rfl ?_
    have o_9 := (wt_7_0 oa0).2
    refine r_getR (pc := 5) fg_7_12 rfl oa0 (wt_7_0 oa0).1 dX7_isFull_5 ?_
    refine r_getI (pc := 8) fg_7_153 rfl o_9 dX7_isFull_8 ?_
    refine r_iconst (pc := 11) (v := 5) dX7_isFull_11 (by decide +kernel) ?_
    refine r_icmp_lt (pc := 12) (tgt := 19) dX7_isFull_12 (by decide) rfl wl_5 (fun c_10 => ?_) (fun c_10 => ?_)
    · replace h := (if_pos c_10).symm.trans h
      refine r_iconst (pc := 19) (v := 0) dX7_isFull_19 (by decide +kernel) ?_
      cases h
      exact r_iret (pc := 20) rfl (zn_ok (Or.inl rfl)).1 (Nat.le_refl 0) (Nat.le_refl 0) dX7_isFull_20
    · replace h := (if_neg c_10).symm.trans h
      refine r_iconst (pc := 15) (v := 1) dX7_isFull_15 (by decide +kernel) ?_
      refine r_goto (pc := 16) (tgt := 20) dX7_isFull_16 (by decide) ?_
      cases h
      exact r_iret (pc := 20) rfl (zn_ok (Or.inr rfl)).1 (Nat.le_refl 0) (Nat.le_refl 0) dX7_isFull_20
theorem kX7_isFull {G : GG} (a0 : Nat) (x1 : Int) (M : MM) {res : Int} (oa0 : OB L0 a0 7) (h : sX7_isFull a0 x1 M = some res) : CO G xX7_isFull [.ref (gA G a0), .int (eI x1)] L0 M (some (.int (eI res))) L0 M := CO_of (by decide +kernel) (Nat.le_of_ble_eq_true rfl) (bX7_isFull_b0 a0 x1 M oa0 h)
abbrev xX7_blame : XX := (yX7_blame, cX7_blame, 3, none, 0, 0, 0, 0)
def sX7_blame_b0 (a0 : Nat) (x1 : Int) (x2 : Int)   (M : MM) : Option MM := (if wI (M a0 5) = 0 then ((some (mU M a0 5 x1)).bind fun M_2 => ((some (mU M_2 a0 6 x2)).bind fun M_3 => (some (M_3)))) else (some (M)))
def sX7_blame (a0 : Nat) (x1 : Int) (x2 : Int) (M : MM) : Option MM := sX7_blame_b0 a0 x1 x2 M
set_option maxHeartbeats 4000000 in
set_option maxRecDepth 100000 in
theorem bX7_blame_b0 {G : GG} (a0 : Nat) (x1 : Int) (x2 : Int) (oa0 : OB L0 a0 7)  (M : MM) {res : MM}  (h : sX7_blame_b0 a0 x1 x2 M = some res) : VV G xX7_blame (ZM G xX7_blame (none) L0 res) L0 M 0 0 0 [(0, .ref (gA G a0)), (1, .int (eI x1)), (2, .int (eI x2))] [] := by
  unfold sX7_blame_b0 at h
  refine r_aload_n (pc := 0) (i := 0) dX7_blame_0 rfl 0 rfl ?_
  refine r_getI (pc := 1) fg_7_48 rfl oa0 dX7_blame_1 ?_
  refine r_if_ne (pc := 4) (tgt := 17) dX7_blame_4 (by decide) rfl (fun c_1 => ?_) (fun c_1 => ?_)
  · replace h := (if_neg c_1).symm.trans h
    cases h
    exact r_vret (pc := 17) rfl (Nat.le_refl 0) (Nat.le_refl 0) dX7_blame_17
  · replace h := (if_pos c_1).symm.trans h
    refine r_aload_n (pc := 7) (i := 0) dX7_blame_7 rfl 0 rfl ?_
    refine r_iload_n (pc := 8) (i := 1) dX7_blame_8 rfl 1 rfl ?_
    obtain ⟨M_2, hM_2, h⟩ := ob h
    refine r_putI (pc := 9) fg_7_48 rfl oa0 hM_2 rfl rfl dX7_blame_9 ?_
    refine r_aload_n (pc := 12) (i := 0) dX7_blame_12 rfl 0 rfl ?_
    refine r_iload_n (pc := 13) (i := 2) dX7_blame_13 rfl 2 rfl ?_
    obtain ⟨M_3, hM_3, h⟩ := ob h
    refine r_putI (pc := 14) fg_7_52 rfl oa0 hM_3 rfl rfl dX7_blame_14 ?_
    cases h
    exact r_vret (pc := 17) rfl (Nat.le_refl 0) (Nat.le_refl 0) dX7_blame_17
theorem kX7_blame {G : GG} (a0 : Nat) (x1 : Int) (x2 : Int) (M : MM) {res : MM} (oa0 : OB L0 a0 7) (h : sX7_blame a0 x1 x2 M = some res) : CO G xX7_blame [.ref (gA G a0), .int (eI x1), .int (eI x2)] L0 M (none) L0 res := CO_of (by decide +kernel) (Nat.le_of_ble_eq_true rfl) (bX7_blame_b0 a0 x1 x2 oa0 M h)
abbrev xX7_canBe : XX := (yX7_canBe, cX7_canBe, 4, (some .boolean), 0, 0, 0, 0)
def sX7_canBe_b60 (a0 : Nat) (x1 : Int) (x2 : Int) (M : MM)  (x3 : Int) : Option Int := (if 0 ≤ wI x2 ∧ wI x2 < 4 then (if 0 ≤ wI x3 ∧ wI x3 < 112 then (if wI (M (gR a0 7) (wI x2).toNat) < wI ((sT 2).getD (wI x3).toNat 0) then (some (0)) else (if 0 ≤ wI x2 ∧ wI x2 < 4 then (if 0 ≤ wI x3 ∧ wI x3 < 112 then (if wI ((sT 3).getD (wI x3).toNat 0) < wI (M (gR a0 7) (wI x2).toNat) then (some (0)) else (some (1))) else none) else none)) else none) else none)
def sX7_canBe_b38 (a0 : Nat) (x1 : Int) (x2 : Int) (M : MM)  (x3 : Int) : Option Int := (if wI x2 = 1 then (if wI (M (gR a0 7) 1) = wI (M (gR a0 7) 0) then (some (0)) else (sX7_canBe_b60 a0 x1 x2 M x3)) else (sX7_canBe_b60 a0 x1 x2 M x3))
def sX7_canBe_b0 (a0 : Nat) (x1 : Int) (x2 : Int) (M : MM)   : Option Int := (if wI ((x1 * 4) + x2) < 0 then (some (0)) else (if 112 ≤ wI ((x1 * 4) + x2) then (some (0)) else (if wI ((x1 * 4) + x2) < 112 then (if wI x1 = 3 then (sX7_canBe_b38 a0 x1 x2 M ((x1 * 4) + x2)) else (if wI x1 = 4 then (sX7_canBe_b38 a0 x1 x2 M ((x1 * 4) + x2)) else (sX7_canBe_b60 a0 x1 x2 M ((x1 * 4) + x2)))) else (some (0)))))
def sX7_canBe (a0 : Nat) (x1 : Int) (x2 : Int) (M : MM) : Option Int := sX7_canBe_b0 a0 x1 x2 M
set_option maxHeartbeats 4000000 in
set_option maxRecDepth 100000 in
theorem bX7_canBe_b60 {G : GG} (a0 : Nat) (x1 : Int) (x2 : Int) (M : MM) (oa0 : OB L0 a0 7) (x3 : Int) {res : Int}  (h : sX7_canBe_b60 a0 x1 x2 M x3 = some res) : VV G xX7_canBe (ZM G xX7_canBe (some (.int (eI res))) L0 M) L0 M 0 0 60 [(0, .ref (gA G a0)), (2, .int (eI x2)), (3, .int (eI x3))] [] := by
  unfold sX7_canBe_b60 at h
  refine r_aload_n (pc := 60) (i := 0) dX7_canBe_60 rfl 0 rfl ?_
  have o_1 := (wt_7_7 oa0).2
  refine r_getR (pc := 61) fg_7_44 rfl oa0 (wt_7_7 oa0).1 dX7_canBe_61 ?_
  refine r_iload_n (pc := 64) (i := 2) dX7_canBe_64 rfl 1 rfl ?_
  obtain ⟨c_2, h⟩ := og h
  refine r_iald (pc := 65) o_1 rfl c_2 rfl dX7_canBe_65 ?_
  refine r_gets (pc := 66) (j := 2) sg_7_147 dX7_canBe_66 ?_
  refine r_iload_n (pc := 69) (i := 3) dX7_canBe_69 rfl 2 rfl ?_
  obtain ⟨c_3, h⟩ := og h
  refine r_tald (pc := 70) (n := 112) (by decide) (by decide +kernel) rfl c_3 rfl dX7_canBe_70 ?_
  refine r_icmp_lt (pc := 71) (tgt := 92) dX7_canBe_71 (by decide) rfl rfl (fun c_4 => ?_) (fun c_4 => ?_)
  · replace h := (if_pos c_4).symm.trans h
    refine r_iconst (pc := 92) (v := 0) dX7_canBe_92 (by decide +kernel) ?_
    cases h
    exact r_iret (pc := 93) rfl (zn_ok (Or.inl rfl)).1 (Nat.le_refl 0) (Nat.le_refl 0) dX7_canBe_93
  · replace h := (if_neg c_4).symm.trans h
    refine r_aload_n (pc := 74) (i := 0) dX7_canBe_74 rfl 0 rfl ?_
    have o_5 := (wt_7_7 oa0).2
    refine r_getR (pc := 75) fg_7_44 rfl oa0 (wt_7_7 oa0).1 dX7_canBe_75 ?_
    refine r_iload_n (pc := 78) (i := 2) dX7_canBe_78 rfl 1 rfl ?_
    obtain ⟨c_6, h⟩ := og h
    refine r_iald (pc := 79) o_5 rfl c_6 rfl dX7_canBe_79 ?_
    refine r_gets (pc := 80) (j := 3) sg_7_150 dX7_canBe_80 ?_
    refine r_iload_n (pc := 83) (i := 3) dX7_canBe_83 rfl 2 rfl ?_
    obtain ⟨c_7, h⟩ := og h
    refine r_tald (pc := 84) (n := 112) (by decide) (by decide +kernel) rfl c_7 rfl dX7_canBe_84 ?_
    refine r_icmp_gt (pc := 85) (tgt := 92) dX7_canBe_85 (by decide) rfl rfl (fun c_8 => ?_) (fun c_8 => ?_)
    · replace h := (if_pos c_8).symm.trans h
      refine r_iconst (pc := 92) (v := 0) dX7_canBe_92 (by decide +kernel) ?_
      cases h
      exact r_iret (pc := 93) rfl (zn_ok (Or.inl rfl)).1 (Nat.le_refl 0) (Nat.le_refl 0) dX7_canBe_93
    · replace h := (if_neg c_8).symm.trans h
      refine r_iconst (pc := 88) (v := 1) dX7_canBe_88 (by decide +kernel) ?_
      refine r_goto (pc := 89) (tgt := 93) dX7_canBe_89 (by decide) ?_
      cases h
      exact r_iret (pc := 93) rfl (zn_ok (Or.inr rfl)).1 (Nat.le_refl 0) (Nat.le_refl 0) dX7_canBe_93
set_option maxHeartbeats 4000000 in
set_option maxRecDepth 100000 in
theorem bX7_canBe_b38 {G : GG} (a0 : Nat) (x1 : Int) (x2 : Int) (M : MM) (oa0 : OB L0 a0 7) (x3 : Int) {res : Int}  (h : sX7_canBe_b38 a0 x1 x2 M x3 = some res) : VV G xX7_canBe (ZM G xX7_canBe (some (.int (eI res))) L0 M) L0 M 0 0 38 [(0, .ref (gA G a0)), (2, .int (eI x2)), (3, .int (eI x3))] [] := by
  unfold sX7_canBe_b38 at h
  refine r_iload_n (pc := 38) (i := 2) dX7_canBe_38 rfl 1 rfl ?_
  refine r_iconst (pc := 39) (v := 1) dX7_canBe_39 (by decide +kernel) ?_
  refine r_icmp_ne (pc := 40) (tgt := 60) dX7_canBe_40 (by decide) rfl wl_1 (fun c_1 => ?_) (fun c_1 => ?_)
  · replace h := (if_neg c_1).symm.trans h
    refine r_sub (lv' := [(0, .ref (gA G a0)), (2, .int (eI x2)), (3, .int (eI x3))]) [0, 1, 2] rfl ?_
    exact bX7_canBe_b60 a0 x1 x2 M oa0 _ h
  · replace h := (if_pos c_1).symm.trans h
    refine r_aload_n (pc := 43) (i := 0) dX7_canBe_43 rfl 0 rfl ?_
    have o_2 := (wt_7_7 oa0).2
    refine r_getR (pc := 44) fg_7_44 rfl oa0 (wt_7_7 oa0).1 dX7_canBe_44 ?_
    refine r_iconst (pc := 47) (v := 1) dX7_canBe_47 (by decide +kernel) ?_
    refine r_iald (pc := 48) o_2 wl_1 ⟨by decide, by decide⟩ rfl dX7_canBe_48 ?_
    refine r_aload_n (pc := 49) (i := 0) dX7_canBe_49 rfl 0 rfl ?_
    have o_3 := (wt_7_7 oa0).2
    refine r_getR (pc := 50) fg_7_44 rfl oa0 (wt_7_7 oa0).1 dX7_canBe_50 ?_
    refine r_iconst (pc := 53) (v := 0) dX7_canBe_53 (by decide +kernel) ?_
    refine r_iald (pc := 54) o_3 wl_0 ⟨by decide, by decide⟩ rfl dX7_canBe_54 ?_
    refine r_icmp_ne (pc := 55) (tgt := 60) dX7_canBe_55 (by decide) rfl rfl (fun c_4 => ?_) (fun c_4 => ?_)
    · replace h := (if_neg c_4).symm.trans h
      refine r_sub (lv' := [(0, .ref (gA G a0)), (2, .int (eI x2)), (3, .int (eI x3))]) [0, 1, 2] rfl ?_
      exact bX7_canBe_b60 a0 x1 x2 M oa0 _ h
    · replace h := (if_pos c_4).symm.trans h
      refine r_iconst (pc := 58) (v := 0) dX7_canBe_58 (by decide +kernel) ?_
      cases h
      exact r_iret (pc := 59) rfl (zn_ok (Or.inl rfl)).1 (Nat.le_refl 0) (Nat.le_refl 0) dX7_canBe_59
set_option maxHeartbeats 4000000 in
set_option maxRecDepth 100000 in
theorem bX7_canBe_b0 {G : GG} (a0 : Nat) (x1 : Int) (x2 : Int) (M : MM) (oa0 : OB L0 a0 7)  {res : Int}  (h : sX7_canBe_b0 a0 x1 x2 M = some res) : VV G xX7_canBe (ZM G xX7_canBe (some (.int (eI res))) L0 M) L0 M 0 0 0 [(0, .ref (gA G a0)), (1, .int (eI x1)), (2, .int (eI x2))] [] := by
  unfold sX7_canBe_b0 at h
  refine r_iload_n (pc := 0) (i := 1) dX7_canBe_0 rfl 1 rfl ?_
  refine r_iconst (pc := 1) (v := 4) dX7_canBe_1 (by decide +kernel) ?_
  refine r_imul (pc := 2) dX7_canBe_2 ?_
  refine r_iload_n (pc := 3) (i := 2) dX7_canBe_3 rfl 2 rfl ?_
  refine r_iadd (pc := 4) dX7_canBe_4 ?_
  refine r_istore_n (pc := 5) (i := 3) (lv' := [(3, .int (eI ((x1 * 4) + x2))), (0, .ref (gA G a0)), (1, .int (eI x1)), (2, .int (eI x2))]) dX7_canBe_5 rfl (Nat.le_of_ble_eq_true rfl) rfl ?_
  refine r_iload_n (pc := 6) (i := 3) dX7_canBe_6 rfl 0 rfl ?_
  refine r_if_lt (pc := 7) (tgt := 26) dX7_canBe_7 (by decide) rfl (fun c_1 => ?_) (fun c_1 => ?_)
  · replace h := (if_pos c_1).symm.trans h
    refine r_iconst (pc := 26) (v := 0) dX7_canBe_26 (by decide +kernel) ?_
    cases h
    exact r_iret (pc := 27) rfl (zn_ok (Or.inl rfl)).1 (Nat.le_refl 0) (Nat.le_refl 0) dX7_canBe_27
  · replace h := (if_neg c_1).symm.trans h
    refine r_iload_n (pc := 10) (i := 3) dX7_canBe_10 rfl 0 rfl ?_
    refine r_gets (pc := 11) (j := 2) sg_7_147 dX7_canBe_11 ?_
    refine r_tlen (pc := 14) (n := 112) (by decide) (by decide +kernel) dX7_canBe_14 ?_
    refine r_icmp_ge (pc := 15) (tgt := 26) dX7_canBe_15 (by decide) rfl wl_112 (fun c_2 => ?_) (fun c_2 => ?_)
    · replace h := (if_pos c_2).symm.trans h
      refine r_iconst (pc := 26) (v := 0) dX7_canBe_26 (by decide +kernel) ?_
      cases h
      exact r_iret (pc := 27) rfl (zn_ok (Or.inl rfl)).1 (Nat.le_refl 0) (Nat.le_refl 0) dX7_canBe_27
    · replace h := (if_neg c_2).symm.trans h
      refine r_iload_n (pc := 18) (i := 3) dX7_canBe_18 rfl 0 rfl ?_
      refine r_gets (pc := 19) (j := 3) sg_7_150 dX7_canBe_19 ?_
      refine r_tlen (pc := 22) (n := 112) (by decide) (by decide +kernel) dX7_canBe_22 ?_
      refine r_icmp_lt (pc := 23) (tgt := 28) dX7_canBe_23 (by decide) rfl wl_112 (fun c_3 => ?_) (fun c_3 => ?_)
      · replace h := (if_pos c_3).symm.trans h
        refine r_iload_n (pc := 28) (i := 1) dX7_canBe_28 rfl 2 rfl ?_
        refine r_iconst (pc := 29) (v := 3) dX7_canBe_29 (by decide +kernel) ?_
        refine r_icmp_eq (pc := 30) (tgt := 38) dX7_canBe_30 (by decide) rfl wl_3 (fun c_4 => ?_) (fun c_4 => ?_)
        · replace h := (if_pos c_4).symm.trans h
          refine r_sub (lv' := [(0, .ref (gA G a0)), (2, .int (eI x2)), (3, .int (eI ((x1 * 4) + x2)))]) [1, 3, 0] rfl ?_
          exact bX7_canBe_b38 a0 x1 x2 M oa0 _ h
        · replace h := (if_neg c_4).symm.trans h
          refine r_iload_n (pc := 33) (i := 1) dX7_canBe_33 rfl 2 rfl ?_
          refine r_iconst (pc := 34) (v := 4) dX7_canBe_34 (by decide +kernel) ?_
          refine r_icmp_ne (pc := 35) (tgt := 60) dX7_canBe_35 (by decide) rfl wl_4 (fun c_5 => ?_) (fun c_5 => ?_)
          · replace h := (if_neg c_5).symm.trans h
            refine r_sub (lv' := [(0, .ref (gA G a0)), (2, .int (eI x2)), (3, .int (eI ((x1 * 4) + x2)))]) [1, 3, 0] rfl ?_
            exact bX7_canBe_b60 a0 x1 x2 M oa0 _ h
          · replace h := (if_pos c_5).symm.trans h
            refine r_sub (lv' := [(0, .ref (gA G a0)), (2, .int (eI x2)), (3, .int (eI ((x1 * 4) + x2)))]) [1, 3, 0] rfl ?_
            exact bX7_canBe_b38 a0 x1 x2 M oa0 _ h
      · replace h := (if_neg c_3).symm.trans h
        refine r_iconst (pc := 26) (v := 0) dX7_canBe_26 (by decide +kernel) ?_
        cases h
        exact r_iret (pc := 27) rfl (zn_ok (Or.inl rfl)).1 (Nat.le_refl 0) (Nat.le_refl 0) dX7_canBe_27
theorem kX7_canBe {G : GG} (a0 : Nat) (x1 : Int) (x2 : Int) (M : MM) {res : Int} (oa0 : OB L0 a0 7) (h : sX7_canBe a0 x1 x2 M = some res) : CO G xX7_canBe [.ref (gA G a0), .int (eI x1), .int (eI x2)] L0 M (some (.int (eI res))) L0 M := CO_of (by decide +kernel) (Nat.le_of_ble_eq_true rfl) (bX7_canBe_b0 a0 x1 x2 M oa0 h)
abbrev xX7_keepOfParty : XX := (yX7_keepOfParty, cX7_keepOfParty, 2, none, 1, 24, 0, 0)
theorem ck_X7_keepOfParty_177 : CKV xX7_keepOfParty 177 xX5_addPart 2 := ⟨⟨tb_i 794 (by decide +kernel) (by decide +kernel), tb_i 141 (by decide +kernel) (by decide +kernel), tb_i 797 (by decide +kernel) (by decide +kernel), ⟨by decide +kernel, by decide +kernel, by decide +kernel⟩, by decide, by decide⟩, tb_i 795 (by decide +kernel) (by decide +kernel), tb_i 796 (by decide +kernel) (by decide +kernel)⟩
theorem ck_X7_keepOfParty_180 : CKV xX7_keepOfParty 180 xX5_addChild 4 := ⟨⟨tb_i 798 (by decide +kernel) (by decide +kernel), tb_i 141 (by decide +kernel) (by decide +kernel), tb_i 801 (by decide +kernel) (by decide +kernel), ⟨by decide +kernel, by decide +kernel, by decide +kernel⟩, by decide, by decide⟩, tb_i 799 (by decide +kernel) (by decide +kernel), tb_i 800 (by decide +kernel) (by decide +kernel)⟩
theorem ck_X7_keepOfParty_184 : CKV xX7_keepOfParty 184 xX5_setSpot 2 := ⟨⟨tb_i 802 (by decide +kernel) (by decide +kernel), tb_i 141 (by decide +kernel) (by decide +kernel), tb_i 805 (by decide +kernel) (by decide +kernel), ⟨by decide +kernel, by decide +kernel, by decide +kernel⟩, by decide, by decide⟩, tb_i 803 (by decide +kernel) (by decide +kernel), tb_i 804 (by decide +kernel) (by decide +kernel)⟩
theorem ck_X7_keepOfParty_187 : CKV xX7_keepOfParty 187 xX5_setTie 3 := ⟨⟨tb_i 806 (by decide +kernel) (by decide +kernel), tb_i 141 (by decide +kernel) (by decide +kernel), tb_i 809 (by decide +kernel) (by decide +kernel), ⟨by decide +kernel, by decide +kernel, by decide +kernel⟩, by decide, by decide⟩, tb_i 807 (by decide +kernel) (by decide +kernel), tb_i 808 (by decide +kernel) (by decide +kernel)⟩
theorem ck_X7_keepOfParty_190 : CKV xX7_keepOfParty 190 xX5_setTurned 2 := ⟨⟨tb_i 810 (by decide +kernel) (by decide +kernel), tb_i 141 (by decide +kernel) (by decide +kernel), tb_i 813 (by decide +kernel) (by decide +kernel), ⟨by decide +kernel, by decide +kernel, by decide +kernel⟩, by decide, by decide⟩, tb_i 811 (by decide +kernel) (by decide +kernel), tb_i 812 (by decide +kernel) (by decide +kernel)⟩
theorem ck_X7_keepOfParty_193 : CKV xX7_keepOfParty 193 xX5_setRing 2 := ⟨⟨tb_i 814 (by decide +kernel) (by decide +kernel), tb_i 141 (by decide +kernel) (by decide +kernel), tb_i 817 (by decide +kernel) (by decide +kernel), ⟨by decide +kernel, by decide +kernel, by decide +kernel⟩, by decide, by decide⟩, tb_i 815 (by decide +kernel) (by decide +kernel), tb_i 816 (by decide +kernel) (by decide +kernel)⟩
def sX7_keepOfParty_b0 (a0 : Nat) (x1 : Int)   (M : MM) : Option MM := (if wI x1 = 0 then ((sX5_addPart (gR a0 0) (M (gR a0 7) 0) (M (gR a0 7) 1) M).bind fun q_5 => (some (q_5))) else (if wI x1 = 1 then ((sX5_addChild (gR a0 0) (M (gR a0 7) 0) (M (gR a0 7) 1) (M (gR a0 7) 2) (M (gR a0 7) 3) M).bind fun q_12 => (some (q_12))) else (if wI x1 = 2 then ((sX5_setSpot (gR a0 0) (M (gR a0 7) 0) (M (gR a0 7) 1) M).bind fun q_17 => (if 0 ≤ wI (q_17 (gR a0 7) 0) ∧ wI (q_17 (gR a0 7) 0) < 32 then ((some (mU q_17 a0 12 (oI (q_17 a0 12) (1 * 2 ^ (wI (q_17 (gR a0 7) 0)).toNat)))).bind fun M_20 => (some (M_20))) else none)) else (if wI x1 = 3 then ((sX5_setTie (gR a0 0) (M (gR a0 7) 0) (M (gR a0 7) 1) 2 M).bind fun q_25 => (if 0 ≤ wI (q_25 (gR a0 7) 0) ∧ wI (q_25 (gR a0 7) 0) < 32 then (if 0 ≤ wI (q_25 (gR a0 7) 1) ∧ wI (q_25 (gR a0 7) 1) < 32 then ((some (mU q_25 a0 12 (oI (q_25 a0 12) (oI (1 * 2 ^ (wI (q_25 (gR a0 7) 0)).toNat) (1 * 2 ^ (wI (q_25 (gR a0 7) 1)).toNat))))).bind fun M_30 => (some (M_30))) else none) else none)) else (if wI x1 = 4 then ((sX5_setTie (gR a0 0) (M (gR a0 7) 0) (M (gR a0 7) 1) 0 M).bind fun q_35 => (if 0 ≤ wI (q_35 (gR a0 7) 0) ∧ wI (q_35 (gR a0 7) 0) < 32 then (if 0 ≤ wI (q_35 (gR a0 7) 1) ∧ wI (q_35 (gR a0 7) 1) < 32 then ((some (mU q_35 a0 12 (oI (q_35 a0 12) (oI (1 * 2 ^ (wI (q_35 (gR a0 7) 0)).toNat) (1 * 2 ^ (wI (q_35 (gR a0 7) 1)).toNat))))).bind fun M_40 => (some (M_40))) else none) else none)) else (if wI x1 = 5 then ((sX5_setTurned (gR a0 0) (M (gR a0 7) 0) (M (gR a0 7) 1) M).bind fun q_45 => (some (q_45))) else (if wI x1 = 6 then ((sX5_setRing (gR a0 0) (M (gR a0 7) 0) (M (gR a0 7) 1) M).bind fun q_50 => (some (q_50))) else (if wI x1 = 7 then ((some (mU M (gR a0 0) 12 (M (gR a0 7) 0))).bind fun M_54 => (some (M_54))) else (if wI x1 = 8 then ((some (mU M (gR a0 0) 13 (M (gR a0 7) 0))).bind fun M_58 => (some (M_58))) else (if wI x1 = 9 then ((some (mU M (gR a0 0) 14 (M (gR a0 7) 0))).bind fun M_62 => (some (M_62))) else (if wI x1 = 10 then ((some (mU M (gR a0 0) 15 (M (gR a0 7) 0))).bind fun M_66 => (some (M_66))) else ((some (mU M (gR a0 0) 16 (M (gR a0 7) 0))).bind fun M_69 => (some (M_69))))))))))))))
def sX7_keepOfParty (a0 : Nat) (x1 : Int) (M : MM) : Option MM := sX7_keepOfParty_b0 a0 x1 M
set_option maxHeartbeats 4000000 in
set_option maxRecDepth 100000 in
theorem bX7_keepOfParty_b0 {G : GG} (a0 : Nat) (x1 : Int) (oa0 : OB L0 a0 7)  (M : MM) {res : MM}  (h : sX7_keepOfParty_b0 a0 x1 M = some res) : VV G xX7_keepOfParty (ZM G xX7_keepOfParty (none) L0 res) L0 M 0 0 0 [(0, .ref (gA G a0)), (1, .int (eI x1))] [] := by
  unfold sX7_keepOfParty_b0 at h
  refine r_iload_n (pc := 0) (i := 1) dX7_keepOfParty_0 rfl 1 rfl ?_
  by_cases c_1 : wI x1 = 0
  · replace h := (if_pos c_1).symm.trans h
    refine r_tsw (pc := 1) (tgt := 60) (k' := 0) (rfl.trans c_1) dX7_keepOfParty_1 (by decide) rfl (by decide) ?_
    refine r_aload_n (pc := 60) (i := 0) dX7_keepOfParty_60 rfl 0 rfl ?_
    have o_2 := (wt_7_0 oa0).2
    refine r_getR (pc := 61) fg_7_12 rfl oa0 (wt_7_0 oa0).1 dX7_keepOfParty_61 ?_
    refine r_aload_n (pc := 64) (i := 0) dX7_keepOfParty_64 rfl 0 rfl ?_
    have o_3 := (wt_7_7 oa0).2
    refine r_getR (pc := 65) fg_7_44 rfl oa0 (wt_7_7 oa0).1 dX7_keepOfParty_65 ?_
    refine r_iconst (pc := 68) (v := 0) dX7_keepOfParty_68 (by decide +kernel) ?_
    refine r_iald (pc := 69) o_3 wl_0 ⟨by decide, by decide⟩ rfl dX7_keepOfParty_69 ?_
    refine r_aload_n (pc := 70) (i := 0) dX7_keepOfParty_70 rfl 0 rfl ?_
    have o_4 := (wt_7_7 oa0).2
    refine r_getR (pc := 71) fg_7_44 rfl oa0 (wt_7_7 oa0).1 dX7_keepOfParty_71 ?_
    refine r_iconst (pc := 74) (v := 1) dX7_keepOfParty_74 (by decide +kernel) ?_
    refine r_iald (pc := 75) o_4 wl_1 ⟨by decide, by decide⟩ rfl dX7_keepOfParty_75 ?_
    obtain ⟨q_5, hq_5, h⟩ := ob h
    refine r_cV (pc := 76) (Y := xX5_addPart) (As := [.int (eI (M (gR a0 7) 0)), .int (eI (M (gR a0 7) 1))]) (rest := []) (v := none) (st1 := []) ck_X7_keepOfParty_177 (kX5_addPart (gR a0 0) (M (gR a0 7) 0) (M (gR a0 7) 1) M o_2 hq_5) o_2 rfl rfl rfl rfl (Nat.le_of_ble_eq_true rfl) ⟨rfl, rfl⟩ rfl dX7_keepOfParty_76 ?_
    refine r_goto (pc := 79) (tgt := 374) dX7_keepOfParty_79 (by decide) ?_
    cases h
    exact r_vret (pc := 374) rfl (Nat.le_refl 0) (Nat.le_refl 0) dX7_keepOfParty_374
  · replace h := (if_neg c_1).symm.trans h
    by_cases c_6 : wI x1 = 1
    · replace h := (if_pos c_6).symm.trans h
      refine r_tsw (pc := 1) (tgt := 82) (k' := 1) (rfl.trans c_6) dX7_keepOfParty_1 (by decide) rfl (by decide) ?_
      refine r_aload_n (pc := 82) (i := 0) dX7_keepOfParty_82 rfl 0 rfl ?_
      have o_7 := (wt_7_0 oa0).2
      refine r_getR (pc := 83) fg_7_12 rfl oa0 (wt_7_0 oa0).1 dX7_keepOfParty_83 ?_
      refine r_aload_n (pc := 86) (i := 0) dX7_keepOfParty_86 rfl 0 rfl ?_
      have o_8 := (wt_7_7 oa0).2
      refine r_getR (pc := 87) fg_7_44 rfl oa0 (wt_7_7 oa0).1 dX7_keepOfParty_87 ?_
      refine r_iconst (pc := 90) (v := 0) dX7_keepOfParty_90 (by decide +kernel) ?_
      refine r_iald (pc := 91) o_8 wl_0 ⟨by decide, by decide⟩ rfl dX7_keepOfParty_91 ?_
      refine r_aload_n (pc := 92) (i := 0) dX7_keepOfParty_92 rfl 0 rfl ?_
      have o_9 := (wt_7_7 oa0).2
      refine r_getR (pc := 93) fg_7_44 rfl oa0 (wt_7_7 oa0).1 dX7_keepOfParty_93 ?_
      refine r_iconst (pc := 96) (v := 1) dX7_keepOfParty_96 (by decide +kernel) ?_
      refine r_iald (pc := 97) o_9 wl_1 ⟨by decide, by decide⟩ rfl dX7_keepOfParty_97 ?_
      refine r_aload_n (pc := 98) (i := 0) dX7_keepOfParty_98 rfl 0 rfl ?_
      have o_10 := (wt_7_7 oa0).2
      refine r_getR (pc := 99) fg_7_44 rfl oa0 (wt_7_7 oa0).1 dX7_keepOfParty_99 ?_
      refine r_iconst (pc := 102) (v := 2) dX7_keepOfParty_102 (by decide +kernel) ?_
      refine r_iald (pc := 103) o_10 wl_2 ⟨by decide, by decide⟩ rfl dX7_keepOfParty_103 ?_
      refine r_aload_n (pc := 104) (i := 0) dX7_keepOfParty_104 rfl 0 rfl ?_
      have o_11 := (wt_7_7 oa0).2
      refine r_getR (pc := 105) fg_7_44 rfl oa0 (wt_7_7 oa0).1 dX7_keepOfParty_105 ?_
      refine r_iconst (pc := 108) (v := 3) dX7_keepOfParty_108 (by decide +kernel) ?_
      refine r_iald (pc := 109) o_11 wl_3 ⟨by decide, by decide⟩ rfl dX7_keepOfParty_109 ?_
      obtain ⟨q_12, hq_12, h⟩ := ob h
      refine r_cV (pc := 110) (Y := xX5_addChild) (As := [.int (eI (M (gR a0 7) 0)), .int (eI (M (gR a0 7) 1)), .int (eI (M (gR a0 7) 2)), .int (eI (M (gR a0 7) 3))]) (rest := []) (v := none) (st1 := []) ck_X7_keepOfParty_180 (kX5_addChild (gR a0 0) (M (gR a0 7) 0) (M (gR a0 7) 1) (M (gR a0 7) 2) (M (gR a0 7) 3) M o_7 hq_12) o_7 rfl rfl rfl rfl (Nat.le_of_ble_eq_true rfl) ⟨rfl, rfl⟩ rfl dX7_keepOfParty_110 ?_
      refine r_goto (pc := 113) (tgt := 374) dX7_keepOfParty_113 (by decide) ?_
      cases h
      exact r_vret (pc := 374) rfl (Nat.le_refl 0) (Nat.le_refl 0) dX7_keepOfParty_374
    · replace h := (if_neg c_6).symm.trans h
      by_cases c_13 : wI x1 = 2
      · replace h := (if_pos c_13).symm.trans h
        refine r_tsw (pc := 1) (tgt := 116) (k' := 2) (rfl.trans c_13) dX7_keepOfParty_1 (by decide) rfl (by decide) ?_
        refine r_aload_n (pc := 116) (i := 0) dX7_keepOfParty_116 rfl 0 rfl ?_
        have o_14 := (wt_7_0 oa0).2
        refine r_getR (pc := 117) fg_7_12 rfl oa0 (wt_7_0 oa0).1 dX7_keepOfParty_117 ?_
        refine r_aload_n (pc := 120) (i := 0) dX7_keepOfParty_120 rfl 0 rfl ?_
        have o_15 := (wt_7_7 oa0).2
        refine r_getR (pc := 121) fg_7_44 rfl oa0 (wt_7_7 oa0).1 dX7_keepOfParty_121 ?_
        refine r_iconst (pc := 124) (v := 0) dX7_keepOfParty_124 (by decide +kernel) ?_
        refine r_iald (pc := 125) o_15 wl_0 ⟨by decide, by decide⟩ rfl dX7_keepOfParty_125 ?_
        refine r_aload_n (pc := 126) (i := 0) dX7_keepOfParty_126 rfl 0 rfl ?_
        have o_16 := (wt_7_7 oa0).2
        refine r_getR (pc := 127) fg_7_44 rfl oa0 (wt_7_7 oa0).1 dX7_keepOfParty_127 ?_
        refine r_iconst (pc := 130) (v := 1) dX7_keepOfParty_130 (by decide +kernel) ?_
        refine r_iald (pc := 131) o_16 wl_1 ⟨by decide, by decide⟩ rfl dX7_keepOfParty_131 ?_
        obtain ⟨q_17, hq_17, h⟩ := ob h
        refine r_cV (pc := 132) (Y := xX5_setSpot) (As := [.int (eI (M (gR a0 7) 0)), .int (eI (M (gR a0 7) 1))]) (rest := []) (v := none) (st1 := []) ck_X7_keepOfParty_184 (kX5_setSpot (gR a0 0) (M (gR a0 7) 0) (M (gR a0 7) 1) M o_14 hq_17) o_14 rfl rfl rfl rfl (Nat.le_of_ble_eq_true rfl) ⟨rfl, rfl⟩ rfl dX7_keepOfParty_132 ?_
        refine r_aload_n (pc := 135) (i := 0) dX7_keepOfParty_135 rfl 0 rfl ?_
        refine r_dup (pc := 136) dX7_keepOfParty_136 rfl ?_
        refine r_getI (pc := 137) fg_7_79 rfl oa0 dX7_keepOfParty_137 ?_
        refine r_iconst (pc := 140) (v := 1) dX7_keepOfParty_140 (by decide +kernel) ?_
        refine r_aload_n (pc := 141) (i := 0) dX7_keepOfParty_141 rfl 0 rfl ?_
        have o_18 := (wt_7_7 oa0).2
        refine r_getR (pc := 142) fg_7_44 rfl oa0 (wt_7_7 oa0).1 dX7_keepOfParty_142 ?_
        refine r_iconst (pc := 145) (v := 0) dX7_keepOfParty_145 (by decide +kernel) ?_
        refine r_iald (pc := 146) o_18 wl_0 ⟨by decide, by decide⟩ rfl dX7_keepOfParty_146 ?_
        obtain ⟨c_19, h⟩ := og h
        refine r_ishl (pc := 147) rfl c_19 dX7_keepOfParty_147 ?_
        refine r_ior (pc := 148) dX7_keepOfParty_148 ?_
        obtain ⟨M_20, hM_20, h⟩ := ob h
        refine r_putI (pc := 149) fg_7_79 rfl oa0 hM_20 rfl rfl dX7_keepOfParty_149 ?_
        refine r_goto (pc := 152) (tgt := 374) dX7_keepOfParty_152 (by decide) ?_
        cases h
        exact r_vret (pc := 374) rfl (Nat.le_refl 0) (Nat.le_refl 0) dX7_keepOfParty_374
      · replace h := (if_neg c_13).symm.trans h
        by_cases c_21 : wI x1 = 3
        · replace h := (if_pos c_21).symm.trans h
          refine r_tsw (pc := 1) (tgt := 155) (k' := 3) (rfl.trans c_21) dX7_keepOfParty_1 (by decide) rfl (by decide) ?_
          refine r_aload_n (pc := 155) (i := 0) dX7_keepOfParty_155 rfl 0 rfl ?_
          have o_22 := (wt_7_0 oa0).2
          refine r_getR (pc := 156) fg_7_12 rfl oa0 (wt_7_0 oa0).1 dX7_keepOfParty_156 ?_
          refine r_aload_n (pc := 159) (i := 0) dX7_keepOfParty_159 rfl 0 rfl ?_
          have o_23 := (wt_7_7 oa0).2
          refine r_getR (pc := 160) fg_7_44 rfl oa0 (wt_7_7 oa0).1 dX7_keepOfParty_160 ?_
          refine r_iconst (pc := 163) (v := 0) dX7_keepOfParty_163 (by decide +kernel) ?_
          refine r_iald (pc := 164) o_23 wl_0 ⟨by decide, by decide⟩ rfl dX7_keepOfParty_164 ?_
          refine r_aload_n (pc := 165) (i := 0) dX7_keepOfParty_165 rfl 0 rfl ?_
          have o_24 := (wt_7_7 oa0).2
          refine r_getR (pc := 166) fg_7_44 rfl oa0 (wt_7_7 oa0).1 dX7_keepOfParty_166 ?_
          refine r_iconst (pc := 169) (v := 1) dX7_keepOfParty_169 (by decide +kernel) ?_
          refine r_iald (pc := 170) o_24 wl_1 ⟨by decide, by decide⟩ rfl dX7_keepOfParty_170 ?_
          refine r_iconst (pc := 171) (v := 2) dX7_keepOfParty_171 (by decide +kernel) ?_
          obtain ⟨q_25, hq_25, h⟩ := ob h
          refine r_cV (pc := 172) (Y := xX5_setTie) (As := [.int (eI (M (gR a0 7) 0)), .int (eI (M (gR a0 7) 1)), .int (eI 2)]) (rest := []) (v := none) (st1 := []) ck_X7_keepOfParty_187 (kX5_setTie (gR a0 0) (M (gR a0 7) 0) (M (gR a0 7) 1) 2 M o_22 hq_25) o_22 rfl rfl rfl rfl (Nat.le_of_ble_eq_true rfl) ⟨rfl, rfl⟩ rfl dX7_keepOfParty_172 ?_
          refine r_aload_n (pc := 175) (i := 0) dX7_keepOfParty_175 rfl 0 rfl ?_
          refine r_dup (pc := 176) dX7_keepOfParty_176 rfl ?_
          refine r_getI (pc := 177) fg_7_79 rfl oa0 dX7_keepOfParty_177 ?_
          refine r_iconst (pc := 180) (v := 1) dX7_keepOfParty_180 (by decide +kernel) ?_
          refine r_aload_n (pc := 181) (i := 0) dX7_keepOfParty_181 rfl 0 rfl ?_
          have o_26 := (wt_7_7 oa0).2
          refine r_getR (pc := 182) fg_7_44 rfl oa0 (wt_7_7 oa0).1 dX7_keepOfParty_182 ?_
          refine r_iconst (pc := 185) (v := 0) dX7_keepOfParty_185 (by decide +kernel) ?_
          refine r_iald (pc := 186) o_26 wl_0 ⟨by decide, by decide⟩ rfl dX7_keepOfParty_186 ?_
          obtain ⟨c_27, h⟩ := og h
          refine r_ishl (pc := 187) rfl c_27 dX7_keepOfParty_187 ?_
          refine r_iconst (pc := 188) (v := 1) dX7_keepOfParty_188 (by decide +kernel) ?_
          refine r_aload_n (pc := 189) (i := 0) dX7_keepOfParty_189 rfl 0 rfl ?_
          have o_28 := (wt_7_7 oa0).2
          refine r_getR (pc := 190) fg_7_44 rfl oa0 (wt_7_7 oa0).1 dX7_keepOfParty_190 ?_
          refine r_iconst (pc := 193) (v := 1) dX7_keepOfParty_193 (by decide +kernel) ?_
          refine r_iald (pc := 194) o_28 wl_1 ⟨by decide, by decide⟩ rfl dX7_keepOfParty_194 ?_
          obtain ⟨c_29, h⟩ := og h
          refine r_ishl (pc := 195) rfl c_29 dX7_keepOfParty_195 ?_
          refine r_ior (pc := 196) dX7_keepOfParty_196 ?_
          refine r_ior (pc := 197) dX7_keepOfParty_197 ?_
          obtain ⟨M_30, hM_30, h⟩ := ob h
          refine r_putI (pc := 198) fg_7_79 rfl oa0 hM_30 rfl rfl dX7_keepOfParty_198 ?_
          refine r_goto (pc := 201) (tgt := 374) dX7_keepOfParty_201 (by decide) ?_
          cases h
          exact r_vret (pc := 374) rfl (Nat.le_refl 0) (Nat.le_refl 0) dX7_keepOfParty_374
        · replace h := (if_neg c_21).symm.trans h
          by_cases c_31 : wI x1 = 4
          · replace h := (if_pos c_31).symm.trans h
            refine r_tsw (pc := 1) (tgt := 204) (k' := 4) (rfl.trans c_31) dX7_keepOfParty_1 (by decide) rfl (by decide) ?_
            refine r_aload_n (pc := 204) (i := 0) dX7_keepOfParty_204 rfl 0 rfl ?_
            have o_32 := (wt_7_0 oa0).2
            refine r_getR (pc := 205) fg_7_12 rfl oa0 (wt_7_0 oa0).1 dX7_keepOfParty_205 ?_
            refine r_aload_n (pc := 208) (i := 0) dX7_keepOfParty_208 rfl 0 rfl ?_
            have o_33 := (wt_7_7 oa0).2
            refine r_getR (pc := 209) fg_7_44 rfl oa0 (wt_7_7 oa0).1 dX7_keepOfParty_209 ?_
            refine r_iconst (pc := 212) (v := 0) dX7_keepOfParty_212 (by decide +kernel) ?_
            refine r_iald (pc := 213) o_33 wl_0 ⟨by decide, by decide⟩ rfl dX7_keepOfParty_213 ?_
            refine r_aload_n (pc := 214) (i := 0) dX7_keepOfParty_214 rfl 0 rfl ?_
            have o_34 := (wt_7_7 oa0).2
            refine r_getR (pc := 215) fg_7_44 rfl oa0 (wt_7_7 oa0).1 dX7_keepOfParty_215 ?_
            refine r_iconst (pc := 218) (v := 1) dX7_keepOfParty_218 (by decide +kernel) ?_
            refine r_iald (pc := 219) o_34 wl_1 ⟨by decide, by decide⟩ rfl dX7_keepOfParty_219 ?_
            refine r_iconst (pc := 220) (v := 0) dX7_keepOfParty_220 (by decide +kernel) ?_
            obtain ⟨q_35, hq_35, h⟩ := ob h
            refine r_cV (pc := 221) (Y := xX5_setTie) (As := [.int (eI (M (gR a0 7) 0)), .int (eI (M (gR a0 7) 1)), .int (eI 0)]) (rest := []) (v := none) (st1 := []) ck_X7_keepOfParty_187 (kX5_setTie (gR a0 0) (M (gR a0 7) 0) (M (gR a0 7) 1) 0 M o_32 hq_35) o_32 rfl rfl rfl rfl (Nat.le_of_ble_eq_true rfl) ⟨rfl, rfl⟩ rfl dX7_keepOfParty_221 ?_
            refine r_aload_n (pc := 224) (i := 0) dX7_keepOfParty_224 rfl 0 rfl ?_
            refine r_dup (pc := 225) dX7_keepOfParty_225 rfl ?_
            refine r_getI (pc := 226) fg_7_79 rfl oa0 dX7_keepOfParty_226 ?_
            refine r_iconst (pc := 229) (v := 1) dX7_keepOfParty_229 (by decide +kernel) ?_
            refine r_aload_n (pc := 230) (i := 0) dX7_keepOfParty_230 rfl 0 rfl ?_
            have o_36 := (wt_7_7 oa0).2
            refine r_getR (pc := 231) fg_7_44 rfl oa0 (wt_7_7 oa0).1 dX7_keepOfParty_231 ?_
            refine r_iconst (pc := 234) (v := 0) dX7_keepOfParty_234 (by decide +kernel) ?_
            refine r_iald (pc := 235) o_36 wl_0 ⟨by decide, by decide⟩ rfl dX7_keepOfParty_235 ?_
            obtain ⟨c_37, h⟩ := og h
            refine r_ishl (pc := 236) rfl c_37 dX7_keepOfParty_236 ?_
            refine r_iconst (pc := 237) (v := 1) dX7_keepOfParty_237 (by decide +kernel) ?_
            refine r_aload_n (pc := 238) (i := 0) dX7_keepOfParty_238 rfl 0 rfl ?_
            have o_38 := (wt_7_7 oa0).2
            refine r_getR (pc := 239) fg_7_44 rfl oa0 (wt_7_7 oa0).1 dX7_keepOfParty_239 ?_
            refine r_iconst (pc := 242) (v := 1) dX7_keepOfParty_242 (by decide +kernel) ?_
            refine r_iald (pc := 243) o_38 wl_1 ⟨by decide, by decide⟩ rfl dX7_keepOfParty_243 ?_
            obtain ⟨c_39, h⟩ := og h
            refine r_ishl (pc := 244) rfl c_39 dX7_keepOfParty_244 ?_
            refine r_ior (pc := 245) dX7_keepOfParty_245 ?_
            refine r_ior (pc := 246) dX7_keepOfParty_246 ?_
            obtain ⟨M_40, hM_40, h⟩ := ob h
            refine r_putI (pc := 247) fg_7_79 rfl oa0 hM_40 rfl rfl dX7_keepOfParty_247 ?_
            refine r_goto (pc := 250) (tgt := 374) dX7_keepOfParty_250 (by decide) ?_
            cases h
            exact r_vret (pc := 374) rfl (Nat.le_refl 0) (Nat.le_refl 0) dX7_keepOfParty_374
          · replace h := (if_neg c_31).symm.trans h
            by_cases c_41 : wI x1 = 5
            · replace h := (if_pos c_41).symm.trans h
              refine r_tsw (pc := 1) (tgt := 253) (k' := 5) (rfl.trans c_41) dX7_keepOfParty_1 (by decide) rfl (by decide) ?_
              refine r_aload_n (pc := 253) (i := 0) dX7_keepOfParty_253 rfl 0 rfl ?_
              have o_42 := (wt_7_0 oa0).2
              refine r_getR (pc := 254) fg_7_12 rfl oa0 (wt_7_0 oa0).1 dX7_keepOfParty_254 ?_
              refine r_aload_n (pc := 257) (i := 0) dX7_keepOfParty_257 rfl 0 rfl ?_
              have o_43 := (wt_7_7 oa0).2
              refine r_getR (pc := 258) fg_7_44 rfl oa0 (wt_7_7 oa0).1 dX7_keepOfParty_258 ?_
              refine r_iconst (pc := 261) (v := 0) dX7_keepOfParty_261 (by decide +kernel) ?_
              refine r_iald (pc := 262) o_43 wl_0 ⟨by decide, by decide⟩ rfl dX7_keepOfParty_262 ?_
              refine r_aload_n (pc := 263) (i := 0) dX7_keepOfParty_263 rfl 0 rfl ?_
              have o_44 := (wt_7_7 oa0).2
              refine r_getR (pc := 264) fg_7_44 rfl oa0 (wt_7_7 oa0).1 dX7_keepOfParty_264 ?_
              refine r_iconst (pc := 267) (v := 1) dX7_keepOfParty_267 (by decide +kernel) ?_
              refine r_iald (pc := 268) o_44 wl_1 ⟨by decide, by decide⟩ rfl dX7_keepOfParty_268 ?_
              obtain ⟨q_45, hq_45, h⟩ := ob h
              refine r_cV (pc := 269) (Y := xX5_setTurned) (As := [.int (eI (M (gR a0 7) 0)), .int (eI (M (gR a0 7) 1))]) (rest := []) (v := none) (st1 := []) ck_X7_keepOfParty_190 (kX5_setTurned (gR a0 0) (M (gR a0 7) 0) (M (gR a0 7) 1) M o_42 hq_45) o_42 rfl rfl rfl rfl (Nat.le_of_ble_eq_true rfl) ⟨rfl, rfl⟩ rfl dX7_keepOfParty_269 ?_
              refine r_goto (pc := 272) (tgt := 374) dX7_keepOfParty_272 (by decide) ?_
              cases h
              exact r_vret (pc := 374) rfl (Nat.le_refl 0) (Nat.le_refl 0) dX7_keepOfParty_374
            · replace h := (if_neg c_41).symm.trans h
              by_cases c_46 : wI x1 = 6
              · replace h := (if_pos c_46).symm.trans h
                refine r_tsw (pc := 1) (tgt := 275) (k' := 6) (rfl.trans c_46) dX7_keepOfParty_1 (by decide) rfl (by decide) ?_
                refine r_aload_n (pc := 275) (i := 0) dX7_keepOfParty_275 rfl 0 rfl ?_
                have o_47 := (wt_7_0 oa0).2
                refine r_getR (pc := 276) fg_7_12 rfl oa0 (wt_7_0 oa0).1 dX7_keepOfParty_276 ?_
                refine r_aload_n (pc := 279) (i := 0) dX7_keepOfParty_279 rfl 0 rfl ?_
                have o_48 := (wt_7_7 oa0).2
                refine r_getR (pc := 280) fg_7_44 rfl oa0 (wt_7_7 oa0).1 dX7_keepOfParty_280 ?_
                refine r_iconst (pc := 283) (v := 0) dX7_keepOfParty_283 (by decide +kernel) ?_
                refine r_iald (pc := 284) o_48 wl_0 ⟨by decide, by decide⟩ rfl dX7_keepOfParty_284 ?_
                refine r_aload_n (pc := 285) (i := 0) dX7_keepOfParty_285 rfl 0 rfl ?_
                have o_49 := (wt_7_7 oa0).2
                refine r_getR (pc := 286) fg_7_44 rfl oa0 (wt_7_7 oa0).1 dX7_keepOfParty_286 ?_
                refine r_iconst (pc := 289) (v := 1) dX7_keepOfParty_289 (by decide +kernel) ?_
                refine r_iald (pc := 290) o_49 wl_1 ⟨by decide, by decide⟩ rfl dX7_keepOfParty_290 ?_
                obtain ⟨q_50, hq_50, h⟩ := ob h
                refine r_cV (pc := 291) (Y := xX5_setRing) (As := [.int (eI (M (gR a0 7) 0)), .int (eI (M (gR a0 7) 1))]) (rest := []) (v := none) (st1 := []) ck_X7_keepOfParty_193 (kX5_setRing (gR a0 0) (M (gR a0 7) 0) (M (gR a0 7) 1) M o_47 hq_50) o_47 rfl rfl rfl rfl (Nat.le_of_ble_eq_true rfl) ⟨rfl, rfl⟩ rfl dX7_keepOfParty_291 ?_
                refine r_goto (pc := 294) (tgt := 374) dX7_keepOfParty_294 (by decide) ?_
                cases h
                exact r_vret (pc := 374) rfl (Nat.le_refl 0) (Nat.le_refl 0) dX7_keepOfParty_374
              · replace h := (if_neg c_46).symm.trans h
                by_cases c_51 : wI x1 = 7
                · replace h := (if_pos c_51).symm.trans h
                  refine r_tsw (pc := 1) (tgt := 297) (k' := 7) (rfl.trans c_51) dX7_keepOfParty_1 (by decide) rfl (by decide) ?_
                  refine r_aload_n (pc := 297) (i := 0) dX7_keepOfParty_297 rfl 0 rfl ?_
                  have o_52 := (wt_7_0 oa0).2
                  refine r_getR (pc := 298) fg_7_12 rfl oa0 (wt_7_0 oa0).1 dX7_keepOfParty_298 ?_
                  refine r_aload_n (pc := 301) (i := 0) dX7_keepOfParty_301 rfl 0 rfl ?_
                  have o_53 := (wt_7_7 oa0).2
                  refine r_getR (pc := 302) fg_7_44 rfl oa0 (wt_7_7 oa0).1 dX7_keepOfParty_302 ?_
                  refine r_iconst (pc := 305) (v := 0) dX7_keepOfParty_305 (by decide +kernel) ?_
                  refine r_iald (pc := 306) o_53 wl_0 ⟨by decide, by decide⟩ rfl dX7_keepOfParty_306 ?_
                  obtain ⟨M_54, hM_54, h⟩ := ob h
                  refine r_putI (pc := 307) fg_7_196 rfl o_52 hM_54 rfl rfl dX7_keepOfParty_307 ?_
                  refine r_goto (pc := 310) (tgt := 374) dX7_keepOfParty_310 (by decide) ?_
                  cases h
                  exact r_vret (pc := 374) rfl (Nat.le_refl 0) (Nat.le_refl 0) dX7_keepOfParty_374
                · replace h := (if_neg c_51).symm.trans h
                  by_cases c_55 : wI x1 = 8
                  · replace h := (if_pos c_55).symm.trans h
                    refine r_tsw (pc := 1) (tgt := 313) (k' := 8) (rfl.trans c_55) dX7_keepOfParty_1 (by decide) rfl (by decide) ?_
                    refine r_aload_n (pc := 313) (i := 0) dX7_keepOfParty_313 rfl 0 rfl ?_
                    have o_56 := (wt_7_0 oa0).2
                    refine r_getR (pc := 314) fg_7_12 rfl oa0 (wt_7_0 oa0).1 dX7_keepOfParty_314 ?_
                    refine r_aload_n (pc := 317) (i := 0) dX7_keepOfParty_317 rfl 0 rfl ?_
                    have o_57 := (wt_7_7 oa0).2
                    refine r_getR (pc := 318) fg_7_44 rfl oa0 (wt_7_7 oa0).1 dX7_keepOfParty_318 ?_
                    refine r_iconst (pc := 321) (v := 0) dX7_keepOfParty_321 (by decide +kernel) ?_
                    refine r_iald (pc := 322) o_57 wl_0 ⟨by decide, by decide⟩ rfl dX7_keepOfParty_322 ?_
                    obtain ⟨M_58, hM_58, h⟩ := ob h
                    refine r_putI (pc := 323) fg_7_199 rfl o_56 hM_58 rfl rfl dX7_keepOfParty_323 ?_
                    refine r_goto (pc := 326) (tgt := 374) dX7_keepOfParty_326 (by decide) ?_
                    cases h
                    exact r_vret (pc := 374) rfl (Nat.le_refl 0) (Nat.le_refl 0) dX7_keepOfParty_374
                  · replace h := (if_neg c_55).symm.trans h
                    by_cases c_59 : wI x1 = 9
                    · replace h := (if_pos c_59).symm.trans h
                      refine r_tsw (pc := 1) (tgt := 329) (k' := 9) (rfl.trans c_59) dX7_keepOfParty_1 (by decide) rfl (by decide) ?_
                      refine r_aload_n (pc := 329) (i := 0) dX7_keepOfParty_329 rfl 0 rfl ?_
                      have o_60 := (wt_7_0 oa0).2
                      refine r_getR (pc := 330) fg_7_12 rfl oa0 (wt_7_0 oa0).1 dX7_keepOfParty_330 ?_
                      refine r_aload_n (pc := 333) (i := 0) dX7_keepOfParty_333 rfl 0 rfl ?_
                      have o_61 := (wt_7_7 oa0).2
                      refine r_getR (pc := 334) fg_7_44 rfl oa0 (wt_7_7 oa0).1 dX7_keepOfParty_334 ?_
                      refine r_iconst (pc := 337) (v := 0) dX7_keepOfParty_337 (by decide +kernel) ?_
                      refine r_iald (pc := 338) o_61 wl_0 ⟨by decide, by decide⟩ rfl dX7_keepOfParty_338 ?_
                      obtain ⟨M_62, hM_62, h⟩ := ob h
                      refine r_putI (pc := 339) fg_7_202 rfl o_60 hM_62 rfl rfl dX7_keepOfParty_339 ?_
                      refine r_goto (pc := 342) (tgt := 374) dX7_keepOfParty_342 (by decide) ?_
                      cases h
                      exact r_vret (pc := 374) rfl (Nat.le_refl 0) (Nat.le_refl 0) dX7_keepOfParty_374
                    · replace h := (if_neg c_59).symm.trans h
                      by_cases c_63 : wI x1 = 10
                      · replace h := (if_pos c_63).symm.trans h
                        refine r_tsw (pc := 1) (tgt := 345) (k' := 10) (rfl.trans c_63) dX7_keepOfParty_1 (by decide) rfl (by decide) ?_
                        refine r_aload_n (pc := 345) (i := 0) dX7_keepOfParty_345 rfl 0 rfl ?_
                        have o_64 := (wt_7_0 oa0).2
                        refine r_getR (pc := 346) fg_7_12 rfl oa0 (wt_7_0 oa0).1 dX7_keepOfParty_346 ?_
                        refine r_aload_n (pc := 349) (i := 0) dX7_keepOfParty_349 rfl 0 rfl ?_
                        have o_65 := (wt_7_7 oa0).2
                        refine r_getR (pc := 350) fg_7_44 rfl oa0 (wt_7_7 oa0).1 dX7_keepOfParty_350 ?_
                        refine r_iconst (pc := 353) (v := 0) dX7_keepOfParty_353 (by decide +kernel) ?_
                        refine r_iald (pc := 354) o_65 wl_0 ⟨by decide, by decide⟩ rfl dX7_keepOfParty_354 ?_
                        obtain ⟨M_66, hM_66, h⟩ := ob h
                        refine r_putI (pc := 355) fg_7_205 rfl o_64 hM_66 rfl rfl dX7_keepOfParty_355 ?_
                        refine r_goto (pc := 358) (tgt := 374) dX7_keepOfParty_358 (by decide) ?_
                        cases h
                        exact r_vret (pc := 374) rfl (Nat.le_refl 0) (Nat.le_refl 0) dX7_keepOfParty_374
                      · replace h := (if_neg c_63).symm.trans h
                        refine r_tswD (pc := 1) (tgt := 361) rfl dX7_keepOfParty_1 (by omega) (by decide) ?_
                        refine r_aload_n (pc := 361) (i := 0) dX7_keepOfParty_361 rfl 0 rfl ?_
                        have o_67 := (wt_7_0 oa0).2
                        refine r_getR (pc := 362) fg_7_12 rfl oa0 (wt_7_0 oa0).1 dX7_keepOfParty_362 ?_
                        refine r_aload_n (pc := 365) (i := 0) dX7_keepOfParty_365 rfl 0 rfl ?_
                        have o_68 := (wt_7_7 oa0).2
                        refine r_getR (pc := 366) fg_7_44 rfl oa0 (wt_7_7 oa0).1 dX7_keepOfParty_366 ?_
                        refine r_iconst (pc := 369) (v := 0) dX7_keepOfParty_369 (by decide +kernel) ?_
                        refine r_iald (pc := 370) o_68 wl_0 ⟨by decide, by decide⟩ rfl dX7_keepOfParty_370 ?_
                        obtain ⟨M_69, hM_69, h⟩ := ob h
                        refine r_putI (pc := 371) fg_7_208 rfl o_67 hM_69 rfl rfl dX7_keepOfParty_371 ?_
                        cases h
                        exact r_vret (pc := 374) rfl (Nat.le_refl 0) (Nat.le_refl 0) dX7_keepOfParty_374
theorem kX7_keepOfParty {G : GG} (a0 : Nat) (x1 : Int) (M : MM) {res : MM} (oa0 : OB L0 a0 7) (h : sX7_keepOfParty a0 x1 M = some res) : CO G xX7_keepOfParty [.ref (gA G a0), .int (eI x1)] L0 M (none) L0 res := CO_of (by decide +kernel) (Nat.le_of_ble_eq_true rfl) (bX7_keepOfParty_b0 a0 x1 oa0 M h)
abbrev xX7_keep : XX := (yX7_keep, cX7_keep, 3, none, 2, 45, 0, 0)
theorem ck_X7_keep_167 : CKV xX7_keep 167 xX7_keepOfParty 1 := ⟨⟨tb_i 790 (by decide +kernel) (by decide +kernel), tb_i 146 (by decide +kernel) (by decide +kernel), tb_i 793 (by decide +kernel) (by decide +kernel), ⟨by decide +kernel, by decide +kernel, by decide +kernel⟩, by decide, by decide⟩, tb_i 792 (by decide +kernel) (by decide +kernel), tb_i 11 (by decide +kernel) (by decide +kernel)⟩
theorem ck_X7_keep_170 : CKV xX7_keep 170 xX3_add 3 := ⟨⟨tb_i 818 (by decide +kernel) (by decide +kernel), tb_i 142 (by decide +kernel) (by decide +kernel), tb_i 821 (by decide +kernel) (by decide +kernel), ⟨by decide +kernel, by decide +kernel, by decide +kernel⟩, by decide, by decide⟩, tb_i 819 (by decide +kernel) (by decide +kernel), tb_i 820 (by decide +kernel) (by decide +kernel)⟩
def sX7_keep_b272 (a0 : Nat) (x1 : Int)  (a90 : Nat) (x91 : Int) (x92 : Int) (x93 : Int) (M : MM) : Option MM := ((sX3_add a90 x91 x92 x93 M).bind fun q_1 => (some (q_1)))
def sX7_keep_b246 (a0 : Nat) (x1 : Int)  (a90 : Nat) (x91 : Int) (x92 : Int) (x93 : Int) (M : MM) : Option MM := ((sX3_add a90 x91 x92 x93 M).bind fun q_1 => (some (q_1)))
def sX7_keep_b221 (a0 : Nat) (x1 : Int)   (M : MM) : Option MM := (if wI x1 = 24 then (sX7_keep_b246 a0 x1 (gR (gR a0 4) 0) 0 (M (gR a0 7) 0) 1 M) else (sX7_keep_b246 a0 x1 (gR (gR a0 4) 0) 0 (M (gR a0 7) 0) 0 M))
def sX7_keep_b63 (a0 : Nat) (x1 : Int)  (a90 : Nat) (x91 : Int) (x92 : Int) (x93 : Int) (M : MM) : Option MM := ((sX3_add a90 x91 x92 x93 M).bind fun q_1 => (some (q_1)))
def sX7_keep_b48 (a0 : Nat) (x1 : Int)  (x2 : Int) (a90 : Nat) (x91 : Int) (x92 : Int) (M : MM) : Option MM := (if wI x2 ≤ 1 then (sX7_keep_b63 a0 x1 a90 x91 x92 (-1) M) else (sX7_keep_b63 a0 x1 a90 x91 x92 (M (gR a0 7) 1) M))
def sX7_keep_b0 (a0 : Nat) (x1 : Int)   (M : MM) : Option MM := (if 12 ≤ wI x1 then (if 17 < wI x1 then (if wI x1 = 18 then ((sX3_add (gR (gR a0 2) 0) 0 (M (gR a0 7) 0) (M (gR a0 7) 1) M).bind fun q_34 => (some (q_34))) else (if 21 < wI x1 then (if wI x1 = 22 then (if wI (M (gR a0 7) 0) < 0 then (some (M)) else (if 8 ≤ wI (M (gR a0 7) 0) then (some (M)) else (if 0 ≤ wI (M (gR a0 7) 0) ∧ wI (M (gR a0 7) 0) < 8 then ((some (mU M (gR (gR a0 2) 1) (wI (M (gR a0 7) 0)).toNat (M (gR a0 7) 1))).bind fun M_25 => (some (M_25))) else none))) else (if wI x1 = 23 then ((sX3_add (gR a0 3) 0 (M (gR a0 7) 0) (M (gR a0 7) 1) M).bind fun q_15 => (some (q_15))) else (if wI x1 = 24 then (sX7_keep_b221 a0 x1 M) else (if wI x1 = 25 then (sX7_keep_b221 a0 x1 M) else (if wI x1 = 26 then (sX7_keep_b272 a0 x1 (gR (gR a0 4) 1) 0 (-1) 1 M) else (sX7_keep_b272 a0 x1 (gR (gR a0 4) 1) 0 (-1) 0 M)))))) else ((sX3_add (gR (gR a0 2) 0) (x1 - 18) (-1) (M (gR a0 7) 0) M).bind fun q_29 => (some (q_29))))) else (if 0 ≤ wI x1 ∧ wI x1 < 28 then (if wI ((sT 1).getD (wI x1).toNat 0) ≤ 0 then (sX7_keep_b48 a0 x1 ((sT 1).getD (wI x1).toNat 0) (gR a0 1) (x1 - 12) (-1) M) else (sX7_keep_b48 a0 x1 ((sT 1).getD (wI x1).toNat 0) (gR a0 1) (x1 - 12) (M (gR a0 7) 0) M)) else none)) else ((sX7_keepOfParty a0 x1 M).bind fun q_39 => (some (q_39))))
def sX7_keep (a0 : Nat) (x1 : Int) (M : MM) : Option MM := sX7_keep_b0 a0 x1 M
set_option maxHeartbeats 4000000 in
set_option maxRecDepth 100000 in
theorem bX7_keep_b272 {G : GG} (a0 : Nat) (x1 : Int) (oa0 : OB L0 a0 7) (a90 : Nat) (x91 : Int) (x92 : Int) (x93 : Int) (M : MM) {res : MM} (oa90 : OB L0 a90 3) (h : sX7_keep_b272 a0 x1 a90 x91 x92 x93 M = some res) : VV G xX7_keep (ZM G xX7_keep (none) L0 res) L0 M 0 0 272 [] [.int (eI x93), .int (eI x92), .int (eI x91), .ref (gA G a90)] := by
  unfold sX7_keep_b272 at h
  obtain ⟨q_1, hq_1, h⟩ := ob h
  refine r_cV (pc := 272) (Y := xX3_add) (As := [.int (eI x91), .int (eI x92), .int (eI x93)]) (rest := []) (v := none) (st1 := []) ck_X7_keep_170 (kX3_add a90 x91 x92 x93 M oa90 hq_1) oa90 rfl rfl rfl rfl (Nat.le_of_ble_eq_true rfl) ⟨rfl, rfl⟩ rfl dX7_keep_272 ?_
  cases h
  exact r_vret (pc := 275) rfl (Nat.le_refl 0) (Nat.le_refl 0) dX7_keep_275
set_option maxHeartbeats 4000000 in
set_option maxRecDepth 100000 in
theorem bX7_keep_b246 {G : GG} (a0 : Nat) (x1 : Int) (oa0 : OB L0 a0 7) (a90 : Nat) (x91 : Int) (x92 : Int) (x93 : Int) (M : MM) {res : MM} (oa90 : OB L0 a90 3) (h : sX7_keep_b246 a0 x1 a90 x91 x92 x93 M = some res) : VV G xX7_keep (ZM G xX7_keep (none) L0 res) L0 M 0 0 246 [] [.int (eI x93), .int (eI x92), .int (eI x91), .ref (gA G a90)] := by
  unfold sX7_keep_b246 at h
  obtain ⟨q_1, hq_1, h⟩ := ob h
  refine r_cV (pc := 246) (Y := xX3_add) (As := [.int (eI x91), .int (eI x92), .int (eI x93)]) (rest := []) (v := none) (st1 := []) ck_X7_keep_170 (kX3_add a90 x91 x92 x93 M oa90 hq_1) oa90 rfl rfl rfl rfl (Nat.le_of_ble_eq_true rfl) ⟨rfl, rfl⟩ rfl dX7_keep_246 ?_
  refine r_goto (pc := 249) (tgt := 275) dX7_keep_249 (by decide) ?_
  cases h
  exact r_vret (pc := 275) rfl (Nat.le_refl 0) (Nat.le_refl 0) dX7_keep_275
set_option maxHeartbeats 4000000 in
set_option maxRecDepth 100000 in
theorem bX7_keep_b221 {G : GG} (a0 : Nat) (x1 : Int) (oa0 : OB L0 a0 7)  (M : MM) {res : MM}  (h : sX7_keep_b221 a0 x1 M = some res) : VV G xX7_keep (ZM G xX7_keep (none) L0 res) L0 M 0 0 221 [(0, .ref (gA G a0)), (1, .int (eI x1))] [] := by
  unfold sX7_keep_b221 at h
  refine r_aload_n (pc := 221) (i := 0) dX7_keep_221 rfl 0 rfl ?_
  have o_1 := (wt_7_4 oa0).2
  refine r_getR (pc := 222) fg_7_40 rfl oa0 (wt_7_4 oa0).1 dX7_keep_222 ?_
  have o_2 := (wt_8_0 o_1).2
  refine r_getR (pc := 225) fg_7_161 rfl o_1 (wt_8_0 o_1).1 dX7_keep_225 ?_
  refine r_iconst (pc := 228) (v := 0) dX7_keep_228 (by decide +kernel) ?_
  refine r_aload_n (pc := 229) (i := 0) dX7_keep_229 rfl 0 rfl ?_
  have o_3 := (wt_7_7 oa0).2
  refine r_getR (pc := 230) fg_7_44 rfl oa0 (wt_7_7 oa0).1 dX7_keep_230 ?_
  refine r_iconst (pc := 233) (v := 0) dX7_keep_233 (by decide +kernel) ?_
  refine r_iald (pc := 234) o_3 wl_0 ⟨by decide, by decide⟩ rfl dX7_keep_234 ?_
  refine r_iload_n (pc := 235) (i := 1) dX7_keep_235 rfl 1 rfl ?_
  refine r_bipush (pc := 236) (v := 24) dX7_keep_236 (by decide +kernel) ?_
  refine r_icmp_ne (pc := 238) (tgt := 245) dX7_keep_238 (by decide) rfl wl_24 (fun c_4 => ?_) (fun c_4 => ?_)
  · replace h := (if_neg c_4).symm.trans h
    refine r_iconst (pc := 245) (v := 0) dX7_keep_245 (by decide +kernel) ?_
    refine r_sub (lv' := []) [] rfl ?_
    exact bX7_keep_b246 a0 x1 oa0 _ _ _ _ _ o_2 h
  · replace h := (if_pos c_4).symm.trans h
    refine r_iconst (pc := 241) (v := 1) dX7_keep_241 (by decide +kernel) ?_
    refine r_goto (pc := 242) (tgt := 246) dX7_keep_242 (by decide) ?_
    refine r_sub (lv' := []) [] rfl ?_
    exact bX7_keep_b246 a0 x1 oa0 _ _ _ _ _ o_2 h
set_option maxHeartbeats 4000000 in
set_option maxRecDepth 100000 in
theorem bX7_keep_b63 {G : GG} (a0 : Nat) (x1 : Int) (oa0 : OB L0 a0 7) (a90 : Nat) (x91 : Int) (x92 : Int) (x93 : Int) (M : MM) {res : MM} (oa90 : OB L0 a90 3) (h : sX7_keep_b63 a0 x1 a90 x91 x92 x93 M = some res) : VV G xX7_keep (ZM G xX7_keep (none) L0 res) L0 M 0 0 63 [] [.int (eI x93), .int (eI x92), .int (eI x91), .ref (gA G a90)] := by
  unfold sX7_keep_b63 at h
  obtain ⟨q_1, hq_1, h⟩ := ob h
  refine r_cV (pc := 63) (Y := xX3_add) (As := [.int (eI x91), .int (eI x92), .int (eI x93)]) (rest := []) (v := none) (st1 := []) ck_X7_keep_170 (kX3_add a90 x91 x92 x93 M oa90 hq_1) oa90 rfl rfl rfl rfl (Nat.le_of_ble_eq_true rfl) ⟨rfl, rfl⟩ rfl dX7_keep_63 ?_
  refine r_goto (pc := 66) (tgt := 275) dX7_keep_66 (by decide) ?_
  cases h
  exact r_vret (pc := 275) rfl (Nat.le_refl 0) (Nat.le_refl 0) dX7_keep_275
set_option maxHeartbeats 4000000 in
set_option maxRecDepth 100000 in
theorem bX7_keep_b48 {G : GG} (a0 : Nat) (x1 : Int) (oa0 : OB L0 a0 7) (x2 : Int) (a90 : Nat) (x91 : Int) (x92 : Int) (M : MM) {res : MM} (oa90 : OB L0 a90 3) (h : sX7_keep_b48 a0 x1 x2 a90 x91 x92 M = some res) : VV G xX7_keep (ZM G xX7_keep (none) L0 res) L0 M 0 0 48 [(0, .ref (gA G a0)), (2, .int (eI x2))] [.int (eI x92), .int (eI x91), .ref (gA G a90)] := by
  unfold sX7_keep_b48 at h
  refine r_iload_n (pc := 48) (i := 2) dX7_keep_48 rfl 1 rfl ?_
  refine r_iconst (pc := 49) (v := 1) dX7_keep_49 (by decide +kernel) ?_
  refine r_icmp_le (pc := 50) (tgt := 62) dX7_keep_50 (by decide) rfl wl_1 (fun c_1 => ?_) (fun c_1 => ?_)
  · replace h := (if_pos c_1).symm.trans h
    refine r_iconst (pc := 62) (v := (-1)) dX7_keep_62 (by decide +kernel) ?_
    refine r_sub (lv' := []) [] rfl ?_
    exact bX7_keep_b63 a0 x1 oa0 _ _ _ _ _ oa90 h
  · replace h := (if_neg c_1).symm.trans h
    refine r_aload_n (pc := 53) (i := 0) dX7_keep_53 rfl 0 rfl ?_
    have o_2 := (wt_7_7 oa0).2
    refine r_getR (pc := 54) fg_7_44 rfl oa0 (wt_7_7 oa0).1 dX7_keep_54 ?_
    refine r_iconst (pc := 57) (v := 1) dX7_keep_57 (by decide +kernel) ?_
    refine r_iald (pc := 58) o_2 wl_1 ⟨by decide, by decide⟩ rfl dX7_keep_58 ?_
    refine r_goto (pc := 59) (tgt := 63) dX7_keep_59 (by decide) ?_
    refine r_sub (lv' := []) [] rfl ?_
    exact bX7_keep_b63 a0 x1 oa0 _ _ _ _ _ oa90 h
set_option maxHeartbeats 4000000 in
set_option maxRecDepth 100000 in
theorem bX7_keep_b0 {G : GG} (a0 : Nat) (x1 : Int) (oa0 : OB L0 a0 7)  (M : MM) {res : MM}  (h : sX7_keep_b0 a0 x1 M = some res) : VV G xX7_keep (ZM G xX7_keep (none) L0 res) L0 M 0 0 0 [(0, .ref (gA G a0)), (1, .int (eI x1))] [] := by
  unfold sX7_keep_b0 at h
  refine r_iload_n (pc := 0) (i := 1) dX7_keep_0 rfl 1 rfl ?_
  refine r_bipush (pc := 1) (v := 12) dX7_keep_1 (by decide +kernel) ?_
  refine r_icmp_ge (pc := 3) (tgt := 14) dX7_keep_3 (by decide) rfl wl_12 (fun c_1 => ?_) (fun c_1 => ?_)
  · replace h := (if_pos c_1).symm.trans h
    refine r_iload_n (pc := 14) (i := 1) dX7_keep_14 rfl 1 rfl ?_
    refine r_bipush (pc := 15) (v := 17) dX7_keep_15 (by decide +kernel) ?_
    refine r_icmp_gt (pc := 17) (tgt := 69) dX7_keep_17 (by decide) rfl wl_17 (fun c_2 => ?_) (fun c_2 => ?_)
    · replace h := (if_pos c_2).symm.trans h
      refine r_iload_n (pc := 69) (i := 1) dX7_keep_69 rfl 1 rfl ?_
      refine r_bipush (pc := 70) (v := 18) dX7_keep_70 (by decide +kernel) ?_
      refine r_icmp_ne (pc := 72) (tgt := 101) dX7_keep_72 (by decide) rfl wl_18 (fun c_3 => ?_) (fun c_3 => ?_)
      · replace h := (if_neg c_3).symm.trans h
        refine r_iload_n (pc := 101) (i := 1) dX7_keep_101 rfl 1 rfl ?_
        refine r_bipush (pc := 102) (v := 21) dX7_keep_102 (by decide +kernel) ?_
        refine r_icmp_gt (pc := 104) (tgt := 131) dX7_keep_104 (by decide) rfl wl_21 (fun c_4 => ?_) (fun c_4 => ?_)
        · replace h := (if_pos c_4).symm.trans h
          refine r_iload_n (pc := 131) (i := 1) dX7_keep_131 rfl 1 rfl ?_
          refine r_bipush (pc := 132) (v := 22) dX7_keep_132 (by decide +kernel) ?_
          refine r_icmp_ne (pc := 134) (tgt := 180) dX7_keep_134 (by decide) rfl wl_22 (fun c_5 => ?_) (fun c_5 => ?_)
          · replace h := (if_neg c_5).symm.trans h
            refine r_iload_n (pc := 180) (i := 1) dX7_keep_180 rfl 1 rfl ?_
            refine r_bipush (pc := 181) (v := 23) dX7_keep_181 (by decide +kernel) ?_
            refine r_icmp_ne (pc := 183) (tgt := 209) dX7_keep_183 (by decide) rfl wl_23 (fun c_6 => ?_) (fun c_6 => ?_)
            · replace h := (if_neg c_6).symm.trans h
              refine r_iload_n (pc := 209) (i := 1) dX7_keep_209 rfl 1 rfl ?_
              refine r_bipush (pc := 210) (v := 24) dX7_keep_210 (by decide +kernel) ?_
              refine r_icmp_eq (pc := 212) (tgt := 221) dX7_keep_212 (by decide) rfl wl_24 (fun c_7 => ?_) (fun c_7 => ?_)
              · replace h := (if_pos c_7).symm.trans h
                refine r_sub (lv' := [(0, .ref (gA G a0)), (1, .int (eI x1))]) [0, 1] rfl ?_
                exact bX7_keep_b221 a0 x1 oa0 _ h
              · replace h := (if_neg c_7).symm.trans h
                refine r_iload_n (pc := 215) (i := 1) dX7_keep_215 rfl 1 rfl ?_
                refine r_bipush (pc := 216) (v := 25) dX7_keep_216 (by decide +kernel) ?_
                refine r_icmp_ne (pc := 218) (tgt := 252) dX7_keep_218 (by decide) rfl wl_25 (fun c_8 => ?_) (fun c_8 => ?_)
                · replace h := (if_neg c_8).symm.trans h
                  refine r_aload_n (pc := 252) (i := 0) dX7_keep_252 rfl 0 rfl ?_
                  have o_9 := (wt_7_4 oa0).2
                  refine r_getR (pc := 253) fg_7_40 rfl oa0 (wt_7_4 oa0).1 dX7_keep_253 ?_
                  have o_10 := (wt_8_1 o_9).2
                  refine r_getR (pc := 256) fg_7_164 rfl o_9 (wt_8_1 o_9).1 dX7_keep_256 ?_
                  refine r_iconst (pc := 259) (v := 0) dX7_keep_259 (by decide +kernel) ?_
                  refine r_iconst (pc := 260) (v := (-1)) dX7_keep_260 (by decide +kernel) ?_
                  refine r_iload_n (pc := 261) (i := 1) dX7_keep_261 rfl 1 rfl ?_
                  refine r_bipush (pc := 262) (v := 26) dX7_keep_262 (by decide +kernel) ?_
                  refine r_icmp_ne (pc := 264) (tgt := 271) dX7_keep_264 (by decide) rfl wl_26 (fun c_11 => ?_) (fun c_11 => ?_)
                  · replace h := (if_neg c_11).symm.trans h
                    refine r_iconst (pc := 271) (v := 0) dX7_keep_271 (by decide +kernel) ?_
                    refine r_sub (lv' := []) [] rfl ?_
                    exact bX7_keep_b272 a0 x1 oa0 _ _ _ _ _ o_10 h
                  · replace h := (if_pos c_11).symm.trans h
                    refine r_iconst (pc := 267) (v := 1) dX7_keep_267 (by decide +kernel) ?_
                    refine r_goto (pc := 268) (tgt := 272) dX7_keep_268 (by decide) ?_
                    refine r_sub (lv' := []) [] rfl ?_
                    exact bX7_keep_b272 a0 x1 oa0 _ _ _ _ _ o_10 h
                · replace h := (if_pos c_8).symm.trans h
                  refine r_sub (lv' := [(0, .ref (gA G a0)), (1, .int (eI x1))]) [0, 1] rfl ?_
                  exact bX7_keep_b221 a0 x1 oa0 _ h
            · replace h := (if_pos c_6).symm.trans h
              refine r_aload_n (pc := 186) (i := 0) dX7_keep_186 rfl 0 rfl ?_
              have o_12 := (wt_7_3 oa0).2
              refine r_getR (pc := 187) fg_7_34 rfl oa0 (wt_7_3 oa0).1 dX7_keep_187 ?_
              refine r_iconst (pc := 190) (v := 0) dX7_keep_190 (by decide +kernel) ?_
              refine r_aload_n (pc := 191) (i := 0) dX7_keep_191 rfl 0 rfl ?_
              have o_13 := (wt_7_7 oa0).2
              refine r_getR (pc := 192) fg_7_44 rfl oa0 (wt_7_7 oa0).1 dX7_keep_192 ?_
              refine r_iconst (pc := 195) (v := 0) dX7_keep_195 (by decide +kernel) ?_
              refine r_iald (pc := 196) o_13 wl_0 ⟨by decide, by decide⟩ rfl dX7_keep_196 ?_
              refine r_aload_n (pc := 197) (i := 0) dX7_keep_197 rfl 0 rfl ?_
              have o_14 := (wt_7_7 oa0).2
              refine r_getR (pc := 198) fg_7_44 rfl oa0 (wt_7_7 oa0).1 dX7_keep_198 ?_
              refine r_iconst (pc := 201) (v := 1) dX7_keep_201 (by decide +kernel) ?_
              refine r_iald (pc := 202) o_14 wl_1 ⟨by decide, by decide⟩ rfl dX7_keep_202 ?_
              obtain ⟨q_15, hq_15, h⟩ := ob h
              refine r_cV (pc := 203) (Y := xX3_add) (As := [.int (eI 0), .int (eI (M (gR a0 7) 0)), .int (eI (M (gR a0 7) 1))]) (rest := []) (v := none) (st1 := []) ck_X7_keep_170 (kX3_add (gR a0 3) 0 (M (gR a0 7) 0) (M (gR a0 7) 1) M o_12 hq_15) o_12 rfl rfl rfl rfl (Nat.le_of_ble_eq_true rfl) ⟨rfl, rfl⟩ rfl dX7_keep_203 ?_
              refine r_goto (pc := 206) (tgt := 275) dX7_keep_206 (by decide) ?_
              cases h
              exact r_vret (pc := 275) rfl (Nat.le_refl 0) (Nat.le_refl 0) dX7_keep_275
          · replace h := (if_pos c_5).symm.trans h
            refine r_aload_n (pc := 137) (i := 0) dX7_keep_137 rfl 0 rfl ?_
            have o_16 := (wt_7_7 oa0).2
            refine r_getR (pc := 138) fg_7_44 rfl oa0 (wt_7_7 oa0).1 dX7_keep_138 ?_
            refine r_iconst (pc := 141) (v := 0) dX7_keep_141 (by decide +kernel) ?_
            refine r_iald (pc := 142) o_16 wl_0 ⟨by decide, by decide⟩ rfl dX7_keep_142 ?_
            refine r_if_lt (pc := 143) (tgt := 275) dX7_keep_143 (by decide) rfl (fun c_17 => ?_) (fun c_17 => ?_)
            · replace h := (if_pos c_17).symm.trans h
              cases h
              exact r_vret (pc := 275) rfl (Nat.le_refl 0) (Nat.le_refl 0) dX7_keep_275
            · replace h := (if_neg c_17).symm.trans h
              refine r_aload_n (pc := 146) (i := 0) dX7_keep_146 rfl 0 rfl ?_
              have o_18 := (wt_7_7 oa0).2
              refine r_getR (pc := 147) fg_7_44 rfl oa0 (wt_7_7 oa0).1 dX7_keep_147 ?_
              refine r_iconst (pc := 150) (v := 0) dX7_keep_150 (by decide +kernel) ?_
              refine r_iald (pc := 151) o_18 wl_0 ⟨by decide, by decide⟩ rfl dX7_keep_151 ?_
              refine r_bipush (pc := 152) (v := 8) dX7_keep_152 (by decide +kernel) ?_
              refine r_icmp_ge (pc := 154) (tgt := 275) dX7_keep_154 (by decide) rfl wl_8 (fun c_19 => ?_) (fun c_19 => ?_)
              · replace h := (if_pos c_19).symm.trans h
                cases h
                exact r_vret (pc := 275) rfl (Nat.le_refl 0) (Nat.le_refl 0) dX7_keep_275
              · replace h := (if_neg c_19).symm.trans h
                refine r_aload_n (pc := 157) (i := 0) dX7_keep_157 rfl 0 rfl ?_
                have o_20 := (wt_7_2 oa0).2
                refine r_getR (pc := 158) fg_7_30 rfl oa0 (wt_7_2 oa0).1 dX7_keep_158 ?_
                have o_21 := (wt_1_1 o_20).2
                refine r_getR (pc := 161) fg_7_174 rfl o_20 (wt_1_1 o_20).1 dX7_keep_161 ?_
                refine r_aload_n (pc := 164) (i := 0) dX7_keep_164 rfl 0 rfl ?_
                have o_22 := (wt_7_7 oa0).2
                refine r_getR (pc := 165) fg_7_44 rfl oa0 (wt_7_7 oa0).1 dX7_keep_165 ?_
                refine r_iconst (pc := 168) (v := 0) dX7_keep_168 (by decide +kernel) ?_
                refine r_iald (pc := 169) o_22 wl_0 ⟨by decide, by decide⟩ rfl dX7_keep_169 ?_
                refine r_aload_n (pc := 170) (i := 0) dX7_keep_170 rfl 0 rfl ?_
                have o_23 := (wt_7_7 oa0).2
                refine r_getR (pc := 171) fg_7_44 rfl oa0 (wt_7_7 oa0).1 dX7_keep_171 ?_
                refine r_iconst (pc := 174) (v := 1) dX7_keep_174 (by decide +kernel) ?_
                refine r_iald (pc := 175) o_23 wl_1 ⟨by decide, by decide⟩ rfl dX7_keep_175 ?_
                obtain ⟨c_24, h⟩ := og h
                obtain ⟨M_25, hM_25, h⟩ := ob h
                refine r_iast (pc := 176) o_21 rfl c_24 rfl hM_25 dX7_keep_176 ?_
                refine r_goto (pc := 177) (tgt := 275) dX7_keep_177 (by decide) ?_
                cases h
                exact r_vret (pc := 275) rfl (Nat.le_refl 0) (Nat.le_refl 0) dX7_keep_275
        · replace h := (if_neg c_4).symm.trans h
          refine r_aload_n (pc := 107) (i := 0) dX7_keep_107 rfl 0 rfl ?_
          have o_26 := (wt_7_2 oa0).2
          refine r_getR (pc := 108) fg_7_30 rfl oa0 (wt_7_2 oa0).1 dX7_keep_108 ?_
          have o_27 := (wt_1_0 o_26).2
          refine r_getR (pc := 111) fg_7_158 rfl o_26 (wt_1_0 o_26).1 dX7_keep_111 ?_
          refine r_iload_n (pc := 114) (i := 1) dX7_keep_114 rfl 1 rfl ?_
          refine r_bipush (pc := 115) (v := 18) dX7_keep_115 (by decide +kernel) ?_
          refine r_isub (pc := 117) dX7_keep_117 ?_
          refine r_iconst (pc := 118) (v := (-1)) dX7_keep_118 (by decide +kernel) ?_
          refine r_aload_n (pc := 119) (i := 0) dX7_keep_119 rfl 0 rfl ?_
          have o_28 := (wt_7_7 oa0).2
          refine r_getR (pc := 120) fg_7_44 rfl oa0 (wt_7_7 oa0).1 dX7_keep_120 ?_
          refine r_iconst (pc := 123) (v := 0) dX7_keep_123 (by decide +kernel) ?_
          refine r_iald (pc := 124) o_28 wl_0 ⟨by decide, by decide⟩ rfl dX7_keep_124 ?_
          obtain ⟨q_29, hq_29, h⟩ := ob h
          refine r_cV (pc := 125) (Y := xX3_add) (As := [.int (eI (x1 - 18)), .int (eI (-1)), .int (eI (M (gR a0 7) 0))]) (rest := []) (v := none) (st1 := []) ck_X7_keep_170 (kX3_add (gR (gR a0 2) 0) (x1 - 18) (-1) (M (gR a0 7) 0) M o_27 hq_29) o_27 rfl rfl rfl rfl (Nat.le_of_ble_eq_true rfl) ⟨rfl, rfl⟩ rfl dX7_keep_125 ?_
          refine r_goto (pc := 128) (tgt := 275) dX7_keep_128 (by decide) ?_
          cases h
          exact r_vret (pc := 275) rfl (Nat.le_refl 0) (Nat.le_refl 0) dX7_keep_275
      · replace h := (if_pos c_3).symm.trans h
        refine r_aload_n (pc := 75) (i := 0) dX7_keep_75 rfl 0 rfl ?_
        have o_30 := (wt_7_2 oa0).2
        refine r_getR (pc := 76) fg_7_30 rfl oa0 (wt_7_2 oa0).1 dX7_keep_76 ?_
        have o_31 := (wt_1_0 o_30).2
        refine r_getR (pc := 79) fg_7_158 rfl o_30 (wt_1_0 o_30).1 dX7_keep_79 ?_
        refine r_iconst (pc := 82) (v := 0) dX7_keep_82 (by decide +kernel) ?_
        refine r_aload_n (pc := 83) (i := 0) dX7_keep_83 rfl 0 rfl ?_
        have o_32 := (wt_7_7 oa0).2
        refine r_getR (pc := 84) fg_7_44 rfl oa0 (wt_7_7 oa0).1 dX7_keep_84 ?_
        refine r_iconst (pc := 87) (v := 0) dX7_keep_87 (by decide +kernel) ?_
        refine r_iald (pc := 88) o_32 wl_0 ⟨by decide, by decide⟩ rfl dX7_keep_88 ?_
        refine r_aload_n (pc := 89) (i := 0) dX7_keep_89 rfl 0 rfl ?_
        have o_33 := (wt_7_7 oa0).2
        refine r_getR (pc := 90) fg_7_44 rfl oa0 (wt_7_7 oa0).1 dX7_keep_90 ?_
        refine r_iconst (pc := 93) (v := 1) dX7_keep_93 (by decide +kernel) ?_
        refine r_iald (pc := 94) o_33 wl_1 ⟨by decide, by decide⟩ rfl dX7_keep_94 ?_
        obtain ⟨q_34, hq_34, h⟩ := ob h
        refine r_cV (pc := 95) (Y := xX3_add) (As := [.int (eI 0), .int (eI (M (gR a0 7) 0)), .int (eI (M (gR a0 7) 1))]) (rest := []) (v := none) (st1 := []) ck_X7_keep_170 (kX3_add (gR (gR a0 2) 0) 0 (M (gR a0 7) 0) (M (gR a0 7) 1) M o_31 hq_34) o_31 rfl rfl rfl rfl (Nat.le_of_ble_eq_true rfl) ⟨rfl, rfl⟩ rfl dX7_keep_95 ?_
        refine r_goto (pc := 98) (tgt := 275) dX7_keep_98 (by decide) ?_
        cases h
        exact r_vret (pc := 275) rfl (Nat.le_refl 0) (Nat.le_refl 0) dX7_keep_275
    · replace h := (if_neg c_2).symm.trans h
      refine r_gets (pc := 20) (j := 1) sg_7_110 dX7_keep_20 ?_
      refine r_iload_n (pc := 23) (i := 1) dX7_keep_23 rfl 1 rfl ?_
      obtain ⟨c_35, h⟩ := og h
      refine r_tald (pc := 24) (n := 28) (by decide) (by decide +kernel) rfl c_35 rfl dX7_keep_24 ?_
      refine r_istore_n (pc := 25) (i := 2) (lv' := [(2, .int (eI ((sT 1).getD (wI x1).toNat 0))), (0, .ref (gA G a0)), (1, .int (eI x1))]) dX7_keep_25 rfl (Nat.le_of_ble_eq_true rfl) rfl ?_
      refine r_aload_n (pc := 26) (i := 0) dX7_keep_26 rfl 1 rfl ?_
      have o_36 := (wt_7_1 oa0).2
      refine r_getR (pc := 27) fg_7_23 rfl oa0 (wt_7_1 oa0).1 dX7_keep_27 ?_
      refine r_iload_n (pc := 30) (i := 1) dX7_keep_30 rfl 2 rfl ?_
      refine r_bipush (pc := 31) (v := 12) dX7_keep_31 (by decide +kernel) ?_
      refine r_isub (pc := 33) dX7_keep_33 ?_
      refine r_iload_n (pc := 34) (i := 2) dX7_keep_34 rfl 0 rfl ?_
      refine r_if_le (pc := 35) (tgt := 47) dX7_keep_35 (by decide) rfl (fun c_37 => ?_) (fun c_37 => ?_)
      · replace h := (if_pos c_37).symm.trans h
        refine r_iconst (pc := 47) (v := (-1)) dX7_keep_47 (by decide +kernel) ?_
        refine r_sub (lv' := [(0, .ref (gA G a0)), (2, .int (eI ((sT 1).getD (wI x1).toNat 0)))]) [1, 0] rfl ?_
        exact bX7_keep_b48 a0 x1 oa0 _ _ _ _ _ o_36 h
      · replace h := (if_neg c_37).symm.trans h
        refine r_aload_n (pc := 38) (i := 0) dX7_keep_38 rfl 1 rfl ?_
        have o_38 := (wt_7_7 oa0).2
        refine r_getR (pc := 39) fg_7_44 rfl oa0 (wt_7_7 oa0).1 dX7_keep_39 ?_
        refine r_iconst (pc := 42) (v := 0) dX7_keep_42 (by decide +kernel) ?_
        refine r_iald (pc := 43) o_38 wl_0 ⟨by decide, by decide⟩ rfl dX7_keep_43 ?_
        refine r_goto (pc := 44) (tgt := 48) dX7_keep_44 (by decide) ?_
        refine r_sub (lv' := [(0, .ref (gA G a0)), (2, .int (eI ((sT 1).getD (wI x1).toNat 0)))]) [1, 0] rfl ?_
        exact bX7_keep_b48 a0 x1 oa0 _ _ _ _ _ o_36 h
  · replace h := (if_neg c_1).symm.trans h
    refine r_aload_n (pc := 6) (i := 0) dX7_keep_6 rfl 0 rfl ?_
    refine r_iload_n (pc := 7) (i := 1) dX7_keep_7 rfl 1 rfl ?_
    obtain ⟨q_39, hq_39, h⟩ := ob h
    refine r_cV (pc := 8) (Y := xX7_keepOfParty) (As := [.int (eI x1)]) (rest := []) (v := none) (st1 := []) ck_X7_keep_167 (kX7_keepOfParty a0 x1 M oa0 hq_39) oa0 rfl rfl rfl rfl (Nat.le_of_ble_eq_true rfl) ⟨rfl, rfl⟩ rfl dX7_keep_8 ?_
    refine r_goto (pc := 11) (tgt := 275) dX7_keep_11 (by decide) ?_
    cases h
    exact r_vret (pc := 275) rfl (Nat.le_refl 0) (Nat.le_refl 0) dX7_keep_275
theorem kX7_keep {G : GG} (a0 : Nat) (x1 : Int) (M : MM) {res : MM} (oa0 : OB L0 a0 7) (h : sX7_keep a0 x1 M = some res) : CO G xX7_keep [.ref (gA G a0), .int (eI x1)] L0 M (none) L0 res := CO_of (by decide +kernel) (Nat.le_of_ble_eq_true rfl) (bX7_keep_b0 a0 x1 oa0 M h)
abbrev xX7_readsLine : XX := (yX7_readsLine, cX7_readsLine, 5, (some .boolean), 6, 131, 0, 0)
theorem ck_X7_readsLine_61 : CKV xX7_readsLine 61 xX7_take 1 := ⟨⟨tb_i 651 (by decide +kernel) (by decide +kernel), tb_i 146 (by decide +kernel) (by decide +kernel), tb_i 654 (by decide +kernel) (by decide +kernel), ⟨by decide +kernel, by decide +kernel, by decide +kernel⟩, by decide, by decide⟩, tb_i 653 (by decide +kernel) (by decide +kernel), tb_i 2 (by decide +kernel) (by decide +kernel)⟩
theorem ck_X7_readsLine_90 : CKV xX7_readsLine 90 xX7_blame 2 := ⟨⟨tb_i 772 (by decide +kernel) (by decide +kernel), tb_i 146 (by decide +kernel) (by decide +kernel), tb_i 775 (by decide +kernel) (by decide +kernel), ⟨by decide +kernel, by decide +kernel, by decide +kernel⟩, by decide, by decide⟩, tb_i 774 (by decide +kernel) (by decide +kernel), tb_i 8 (by decide +kernel) (by decide +kernel)⟩
theorem ck_X7_readsLine_102 : CKV xX7_readsLine 102 xX7_kindOf 2 := ⟨⟨tb_i 675 (by decide +kernel) (by decide +kernel), tb_i 146 (by decide +kernel) (by decide +kernel), tb_i 678 (by decide +kernel) (by decide +kernel), ⟨by decide +kernel, by decide +kernel, by decide +kernel⟩, by decide, by decide⟩, tb_i 677 (by decide +kernel) (by decide +kernel), tb_i 5 (by decide +kernel) (by decide +kernel)⟩
theorem ck_X7_readsLine_106 : CKV xX7_readsLine 106 xX7_isFull 1 := ⟨⟨tb_i 764 (by decide +kernel) (by decide +kernel), tb_i 146 (by decide +kernel) (by decide +kernel), tb_i 767 (by decide +kernel) (by decide +kernel), ⟨by decide +kernel, by decide +kernel, by decide +kernel⟩, by decide, by decide⟩, tb_i 766 (by decide +kernel) (by decide +kernel), tb_i 7 (by decide +kernel) (by decide +kernel)⟩
theorem ck_X7_readsLine_116 : CKV xX7_readsLine 116 xX7_canBe 2 := ⟨⟨tb_i 778 (by decide +kernel) (by decide +kernel), tb_i 146 (by decide +kernel) (by decide +kernel), tb_i 781 (by decide +kernel) (by decide +kernel), ⟨by decide +kernel, by decide +kernel, by decide +kernel⟩, by decide, by decide⟩, tb_i 780 (by decide +kernel) (by decide +kernel), tb_i 9 (by decide +kernel) (by decide +kernel)⟩
theorem ck_X7_readsLine_120 : CKV xX7_readsLine 120 xX7_keep 1 := ⟨⟨tb_i 786 (by decide +kernel) (by decide +kernel), tb_i 146 (by decide +kernel) (by decide +kernel), tb_i 789 (by decide +kernel) (by decide +kernel), ⟨by decide +kernel, by decide +kernel, by decide +kernel⟩, by decide, by decide⟩, tb_i 788 (by decide +kernel) (by decide +kernel), tb_i 10 (by decide +kernel) (by decide +kernel)⟩
def sX7_readsLine_b123 (a0 : Nat) (a1 : Nat) (x2 : Int)  (x3 : Int) (M : MM) : Option (Int × MM) := (if wI (M a0 8) = 3 then ((sX7_take a0 a1 M).bind fun q_2 => (if wI (q_2 a0 5) = 0 then ((sX7_keep a0 x3 q_2).bind fun q_4 => (some ((1, q_4)))) else (some ((1, q_2))))) else (some ((0, M))))
def sX7_readsLine_b112 (a0 : Nat) (a1 : Nat) (x2 : Int) (K56 : Int → Int → MM → Option (Int × MM)) (x3 : Int) (x4 : Int) (M : MM) : Option (Int × MM) := ((sX7_take a0 a1 M).bind fun q_1 => ((some (x4 + 1)).bind fun v_2 => (K56 x3 v_2 q_1)))
def sX7_readsLine_b56 (a0 : Nat) (a1 : Nat) (x2 : Int)  : Nat → Int → Int → MM → Option (Int × MM)
  | 0, _, _, _ => none
  | n + 1, x3, x4, M => (if 0 ≤ wI x3 ∧ wI x3 < 28 then (if wI ((sT 1).getD (wI x3).toNat 0) ≤ wI x4 then (sX7_readsLine_b123 a0 a1 x2 x3 M) else (if 4 ≤ wI x4 then (sX7_readsLine_b123 a0 a1 x2 x3 M) else (if wI (M a0 8) = 2 then (if 0 ≤ wI x4 ∧ wI x4 < 4 then ((some (mU M (gR a0 7) (wI x4).toNat (M a0 11))).bind fun M_7 => ((sX7_canBe a0 x3 x4 M_7).bind fun q_8 => (if wI q_8 = 0 then ((sX7_blame a0 2 (M_7 a0 9) M_7).bind fun q_10 => (sX7_readsLine_b112 a0 a1 x2 (fun x3 x4 M => sX7_readsLine_b56 a0 a1 x2 n x3 x4 M) x3 x4 q_10)) else (sX7_readsLine_b112 a0 a1 x2 (fun x3 x4 M => sX7_readsLine_b56 a0 a1 x2 n x3 x4 M) x3 x4 M_7)))) else none) else (some ((0, M)))))) else none)
def sX7_readsLine_b48 (a0 : Nat) (a1 : Nat) (x2 : Int)  (x3 : Int) (M : MM) : Option (Int × MM) := ((sX7_take a0 a1 M).bind fun q_1 => (sX7_readsLine_b56 a0 a1 x2 FU x3 0 q_1))
def sX7_readsLine_b18 (a0 : Nat) (a1 : Nat) (x2 : Int)  (x90 : Int) (M : MM) : Option (Int × MM) := (if wI x90 < 0 then (some ((0, M))) else (if wI x90 < 28 then ((sX7_isFull a0 x90 M).bind fun q_3 => (if wI q_3 = 0 then (sX7_readsLine_b48 a0 a1 x2 x90 M) else ((sX7_blame a0 3 (M a0 9) M).bind fun q_5 => (sX7_readsLine_b48 a0 a1 x2 x90 q_5)))) else (some ((0, M)))))
def sX7_readsLine_b0 (a0 : Nat) (a1 : Nat) (x2 : Int)   (M : MM) : Option (Int × MM) := (if wI (M a0 8) = 1 then ((sX7_kindOf a0 a1 x2 M).bind fun q_2 => (sX7_readsLine_b18 a0 a1 x2 q_2 M)) else (sX7_readsLine_b18 a0 a1 x2 (-1) M))
def sX7_readsLine (a0 : Nat) (a1 : Nat) (x2 : Int) (M : MM) : Option (Int × MM) := sX7_readsLine_b0 a0 a1 x2 M
set_option maxHeartbeats 4000000 in
set_option maxRecDepth 100000 in
theorem bX7_readsLine_b123 {G : GG} (a0 : Nat) (a1 : Nat) (x2 : Int) (oa0 : OB L0 a0 7) (oa1 : OB L0 a1 9) (x3 : Int) (M : MM) {res : (Int × MM)}  (h : sX7_readsLine_b123 a0 a1 x2 x3 M = some res) : VV G xX7_readsLine (ZM G xX7_readsLine (some (.int (eI res.1))) L0 res.2) L0 M 0 0 123 [(0, .ref (gA G a0)), (1, .ref (gA G a1)), (3, .int (eI x3))] [] := by
  unfold sX7_readsLine_b123 at h
  refine r_aload_n (pc := 123) (i := 0) dX7_readsLine_123 rfl 0 rfl ?_
  refine r_getI (pc := 124) fg_7_65 rfl oa0 dX7_readsLine_124 ?_
  refine r_iconst (pc := 127) (v := 3) dX7_readsLine_127 (by decide +kernel) ?_
  refine r_icmp_eq (pc := 128) (tgt := 133) dX7_readsLine_128 (by decide) rfl wl_3 (fun c_1 => ?_) (fun c_1 => ?_)
  · replace h := (if_pos c_1).symm.trans h
    refine r_aload_n (pc := 133) (i := 0) dX7_readsLine_133 rfl 0 rfl ?_
    refine r_aload_n (pc := 134) (i := 1) dX7_readsLine_134 rfl 1 rfl ?_
    obtain ⟨q_2, hq_2, h⟩ := ob h
    refine r_cV (pc := 135) (Y := xX7_take) (As := [.ref (gA G a1)]) (rest := []) (v := none) (st1 := []) ck_X7_readsLine_61 (kX7_take a0 a1 M oa0 oa1 hq_2) oa0 rfl rfl rfl rfl (Nat.le_of_ble_eq_true rfl) ⟨rfl, rfl⟩ rfl dX7_readsLine_135 ?_
    refine r_aload_n (pc := 138) (i := 0) dX7_readsLine_138 rfl 0 rfl ?_
    refine r_getI (pc := 139) fg_7_48 rfl oa0 dX7_readsLine_139 ?_
    refine r_if_ne (pc := 142) (tgt := 150) dX7_readsLine_142 (by decide) rfl (fun c_3 => ?_) (fun c_3 => ?_)
    · replace h := (if_neg c_3).symm.trans h
      refine r_iconst (pc := 150) (v := 1) dX7_readsLine_150 (by decide +kernel) ?_
      cases h
      exact r_iret (pc := 151) rfl (zn_ok (Or.inr rfl)).1 (Nat.le_refl 0) (Nat.le_refl 0) dX7_readsLine_151
    · replace h := (if_pos c_3).symm.trans h
      refine r_aload_n (pc := 145) (i := 0) dX7_readsLine_145 rfl 0 rfl ?_
      refine r_iload_n (pc := 146) (i := 3) dX7_readsLine_146 rfl 2 rfl ?_
      obtain ⟨q_4, hq_4, h⟩ := ob h
      refine r_cV (pc := 147) (Y := xX7_keep) (As := [.int (eI x3)]) (rest := []) (v := none) (st1 := []) ck_X7_readsLine_120 (kX7_keep a0 x3 q_2 oa0 hq_4) oa0 rfl rfl rfl rfl (Nat.le_of_ble_eq_true rfl) ⟨rfl, rfl⟩ rfl dX7_readsLine_147 ?_
      refine r_iconst (pc := 150) (v := 1) dX7_readsLine_150 (by decide +kernel) ?_
      cases h
      exact r_iret (pc := 151) rfl (zn_ok (Or.inr rfl)).1 (Nat.le_refl 0) (Nat.le_refl 0) dX7_readsLine_151
  · replace h := (if_neg c_1).symm.trans h
    refine r_iconst (pc := 131) (v := 0) dX7_readsLine_131 (by decide +kernel) ?_
    cases h
    exact r_iret (pc := 132) rfl (zn_ok (Or.inl rfl)).1 (Nat.le_refl 0) (Nat.le_refl 0) dX7_readsLine_132
set_option maxHeartbeats 4000000 in
set_option maxRecDepth 100000 in
theorem bX7_readsLine_b112 {G : GG} (a0 : Nat) (a1 : Nat) (x2 : Int) (oa0 : OB L0 a0 7) (oa1 : OB L0 a1 9) {K56 : Int → Int → MM → Option (Int × MM)} (x3 : Int) (x4 : Int) (M : MM) {res : (Int × MM)} (hK56 : ∀ (x3 : Int) (x4 : Int) (M : MM), K56 x3 x4 M = some res → VV G xX7_readsLine (ZM G xX7_readsLine (some (.int (eI res.1))) L0 res.2) L0 M 0 0 56 [(0, .ref (gA G a0)), (1, .ref (gA G a1)), (3, .int (eI x3)), (4, .int (eI x4))] [])  (h : sX7_readsLine_b112 a0 a1 x2 K56 x3 x4 M = some res) : VV G xX7_readsLine (ZM G xX7_readsLine (some (.int (eI res.1))) L0 res.2) L0 M 0 0 112 [(0, .ref (gA G a0)), (1, .ref (gA G a1)), (3, .int (eI x3)), (4, .int (eI x4))] [] := by
  unfold sX7_readsLine_b112 at h
  refine r_aload_n (pc := 112) (i := 0) dX7_readsLine_112 rfl 0 rfl ?_
  refine r_aload_n (pc := 113) (i := 1) dX7_readsLine_113 rfl 1 rfl ?_
  obtain ⟨q_1, hq_1, h⟩ := ob h
  refine r_cV (pc := 114) (Y := xX7_take) (As := [.ref (gA G a1)]) (rest := []) (v := none) (st1 := []) ck_X7_readsLine_61 (kX7_take a0 a1 M oa0 oa1 hq_1) oa0 rfl rfl rfl rfl (Nat.le_of_ble_eq_true rfl) ⟨rfl, rfl⟩ rfl dX7_readsLine_114 ?_
  obtain ⟨v_2, hv_2, h⟩ := ob h
  refine r_iinc (pc := 117) (y := v_2) (lv' := [(4, .int (eI v_2)), (0, .ref (gA G a0)), (1, .ref (gA G a1)), (3, .int (eI x3))]) dX7_readsLine_117 3 rfl (Option.some.inj hv_2) (Nat.le_of_ble_eq_true rfl) rfl ?_
  refine r_goto (pc := 120) (tgt := 56) dX7_readsLine_120 (by decide) ?_
  refine r_sub (lv' := [(0, .ref (gA G a0)), (1, .ref (gA G a1)), (3, .int (eI x3)), (4, .int (eI v_2))]) [1, 2, 3, 0] rfl ?_
  exact hK56 _ _ _ h
set_option maxHeartbeats 4000000 in
set_option maxRecDepth 100000 in
theorem bX7_readsLine_b56 {G : GG} (a0 : Nat) (a1 : Nat) (x2 : Int) (oa0 : OB L0 a0 7) (oa1 : OB L0 a1 9) {res : (Int × MM)} : ∀ (n : Nat) (x3 : Int) (x4 : Int) (M : MM)  (h : sX7_readsLine_b56 a0 a1 x2 n x3 x4 M = some res), VV G xX7_readsLine (ZM G xX7_readsLine (some (.int (eI res.1))) L0 res.2) L0 M 0 0 56 [(0, .ref (gA G a0)), (1, .ref (gA G a1)), (3, .int (eI x3)), (4, .int (eI x4))] [] := by
  intro n
  induction n with
  | zero =>
    intro x3 x4 M h
    rw [sX7_readsLine_b56] at h
    cases h
  | succ n ih =>
    intro x3 x4 M h
    rw [sX7_readsLine_b56] at h
    refine r_iload (pc := 56) dX7_readsLine_56 3 rfl ?_
    refine r_gets (pc := 58) (j := 1) sg_7_110 dX7_readsLine_58 ?_
    refine r_iload_n (pc := 61) (i := 3) dX7_readsLine_61 rfl 2 rfl ?_
    obtain ⟨c_1, h⟩ := og h
    refine r_tald (pc := 62) (n := 28) (by decide) (by decide +kernel) rfl c_1 rfl dX7_readsLine_62 ?_
    refine r_icmp_ge (pc := 63) (tgt := 123) dX7_readsLine_63 (by decide) rfl rfl (fun c_2 => ?_) (fun c_2 => ?_)
    · replace h := (if_pos c_2).symm.trans h
      refine r_sub (lv' := [(0, .ref (gA G a0)), (1, .ref (gA G a1)), (3, .int (eI x3))]) [0, 1, 2] rfl ?_
      exact bX7_readsLine_b123 a0 a1 x2 oa0 oa1 _ _ h
    · replace h := (if_neg c_2).symm.trans h
      refine r_iload (pc := 66) dX7_readsLine_66 3 rfl ?_
      refine r_iconst (pc := 68) (v := 4) dX7_readsLine_68 (by decide +kernel) ?_
      refine r_icmp_ge (pc := 69) (tgt := 123) dX7_readsLine_69 (by decide) rfl wl_4 (fun c_3 => ?_) (fun c_3 => ?_)
      · replace h := (if_pos c_3).symm.trans h
        refine r_sub (lv' := [(0, .ref (gA G a0)), (1, .ref (gA G a1)), (3, .int (eI x3))]) [0, 1, 2] rfl ?_
        exact bX7_readsLine_b123 a0 a1 x2 oa0 oa1 _ _ h
      · replace h := (if_neg c_3).symm.trans h
        refine r_aload_n (pc := 72) (i := 0) dX7_readsLine_72 rfl 0 rfl ?_
        refine r_getI (pc := 73) fg_7_65 rfl oa0 dX7_readsLine_73 ?_
        refine r_iconst (pc := 76) (v := 2) dX7_readsLine_76 (by decide +kernel) ?_
        refine r_icmp_eq (pc := 77) (tgt := 82) dX7_readsLine_77 (by decide) rfl wl_2 (fun c_4 => ?_) (fun c_4 => ?_)
        · replace h := (if_pos c_4).symm.trans h
          refine r_aload_n (pc := 82) (i := 0) dX7_readsLine_82 rfl 0 rfl ?_
          have o_5 := (wt_7_7 oa0).2
          refine r_getR (pc := 83) fg_7_44 rfl oa0 (wt_7_7 oa0).1 dX7_readsLine_83 ?_
          refine r_iload (pc := 86) dX7_readsLine_86 3 rfl ?_
          refine r_aload_n (pc := 88) (i := 0) dX7_readsLine_88 rfl 0 rfl ?_
          refine r_getI (pc := 89) fg_7_113 rfl oa0 dX7_readsLine_89 ?_
          obtain ⟨c_6, h⟩ := og h
          obtain ⟨M_7, hM_7, h⟩ := ob h
          refine r_iast (pc := 92) o_5 rfl c_6 rfl hM_7 dX7_readsLine_92 ?_
          refine r_aload_n (pc := 93) (i := 0) dX7_readsLine_93 rfl 0 rfl ?_
          refine r_iload_n (pc := 94) (i := 3) dX7_readsLine_94 rfl 2 rfl ?_
          refine r_iload (pc := 95) dX7_readsLine_95 3 rfl ?_
          obtain ⟨q_8, hq_8, h⟩ := ob h
          refine r_cV (pc := 97) (Y := xX7_canBe) (As := [.int (eI x3), .int (eI x4)]) (rest := []) (v := (some (.int (eI q_8)))) (st1 := [.int (eI q_8)]) ck_X7_readsLine_116 (kX7_canBe a0 x3 x4 M_7 oa0 hq_8) oa0 rfl rfl rfl rfl (Nat.le_of_ble_eq_true rfl) ⟨rfl, rfl⟩ rfl dX7_readsLine_97 ?_
          refine r_if_ne (pc := 100) (tgt := 112) dX7_readsLine_100 (by decide) rfl (fun c_9 => ?_) (fun c_9 => ?_)
          · replace h := (if_neg c_9).symm.trans h
            refine r_sub (lv' := [(0, .ref (gA G a0)), (1, .ref (gA G a1)), (3, .int (eI x3)), (4, .int (eI x4))]) [0, 1, 2, 3] rfl ?_
            exact bX7_readsLine_b112 a0 a1 x2 oa0 oa1 _ _ _ (fun v0 v1 v2 v3 => ih v0 v1 v2 v3) h
          · replace h := (if_pos c_9).symm.trans h
            refine r_aload_n (pc := 103) (i := 0) dX7_readsLine_103 rfl 0 rfl ?_
            refine r_iconst (pc := 104) (v := 2) dX7_readsLine_104 (by decide +kernel) ?_
            refine r_aload_n (pc := 105) (i := 0) dX7_readsLine_105 rfl 0 rfl ?_
            refine r_getI (pc := 106) fg_7_72 rfl oa0 dX7_readsLine_106 ?_
            obtain ⟨q_10, hq_10, h⟩ := ob h
            refine r_cV (pc := 109) (Y := xX7_blame) (As := [.int (eI 2), .int (eI (M_7 a0 9))]) (rest := []) (v := none) (st1 := []) ck_X7_readsLine_90 (kX7_blame a0 2 (M_7 a0 9) M_7 oa0 hq_10) oa0 rfl rfl rfl rfl (Nat.le_of_ble_eq_true rfl) ⟨rfl, rfl⟩ rfl dX7_readsLine_109 ?_
            refine r_sub (lv' := [(0, .ref (gA G a0)), (1, .ref (gA G a1)), (3, .int (eI x3)), (4, .int (eI x4))]) [0, 1, 2, 3] rfl ?_
            exact bX7_readsLine_b112 a0 a1 x2 oa0 oa1 _ _ _ (fun v0 v1 v2 v3 => ih v0 v1 v2 v3) h
        · replace h := (if_neg c_4).symm.trans h
          refine r_iconst (pc := 80) (v := 0) dX7_readsLine_80 (by decide +kernel) ?_
          cases h
          exact r_iret (pc := 81) rfl (zn_ok (Or.inl rfl)).1 (Nat.le_refl 0) (Nat.le_refl 0) dX7_readsLine_81
set_option maxHeartbeats 4000000 in
set_option maxRecDepth 100000 in
theorem bX7_readsLine_b48 {G : GG} (a0 : Nat) (a1 : Nat) (x2 : Int) (oa0 : OB L0 a0 7) (oa1 : OB L0 a1 9) (x3 : Int) (M : MM) {res : (Int × MM)}  (h : sX7_readsLine_b48 a0 a1 x2 x3 M = some res) : VV G xX7_readsLine (ZM G xX7_readsLine (some (.int (eI res.1))) L0 res.2) L0 M 0 0 48 [(0, .ref (gA G a0)), (1, .ref (gA G a1)), (3, .int (eI x3))] [] := by
  unfold sX7_readsLine_b48 at h
  refine r_aload_n (pc := 48) (i := 0) dX7_readsLine_48 rfl 0 rfl ?_
  refine r_aload_n (pc := 49) (i := 1) dX7_readsLine_49 rfl 1 rfl ?_
  obtain ⟨q_1, hq_1, h⟩ := ob h
  refine r_cV (pc := 50) (Y := xX7_take) (As := [.ref (gA G a1)]) (rest := []) (v := none) (st1 := []) ck_X7_readsLine_61 (kX7_take a0 a1 M oa0 oa1 hq_1) oa0 rfl rfl rfl rfl (Nat.le_of_ble_eq_true rfl) ⟨rfl, rfl⟩ rfl dX7_readsLine_50 ?_
  refine r_iconst (pc := 53) (v := 0) dX7_readsLine_53 (by decide +kernel) ?_
  refine r_istore (pc := 54) (lv' := [(4, .int (eI 0)), (0, .ref (gA G a0)), (1, .ref (gA G a1)), (3, .int (eI x3))]) dX7_readsLine_54 (Nat.le_of_ble_eq_true rfl) rfl ?_
  refine r_sub (lv' := [(0, .ref (gA G a0)), (1, .ref (gA G a1)), (3, .int (eI x3)), (4, .int (eI 0))]) [1, 2, 3, 0] rfl ?_
  exact bX7_readsLine_b56 a0 a1 x2 oa0 oa1 _ _ _ _ h
set_option maxHeartbeats 4000000 in
set_option maxRecDepth 100000 in
theorem bX7_readsLine_b18 {G : GG} (a0 : Nat) (a1 : Nat) (x2 : Int) (oa0 : OB L0 a0 7) (oa1 : OB L0 a1 9) (x90 : Int) (M : MM) {res : (Int × MM)}  (h : sX7_readsLine_b18 a0 a1 x2 x90 M = some res) : VV G xX7_readsLine (ZM G xX7_readsLine (some (.int (eI res.1))) L0 res.2) L0 M 0 0 18 [(0, .ref (gA G a0)), (1, .ref (gA G a1))] [.int (eI x90)] := by
  unfold sX7_readsLine_b18 at h
  refine r_istore_n (pc := 18) (i := 3) (lv' := [(3, .int (eI x90)), (0, .ref (gA G a0)), (1, .ref (gA G a1))]) dX7_readsLine_18 rfl (Nat.le_of_ble_eq_true rfl) rfl ?_
  refine r_iload_n (pc := 19) (i := 3) dX7_readsLine_19 rfl 0 rfl ?_
  refine r_if_lt (pc := 20) (tgt := 29) dX7_readsLine_20 (by decide) rfl (fun c_1 => ?_) (fun c_1 => ?_)
  · replace h := (if_pos c_1).symm.trans h
    refine r_iconst (pc := 29) (v := 0) dX7_readsLine_29 (by decide +kernel) ?_
    cases h
    exact r_iret (pc := 30) rfl (zn_ok (Or.inl rfl)).1 (Nat.le_refl 0) (Nat.le_refl 0) dX7_readsLine_30
  · replace h := (if_neg c_1).symm.trans h
    refine r_iload_n (pc := 23) (i := 3) dX7_readsLine_23 rfl 0 rfl ?_
    refine r_bipush (pc := 24) (v := 28) dX7_readsLine_24 (by decide +kernel) ?_
    refine r_icmp_lt (pc := 26) (tgt := 31) dX7_readsLine_26 (by decide) rfl wl_28 (fun c_2 => ?_) (fun c_2 => ?_)
    · replace h := (if_pos c_2).symm.trans h
      refine r_aload_n (pc := 31) (i := 0) dX7_readsLine_31 rfl 1 rfl ?_
      refine r_iload_n (pc := 32) (i := 3) dX7_readsLine_32 rfl 0 rfl ?_
      obtain ⟨q_3, hq_3, h⟩ := ob h
      refine r_cV (pc := 33) (Y := xX7_isFull) (As := [.int (eI x90)]) (rest := []) (v := (some (.int (eI q_3)))) (st1 := [.int (eI q_3)]) ck_X7_readsLine_106 (kX7_isFull a0 x90 M oa0 hq_3) oa0 rfl rfl rfl rfl (Nat.le_of_ble_eq_true rfl) ⟨rfl, rfl⟩ rfl dX7_readsLine_33 ?_
      refine r_if_eq (pc := 36) (tgt := 48) dX7_readsLine_36 (by decide) rfl (fun c_4 => ?_) (fun c_4 => ?_)
      · replace h := (if_pos c_4).symm.trans h
        refine r_sub (lv' := [(0, .ref (gA G a0)), (1, .ref (gA G a1)), (3, .int (eI x90))]) [1, 2, 0] rfl ?_
        exact bX7_readsLine_b48 a0 a1 x2 oa0 oa1 _ _ h
      · replace h := (if_neg c_4).symm.trans h
        refine r_aload_n (pc := 39) (i := 0) dX7_readsLine_39 rfl 1 rfl ?_
        refine r_iconst (pc := 40) (v := 3) dX7_readsLine_40 (by decide +kernel) ?_
        refine r_aload_n (pc := 41) (i := 0) dX7_readsLine_41 rfl 1 rfl ?_
        refine r_getI (pc := 42) fg_7_72 rfl oa0 dX7_readsLine_42 ?_
        obtain ⟨q_5, hq_5, h⟩ := ob h
        refine r_cV (pc := 45) (Y := xX7_blame) (As := [.int (eI 3), .int (eI (M a0 9))]) (rest := []) (v := none) (st1 := []) ck_X7_readsLine_90 (kX7_blame a0 3 (M a0 9) M oa0 hq_5) oa0 rfl rfl rfl rfl (Nat.le_of_ble_eq_true rfl) ⟨rfl, rfl⟩ rfl dX7_readsLine_45 ?_
        refine r_sub (lv' := [(0, .ref (gA G a0)), (1, .ref (gA G a1)), (3, .int (eI x90))]) [1, 2, 0] rfl ?_
        exact bX7_readsLine_b48 a0 a1 x2 oa0 oa1 _ _ h
    · replace h := (if_neg c_2).symm.trans h
      refine r_iconst (pc := 29) (v := 0) dX7_readsLine_29 (by decide +kernel) ?_
      cases h
      exact r_iret (pc := 30) rfl (zn_ok (Or.inl rfl)).1 (Nat.le_refl 0) (Nat.le_refl 0) dX7_readsLine_30
set_option maxHeartbeats 4000000 in
set_option maxRecDepth 100000 in
theorem bX7_readsLine_b0 {G : GG} (a0 : Nat) (a1 : Nat) (x2 : Int) (oa0 : OB L0 a0 7) (oa1 : OB L0 a1 9)  (M : MM) {res : (Int × MM)}  (h : sX7_readsLine_b0 a0 a1 x2 M = some res) : VV G xX7_readsLine (ZM G xX7_readsLine (some (.int (eI res.1))) L0 res.2) L0 M 0 0 0 [(0, .ref (gA G a0)), (1, .ref (gA G a1)), (2, .int (eI x2))] [] := by
  unfold sX7_readsLine_b0 at h
  refine r_aload_n (pc := 0) (i := 0) dX7_readsLine_0 rfl 0 rfl ?_
  refine r_getI (pc := 1) fg_7_65 rfl oa0 dX7_readsLine_1 ?_
  refine r_iconst (pc := 4) (v := 1) dX7_readsLine_4 (by decide +kernel) ?_
  refine r_icmp_ne (pc := 5) (tgt := 17) dX7_readsLine_5 (by decide) rfl wl_1 (fun c_1 => ?_) (fun c_1 => ?_)
  · replace h := (if_neg c_1).symm.trans h
    refine r_iconst (pc := 17) (v := (-1)) dX7_readsLine_17 (by decide +kernel) ?_
    refine r_sub (lv' := [(0, .ref (gA G a0)), (1, .ref (gA G a1))]) [0, 1] rfl ?_
    exact bX7_readsLine_b18 a0 a1 x2 oa0 oa1 _ _ h
  · replace h := (if_pos c_1).symm.trans h
    refine r_aload_n (pc := 8) (i := 0) dX7_readsLine_8 rfl 0 rfl ?_
    refine r_aload_n (pc := 9) (i := 1) dX7_readsLine_9 rfl 1 rfl ?_
    refine r_iload_n (pc := 10) (i := 2) dX7_readsLine_10 rfl 2 rfl ?_
    obtain ⟨q_2, hq_2, h⟩ := ob h
    refine r_cV (pc := 11) (Y := xX7_kindOf) (As := [.ref (gA G a1), .int (eI x2)]) (rest := []) (v := (some (.int (eI q_2)))) (st1 := [.int (eI q_2)]) ck_X7_readsLine_102 (kX7_kindOf a0 a1 x2 M oa0 oa1 hq_2) oa0 rfl rfl rfl rfl (Nat.le_of_ble_eq_true rfl) ⟨rfl, rfl⟩ rfl dX7_readsLine_11 ?_
    refine r_goto (pc := 14) (tgt := 18) dX7_readsLine_14 (by decide) ?_
    refine r_sub (lv' := [(0, .ref (gA G a0)), (1, .ref (gA G a1))]) [0, 1] rfl ?_
    exact bX7_readsLine_b18 a0 a1 x2 oa0 oa1 _ _ h
theorem kX7_readsLine {G : GG} (a0 : Nat) (a1 : Nat) (x2 : Int) (M : MM) {res : (Int × MM)} (oa0 : OB L0 a0 7) (oa1 : OB L0 a1 9) (h : sX7_readsLine a0 a1 x2 M = some res) : CO G xX7_readsLine [.ref (gA G a0), .ref (gA G a1), .int (eI x2)] L0 M (some (.int (eI res.1))) L0 res.2 := CO_of (by decide +kernel) (Nat.le_of_ble_eq_true rfl) (bX7_readsLine_b0 a0 a1 x2 oa0 oa1 M h)
abbrev xX7_reads : XX := (yX7_reads, cX7_reads, 4, (some .boolean), 7, 155, 0, 0)
theorem ck_X7_reads_55 : CKV xX7_reads 55 xX7_clearDrafts 0 := ⟨⟨tb_i 635 (by decide +kernel) (by decide +kernel), tb_i 146 (by decide +kernel) (by decide +kernel), tb_i 638 (by decide +kernel) (by decide +kernel), ⟨by decide +kernel, by decide +kernel, by decide +kernel⟩, by decide, by decide⟩, tb_i 637 (by decide +kernel) (by decide +kernel), tb_i 1 (by decide +kernel) (by decide +kernel)⟩
theorem ck_X7_reads_61 : CKV xX7_reads 61 xX7_take 1 := ⟨⟨tb_i 651 (by decide +kernel) (by decide +kernel), tb_i 146 (by decide +kernel) (by decide +kernel), tb_i 654 (by decide +kernel) (by decide +kernel), ⟨by decide +kernel, by decide +kernel, by decide +kernel⟩, by decide, by decide⟩, tb_i 653 (by decide +kernel) (by decide +kernel), tb_i 2 (by decide +kernel) (by decide +kernel)⟩
theorem ck_X7_reads_68 : CKV xX7_reads 68 xX7_readsLine 2 := ⟨⟨tb_i 671 (by decide +kernel) (by decide +kernel), tb_i 146 (by decide +kernel) (by decide +kernel), tb_i 674 (by decide +kernel) (by decide +kernel), ⟨by decide +kernel, by decide +kernel, by decide +kernel⟩, by decide, by decide⟩, tb_i 673 (by decide +kernel) (by decide +kernel), tb_i 4 (by decide +kernel) (by decide +kernel)⟩
theorem ck_X7_reads_75 : CKV xX7_reads 75 xX5_isWhole 0 := ⟨⟨tb_i 823 (by decide +kernel) (by decide +kernel), tb_i 141 (by decide +kernel) (by decide +kernel), tb_i 826 (by decide +kernel) (by decide +kernel), ⟨by decide +kernel, by decide +kernel, by decide +kernel⟩, by decide, by decide⟩, tb_i 824 (by decide +kernel) (by decide +kernel), tb_i 825 (by decide +kernel) (by decide +kernel)⟩
theorem ck_X7_reads_90 : CKV xX7_reads 90 xX7_blame 2 := ⟨⟨tb_i 772 (by decide +kernel) (by decide +kernel), tb_i 146 (by decide +kernel) (by decide +kernel), tb_i 775 (by decide +kernel) (by decide +kernel), ⟨by decide +kernel, by decide +kernel, by decide +kernel⟩, by decide, by decide⟩, tb_i 774 (by decide +kernel) (by decide +kernel), tb_i 8 (by decide +kernel) (by decide +kernel)⟩
def sX7_reads_b108 (a0 : Nat) (a1 : Nat) (x2 : Int)   (M : MM) : Option (Int × MM) := (if wI (M a0 5) = 0 then (some ((1, M))) else (some ((0, M))))
def sX7_reads_b99 (a0 : Nat) (a1 : Nat) (x2 : Int)   (M : MM) : Option (Int × MM) := ((sX7_blame a0 4 (M a1 1) M).bind fun q_1 => (sX7_reads_b108 a0 a1 x2 q_1))
def sX7_reads_b70 (a0 : Nat) (a1 : Nat) (x2 : Int)   (M : MM) : Option (Int × MM) := (if wI x2 = 0 then ((sX5_isWhole (gR a0 0) M).bind fun q_3 => (if wI q_3 = 0 then (sX7_reads_b99 a0 a1 x2 M) else (if 0 ≤ wI (M (gR a0 0) 3) ∧ wI (M (gR a0 0) 3) < 32 then (if wI ((M a0 12) % 4294967296 / 2 ^ (wI (M (gR a0 0) 3)).toNat) = 0 then (sX7_reads_b108 a0 a1 x2 M) else (sX7_reads_b99 a0 a1 x2 M)) else none))) else (sX7_reads_b108 a0 a1 x2 M))
def sX7_reads_b26 (a0 : Nat) (a1 : Nat) (x2 : Int)  : Nat → Int → MM → Option (Int × MM)
  | 0, _, _ => none
  | n + 1, x3, M => (if 600 ≤ wI x3 then (sX7_reads_b70 a0 a1 x2 M) else (if wI (M a0 8) = 0 then (sX7_reads_b70 a0 a1 x2 M) else ((sX7_readsLine a0 a1 x2 M).bind fun q_3 => (if wI (q_3.1) = 0 then ((some (mU q_3.2 a0 5 1)).bind fun M_6 => ((some (mU M_6 a0 6 (M_6 a0 9))).bind fun M_7 => (some ((0, M_7))))) else ((some (x3 + 1)).bind fun v_5 => (sX7_reads_b26 a0 a1 x2 n v_5 q_3.2))))))
def sX7_reads_b0 (a0 : Nat) (a1 : Nat) (x2 : Int)   (M : MM) : Option (Int × MM) := ((some (mU M a0 5 0)).bind fun M_1 => ((some (mU M_1 a0 6 (-1))).bind fun M_2 => ((sX7_clearDrafts a0 M_2).bind fun q_3 => ((some (mU q_3 a0 10 0)).bind fun M_4 => ((sX7_take a0 a1 M_4).bind fun q_5 => (sX7_reads_b26 a0 a1 x2 FU 0 q_5))))))
def sX7_reads (a0 : Nat) (a1 : Nat) (x2 : Int) (M : MM) : Option (Int × MM) := sX7_reads_b0 a0 a1 x2 M
set_option maxHeartbeats 4000000 in
set_option maxRecDepth 100000 in
theorem bX7_reads_b108 {G : GG} (a0 : Nat) (a1 : Nat) (x2 : Int) (oa0 : OB L0 a0 7) (oa1 : OB L0 a1 9)  (M : MM) {res : (Int × MM)}  (h : sX7_reads_b108 a0 a1 x2 M = some res) : VV G xX7_reads (ZM G xX7_reads (some (.int (eI res.1))) L0 res.2) L0 M 0 0 108 [(0, .ref (gA G a0))] [] := by
  unfold sX7_reads_b108 at h
  refine r_aload_n (pc := 108) (i := 0) dX7_reads_108 rfl 0 rfl ?_
  refine r_getI (pc := 109) fg_7_48 rfl oa0 dX7_reads_109 ?_
  refine r_if_ne (pc := 112) (tgt := 119) dX7_reads_112 (by decide) rfl (fun c_1 => ?_) (fun c_1 => ?_)
  · replace h := (if_neg c_1).symm.trans h
    refine r_iconst (pc := 119) (v := 0) dX7_reads_119 (by decide +kernel) ?_
    cases h
    exact r_iret (pc := 120) rfl (zn_ok (Or.inl rfl)).1 (Nat.le_refl 0) (Nat.le_refl 0) dX7_reads_120
  · replace h := (if_pos c_1).symm.trans h
    refine r_iconst (pc := 115) (v := 1) dX7_reads_115 (by decide +kernel) ?_
    refine r_goto (pc := 116) (tgt := 120) dX7_reads_116 (by decide) ?_
    cases h
    exact r_iret (pc := 120) rfl (zn_ok (Or.inr rfl)).1 (Nat.le_refl 0) (Nat.le_refl 0) dX7_reads_120
set_option maxHeartbeats 4000000 in
set_option maxRecDepth 100000 in
theorem bX7_reads_b99 {G : GG} (a0 : Nat) (a1 : Nat) (x2 : Int) (oa0 : OB L0 a0 7) (oa1 : OB L0 a1 9)  (M : MM) {res : (Int × MM)}  (h : sX7_reads_b99 a0 a1 x2 M = some res) : VV G xX7_reads (ZM G xX7_reads (some (.int (eI res.1))) L0 res.2) L0 M 0 0 99 [(0, .ref (gA G a0)), (1, .ref (gA G a1))] [] := by
  unfold sX7_reads_b99 at h
  refine r_aload_n (pc := 99) (i := 0) dX7_reads_99 rfl 0 rfl ?_
  refine r_iconst (pc := 100) (v := 4) dX7_reads_100 (by decide +kernel) ?_
  refine r_aload_n (pc := 101) (i := 1) dX7_reads_101 rfl 1 rfl ?_
  refine r_getI (pc := 102) fg_7_85 rfl oa1 dX7_reads_102 ?_
  obtain ⟨q_1, hq_1, h⟩ := ob h
  refine r_cV (pc := 105) (Y := xX7_blame) (As := [.int (eI 4), .int (eI (M a1 1))]) (rest := []) (v := none) (st1 := []) ck_X7_reads_90 (kX7_blame a0 4 (M a1 1) M oa0 hq_1) oa0 rfl rfl rfl rfl (Nat.le_of_ble_eq_true rfl) ⟨rfl, rfl⟩ rfl dX7_reads_105 ?_
  refine r_sub (lv' := [(0, .ref (gA G a0))]) [0] rfl ?_
  exact bX7_reads_b108 a0 a1 x2 oa0 oa1 _ h
set_option maxHeartbeats 4000000 in
set_option maxRecDepth 100000 in
theorem bX7_reads_b70 {G : GG} (a0 : Nat) (a1 : Nat) (x2 : Int) (oa0 : OB L0 a0 7) (oa1 : OB L0 a1 9)  (M : MM) {res : (Int × MM)}  (h : sX7_reads_b70 a0 a1 x2 M = some res) : VV G xX7_reads (ZM G xX7_reads (some (.int (eI res.1))) L0 res.2) L0 M 0 0 70 [(0, .ref (gA G a0)), (1, .ref (gA G a1)), (2, .int (eI x2))] [] := by
  unfold sX7_reads_b70 at h
  refine r_iload_n (pc := 70) (i := 2) dX7_reads_70 rfl 2 rfl ?_
  refine r_if_ne (pc := 71) (tgt := 108) dX7_reads_71 (by decide) rfl (fun c_1 => ?_) (fun c_1 => ?_)
  · replace h := (if_neg c_1).symm.trans h
    refine r_sub (lv' := [(0, .ref (gA G a0))]) [0] rfl ?_
    exact bX7_reads_b108 a0 a1 x2 oa0 oa1 _ h
  · replace h := (if_pos c_1).symm.trans h
    refine r_aload_n (pc := 74) (i := 0) dX7_reads_74 rfl 0 rfl ?_
    have o_2 := (wt_7_0 oa0).2
    refine r_getR (pc := 75) fg_7_12 rfl oa0 (wt_7_0 oa0).1 dX7_reads_75 ?_
    obtain ⟨q_3, hq_3, h⟩ := ob h
    refine r_cV (pc := 78) (Y := xX5_isWhole) (As := []) (rest := []) (v := (some (.int (eI q_3)))) (st1 := [.int (eI q_3)]) ck_X7_reads_75 (kX5_isWhole (gR a0 0) M o_2 hq_3) o_2 rfl rfl rfl rfl (Nat.le_of_ble_eq_true rfl) ⟨rfl, rfl⟩ rfl dX7_reads_78 ?_
    refine r_if_eq (pc := 81) (tgt := 99) dX7_reads_81 (by decide) rfl (fun c_4 => ?_) (fun c_4 => ?_)
    · replace h := (if_pos c_4).symm.trans h
      refine r_sub (lv' := [(0, .ref (gA G a0)), (1, .ref (gA G a1))]) [0, 1] rfl ?_
      exact bX7_reads_b99 a0 a1 x2 oa0 oa1 _ h
    · replace h := (if_neg c_4).symm.trans h
      refine r_aload_n (pc := 84) (i := 0) dX7_reads_84 rfl 0 rfl ?_
      refine r_getI (pc := 85) fg_7_79 rfl oa0 dX7_reads_85 ?_
      refine r_aload_n (pc := 88) (i := 0) dX7_reads_88 rfl 0 rfl ?_
      have o_5 := (wt_7_0 oa0).2
      refine r_getR (pc := 89) fg_7_12 rfl oa0 (wt_7_0 oa0).1 dX7_reads_89 ?_
      refine r_getI (pc := 92) fg_7_82 rfl o_5 dX7_reads_92 ?_
      obtain ⟨c_6, h⟩ := og h
      refine r_iushr (pc := 95) rfl c_6 dX7_reads_95 ?_
      refine r_if_eq (pc := 96) (tgt := 108) dX7_reads_96 (by decide) rfl (fun c_7 => ?_) (fun c_7 => ?_)
      · replace h := (if_pos c_7).symm.trans h
        refine r_sub (lv' := [(0, .ref (gA G a0))]) [0] rfl ?_
        exact bX7_reads_b108 a0 a1 x2 oa0 oa1 _ h
      · replace h := (if_neg c_7).symm.trans h
        refine r_sub (lv' := [(0, .ref (gA G a0)), (1, .ref (gA G a1))]) [0, 1] rfl ?_
        exact bX7_reads_b99 a0 a1 x2 oa0 oa1 _ h
set_option maxHeartbeats 4000000 in
set_option maxRecDepth 100000 in
theorem bX7_reads_b26 {G : GG} (a0 : Nat) (a1 : Nat) (x2 : Int) (oa0 : OB L0 a0 7) (oa1 : OB L0 a1 9) {res : (Int × MM)} : ∀ (n : Nat) (x3 : Int) (M : MM)  (h : sX7_reads_b26 a0 a1 x2 n x3 M = some res), VV G xX7_reads (ZM G xX7_reads (some (.int (eI res.1))) L0 res.2) L0 M 0 0 26 [(0, .ref (gA G a0)), (1, .ref (gA G a1)), (2, .int (eI x2)), (3, .int (eI x3))] [] := by
  intro n
  induction n with
  | zero =>
    intro x3 M h
    rw [sX7_reads_b26] at h
    cases h
  | succ n ih =>
    intro x3 M h
    rw [sX7_reads_b26] at h
    refine r_iload_n (pc := 26) (i := 3) dX7_reads_26 rfl 3 rfl ?_
    refine r_sipush (pc := 27) (v := 600) dX7_reads_27 (by decide +kernel) ?_
    refine r_icmp_ge (pc := 30) (tgt := 70) dX7_reads_30 (by decide) rfl wl_600 (fun c_1 => ?_) (fun c_1 => ?_)
    · replace h := (if_pos c_1).symm.trans h
      refine r_sub (lv' := [(0, .ref (gA G a0)), (1, .ref (gA G a1)), (2, .int (eI x2))]) [0, 1, 2] rfl ?_
      exact bX7_reads_b70 a0 a1 x2 oa0 oa1 _ h
    · replace h := (if_neg c_1).symm.trans h
      refine r_aload_n (pc := 33) (i := 0) dX7_reads_33 rfl 0 rfl ?_
      refine r_getI (pc := 34) fg_7_65 rfl oa0 dX7_reads_34 ?_
      refine r_if_eq (pc := 37) (tgt := 70) dX7_reads_37 (by decide) rfl (fun c_2 => ?_) (fun c_2 => ?_)
      · replace h := (if_pos c_2).symm.trans h
        refine r_sub (lv' := [(0, .ref (gA G a0)), (1, .ref (gA G a1)), (2, .int (eI x2))]) [0, 1, 2] rfl ?_
        exact bX7_reads_b70 a0 a1 x2 oa0 oa1 _ h
      · replace h := (if_neg c_2).symm.trans h
        refine r_aload_n (pc := 40) (i := 0) dX7_reads_40 rfl 0 rfl ?_
        refine r_aload_n (pc := 41) (i := 1) dX7_reads_41 rfl 1 rfl ?_
        refine r_iload_n (pc := 42) (i := 2) dX7_reads_42 rfl 2 rfl ?_
        obtain ⟨q_3, hq_3, h⟩ := ob h
        refine r_cV (pc := 43) (Y := xX7_readsLine) (As := [.ref (gA G a1), .int (eI x2)]) (rest := []) (v := (some (.int (eI (q_3.1))))) (st1 := [.int (eI (q_3.1))]) ck_X7_reads_68 (kX7_readsLine a0 a1 x2 M oa0 oa1 hq_3) oa0 rfl rfl rfl rfl (Nat.le_of_ble_eq_true rfl) ⟨rfl, rfl⟩ rfl dX7_reads_43 ?_
        refine r_if_ne (pc := 46) (tgt := 64) dX7_reads_46 (by decide) rfl (fun c_4 => ?_) (fun c_4 => ?_)
        · replace h := (if_neg c_4).symm.trans h
          obtain ⟨v_5, hv_5, h⟩ := ob h
          refine r_iinc (pc := 64) (y := v_5) (lv' := [(3, .int (eI v_5)), (0, .ref (gA G a0)), (1, .ref (gA G a1)), (2, .int (eI x2))]) dX7_reads_64 3 rfl (Option.some.inj hv_5) (Nat.le_of_ble_eq_true rfl) rfl ?_
          refine r_goto (pc := 67) (tgt := 26) dX7_reads_67 (by decide) ?_
          refine r_sub (lv' := [(0, .ref (gA G a0)), (1, .ref (gA G a1)), (2, .int (eI x2)), (3, .int (eI v_5))]) [1, 2, 3, 0] rfl ?_
          exact ih _ _ h
        · replace h := (if_pos c_4).symm.trans h
          refine r_aload_n (pc := 49) (i := 0) dX7_reads_49 rfl 0 rfl ?_
          refine r_iconst (pc := 50) (v := 1) dX7_reads_50 (by decide +kernel) ?_
          obtain ⟨M_6, hM_6, h⟩ := ob h
          refine r_putI (pc := 51) fg_7_48 rfl oa0 hM_6 rfl rfl dX7_reads_51 ?_
          refine r_aload_n (pc := 54) (i := 0) dX7_reads_54 rfl 0 rfl ?_
          refine r_aload_n (pc := 55) (i := 0) dX7_reads_55 rfl 0 rfl ?_
          refine r_getI (pc := 56) fg_7_72 rfl oa0 dX7_reads_56 ?_
          obtain ⟨M_7, hM_7, h⟩ := ob h
          refine r_putI (pc := 59) fg_7_52 rfl oa0 hM_7 rfl rfl dX7_reads_59 ?_
          refine r_iconst (pc := 62) (v := 0) dX7_reads_62 (by decide +kernel) ?_
          cases h
          exact r_iret (pc := 63) rfl (zn_ok (Or.inl rfl)).1 (Nat.le_refl 0) (Nat.le_refl 0) dX7_reads_63
set_option maxHeartbeats 4000000 in
set_option maxRecDepth 100000 in
theorem bX7_reads_b0 {G : GG} (a0 : Nat) (a1 : Nat) (x2 : Int) (oa0 : OB L0 a0 7) (oa1 : OB L0 a1 9)  (M : MM) {res : (Int × MM)}  (h : sX7_reads_b0 a0 a1 x2 M = some res) : VV G xX7_reads (ZM G xX7_reads (some (.int (eI res.1))) L0 res.2) L0 M 0 0 0 [(0, .ref (gA G a0)), (1, .ref (gA G a1)), (2, .int (eI x2))] [] := by
  unfold sX7_reads_b0 at h
  refine r_aload_n (pc := 0) (i := 0) dX7_reads_0 rfl 0 rfl ?_
  refine r_iconst (pc := 1) (v := 0) dX7_reads_1 (by decide +kernel) ?_
  obtain ⟨M_1, hM_1, h⟩ := ob h
  refine r_putI (pc := 2) fg_7_48 rfl oa0 hM_1 rfl rfl dX7_reads_2 ?_
  refine r_aload_n (pc := 5) (i := 0) dX7_reads_5 rfl 0 rfl ?_
  refine r_iconst (pc := 6) (v := (-1)) dX7_reads_6 (by decide +kernel) ?_
  obtain ⟨M_2, hM_2, h⟩ := ob h
  refine r_putI (pc := 7) fg_7_52 rfl oa0 hM_2 rfl rfl dX7_reads_7 ?_
  refine r_aload_n (pc := 10) (i := 0) dX7_reads_10 rfl 0 rfl ?_
  obtain ⟨q_3, hq_3, h⟩ := ob h
  refine r_cV (pc := 11) (Y := xX7_clearDrafts) (As := []) (rest := []) (v := none) (st1 := []) ck_X7_reads_55 (kX7_clearDrafts a0 M_2 oa0 hq_3) oa0 rfl rfl rfl rfl (Nat.le_of_ble_eq_true rfl) ⟨rfl, rfl⟩ rfl dX7_reads_11 ?_
  refine r_aload_n (pc := 14) (i := 0) dX7_reads_14 rfl 0 rfl ?_
  refine r_iconst (pc := 15) (v := 0) dX7_reads_15 (by decide +kernel) ?_
  obtain ⟨M_4, hM_4, h⟩ := ob h
  refine r_putI (pc := 16) fg_7_58 rfl oa0 hM_4 rfl rfl dX7_reads_16 ?_
  refine r_aload_n (pc := 19) (i := 0) dX7_reads_19 rfl 0 rfl ?_
  refine r_aload_n (pc := 20) (i := 1) dX7_reads_20 rfl 1 rfl ?_
  obtain ⟨q_5, hq_5, h⟩ := ob h
  refine r_cV (pc := 21) (Y := xX7_take) (As := [.ref (gA G a1)]) (rest := []) (v := none) (st1 := []) ck_X7_reads_61 (kX7_take a0 a1 M_4 oa0 oa1 hq_5) oa0 rfl rfl rfl rfl (Nat.le_of_ble_eq_true rfl) ⟨rfl, rfl⟩ rfl dX7_reads_21 ?_
  refine r_iconst (pc := 24) (v := 0) dX7_reads_24 (by decide +kernel) ?_
  refine r_istore_n (pc := 25) (i := 3) (lv' := [(3, .int (eI 0)), (0, .ref (gA G a0)), (1, .ref (gA G a1)), (2, .int (eI x2))]) dX7_reads_25 rfl (Nat.le_of_ble_eq_true rfl) rfl ?_
  refine r_sub (lv' := [(0, .ref (gA G a0)), (1, .ref (gA G a1)), (2, .int (eI x2)), (3, .int (eI 0))]) [1, 2, 3, 0] rfl ?_
  exact bX7_reads_b26 a0 a1 x2 oa0 oa1 _ _ _ h
theorem kX7_reads {G : GG} (a0 : Nat) (a1 : Nat) (x2 : Int) (M : MM) {res : (Int × MM)} (oa0 : OB L0 a0 7) (oa1 : OB L0 a1 9) (h : sX7_reads a0 a1 x2 M = some res) : CO G xX7_reads [.ref (gA G a0), .ref (gA G a1), .int (eI x2)] L0 M (some (.int (eI res.1))) L0 res.2 := CO_of (by decide +kernel) (Nat.le_of_ble_eq_true rfl) (bX7_reads_b0 a0 a1 x2 oa0 oa1 M h)
abbrev xX8_hits : XX := (yX8_hits, cX8_hits, 1, (some .int), 1, 22, 0, 0)
theorem ck_X8_hits_27 : CKV xX8_hits 27 xX3_sumOfSeconds 0 := ⟨⟨tb_i 1316 (by decide +kernel) (by decide +kernel), tb_i 142 (by decide +kernel) (by decide +kernel), tb_i 1255 (by decide +kernel) (by decide +kernel), ⟨by decide +kernel, by decide +kernel, by decide +kernel⟩, by decide, by decide⟩, tb_i 1253 (by decide +kernel) (by decide +kernel), tb_i 1254 (by decide +kernel) (by decide +kernel)⟩
def sX8_hits_b0 (a0 : Nat) (M : MM)   : Option Int := ((sX3_sumOfSeconds (gR a0 1) M).bind fun q_2 => (some (q_2)))
def sX8_hits (a0 : Nat) (M : MM) : Option Int := sX8_hits_b0 a0 M
set_option maxHeartbeats 4000000 in
set_option maxRecDepth 100000 in
theorem bX8_hits_b0 {G : GG} (a0 : Nat) (M : MM) (oa0 : OB L0 a0 8)  {res : Int}  (h : sX8_hits_b0 a0 M = some res) : VV G xX8_hits (ZM G xX8_hits (some (.int (eI res))) L0 M) L0 M 0 0 0 [(0, .ref (gA G a0))] [] := by
  unfold sX8_hits_b0 at h
  refine r_aload_n (pc := 0) (i := 0) dX8_hits_0 rfl 0 rfl ?_
  have o_1 := (wt_8_1 oa0).2
  refine r_getR (pc := 1) fg_8_20 rfl oa0 (wt_8_1 oa0).1 dX8_hits_1 ?_
  obtain ⟨q_2, hq_2, h⟩ := ob h
  refine r_cV (pc := 4) (Y := xX3_sumOfSeconds) (As := []) (rest := []) (v := (some (.int (eI q_2)))) (st1 := [.int (eI q_2)]) ck_X8_hits_27 (kX3_sumOfSeconds (gR a0 1) M o_1 hq_2) o_1 rfl rfl rfl rfl (Nat.le_of_ble_eq_true rfl) ⟨rfl, rfl⟩ rfl dX8_hits_4 ?_
  cases h
  exact r_iret (pc := 7) rfl rfl (Nat.le_refl 0) (Nat.le_refl 0) dX8_hits_7
theorem kX8_hits {G : GG} (a0 : Nat) (M : MM) {res : Int} (oa0 : OB L0 a0 8) (h : sX8_hits a0 M = some res) : CO G xX8_hits [.ref (gA G a0)] L0 M (some (.int (eI res))) L0 M := CO_of (by decide +kernel) (Nat.le_of_ble_eq_true rfl) (bX8_hits_b0 a0 M oa0 h)
abbrev xX8_shoutsOf : XX := (yX8_shoutsOf, cX8_shoutsOf, 4, (some .int), 0, 0, 0, 0)
def sX8_shoutsOf_b31 (a0 : Nat) (x1 : Int) (M : MM) (K4 : Int → Int → Option Int) (x2 : Int) (x3 : Int) : Option Int := ((some (x3 + 1)).bind fun v_1 => (K4 x2 v_1))
def sX8_shoutsOf_b4 (a0 : Nat) (x1 : Int) (M : MM)  : Nat → Int → Int → Option Int
  | 0, _, _ => none
  | n + 1, x2, x3 => (if wI (M (gR a0 0) 4) ≤ wI x3 then (some (x2)) else (if 0 ≤ wI x3 ∧ wI x3 < (ln (gR (gR a0 0) 2)) then (if wI (M (gR (gR a0 0) 2) (wI x3).toNat) = wI x1 then ((some (x2 + 1)).bind fun v_7 => (sX8_shoutsOf_b31 a0 x1 M (fun x2 x3 => sX8_shoutsOf_b4 a0 x1 M n x2 x3) v_7 x3)) else (sX8_shoutsOf_b31 a0 x1 M (fun x2 x3 => sX8_shoutsOf_b4 a0 x1 M n x2 x3) x2 x3)) else none))
def sX8_shoutsOf_b0 (a0 : Nat) (x1 : Int) (M : MM)   : Option Int := (sX8_shoutsOf_b4 a0 x1 M FU 0 0)
def sX8_shoutsOf (a0 : Nat) (x1 : Int) (M : MM) : Option Int := sX8_shoutsOf_b0 a0 x1 M
set_option maxHeartbeats 4000000 in
set_option maxRecDepth 100000 in
theorem bX8_shoutsOf_b31 {G : GG} (a0 : Nat) (x1 : Int) (M : MM) (oa0 : OB L0 a0 8) {K4 : Int → Int → Option Int} (x2 : Int) (x3 : Int) {res : Int} (hK4 : ∀ (x2 : Int) (x3 : Int), K4 x2 x3 = some res → VV G xX8_shoutsOf (ZM G xX8_shoutsOf (some (.int (eI res))) L0 M) L0 M 0 0 4 [(0, .ref (gA G a0)), (1, .int (eI x1)), (2, .int (eI x2)), (3, .int (eI x3))] [])  (h : sX8_shoutsOf_b31 a0 x1 M K4 x2 x3 = some res) : VV G xX8_shoutsOf (ZM G xX8_shoutsOf (some (.int (eI res))) L0 M) L0 M 0 0 31 [(0, .ref (gA G a0)), (1, .int (eI x1)), (2, .int (eI x2)), (3, .int (eI x3))] [] := by
  unfold sX8_shoutsOf_b31 at h
  obtain ⟨v_1, hv_1, h⟩ := ob h
  refine r_iinc (pc := 31) (y := v_1) (lv' := [(3, .int (eI v_1)), (0, .ref (gA G a0)), (1, .int (eI x1)), (2, .int (eI x2))]) dX8_shoutsOf_31 3 rfl (Option.some.inj hv_1) (Nat.le_of_ble_eq_true rfl) rfl ?_
  refine r_goto (pc := 34) (tgt := 4) dX8_shoutsOf_34 (by decide) ?_
  refine r_sub (lv' := [(0, .ref (gA G a0)), (1, .int (eI x1)), (2, .int (eI x2)), (3, .int (eI v_1))]) [1, 2, 3, 0] rfl ?_
  exact hK4 _ _ h
set_option maxHeartbeats 4000000 in
set_option maxRecDepth 100000 in
theorem bX8_shoutsOf_b4 {G : GG} (a0 : Nat) (x1 : Int) (M : MM) (oa0 : OB L0 a0 8) {res : Int} : ∀ (n : Nat) (x2 : Int) (x3 : Int)  (h : sX8_shoutsOf_b4 a0 x1 M n x2 x3 = some res), VV G xX8_shoutsOf (ZM G xX8_shoutsOf (some (.int (eI res))) L0 M) L0 M 0 0 4 [(0, .ref (gA G a0)), (1, .int (eI x1)), (2, .int (eI x2)), (3, .int (eI x3))] [] := by
  intro n
  induction n with
  | zero =>
    intro x2 x3 h
    rw [sX8_shoutsOf_b4] at h
    cases h
  | succ n ih =>
    intro x2 x3 h
    rw [sX8_shoutsOf_b4] at h
    refine r_iload_n (pc := 4) (i := 3) dX8_shoutsOf_4 rfl 3 rfl ?_
    refine r_aload_n (pc := 5) (i := 0) dX8_shoutsOf_5 rfl 0 rfl ?_
    have o_1 := (wt_8_0 oa0).2
    refine r_getR (pc := 6) fg_8_14 rfl oa0 (wt_8_0 oa0).1 dX8_shoutsOf_6 ?_
    refine r_getI (pc := 9) fg_8_23 rfl o_1 dX8_shoutsOf_9 ?_
    refine r_icmp_ge (pc := 12) (tgt := 37) dX8_shoutsOf_12 (by decide) rfl rfl (fun c_2 => ?_) (fun c_2 => ?_)
    · replace h := (if_pos c_2).symm.trans h
      refine r_iload_n (pc := 37) (i := 2) dX8_shoutsOf_37 rfl 2 rfl ?_
      cases h
      exact r_iret (pc := 38) rfl rfl (Nat.le_refl 0) (Nat.le_refl 0) dX8_shoutsOf_38
    · replace h := (if_neg c_2).symm.trans h
      refine r_aload_n (pc := 15) (i := 0) dX8_shoutsOf_15 rfl 0 rfl ?_
      have o_3 := (wt_8_0 oa0).2
      refine r_getR (pc := 16) fg_8_14 rfl oa0 (wt_8_0 oa0).1 dX8_shoutsOf_16 ?_
      have o_4 := (wt_3_2 o_3).2
      refine r_getR (pc := 19) fg_8_31 rfl o_3 (wt_3_2 o_3).1 dX8_shoutsOf_19 ?_
      refine r_iload_n (pc := 22) (i := 3) dX8_shoutsOf_22 rfl 3 rfl ?_
      obtain ⟨c_5, h⟩ := og h
      refine r_iald (pc := 23) o_4 rfl c_5 rfl dX8_shoutsOf_23 ?_
      refine r_iload_n (pc := 24) (i := 1) dX8_shoutsOf_24 rfl 1 rfl ?_
      refine r_icmp_ne (pc := 25) (tgt := 31) dX8_shoutsOf_25 (by decide) rfl rfl (fun c_6 => ?_) (fun c_6 => ?_)
      · replace h := (if_neg c_6).symm.trans h
        refine r_sub (lv' := [(0, .ref (gA G a0)), (1, .int (eI x1)), (2, .int (eI x2)), (3, .int (eI x3))]) [0, 1, 2, 3] rfl ?_
        exact bX8_shoutsOf_b31 a0 x1 M oa0 _ _ (fun v0 v1 v2 => ih v0 v1 v2) h
      · replace h := (if_pos c_6).symm.trans h
        obtain ⟨v_7, hv_7, h⟩ := ob h
        refine r_iinc (pc := 28) (y := v_7) (lv' := [(2, .int (eI v_7)), (0, .ref (gA G a0)), (1, .int (eI x1)), (3, .int (eI x3))]) dX8_shoutsOf_28 2 rfl (Option.some.inj hv_7) (Nat.le_of_ble_eq_true rfl) rfl ?_
        refine r_sub (lv' := [(0, .ref (gA G a0)), (1, .int (eI x1)), (2, .int (eI v_7)), (3, .int (eI x3))]) [1, 2, 0, 3] rfl ?_
        exact bX8_shoutsOf_b31 a0 x1 M oa0 _ _ (fun v0 v1 v2 => ih v0 v1 v2) h
set_option maxHeartbeats 4000000 in
set_option maxRecDepth 100000 in
theorem bX8_shoutsOf_b0 {G : GG} (a0 : Nat) (x1 : Int) (M : MM) (oa0 : OB L0 a0 8)  {res : Int}  (h : sX8_shoutsOf_b0 a0 x1 M = some res) : VV G xX8_shoutsOf (ZM G xX8_shoutsOf (some (.int (eI res))) L0 M) L0 M 0 0 0 [(0, .ref (gA G a0)), (1, .int (eI x1))] [] := by
  unfold sX8_shoutsOf_b0 at h
  refine r_iconst (pc := 0) (v := 0) dX8_shoutsOf_0 (by decide +kernel) ?_
  refine r_istore_n (pc := 1) (i := 2) (lv' := [(2, .int (eI 0)), (0, .ref (gA G a0)), (1, .int (eI x1))]) dX8_shoutsOf_1 rfl (Nat.le_of_ble_eq_true rfl) rfl ?_
  refine r_iconst (pc := 2) (v := 0) dX8_shoutsOf_2 (by decide +kernel) ?_
  refine r_istore_n (pc := 3) (i := 3) (lv' := [(3, .int (eI 0)), (2, .int (eI 0)), (0, .ref (gA G a0)), (1, .int (eI x1))]) dX8_shoutsOf_3 rfl (Nat.le_of_ble_eq_true rfl) rfl ?_
  refine r_sub (lv' := [(0, .ref (gA G a0)), (1, .int (eI x1)), (2, .int (eI 0)), (3, .int (eI 0))]) [2, 3, 1, 0] rfl ?_
  exact bX8_shoutsOf_b4 a0 x1 M oa0 _ _ _ h
theorem kX8_shoutsOf {G : GG} (a0 : Nat) (x1 : Int) (M : MM) {res : Int} (oa0 : OB L0 a0 8) (h : sX8_shoutsOf a0 x1 M = some res) : CO G xX8_shoutsOf [.ref (gA G a0), .int (eI x1)] L0 M (some (.int (eI res))) L0 M := CO_of (by decide +kernel) (Nat.le_of_ble_eq_true rfl) (bX8_shoutsOf_b0 a0 x1 M oa0 h)
abbrev xX8_trueShoutsOf : XX := (yX8_trueShoutsOf, cX8_trueShoutsOf, 4, (some .int), 0, 0, 0, 0)
def sX8_trueShoutsOf_b40 (a0 : Nat) (x1 : Int) (M : MM) (K4 : Int → Int → Option Int) (x2 : Int) (x3 : Int) : Option Int := ((some (x3 + 1)).bind fun v_1 => (K4 x2 v_1))
def sX8_trueShoutsOf_b4 (a0 : Nat) (x1 : Int) (M : MM)  : Nat → Int → Int → Option Int
  | 0, _, _ => none
  | n + 1, x2, x3 => (if wI (M (gR a0 0) 4) ≤ wI x3 then (some (x2)) else (if 0 ≤ wI x3 ∧ wI x3 < (ln (gR (gR a0 0) 2)) then (if wI (M (gR (gR a0 0) 2) (wI x3).toNat) = wI x1 then (if 0 ≤ wI x3 ∧ wI x3 < (ln (gR (gR a0 0) 3)) then ((some (x2 + (M (gR (gR a0 0) 3) (wI x3).toNat))).bind fun v_10 => (sX8_trueShoutsOf_b40 a0 x1 M (fun x2 x3 => sX8_trueShoutsOf_b4 a0 x1 M n x2 x3) v_10 x3)) else none) else (sX8_trueShoutsOf_b40 a0 x1 M (fun x2 x3 => sX8_trueShoutsOf_b4 a0 x1 M n x2 x3) x2 x3)) else none))
def sX8_trueShoutsOf_b0 (a0 : Nat) (x1 : Int) (M : MM)   : Option Int := (sX8_trueShoutsOf_b4 a0 x1 M FU 0 0)
def sX8_trueShoutsOf (a0 : Nat) (x1 : Int) (M : MM) : Option Int := sX8_trueShoutsOf_b0 a0 x1 M
set_option maxHeartbeats 4000000 in
set_option maxRecDepth 100000 in
theorem bX8_trueShoutsOf_b40 {G : GG} (a0 : Nat) (x1 : Int) (M : MM) (oa0 : OB L0 a0 8) {K4 : Int → Int → Option Int} (x2 : Int) (x3 : Int) {res : Int} (hK4 : ∀ (x2 : Int) (x3 : Int), K4 x2 x3 = some res → VV G xX8_trueShoutsOf (ZM G xX8_trueShoutsOf (some (.int (eI res))) L0 M) L0 M 0 0 4 [(0, .ref (gA G a0)), (1, .int (eI x1)), (2, .int (eI x2)), (3, .int (eI x3))] [])  (h : sX8_trueShoutsOf_b40 a0 x1 M K4 x2 x3 = some res) : VV G xX8_trueShoutsOf (ZM G xX8_trueShoutsOf (some (.int (eI res))) L0 M) L0 M 0 0 40 [(0, .ref (gA G a0)), (1, .int (eI x1)), (2, .int (eI x2)), (3, .int (eI x3))] [] := by
  unfold sX8_trueShoutsOf_b40 at h
  obtain ⟨v_1, hv_1, h⟩ := ob h
  refine r_iinc (pc := 40) (y := v_1) (lv' := [(3, .int (eI v_1)), (0, .ref (gA G a0)), (1, .int (eI x1)), (2, .int (eI x2))]) dX8_trueShoutsOf_40 3 rfl (Option.some.inj hv_1) (Nat.le_of_ble_eq_true rfl) rfl ?_
  refine r_goto (pc := 43) (tgt := 4) dX8_trueShoutsOf_43 (by decide) ?_
  refine r_sub (lv' := [(0, .ref (gA G a0)), (1, .int (eI x1)), (2, .int (eI x2)), (3, .int (eI v_1))]) [1, 2, 3, 0] rfl ?_
  exact hK4 _ _ h
set_option maxHeartbeats 4000000 in
set_option maxRecDepth 100000 in
theorem bX8_trueShoutsOf_b4 {G : GG} (a0 : Nat) (x1 : Int) (M : MM) (oa0 : OB L0 a0 8) {res : Int} : ∀ (n : Nat) (x2 : Int) (x3 : Int)  (h : sX8_trueShoutsOf_b4 a0 x1 M n x2 x3 = some res), VV G xX8_trueShoutsOf (ZM G xX8_trueShoutsOf (some (.int (eI res))) L0 M) L0 M 0 0 4 [(0, .ref (gA G a0)), (1, .int (eI x1)), (2, .int (eI x2)), (3, .int (eI x3))] [] := by
  intro n
  induction n with
  | zero =>
    intro x2 x3 h
    rw [sX8_trueShoutsOf_b4] at h
    cases h
  | succ n ih =>
    intro x2 x3 h
    rw [sX8_trueShoutsOf_b4] at h
    refine r_iload_n (pc := 4) (i := 3) dX8_trueShoutsOf_4 rfl 3 rfl ?_
    refine r_aload_n (pc := 5) (i := 0) dX8_trueShoutsOf_5 rfl 0 rfl ?_
    have o_1 := (wt_8_0 oa0).2
    refine r_getR (pc := 6) fg_8_14 rfl oa0 (wt_8_0 oa0).1 dX8_trueShoutsOf_6 ?_
    refine r_getI (pc := 9) fg_8_23 rfl o_1 dX8_trueShoutsOf_9 ?_
    refine r_icmp_ge (pc := 12) (tgt := 46) dX8_trueShoutsOf_12 (by decide) rfl rfl (fun c_2 => ?_) (fun c_2 => ?_)
    · replace h := (if_pos c_2).symm.trans h
      refine r_iload_n (pc := 46) (i := 2) dX8_trueShoutsOf_46 rfl 2 rfl ?_
      cases h
      exact r_iret (pc := 47) rfl rfl (Nat.le_refl 0) (Nat.le_refl 0) dX8_trueShoutsOf_47
    · replace h := (if_neg c_2).symm.trans h
      refine r_aload_n (pc := 15) (i := 0) dX8_trueShoutsOf_15 rfl 0 rfl ?_
      have o_3 := (wt_8_0 oa0).2
      refine r_getR (pc := 16) fg_8_14 rfl oa0 (wt_8_0 oa0).1 dX8_trueShoutsOf_16 ?_
      have o_4 := (wt_3_2 o_3).2
      refine r_getR (pc := 19) fg_8_31 rfl o_3 (wt_3_2 o_3).1 dX8_trueShoutsOf_19 ?_
      refine r_iload_n (pc := 22) (i := 3) dX8_trueShoutsOf_22 rfl 3 rfl ?_
      obtain ⟨c_5, h⟩ := og h
      refine r_iald (pc := 23) o_4 rfl c_5 rfl dX8_trueShoutsOf_23 ?_
      refine r_iload_n (pc := 24) (i := 1) dX8_trueShoutsOf_24 rfl 1 rfl ?_
      refine r_icmp_ne (pc := 25) (tgt := 40) dX8_trueShoutsOf_25 (by decide) rfl rfl (fun c_6 => ?_) (fun c_6 => ?_)
      · replace h := (if_neg c_6).symm.trans h
        refine r_sub (lv' := [(0, .ref (gA G a0)), (1, .int (eI x1)), (2, .int (eI x2)), (3, .int (eI x3))]) [0, 1, 2, 3] rfl ?_
        exact bX8_trueShoutsOf_b40 a0 x1 M oa0 _ _ (fun v0 v1 v2 => ih v0 v1 v2) h
      · replace h := (if_pos c_6).symm.trans h
        refine r_iload_n (pc := 28) (i := 2) dX8_trueShoutsOf_28 rfl 2 rfl ?_
        refine r_aload_n (pc := 29) (i := 0) dX8_trueShoutsOf_29 rfl 0 rfl ?_
        have o_7 := (wt_8_0 oa0).2
        refine r_getR (pc := 30) fg_8_14 rfl oa0 (wt_8_0 oa0).1 dX8_trueShoutsOf_30 ?_
        have o_8 := (wt_3_3 o_7).2
        refine r_getR (pc := 33) fg_8_35 rfl o_7 (wt_3_3 o_7).1 dX8_trueShoutsOf_33 ?_
        refine r_iload_n (pc := 36) (i := 3) dX8_trueShoutsOf_36 rfl 3 rfl ?_
        obtain ⟨c_9, h⟩ := og h
        refine r_iald (pc := 37) o_8 rfl c_9 rfl dX8_trueShoutsOf_37 ?_
        refine r_iadd (pc := 38) dX8_trueShoutsOf_38 ?_
        obtain ⟨v_10, hv_10, h⟩ := ob h
        refine r_nmI (pc := 39) hv_10 ?_
        refine r_istore_n (pc := 39) (i := 2) (lv' := [(2, .int (eI v_10)), (0, .ref (gA G a0)), (1, .int (eI x1)), (3, .int (eI x3))]) dX8_trueShoutsOf_39 rfl (Nat.le_of_ble_eq_true rfl) rfl ?_
        refine r_sub (lv' := [(0, .ref (gA G a0)), (1, .int (eI x1)), (2, .int (eI v_10)), (3, .int (eI x3))]) [1, 2, 0, 3] rfl ?_
        exact bX8_trueShoutsOf_b40 a0 x1 M oa0 _ _ (fun v0 v1 v2 => ih v0 v1 v2) h
set_option maxHeartbeats 4000000 in
set_option maxRecDepth 100000 in
theorem bX8_trueShoutsOf_b0 {G : GG} (a0 : Nat) (x1 : Int) (M : MM) (oa0 : OB L0 a0 8)  {res : Int}  (h : sX8_trueShoutsOf_b0 a0 x1 M = some res) : VV G xX8_trueShoutsOf (ZM G xX8_trueShoutsOf (some (.int (eI res))) L0 M) L0 M 0 0 0 [(0, .ref (gA G a0)), (1, .int (eI x1))] [] := by
  unfold sX8_trueShoutsOf_b0 at h
  refine r_iconst (pc := 0) (v := 0) dX8_trueShoutsOf_0 (by decide +kernel) ?_
  refine r_istore_n (pc := 1) (i := 2) (lv' := [(2, .int (eI 0)), (0, .ref (gA G a0)), (1, .int (eI x1))]) dX8_trueShoutsOf_1 rfl (Nat.le_of_ble_eq_true rfl) rfl ?_
  refine r_iconst (pc := 2) (v := 0) dX8_trueShoutsOf_2 (by decide +kernel) ?_
  refine r_istore_n (pc := 3) (i := 3) (lv' := [(3, .int (eI 0)), (2, .int (eI 0)), (0, .ref (gA G a0)), (1, .int (eI x1))]) dX8_trueShoutsOf_3 rfl (Nat.le_of_ble_eq_true rfl) rfl ?_
  refine r_sub (lv' := [(0, .ref (gA G a0)), (1, .int (eI x1)), (2, .int (eI 0)), (3, .int (eI 0))]) [2, 3, 1, 0] rfl ?_
  exact bX8_trueShoutsOf_b4 a0 x1 M oa0 _ _ _ h
theorem kX8_trueShoutsOf {G : GG} (a0 : Nat) (x1 : Int) (M : MM) {res : Int} (oa0 : OB L0 a0 8) (h : sX8_trueShoutsOf a0 x1 M = some res) : CO G xX8_trueShoutsOf [.ref (gA G a0), .int (eI x1)] L0 M (some (.int (eI res))) L0 M := CO_of (by decide +kernel) (Nat.le_of_ble_eq_true rfl) (bX8_trueShoutsOf_b0 a0 x1 M oa0 h)
abbrev xX8_held : XX := (yX8_held, cX8_held, 7, (some .int), 1, 23, 0, 0)
theorem ck_X8_held_38 : CKV xX8_held 38 xX8_shoutsOf 1 := ⟨⟨tb_i 1321 (by decide +kernel) (by decide +kernel), tb_i 145 (by decide +kernel) (by decide +kernel), tb_i 1324 (by decide +kernel) (by decide +kernel), ⟨by decide +kernel, by decide +kernel, by decide +kernel⟩, by decide, by decide⟩, tb_i 1322 (by decide +kernel) (by decide +kernel), tb_i 1323 (by decide +kernel) (by decide +kernel)⟩
theorem ck_X8_held_42 : CKV xX8_held 42 xX8_trueShoutsOf 1 := ⟨⟨tb_i 1325 (by decide +kernel) (by decide +kernel), tb_i 145 (by decide +kernel) (by decide +kernel), tb_i 1328 (by decide +kernel) (by decide +kernel), ⟨by decide +kernel, by decide +kernel, by decide +kernel⟩, by decide, by decide⟩, tb_i 1326 (by decide +kernel) (by decide +kernel), tb_i 1327 (by decide +kernel) (by decide +kernel)⟩
def sX8_held_b62 (a0 : Nat) (M : MM) (K9 : Int → Int → Int → Int → Option Int) (x1 : Int) (x2 : Int) (x3 : Int) (x4 : Int) : Option Int := ((some (x4 + 1)).bind fun v_1 => (K9 x1 x2 x3 v_1))
def sX8_held_b53 (a0 : Nat) (M : MM) (K9 : Int → Int → Int → Int → Option Int) (x4 : Int) (x5 : Int) (x6 : Int) : Option Int := (sX8_held_b62 a0 M K9 x4 x6 x5 x4)
def sX8_held_b9 (a0 : Nat) (M : MM)  : Nat → Int → Int → Int → Int → Option Int
  | 0, _, _, _, _ => none
  | n + 1, x1, x2, x3, x4 => (if 8 ≤ wI x4 then (some (x1)) else ((sX8_shoutsOf a0 x4 M).bind fun q_2 => ((sX8_trueShoutsOf a0 x4 M).bind fun q_3 => (if wI q_2 ≤ 0 then (sX8_held_b62 a0 M (fun x1 x2 x3 x4 => sX8_held_b9 a0 M n x1 x2 x3 x4) x1 x2 x3 x4) else (if wI x1 = (-1) then (sX8_held_b53 a0 M (fun x1 x2 x3 x4 => sX8_held_b9 a0 M n x1 x2 x3 x4) x4 q_2 q_3) else (if wI (q_3 * x3) ≤ wI (x2 * q_2) then (sX8_held_b62 a0 M (fun x1 x2 x3 x4 => sX8_held_b9 a0 M n x1 x2 x3 x4) x1 x2 x3 x4) else (sX8_held_b53 a0 M (fun x1 x2 x3 x4 => sX8_held_b9 a0 M n x1 x2 x3 x4) x4 q_2 q_3)))))))
def sX8_held_b0 (a0 : Nat) (M : MM)   : Option Int := (sX8_held_b9 a0 M FU (-1) 0 1 0)
def sX8_held (a0 : Nat) (M : MM) : Option Int := sX8_held_b0 a0 M
set_option maxHeartbeats 4000000 in
set_option maxRecDepth 100000 in
theorem bX8_held_b62 {G : GG} (a0 : Nat) (M : MM) (oa0 : OB L0 a0 8) {K9 : Int → Int → Int → Int → Option Int} (x1 : Int) (x2 : Int) (x3 : Int) (x4 : Int) {res : Int} (hK9 : ∀ (x1 : Int) (x2 : Int) (x3 : Int) (x4 : Int), K9 x1 x2 x3 x4 = some res → VV G xX8_held (ZM G xX8_held (some (.int (eI res))) L0 M) L0 M 0 0 9 [(0, .ref (gA G a0)), (1, .int (eI x1)), (2, .int (eI x2)), (3, .int (eI x3)), (4, .int (eI x4))] [])  (h : sX8_held_b62 a0 M K9 x1 x2 x3 x4 = some res) : VV G xX8_held (ZM G xX8_held (some (.int (eI res))) L0 M) L0 M 0 0 62 [(0, .ref (gA G a0)), (1, .int (eI x1)), (2, .int (eI x2)), (3, .int (eI x3)), (4, .int (eI x4))] [] := by
  unfold sX8_held_b62 at h
  obtain ⟨v_1, hv_1, h⟩ := ob h
  refine r_iinc (pc := 62) (y := v_1) (lv' := [(4, .int (eI v_1)), (0, .ref (gA G a0)), (1, .int (eI x1)), (2, .int (eI x2)), (3, .int (eI x3))]) dX8_held_62 4 rfl (Option.some.inj hv_1) (Nat.le_of_ble_eq_true rfl) rfl ?_
  refine r_goto (pc := 65) (tgt := 9) dX8_held_65 (by decide) ?_
  refine r_sub (lv' := [(0, .ref (gA G a0)), (1, .int (eI x1)), (2, .int (eI x2)), (3, .int (eI x3)), (4, .int (eI v_1))]) [1, 2, 3, 4, 0] rfl ?_
  exact hK9 _ _ _ _ h
set_option maxHeartbeats 4000000 in
set_option maxRecDepth 100000 in
theorem bX8_held_b53 {G : GG} (a0 : Nat) (M : MM) (oa0 : OB L0 a0 8) {K9 : Int → Int → Int → Int → Option Int} (x4 : Int) (x5 : Int) (x6 : Int) {res : Int} (hK9 : ∀ (x1 : Int) (x2 : Int) (x3 : Int) (x4 : Int), K9 x1 x2 x3 x4 = some res → VV G xX8_held (ZM G xX8_held (some (.int (eI res))) L0 M) L0 M 0 0 9 [(0, .ref (gA G a0)), (1, .int (eI x1)), (2, .int (eI x2)), (3, .int (eI x3)), (4, .int (eI x4))] [])  (h : sX8_held_b53 a0 M K9 x4 x5 x6 = some res) : VV G xX8_held (ZM G xX8_held (some (.int (eI res))) L0 M) L0 M 0 0 53 [(0, .ref (gA G a0)), (4, .int (eI x4)), (5, .int (eI x5)), (6, .int (eI x6))] [] := by
  unfold sX8_held_b53 at h
  refine r_iload (pc := 53) dX8_held_53 1 rfl ?_
  refine r_istore_n (pc := 55) (i := 1) (lv' := [(1, .int (eI x4)), (0, .ref (gA G a0)), (4, .int (eI x4)), (5, .int (eI x5)), (6, .int (eI x6))]) dX8_held_55 rfl (Nat.le_of_ble_eq_true rfl) rfl ?_
  refine r_iload (pc := 56) dX8_held_56 4 rfl ?_
  refine r_istore_n (pc := 58) (i := 2) (lv' := [(2, .int (eI x6)), (1, .int (eI x4)), (0, .ref (gA G a0)), (4, .int (eI x4)), (5, .int (eI x5)), (6, .int (eI x6))]) dX8_held_58 rfl (Nat.le_of_ble_eq_true rfl) rfl ?_
  refine r_iload (pc := 59) dX8_held_59 4 rfl ?_
  refine r_istore_n (pc := 61) (i := 3) (lv' := [(3, .int (eI x5)), (2, .int (eI x6)), (1, .int (eI x4)), (0, .ref (gA G a0)), (4, .int (eI x4)), (5, .int (eI x5)), (6, .int (eI x6))]) dX8_held_61 rfl (Nat.le_of_ble_eq_true rfl) rfl ?_
  refine r_sub (lv' := [(0, .ref (gA G a0)), (1, .int (eI x4)), (2, .int (eI x6)), (3, .int (eI x5)), (4, .int (eI x4))]) [3, 2, 1, 0, 4] rfl ?_
  exact bX8_held_b62 a0 M oa0 _ _ _ _ hK9 h
set_option maxHeartbeats 4000000 in
set_option maxRecDepth 100000 in
theorem bX8_held_b9 {G : GG} (a0 : Nat) (M : MM) (oa0 : OB L0 a0 8) {res : Int} : ∀ (n : Nat) (x1 : Int) (x2 : Int) (x3 : Int) (x4 : Int)  (h : sX8_held_b9 a0 M n x1 x2 x3 x4 = some res), VV G xX8_held (ZM G xX8_held (some (.int (eI res))) L0 M) L0 M 0 0 9 [(0, .ref (gA G a0)), (1, .int (eI x1)), (2, .int (eI x2)), (3, .int (eI x3)), (4, .int (eI x4))] [] := by
  intro n
  induction n with
  | zero =>
    intro x1 x2 x3 x4 h
    rw [sX8_held_b9] at h
    cases h
  | succ n ih =>
    intro x1 x2 x3 x4 h
    rw [sX8_held_b9] at h
    refine r_iload (pc := 9) dX8_held_9 4 rfl ?_
    refine r_bipush (pc := 11) (v := 8) dX8_held_11 (by decide +kernel) ?_
    refine r_icmp_ge (pc := 13) (tgt := 68) dX8_held_13 (by decide) rfl wl_8 (fun c_1 => ?_) (fun c_1 => ?_)
    · replace h := (if_pos c_1).symm.trans h
      refine r_iload_n (pc := 68) (i := 1) dX8_held_68 rfl 1 rfl ?_
      cases h
      exact r_iret (pc := 69) rfl rfl (Nat.le_refl 0) (Nat.le_refl 0) dX8_held_69
    · replace h := (if_neg c_1).symm.trans h
      refine r_aload_n (pc := 16) (i := 0) dX8_held_16 rfl 0 rfl ?_
      refine r_iload (pc := 17) dX8_held_17 4 rfl ?_
      obtain ⟨q_2, hq_2, h⟩ := ob h
      refine r_cV (pc := 19) (Y := xX8_shoutsOf) (As := [.int (eI x4)]) (rest := []) (v := (some (.int (eI q_2)))) (st1 := [.int (eI q_2)]) ck_X8_held_38 (kX8_shoutsOf a0 x4 M oa0 hq_2) oa0 rfl rfl rfl rfl (Nat.le_of_ble_eq_true rfl) ⟨rfl, rfl⟩ rfl dX8_held_19 ?_
      refine r_istore (pc := 22) (lv' := [(5, .int (eI q_2)), (0, .ref (gA G a0)), (1, .int (eI x1)), (2, .int (eI x2)), (3, .int (eI x3)), (4, .int (eI x4))]) dX8_held_22 (Nat.le_of_ble_eq_true rfl) rfl ?_
      refine r_aload_n (pc := 24) (i := 0) dX8_held_24 rfl 1 rfl ?_
      refine r_iload (pc := 25) dX8_held_25 5 rfl ?_
      obtain ⟨q_3, hq_3, h⟩ := ob h
      refine r_cV (pc := 27) (Y := xX8_trueShoutsOf) (As := [.int (eI x4)]) (rest := []) (v := (some (.int (eI q_3)))) (st1 := [.int (eI q_3)]) ck_X8_held_42 (kX8_trueShoutsOf a0 x4 M oa0 hq_3) oa0 rfl rfl rfl rfl (Nat.le_of_ble_eq_true rfl) ⟨rfl, rfl⟩ rfl dX8_held_27 ?_
      refine r_istore (pc := 30) (lv' := [(6, .int (eI q_3)), (5, .int (eI q_2)), (0, .ref (gA G a0)), (1, .int (eI x1)), (2, .int (eI x2)), (3, .int (eI x3)), (4, .int (eI x4))]) dX8_held_30 (Nat.le_of_ble_eq_true rfl) rfl ?_
      refine r_iload (pc := 32) dX8_held_32 1 rfl ?_
      refine r_if_le (pc := 34) (tgt := 62) dX8_held_34 (by decide) rfl (fun c_4 => ?_) (fun c_4 => ?_)
      · replace h := (if_pos c_4).symm.trans h
        refine r_sub (lv' := [(0, .ref (gA G a0)), (1, .int (eI x1)), (2, .int (eI x2)), (3, .int (eI x3)), (4, .int (eI x4))]) [2, 3, 4, 5, 6] rfl ?_
        exact bX8_held_b62 a0 M oa0 _ _ _ _ (fun v0 v1 v2 v3 v4 => ih v0 v1 v2 v3 v4) h
      · replace h := (if_neg c_4).symm.trans h
        refine r_iload_n (pc := 37) (i := 1) dX8_held_37 rfl 3 rfl ?_
        refine r_iconst (pc := 38) (v := (-1)) dX8_held_38 (by decide +kernel) ?_
        refine r_icmp_eq (pc := 39) (tgt := 53) dX8_held_39 (by decide) rfl wl_m1 (fun c_5 => ?_) (fun c_5 => ?_)
        · replace h := (if_pos c_5).symm.trans h
          refine r_sub (lv' := [(0, .ref (gA G a0)), (4, .int (eI x4)), (5, .int (eI q_2)), (6, .int (eI q_3))]) [2, 6, 1, 0] rfl ?_
          exact bX8_held_b53 a0 M oa0 _ _ _ (fun v0 v1 v2 v3 v4 => ih v0 v1 v2 v3 v4) h
        · replace h := (if_neg c_5).symm.trans h
          refine r_iload (pc := 42) dX8_held_42 0 rfl ?_
          refine r_iload_n (pc := 44) (i := 3) dX8_held_44 rfl 5 rfl ?_
          refine r_imul (pc := 45) dX8_held_45 ?_
          refine r_iload_n (pc := 46) (i := 2) dX8_held_46 rfl 4 rfl ?_
          refine r_iload (pc := 47) dX8_held_47 1 rfl ?_
          refine r_imul (pc := 49) dX8_held_49 ?_
          refine r_icmp_le (pc := 50) (tgt := 62) dX8_held_50 (by decide) rfl rfl (fun c_6 => ?_) (fun c_6 => ?_)
          · replace h := (if_pos c_6).symm.trans h
            refine r_sub (lv' := [(0, .ref (gA G a0)), (1, .int (eI x1)), (2, .int (eI x2)), (3, .int (eI x3)), (4, .int (eI x4))]) [2, 3, 4, 5, 6] rfl ?_
            exact bX8_held_b62 a0 M oa0 _ _ _ _ (fun v0 v1 v2 v3 v4 => ih v0 v1 v2 v3 v4) h
          · replace h := (if_neg c_6).symm.trans h
            refine r_sub (lv' := [(0, .ref (gA G a0)), (4, .int (eI x4)), (5, .int (eI q_2)), (6, .int (eI q_3))]) [2, 6, 1, 0] rfl ?_
            exact bX8_held_b53 a0 M oa0 _ _ _ (fun v0 v1 v2 v3 v4 => ih v0 v1 v2 v3 v4) h
set_option maxHeartbeats 4000000 in
set_option maxRecDepth 100000 in
theorem bX8_held_b0 {G : GG} (a0 : Nat) (M : MM) (oa0 : OB L0 a0 8)  {res : Int}  (h : sX8_held_b0 a0 M = some res) : VV G xX8_held (ZM G xX8_held (some (.int (eI res))) L0 M) L0 M 0 0 0 [(0, .ref (gA G a0))] [] := by
  unfold sX8_held_b0 at h
  refine r_iconst (pc := 0) (v := (-1)) dX8_held_0 (by decide +kernel) ?_
  refine r_istore_n (pc := 1) (i := 1) (lv' := [(1, .int (eI (-1))), (0, .ref (gA G a0))]) dX8_held_1 rfl (Nat.le_of_ble_eq_true rfl) rfl ?_
  refine r_iconst (pc := 2) (v := 0) dX8_held_2 (by decide +kernel) ?_
  refine r_istore_n (pc := 3) (i := 2) (lv' := [(2, .int (eI 0)), (1, .int (eI (-1))), (0, .ref (gA G a0))]) dX8_held_3 rfl (Nat.le_of_ble_eq_true rfl) rfl ?_
  refine r_iconst (pc := 4) (v := 1) dX8_held_4 (by decide +kernel) ?_
  refine r_istore_n (pc := 5) (i := 3) (lv' := [(3, .int (eI 1)), (2, .int (eI 0)), (1, .int (eI (-1))), (0, .ref (gA G a0))]) dX8_held_5 rfl (Nat.le_of_ble_eq_true rfl) rfl ?_
  refine r_iconst (pc := 6) (v := 0) dX8_held_6 (by decide +kernel) ?_
  refine r_istore (pc := 7) (lv' := [(4, .int (eI 0)), (3, .int (eI 1)), (2, .int (eI 0)), (1, .int (eI (-1))), (0, .ref (gA G a0))]) dX8_held_7 (Nat.le_of_ble_eq_true rfl) rfl ?_
  refine r_sub (lv' := [(0, .ref (gA G a0)), (1, .int (eI (-1))), (2, .int (eI 0)), (3, .int (eI 1)), (4, .int (eI 0))]) [4, 3, 2, 1, 0] rfl ?_
  exact bX8_held_b9 a0 M oa0 _ _ _ _ _ h
theorem kX8_held {G : GG} (a0 : Nat) (M : MM) {res : Int} (oa0 : OB L0 a0 8) (h : sX8_held a0 M = some res) : CO G xX8_held [.ref (gA G a0)] L0 M (some (.int (eI res))) L0 M := CO_of (by decide +kernel) (Nat.le_of_ble_eq_true rfl) (bX8_held_b0 a0 M oa0 h)
abbrev xX8_answer : XX := (yX8_answer, cX8_answer, 2, (some .int), 2, 49, 0, 0)
theorem ck_X8_answer_45 : CKV xX8_answer 45 xX8_hits 0 := ⟨⟨tb_i 1312 (by decide +kernel) (by decide +kernel), tb_i 145 (by decide +kernel) (by decide +kernel), tb_i 1315 (by decide +kernel) (by decide +kernel), ⟨by decide +kernel, by decide +kernel, by decide +kernel⟩, by decide, by decide⟩, tb_i 1313 (by decide +kernel) (by decide +kernel), tb_i 1314 (by decide +kernel) (by decide +kernel)⟩
theorem ck_X8_answer_48 : CKV xX8_answer 48 xX8_held 0 := ⟨⟨tb_i 1317 (by decide +kernel) (by decide +kernel), tb_i 145 (by decide +kernel) (by decide +kernel), tb_i 1320 (by decide +kernel) (by decide +kernel), ⟨by decide +kernel, by decide +kernel, by decide +kernel⟩, by decide, by decide⟩, tb_i 1318 (by decide +kernel) (by decide +kernel), tb_i 1319 (by decide +kernel) (by decide +kernel)⟩
def sX8_answer_b99 (a0 : Nat) (x1 : Int) (M : MM)   : Option Int := (if wI x1 = 0 then (some ((M (gR a0 0) 4))) else (if wI x1 = 1 then (some ((M (gR a0 1) 4))) else (if wI x1 = 2 then ((sX8_hits a0 M).bind fun q_6 => (some (q_6))) else (if wI x1 = 3 then ((sX8_held a0 M).bind fun q_8 => (some (q_8))) else (some ((-2)))))))
def sX8_answer_b66 (a0 : Nat) (x1 : Int) (M : MM)   : Option Int := (if wI x1 < 110 then (sX8_answer_b99 a0 x1 M) else (if wI (110 + (M (gR a0 1) 4)) ≤ wI x1 then (sX8_answer_b99 a0 x1 M) else (if 0 ≤ wI (x1 - 110) ∧ wI (x1 - 110) < (ln (gR (gR a0 1) 3)) then (some ((M (gR (gR a0 1) 3) (wI (x1 - 110)).toNat))) else none)))
def sX8_answer_b33 (a0 : Nat) (x1 : Int) (M : MM)   : Option Int := (if wI x1 < 60 then (sX8_answer_b66 a0 x1 M) else (if wI (60 + (M (gR a0 0) 4)) ≤ wI x1 then (sX8_answer_b66 a0 x1 M) else (if 0 ≤ wI (x1 - 60) ∧ wI (x1 - 60) < (ln (gR (gR a0 0) 3)) then (some ((M (gR (gR a0 0) 3) (wI (x1 - 60)).toNat))) else none)))
def sX8_answer_b0 (a0 : Nat) (x1 : Int) (M : MM)   : Option Int := (if wI x1 < 10 then (sX8_answer_b33 a0 x1 M) else (if wI (10 + (M (gR a0 0) 4)) ≤ wI x1 then (sX8_answer_b33 a0 x1 M) else (if 0 ≤ wI (x1 - 10) ∧ wI (x1 - 10) < (ln (gR (gR a0 0) 2)) then (some ((M (gR (gR a0 0) 2) (wI (x1 - 10)).toNat))) else none)))
def sX8_answer (a0 : Nat) (x1 : Int) (M : MM) : Option Int := sX8_answer_b0 a0 x1 M
set_option maxHeartbeats 4000000 in
set_option maxRecDepth 100000 in
theorem bX8_answer_b99 {G : GG} (a0 : Nat) (x1 : Int) (M : MM) (oa0 : OB L0 a0 8)  {res : Int}  (h : sX8_answer_b99 a0 x1 M = some res) : VV G xX8_answer (ZM G xX8_answer (some (.int (eI res))) L0 M) L0 M 0 0 99 [(0, .ref (gA G a0)), (1, .int (eI x1))] [] := by
  unfold sX8_answer_b99 at h
  refine r_iload_n (pc := 99) (i := 1) dX8_answer_99 rfl 1 rfl ?_
  by_cases c_1 : wI x1 = 0
  · replace h := (if_pos c_1).symm.trans h
    refine r_tsw (pc := 100) (tgt := 132) (k' := 0) (rfl.trans c_1) dX8_answer_100 (by decide) rfl (by decide) ?_
    refine r_aload_n (pc := 132) (i := 0) dX8_answer_132 rfl 0 rfl ?_
    have o_2 := (wt_8_0 oa0).2
    refine r_getR (pc := 133) fg_8_14 rfl oa0 (wt_8_0 oa0).1 dX8_answer_133 ?_
    refine r_getI (pc := 136) fg_8_23 rfl o_2 dX8_answer_136 ?_
    cases h
    exact r_iret (pc := 139) rfl rfl (Nat.le_refl 0) (Nat.le_refl 0) dX8_answer_139
  · replace h := (if_neg c_1).symm.trans h
    by_cases c_3 : wI x1 = 1
    · replace h := (if_pos c_3).symm.trans h
      refine r_tsw (pc := 100) (tgt := 140) (k' := 1) (rfl.trans c_3) dX8_answer_100 (by decide) rfl (by decide) ?_
      refine r_aload_n (pc := 140) (i := 0) dX8_answer_140 rfl 0 rfl ?_
      have o_4 := (wt_8_1 oa0).2
      refine r_getR (pc := 141) fg_8_20 rfl oa0 (wt_8_1 oa0).1 dX8_answer_141 ?_
      refine r_getI (pc := 144) fg_8_23 rfl o_4 dX8_answer_144 ?_
      cases h
      exact r_iret (pc := 147) rfl rfl (Nat.le_refl 0) (Nat.le_refl 0) dX8_answer_147
    · replace h := (if_neg c_3).symm.trans h
      by_cases c_5 : wI x1 = 2
      · replace h := (if_pos c_5).symm.trans h
        refine r_tsw (pc := 100) (tgt := 148) (k' := 2) (rfl.trans c_5) dX8_answer_100 (by decide) rfl (by decide) ?_
        refine r_aload_n (pc := 148) (i := 0) dX8_answer_148 rfl 0 rfl ?_
        obtain ⟨q_6, hq_6, h⟩ := ob h
        refine r_cV (pc := 149) (Y := xX8_hits) (As := []) (rest := []) (v := (some (.int (eI q_6)))) (st1 := [.int (eI q_6)]) ck_X8_answer_45 (kX8_hits a0 M oa0 hq_6) oa0 rfl rfl rfl rfl (Nat.le_of_ble_eq_true rfl) ⟨rfl, rfl⟩ rfl dX8_answer_149 ?_
        cases h
        exact r_iret (pc := 152) rfl rfl (Nat.le_refl 0) (Nat.le_refl 0) dX8_answer_152
      · replace h := (if_neg c_5).symm.trans h
        by_cases c_7 : wI x1 = 3
        · replace h := (if_pos c_7).symm.trans h
          refine r_tsw (pc := 100) (tgt := 153) (k' := 3) (rfl.trans c_7) dX8_answer_100 (by decide) rfl (by decide) ?_
          refine r_aload_n (pc := 153) (i := 0) dX8_answer_153 rfl 0 rfl ?_
          obtain ⟨q_8, hq_8, h⟩ := ob h
          refine r_cV (pc := 154) (Y := xX8_held) (As := []) (rest := []) (v := (some (.int (eI q_8)))) (st1 := [.int (eI q_8)]) ck_X8_answer_48 (kX8_held a0 M oa0 hq_8) oa0 rfl rfl rfl rfl (Nat.le_of_ble_eq_true rfl) ⟨rfl, rfl⟩ rfl dX8_answer_154 ?_
          cases h
          exact r_iret (pc := 157) rfl rfl (Nat.le_refl 0) (Nat.le_refl 0) dX8_answer_157
        · replace h := (if_neg c_7).symm.trans h
          refine r_tswD (pc := 100) (tgt := 158) rfl dX8_answer_100 (by omega) (by decide) ?_
          refine r_bipush (pc := 158) (v := (-2)) dX8_answer_158 (by decide +kernel) ?_
          cases h
          exact r_iret (pc := 160) rfl rfl (Nat.le_refl 0) (Nat.le_refl 0) dX8_answer_160
set_option maxHeartbeats 4000000 in
set_option maxRecDepth 100000 in
theorem bX8_answer_b66 {G : GG} (a0 : Nat) (x1 : Int) (M : MM) (oa0 : OB L0 a0 8)  {res : Int}  (h : sX8_answer_b66 a0 x1 M = some res) : VV G xX8_answer (ZM G xX8_answer (some (.int (eI res))) L0 M) L0 M 0 0 66 [(0, .ref (gA G a0)), (1, .int (eI x1))] [] := by
  unfold sX8_answer_b66 at h
  refine r_iload_n (pc := 66) (i := 1) dX8_answer_66 rfl 1 rfl ?_
  refine r_bipush (pc := 67) (v := 110) dX8_answer_67 (by decide +kernel) ?_
  refine r_icmp_lt (pc := 69) (tgt := 99) dX8_answer_69 (by decide) rfl wl_110 (fun c_1 => ?_) (fun c_1 => ?_)
  · replace h := (if_pos c_1).symm.trans h
    refine r_sub (lv' := [(0, .ref (gA G a0)), (1, .int (eI x1))]) [0, 1] rfl ?_
    exact bX8_answer_b99 a0 x1 M oa0 h
  · replace h := (if_neg c_1).symm.trans h
    refine r_iload_n (pc := 72) (i := 1) dX8_answer_72 rfl 1 rfl ?_
    refine r_bipush (pc := 73) (v := 110) dX8_answer_73 (by decide +kernel) ?_
    refine r_aload_n (pc := 75) (i := 0) dX8_answer_75 rfl 0 rfl ?_
    have o_2 := (wt_8_1 oa0).2
    refine r_getR (pc := 76) fg_8_20 rfl oa0 (wt_8_1 oa0).1 dX8_answer_76 ?_
    refine r_getI (pc := 79) fg_8_23 rfl o_2 dX8_answer_79 ?_
    refine r_iadd (pc := 82) dX8_answer_82 ?_
    refine r_icmp_ge (pc := 83) (tgt := 99) dX8_answer_83 (by decide) rfl rfl (fun c_3 => ?_) (fun c_3 => ?_)
    · replace h := (if_pos c_3).symm.trans h
      refine r_sub (lv' := [(0, .ref (gA G a0)), (1, .int (eI x1))]) [0, 1] rfl ?_
      exact bX8_answer_b99 a0 x1 M oa0 h
    · replace h := (if_neg c_3).symm.trans h
      refine r_aload_n (pc := 86) (i := 0) dX8_answer_86 rfl 0 rfl ?_
      have o_4 := (wt_8_1 oa0).2
      refine r_getR (pc := 87) fg_8_20 rfl oa0 (wt_8_1 oa0).1 dX8_answer_87 ?_
      have o_5 := (wt_3_3 o_4).2
      refine r_getR (pc := 90) fg_8_35 rfl o_4 (wt_3_3 o_4).1 dX8_answer_90 ?_
      refine r_iload_n (pc := 93) (i := 1) dX8_answer_93 rfl 1 rfl ?_
      refine r_bipush (pc := 94) (v := 110) dX8_answer_94 (by decide +kernel) ?_
      refine r_isub (pc := 96) dX8_answer_96 ?_
      obtain ⟨c_6, h⟩ := og h
      refine r_iald (pc := 97) o_5 rfl c_6 rfl dX8_answer_97 ?_
      cases h
      exact r_iret (pc := 98) rfl rfl (Nat.le_refl 0) (Nat.le_refl 0) dX8_answer_98
set_option maxHeartbeats 4000000 in
set_option maxRecDepth 100000 in
theorem bX8_answer_b33 {G : GG} (a0 : Nat) (x1 : Int) (M : MM) (oa0 : OB L0 a0 8)  {res : Int}  (h : sX8_answer_b33 a0 x1 M = some res) : VV G xX8_answer (ZM G xX8_answer (some (.int (eI res))) L0 M) L0 M 0 0 33 [(0, .ref (gA G a0)), (1, .int (eI x1))] [] := by
  unfold sX8_answer_b33 at h
  refine r_iload_n (pc := 33) (i := 1) dX8_answer_33 rfl 1 rfl ?_
  refine r_bipush (pc := 34) (v := 60) dX8_answer_34 (by decide +kernel) ?_
  refine r_icmp_lt (pc := 36) (tgt := 66) dX8_answer_36 (by decide) rfl wl_60 (fun c_1 => ?_) (fun c_1 => ?_)
  · replace h := (if_pos c_1).symm.trans h
    refine r_sub (lv' := [(0, .ref (gA G a0)), (1, .int (eI x1))]) [0, 1] rfl ?_
    exact bX8_answer_b66 a0 x1 M oa0 h
  · replace h := (if_neg c_1).symm.trans h
    refine r_iload_n (pc := 39) (i := 1) dX8_answer_39 rfl 1 rfl ?_
    refine r_bipush (pc := 40) (v := 60) dX8_answer_40 (by decide +kernel) ?_
    refine r_aload_n (pc := 42) (i := 0) dX8_answer_42 rfl 0 rfl ?_
    have o_2 := (wt_8_0 oa0).2
    refine r_getR (pc := 43) fg_8_14 rfl oa0 (wt_8_0 oa0).1 dX8_answer_43 ?_
    refine r_getI (pc := 46) fg_8_23 rfl o_2 dX8_answer_46 ?_
    refine r_iadd (pc := 49) dX8_answer_49 ?_
    refine r_icmp_ge (pc := 50) (tgt := 66) dX8_answer_50 (by decide) rfl rfl (fun c_3 => ?_) (fun c_3 => ?_)
    · replace h := (if_pos c_3).symm.trans h
      refine r_sub (lv' := [(0, .ref (gA G a0)), (1, .int (eI x1))]) [0, 1] rfl ?_
      exact bX8_answer_b66 a0 x1 M oa0 h
    · replace h := (if_neg c_3).symm.trans h
      refine r_aload_n (pc := 53) (i := 0) dX8_answer_53 rfl 0 rfl ?_
      have o_4 := (wt_8_0 oa0).2
      refine r_getR (pc := 54) fg_8_14 rfl oa0 (wt_8_0 oa0).1 dX8_answer_54 ?_
      have o_5 := (wt_3_3 o_4).2
      refine r_getR (pc := 57) fg_8_35 rfl o_4 (wt_3_3 o_4).1 dX8_answer_57 ?_
      refine r_iload_n (pc := 60) (i := 1) dX8_answer_60 rfl 1 rfl ?_
      refine r_bipush (pc := 61) (v := 60) dX8_answer_61 (by decide +kernel) ?_
      refine r_isub (pc := 63) dX8_answer_63 ?_
      obtain ⟨c_6, h⟩ := og h
      refine r_iald (pc := 64) o_5 rfl c_6 rfl dX8_answer_64 ?_
      cases h
      exact r_iret (pc := 65) rfl rfl (Nat.le_refl 0) (Nat.le_refl 0) dX8_answer_65
set_option maxHeartbeats 4000000 in
set_option maxRecDepth 100000 in
theorem bX8_answer_b0 {G : GG} (a0 : Nat) (x1 : Int) (M : MM) (oa0 : OB L0 a0 8)  {res : Int}  (h : sX8_answer_b0 a0 x1 M = some res) : VV G xX8_answer (ZM G xX8_answer (some (.int (eI res))) L0 M) L0 M 0 0 0 [(0, .ref (gA G a0)), (1, .int (eI x1))] [] := by
  unfold sX8_answer_b0 at h
  refine r_iload_n (pc := 0) (i := 1) dX8_answer_0 rfl 1 rfl ?_
  refine r_bipush (pc := 1) (v := 10) dX8_answer_1 (by decide +kernel) ?_
  refine r_icmp_lt (pc := 3) (tgt := 33) dX8_answer_3 (by decide) rfl wl_10 (fun c_1 => ?_) (fun c_1 => ?_)
  · replace h := (if_pos c_1).symm.trans h
    refine r_sub (lv' := [(0, .ref (gA G a0)), (1, .int (eI x1))]) [0, 1] rfl ?_
    exact bX8_answer_b33 a0 x1 M oa0 h
  · replace h := (if_neg c_1).symm.trans h
    refine r_iload_n (pc := 6) (i := 1) dX8_answer_6 rfl 1 rfl ?_
    refine r_bipush (pc := 7) (v := 10) dX8_answer_7 (by decide +kernel) ?_
    refine r_aload_n (pc := 9) (i := 0) dX8_answer_9 rfl 0 rfl ?_
    have o_2 := (wt_8_0 oa0).2
    refine r_getR (pc := 10) fg_8_14 rfl oa0 (wt_8_0 oa0).1 dX8_answer_10 ?_
    refine r_getI (pc := 13) fg_8_23 rfl o_2 dX8_answer_13 ?_
    refine r_iadd (pc := 16) dX8_answer_16 ?_
    refine r_icmp_ge (pc := 17) (tgt := 33) dX8_answer_17 (by decide) rfl rfl (fun c_3 => ?_) (fun c_3 => ?_)
    · replace h := (if_pos c_3).symm.trans h
      refine r_sub (lv' := [(0, .ref (gA G a0)), (1, .int (eI x1))]) [0, 1] rfl ?_
      exact bX8_answer_b33 a0 x1 M oa0 h
    · replace h := (if_neg c_3).symm.trans h
      refine r_aload_n (pc := 20) (i := 0) dX8_answer_20 rfl 0 rfl ?_
      have o_4 := (wt_8_0 oa0).2
      refine r_getR (pc := 21) fg_8_14 rfl oa0 (wt_8_0 oa0).1 dX8_answer_21 ?_
      have o_5 := (wt_3_2 o_4).2
      refine r_getR (pc := 24) fg_8_31 rfl o_4 (wt_3_2 o_4).1 dX8_answer_24 ?_
      refine r_iload_n (pc := 27) (i := 1) dX8_answer_27 rfl 1 rfl ?_
      refine r_bipush (pc := 28) (v := 10) dX8_answer_28 (by decide +kernel) ?_
      refine r_isub (pc := 30) dX8_answer_30 ?_
      obtain ⟨c_6, h⟩ := og h
      refine r_iald (pc := 31) o_5 rfl c_6 rfl dX8_answer_31 ?_
      cases h
      exact r_iret (pc := 32) rfl rfl (Nat.le_refl 0) (Nat.le_refl 0) dX8_answer_32
theorem kX8_answer {G : GG} (a0 : Nat) (x1 : Int) (M : MM) {res : Int} (oa0 : OB L0 a0 8) (h : sX8_answer a0 x1 M = some res) : CO G xX8_answer [.ref (gA G a0), .int (eI x1)] L0 M (some (.int (eI res))) L0 M := CO_of (by decide +kernel) (Nat.le_of_ble_eq_true rfl) (bX8_answer_b0 a0 x1 M oa0 h)
abbrev xX8_copy : XX := (yX8_copy, cX8_copy, 2, none, 2, 47, 0, 0)
theorem ck_X8_copy_51 : CKV xX8_copy 51 xX3_copy 1 := ⟨⟨tb_i 857 (by decide +kernel) (by decide +kernel), tb_i 142 (by decide +kernel) (by decide +kernel), tb_i 845 (by decide +kernel) (by decide +kernel), ⟨by decide +kernel, by decide +kernel, by decide +kernel⟩, by decide, by decide⟩, tb_i 843 (by decide +kernel) (by decide +kernel), tb_i 844 (by decide +kernel) (by decide +kernel)⟩
def sX8_copy_b0 (a0 : Nat) (a1 : Nat)   (M : MM) : Option MM := ((sX3_copy (gR a0 0) (gR a1 0) M).bind fun q_3 => ((sX3_copy (gR a0 1) (gR a1 1) q_3).bind fun q_6 => (some (q_6))))
def sX8_copy (a0 : Nat) (a1 : Nat) (M : MM) : Option MM := sX8_copy_b0 a0 a1 M
set_option maxHeartbeats 4000000 in
set_option maxRecDepth 100000 in
theorem bX8_copy_b0 {G : GG} (a0 : Nat) (a1 : Nat) (oa0 : OB L0 a0 8) (oa1 : OB L0 a1 8)  (M : MM) {res : MM}  (h : sX8_copy_b0 a0 a1 M = some res) : VV G xX8_copy (ZM G xX8_copy (none) L0 res) L0 M 0 0 0 [(0, .ref (gA G a0)), (1, .ref (gA G a1))] [] := by
  unfold sX8_copy_b0 at h
  refine r_aload_n (pc := 0) (i := 0) dX8_copy_0 rfl 0 rfl ?_
  have o_1 := (wt_8_0 oa0).2
  refine r_getR (pc := 1) fg_8_14 rfl oa0 (wt_8_0 oa0).1 dX8_copy_1 ?_
  refine r_aload_n (pc := 4) (i := 1) dX8_copy_4 rfl 1 rfl ?_
  have o_2 := (wt_8_0 oa1).2
  refine r_getR (pc := 5) fg_8_14 rfl oa1 (wt_8_0 oa1).1 dX8_copy_5 ?_
  obtain ⟨q_3, hq_3, h⟩ := ob h
  refine r_cV (pc := 8) (Y := xX3_copy) (As := [.ref (gA G (gR a1 0))]) (rest := []) (v := none) (st1 := []) ck_X8_copy_51 (kX3_copy (gR a0 0) (gR a1 0) M o_1 o_2 hq_3) o_1 rfl rfl rfl rfl (Nat.le_of_ble_eq_true rfl) ⟨rfl, rfl⟩ rfl dX8_copy_8 ?_
  refine r_aload_n (pc := 11) (i := 0) dX8_copy_11 rfl 0 rfl ?_
  have o_4 := (wt_8_1 oa0).2
  refine r_getR (pc := 12) fg_8_20 rfl oa0 (wt_8_1 oa0).1 dX8_copy_12 ?_
  refine r_aload_n (pc := 15) (i := 1) dX8_copy_15 rfl 1 rfl ?_
  have o_5 := (wt_8_1 oa1).2
  refine r_getR (pc := 16) fg_8_20 rfl oa1 (wt_8_1 oa1).1 dX8_copy_16 ?_
  obtain ⟨q_6, hq_6, h⟩ := ob h
  refine r_cV (pc := 19) (Y := xX3_copy) (As := [.ref (gA G (gR a1 1))]) (rest := []) (v := none) (st1 := []) ck_X8_copy_51 (kX3_copy (gR a0 1) (gR a1 1) q_3 o_4 o_5 hq_6) o_4 rfl rfl rfl rfl (Nat.le_of_ble_eq_true rfl) ⟨rfl, rfl⟩ rfl dX8_copy_19 ?_
  cases h
  exact r_vret (pc := 22) rfl (Nat.le_refl 0) (Nat.le_refl 0) dX8_copy_22
theorem kX8_copy {G : GG} (a0 : Nat) (a1 : Nat) (M : MM) {res : MM} (oa0 : OB L0 a0 8) (oa1 : OB L0 a1 8) (h : sX8_copy a0 a1 M = some res) : CO G xX8_copy [.ref (gA G a0), .ref (gA G a1)] L0 M (none) L0 res := CO_of (by decide +kernel) (Nat.le_of_ble_eq_true rfl) (bX8_copy_b0 a0 a1 oa0 oa1 M h)
