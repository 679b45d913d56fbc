abbrev xX0_below : XX := (yX0_below, cX0_below, 2, (some .int), 0, 0, 0, 0)
def sX0_below_b0 (a0 : Nat) (x1 : Int)   (M : MM) : Option (Int × MM) := ((some (mU M a0 0 (((M a0 0) * 1103515245) + 12345))).bind fun M_1 => (if wI x1 ≤ 0 then (some ((0, M_1))) else (if wI x1 ≠ 0 then (some (((Int.tmod (wI ((M_1 a0 0) % 4294967296 / 2 ^ (Int.toNat 16))) (wI x1)), M_1))) else none)))
def sX0_below (a0 : Nat) (x1 : Int) (M : MM) : Option (Int × MM) := sX0_below_b0 a0 x1 M
set_option maxHeartbeats 4000000 in
set_option maxRecDepth 100000 in
theorem bX0_below_b0 {G : GG} (a0 : Nat) (x1 : Int) (oa0 : OB L0 a0 0)  (M : MM) {res : (Int × MM)}  (h : sX0_below_b0 a0 x1 M = some res) : VV G xX0_below (ZM G xX0_below (some (.int (eI res.1))) L0 res.2) L0 M 0 0 0 [(0, .ref (gA G a0)), (1, .int (eI x1))] [] := by
  unfold sX0_below_b0 at h
  refine r_aload_n (pc := 0) (i := 0) dX0_below_0 rfl 0 rfl ?_
  refine r_aload_n (pc := 1) (i := 0) dX0_below_1 rfl 0 rfl ?_
  refine r_getI (pc := 2) fg_0_9 rfl oa0 dX0_below_2 ?_
  refine r_ldc (pc := 5) (v := 1103515245) kc_0_65 dX0_below_5 ?_
  refine r_imul (pc := 7) dX0_below_7 ?_
  refine r_sipush (pc := 8) (v := 12345) dX0_below_8 (by decide +kernel) ?_
  refine r_iadd (pc := 11) dX0_below_11 ?_
  obtain ⟨M_1, hM_1, h⟩ := ob h
  refine r_putI (pc := 12) fg_0_9 rfl oa0 hM_1 rfl rfl dX0_below_12 ?_
  refine r_iload_n (pc := 15) (i := 1) dX0_below_15 rfl 1 rfl ?_
  refine r_if_le (pc := 16) (tgt := 31) dX0_below_16 (by decide) rfl (fun c_2 => ?_) (fun c_2 => ?_)
  · replace h := (if_pos c_2).symm.trans h
    refine r_iconst (pc := 31) (v := 0) dX0_below_31 (by decide +kernel) ?_
    cases h
    exact r_iret (pc := 32) rfl rfl (Nat.le_refl 0) (Nat.le_refl 0) dX0_below_32
  · replace h := (if_neg c_2).symm.trans h
    refine r_aload_n (pc := 19) (i := 0) dX0_below_19 rfl 0 rfl ?_
    refine r_getI (pc := 20) fg_0_9 rfl oa0 dX0_below_20 ?_
    refine r_bipush (pc := 23) (v := 16) dX0_below_23 (by decide +kernel) ?_
    refine r_iushr (pc := 25) wl_16 ⟨by decide, by decide⟩ dX0_below_25 ?_
    refine r_iload_n (pc := 26) (i := 1) dX0_below_26 rfl 1 rfl ?_
    obtain ⟨c_3, h⟩ := og h
    refine r_irem (pc := 27) dX0_below_27 rfl rfl c_3 ?_
    refine r_goto (pc := 28) (tgt := 32) dX0_below_28 (by decide) ?_
    cases h
    exact r_iret (pc := 32) rfl rfl (Nat.le_refl 0) (Nat.le_refl 0) dX0_below_32
theorem kX0_below {G : GG} (a0 : Nat) (x1 : Int) (M : MM) {res : (Int × MM)} (oa0 : OB L0 a0 0) (h : sX0_below a0 x1 M = some res) : CO G xX0_below [.ref (gA G a0), .int (eI x1)] L0 M (some (.int (eI res.1))) L0 res.2 := CO_of (by decide +kernel) (Nat.le_of_ble_eq_true rfl) (bX0_below_b0 a0 x1 oa0 M h)
abbrev xX0_goes : XX := (yX0_goes, cX0_goes, 5, none, 1, 23, 0, 0)
theorem ck_X0_goes_49 : CKV xX0_goes 49 xX0_below 1 := ⟨⟨tb_i 1360 (by decide +kernel) (by decide +kernel), tb_i 151 (by decide +kernel) (by decide +kernel), tb_i 1363 (by decide +kernel) (by decide +kernel), ⟨by decide +kernel, by decide +kernel, by decide +kernel⟩, by decide, by decide⟩, tb_i 1362 (by decide +kernel) (by decide +kernel), tb_i 45 (by decide +kernel) (by decide +kernel)⟩
def sX0_goes_b108 (a0 : Nat) (a1 : Nat) (x2 : Int) (K22 : Int → Int → MM → Option MM) (x3 : Int) (x4 : Int) (M : MM) : Option MM := ((some (x4 + 1)).bind fun v_1 => (K22 x3 v_1 M))
def sX0_goes_b96 (a0 : Nat) (a1 : Nat) (x2 : Int) (K22 : Int → Int → MM → Option MM) (x3 : Int) (x4 : Int) (M : MM) : Option MM := (if wI (M a0 3) = 0 then ((some (mU M a0 1 x2)).bind fun M_2 => (sX0_goes_b108 a0 a1 x2 K22 x3 x4 M_2)) else (sX0_goes_b108 a0 a1 x2 K22 x3 x4 M))
def sX0_goes_b91 (a0 : Nat) (a1 : Nat) (x2 : Int) (K22 : Int → Int → MM → Option MM) (x4 : Int) (a90 : Nat) (x91 : Int) (M : MM) : Option MM := ((some (mU M a90 3 x91)).bind fun M_1 => (sX0_goes_b96 a0 a1 x2 K22 0 x4 M_1))
def sX0_goes_b22 (a0 : Nat) (a1 : Nat) (x2 : Int)  : Nat → Int → Int → MM → Option MM
  | 0, _, _, _ => none
  | n + 1, x3, x4, M => (if wI (M a1 12) ≤ wI x4 then (some (M)) else (if wI (M a0 1) = (-1) then ((some (mU M a0 2 ((M a0 2) + 1))).bind fun M_3 => ((sX0_below a0 10 M_3).bind fun q_4 => (if 0 ≤ wI x2 ∧ wI x2 < 8 then (if wI (q_4.2 (gR a1 6) (wI x2).toNat) ≤ wI (q_4.1) then (sX0_goes_b96 a0 a1 x2 (fun x3 x4 M => sX0_goes_b22 a0 a1 x2 n x3 x4 M) x3 x4 q_4.2) else (if wI x3 = 0 then (if 0 ≤ wI x2 ∧ wI x2 < 8 then (sX0_goes_b91 a0 a1 x2 (fun x3 x4 M => sX0_goes_b22 a0 a1 x2 n x3 x4 M) x4 a0 (max 0 (wI ((q_4.2 a0 3) - (q_4.2 (gR a1 5) (wI x2).toNat)))) q_4.2) else none) else (sX0_goes_b91 a0 a1 x2 (fun x3 x4 M => sX0_goes_b22 a0 a1 x2 n x3 x4 M) x4 a0 (q_4.2 a0 3) q_4.2))) else none))) else (some (M))))
def sX0_goes_b18 (a0 : Nat) (a1 : Nat) (x2 : Int)  (x90 : Int) (M : MM) : Option MM := (sX0_goes_b22 a0 a1 x2 FU x90 0 M)
def sX0_goes_b0 (a0 : Nat) (a1 : Nat) (x2 : Int)   (M : MM) : Option MM := (if 0 ≤ wI x2 ∧ wI x2 < 8 then (if wI (M (gR a1 4) (wI x2).toNat) < wI (M a1 13) then (sX0_goes_b18 a0 a1 x2 0 M) else (sX0_goes_b18 a0 a1 x2 1 M)) else none)
def sX0_goes (a0 : Nat) (a1 : Nat) (x2 : Int) (M : MM) : Option MM := sX0_goes_b0 a0 a1 x2 M
set_option maxHeartbeats 4000000 in
set_option maxRecDepth 100000 in
theorem bX0_goes_b108 {G : GG} (a0 : Nat) (a1 : Nat) (x2 : Int) (oa0 : OB L0 a0 0) (oa1 : OB L0 a1 5) {K22 : Int → Int → MM → Option MM} (x3 : Int) (x4 : Int) (M : MM) {res : MM} (hK22 : ∀ (x3 : Int) (x4 : Int) (M : MM), K22 x3 x4 M = some res → VV G xX0_goes (ZM G xX0_goes (none) L0 res) L0 M 0 0 22 [(0, .ref (gA G a0)), (1, .ref (gA G a1)), (2, .int (eI x2)), (3, .int (eI x3)), (4, .int (eI x4))] [])  (h : sX0_goes_b108 a0 a1 x2 K22 x3 x4 M = some res) : VV G xX0_goes (ZM G xX0_goes (none) L0 res) L0 M 0 0 108 [(0, .ref (gA G a0)), (1, .ref (gA G a1)), (2, .int (eI x2)), (3, .int (eI x3)), (4, .int (eI x4))] [] := by
  unfold sX0_goes_b108 at h
  obtain ⟨v_1, hv_1, h⟩ := ob h
  refine r_iinc (pc := 108) (y := v_1) (lv' := [(4, .int (eI v_1)), (0, .ref (gA G a0)), (1, .ref (gA G a1)), (2, .int (eI x2)), (3, .int (eI x3))]) dX0_goes_108 4 rfl (Option.some.inj hv_1) (Nat.le_of_ble_eq_true rfl) rfl ?_
  refine r_goto (pc := 111) (tgt := 22) dX0_goes_111 (by decide) ?_
  refine r_sub (lv' := [(0, .ref (gA G a0)), (1, .ref (gA G a1)), (2, .int (eI x2)), (3, .int (eI x3)), (4, .int (eI v_1))]) [1, 2, 3, 4, 0] rfl ?_
  exact hK22 _ _ _ h
set_option maxHeartbeats 4000000 in
set_option maxRecDepth 100000 in
theorem bX0_goes_b96 {G : GG} (a0 : Nat) (a1 : Nat) (x2 : Int) (oa0 : OB L0 a0 0) (oa1 : OB L0 a1 5) {K22 : Int → Int → MM → Option MM} (x3 : Int) (x4 : Int) (M : MM) {res : MM} (hK22 : ∀ (x3 : Int) (x4 : Int) (M : MM), K22 x3 x4 M = some res → VV G xX0_goes (ZM G xX0_goes (none) L0 res) L0 M 0 0 22 [(0, .ref (gA G a0)), (1, .ref (gA G a1)), (2, .int (eI x2)), (3, .int (eI x3)), (4, .int (eI x4))] [])  (h : sX0_goes_b96 a0 a1 x2 K22 x3 x4 M = some res) : VV G xX0_goes (ZM G xX0_goes (none) L0 res) L0 M 0 0 96 [(0, .ref (gA G a0)), (1, .ref (gA G a1)), (2, .int (eI x2)), (3, .int (eI x3)), (4, .int (eI x4))] [] := by
  unfold sX0_goes_b96 at h
  refine r_aload_n (pc := 96) (i := 0) dX0_goes_96 rfl 0 rfl ?_
  refine r_getI (pc := 97) fg_0_27 rfl oa0 dX0_goes_97 ?_
  refine r_if_ne (pc := 100) (tgt := 108) dX0_goes_100 (by decide) rfl (fun c_1 => ?_) (fun c_1 => ?_)
  · replace h := (if_neg c_1).symm.trans h
    refine r_sub (lv' := [(0, .ref (gA G a0)), (1, .ref (gA G a1)), (2, .int (eI x2)), (3, .int (eI x3)), (4, .int (eI x4))]) [0, 1, 2, 3, 4] rfl ?_
    exact bX0_goes_b108 a0 a1 x2 oa0 oa1 _ _ _ hK22 h
  · replace h := (if_pos c_1).symm.trans h
    refine r_aload_n (pc := 103) (i := 0) dX0_goes_103 rfl 0 rfl ?_
    refine r_iload_n (pc := 104) (i := 2) dX0_goes_104 rfl 2 rfl ?_
    obtain ⟨M_2, hM_2, h⟩ := ob h
    refine r_putI (pc := 105) fg_0_15 rfl oa0 hM_2 rfl rfl dX0_goes_105 ?_
    refine r_sub (lv' := [(0, .ref (gA G a0)), (1, .ref (gA G a1)), (2, .int (eI x2)), (3, .int (eI x3)), (4, .int (eI x4))]) [0, 1, 2, 3, 4] rfl ?_
    exact bX0_goes_b108 a0 a1 x2 oa0 oa1 _ _ _ hK22 h
set_option maxHeartbeats 4000000 in
set_option maxRecDepth 100000 in
theorem bX0_goes_b91 {G : GG} (a0 : Nat) (a1 : Nat) (x2 : Int) (oa0 : OB L0 a0 0) (oa1 : OB L0 a1 5) {K22 : Int → Int → MM → Option MM} (x4 : Int) (a90 : Nat) (x91 : Int) (M : MM) {res : MM} (hK22 : ∀ (x3 : Int) (x4 : Int) (M : MM), K22 x3 x4 M = some res → VV G xX0_goes (ZM G xX0_goes (none) L0 res) L0 M 0 0 22 [(0, .ref (gA G a0)), (1, .ref (gA G a1)), (2, .int (eI x2)), (3, .int (eI x3)), (4, .int (eI x4))] []) (oa90 : OB L0 a90 0) (h : sX0_goes_b91 a0 a1 x2 K22 x4 a90 x91 M = some res) : VV G xX0_goes (ZM G xX0_goes (none) L0 res) L0 M 0 0 91 [(0, .ref (gA G a0)), (1, .ref (gA G a1)), (2, .int (eI x2)), (4, .int (eI x4))] [.int (eI x91), .ref (gA G a90)] := by
  unfold sX0_goes_b91 at h
  obtain ⟨M_1, hM_1, h⟩ := ob h
  refine r_putI (pc := 91) fg_0_27 rfl oa90 hM_1 rfl rfl dX0_goes_91 ?_
  refine r_iconst (pc := 94) (v := 0) dX0_goes_94 (by decide +kernel) ?_
  refine r_istore_n (pc := 95) (i := 3) (lv' := [(3, .int (eI 0)), (0, .ref (gA G a0)), (1, .ref (gA G a1)), (2, .int (eI x2)), (4, .int (eI x4))]) dX0_goes_95 rfl (Nat.le_of_ble_eq_true rfl) rfl ?_
  refine r_sub (lv' := [(0, .ref (gA G a0)), (1, .ref (gA G a1)), (2, .int (eI x2)), (3, .int (eI 0)), (4, .int (eI x4))]) [1, 2, 3, 0, 4] rfl ?_
  exact bX0_goes_b96 a0 a1 x2 oa0 oa1 _ _ _ hK22 h
set_option maxHeartbeats 4000000 in
set_option maxRecDepth 100000 in
theorem bX0_goes_b22 {G : GG} (a0 : Nat) (a1 : Nat) (x2 : Int) (oa0 : OB L0 a0 0) (oa1 : OB L0 a1 5) {res : MM} : ∀ (n : Nat) (x3 : Int) (x4 : Int) (M : MM)  (h : sX0_goes_b22 a0 a1 x2 n x3 x4 M = some res), VV G xX0_goes (ZM G xX0_goes (none) L0 res) L0 M 0 0 22 [(0, .ref (gA G a0)), (1, .ref (gA G a1)), (2, .int (eI x2)), (3, .int (eI x3)), (4, .int (eI x4))] [] := by
  intro n
  induction n with
  | zero =>
    intro x3 x4 M h
    rw [sX0_goes_b22] at h
    cases h
  | succ n ih =>
    intro x3 x4 M h
    rw [sX0_goes_b22] at h
    refine r_iload (pc := 22) dX0_goes_22 4 rfl ?_
    refine r_aload_n (pc := 24) (i := 1) dX0_goes_24 rfl 1 rfl ?_
    refine r_getI (pc := 25) fg_0_72 rfl oa1 dX0_goes_25 ?_
    refine r_icmp_ge (pc := 28) (tgt := 114) dX0_goes_28 (by decide) rfl rfl (fun c_1 => ?_) (fun c_1 => ?_)
    · replace h := (if_pos c_1).symm.trans h
      cases h
      exact r_vret (pc := 114) rfl (Nat.le_refl 0) (Nat.le_refl 0) dX0_goes_114
    · replace h := (if_neg c_1).symm.trans h
      refine r_aload_n (pc := 31) (i := 0) dX0_goes_31 rfl 0 rfl ?_
      refine r_getI (pc := 32) fg_0_15 rfl oa0 dX0_goes_32 ?_
      refine r_iconst (pc := 35) (v := (-1)) dX0_goes_35 (by decide +kernel) ?_
      refine r_icmp_ne (pc := 36) (tgt := 114) dX0_goes_36 (by decide) rfl wl_m1 (fun c_2 => ?_) (fun c_2 => ?_)
      · replace h := (if_neg c_2).symm.trans h
        cases h
        exact r_vret (pc := 114) rfl (Nat.le_refl 0) (Nat.le_refl 0) dX0_goes_114
      · replace h := (if_pos c_2).symm.trans h
        refine r_aload_n (pc := 39) (i := 0) dX0_goes_39 rfl 0 rfl ?_
        refine r_dup (pc := 40) dX0_goes_40 rfl ?_
        refine r_getI (pc := 41) fg_0_18 rfl oa0 dX0_goes_41 ?_
        refine r_iconst (pc := 44) (v := 1) dX0_goes_44 (by decide +kernel) ?_
        refine r_iadd (pc := 45) dX0_goes_45 ?_
        obtain ⟨M_3, hM_3, h⟩ := ob h
        refine r_putI (pc := 46) fg_0_18 rfl oa0 hM_3 rfl rfl dX0_goes_46 ?_
        refine r_aload_n (pc := 49) (i := 0) dX0_goes_49 rfl 0 rfl ?_
        refine r_bipush (pc := 50) (v := 10) dX0_goes_50 (by decide +kernel) ?_
        obtain ⟨q_4, hq_4, h⟩ := ob h
        refine r_cV (pc := 52) (Y := xX0_below) (As := [.int (eI 10)]) (rest := []) (v := (some (.int (eI (q_4.1))))) (st1 := [.int (eI (q_4.1))]) ck_X0_goes_49 (kX0_below a0 10 M_3 oa0 hq_4) oa0 rfl rfl rfl rfl (Nat.le_of_ble_eq_true rfl) ⟨rfl, rfl⟩ rfl dX0_goes_52 ?_
        refine r_aload_n (pc := 55) (i := 1) dX0_goes_55 rfl 1 rfl ?_
        have o_5 := (wt_5_6 oa1).2
        refine r_getR (pc := 56) fg_0_75 rfl oa1 (wt_5_6 oa1).1 dX0_goes_56 ?_
        refine r_iload_n (pc := 59) (i := 2) dX0_goes_59 rfl 2 rfl ?_
        obtain ⟨c_6, h⟩ := og h
        refine r_iald (pc := 60) o_5 rfl c_6 rfl dX0_goes_60 ?_
        refine r_icmp_ge (pc := 61) (tgt := 96) dX0_goes_61 (by decide) rfl rfl (fun c_7 => ?_) (fun c_7 => ?_)
        · replace h := (if_pos c_7).symm.trans h
          refine r_sub (lv' := [(0, .ref (gA G a0)), (1, .ref (gA G a1)), (2, .int (eI x2)), (3, .int (eI x3)), (4, .int (eI x4))]) [0, 1, 2, 3, 4] rfl ?_
          exact bX0_goes_b96 a0 a1 x2 oa0 oa1 _ _ _ (fun v0 v1 v2 v3 => ih v0 v1 v2 v3) h
        · replace h := (if_neg c_7).symm.trans h
          refine r_aload_n (pc := 64) (i := 0) dX0_goes_64 rfl 0 rfl ?_
          refine r_iload_n (pc := 65) (i := 3) dX0_goes_65 rfl 3 rfl ?_
          refine r_if_eq (pc := 66) (tgt := 76) dX0_goes_66 (by decide) rfl (fun c_8 => ?_) (fun c_8 => ?_)
          · replace h := (if_pos c_8).symm.trans h
            refine r_iconst (pc := 76) (v := 0) dX0_goes_76 (by decide +kernel) ?_
            refine r_aload_n (pc := 77) (i := 0) dX0_goes_77 rfl 0 rfl ?_
            refine r_getI (pc := 78) fg_0_27 rfl oa0 dX0_goes_78 ?_
            refine r_aload_n (pc := 81) (i := 1) dX0_goes_81 rfl 1 rfl ?_
            have o_9 := (wt_5_5 oa1).2
            refine r_getR (pc := 82) fg_0_78 rfl oa1 (wt_5_5 oa1).1 dX0_goes_82 ?_
            refine r_iload_n (pc := 85) (i := 2) dX0_goes_85 rfl 2 rfl ?_
            obtain ⟨c_10, h⟩ := og h
            refine r_iald (pc := 86) o_9 rfl c_10 rfl dX0_goes_86 ?_
            refine r_isub (pc := 87) dX0_goes_87 ?_
            refine r_mmax (pc := 88) ml_0_81 ⟨Nat.le_of_ble_eq_true rfl, Nat.le_of_ble_eq_true rfl, Nat.le_of_ble_eq_true rfl, Nat.le_of_ble_eq_true rfl⟩ wl_0 rfl dX0_goes_88 ?_
            refine r_sub (lv' := [(0, .ref (gA G a0)), (1, .ref (gA G a1)), (2, .int (eI x2)), (4, .int (eI x4))]) [0, 1, 2, 4] rfl ?_
            exact bX0_goes_b91 a0 a1 x2 oa0 oa1 _ _ _ _ (fun v0 v1 v2 v3 => ih v0 v1 v2 v3) oa0 h
          · replace h := (if_neg c_8).symm.trans h
            refine r_aload_n (pc := 69) (i := 0) dX0_goes_69 rfl 0 rfl ?_
            refine r_getI (pc := 70) fg_0_27 rfl oa0 dX0_goes_70 ?_
            refine r_goto (pc := 73) (tgt := 91) dX0_goes_73 (by decide) ?_
            refine r_sub (lv' := [(0, .ref (gA G a0)), (1, .ref (gA G a1)), (2, .int (eI x2)), (4, .int (eI x4))]) [0, 1, 2, 4] rfl ?_
            exact bX0_goes_b91 a0 a1 x2 oa0 oa1 _ _ _ _ (fun v0 v1 v2 v3 => ih v0 v1 v2 v3) oa0 h
set_option maxHeartbeats 4000000 in
set_option maxRecDepth 100000 in
theorem bX0_goes_b18 {G : GG} (a0 : Nat) (a1 : Nat) (x2 : Int) (oa0 : OB L0 a0 0) (oa1 : OB L0 a1 5) (x90 : Int) (M : MM) {res : MM}  (h : sX0_goes_b18 a0 a1 x2 x90 M = some res) : VV G xX0_goes (ZM G xX0_goes (none) L0 res) L0 M 0 0 18 [(0, .ref (gA G a0)), (1, .ref (gA G a1)), (2, .int (eI x2))] [.int (eI x90)] := by
  unfold sX0_goes_b18 at h
  refine r_istore_n (pc := 18) (i := 3) (lv' := [(3, .int (eI x90)), (0, .ref (gA G a0)), (1, .ref (gA G a1)), (2, .int (eI x2))]) dX0_goes_18 rfl (Nat.le_of_ble_eq_true rfl) rfl ?_
  refine r_iconst (pc := 19) (v := 0) dX0_goes_19 (by decide +kernel) ?_
  refine r_istore (pc := 20) (lv' := [(4, .int (eI 0)), (3, .int (eI x90)), (0, .ref (gA G a0)), (1, .ref (gA G a1)), (2, .int (eI x2))]) dX0_goes_20 (Nat.le_of_ble_eq_true rfl) rfl ?_
  refine r_sub (lv' := [(0, .ref (gA G a0)), (1, .ref (gA G a1)), (2, .int (eI x2)), (3, .int (eI x90)), (4, .int (eI 0))]) [2, 3, 4, 1, 0] rfl ?_
  exact bX0_goes_b22 a0 a1 x2 oa0 oa1 _ _ _ _ h
set_option maxHeartbeats 4000000 in
set_option maxRecDepth 100000 in
theorem bX0_goes_b0 {G : GG} (a0 : Nat) (a1 : Nat) (x2 : Int) (oa0 : OB L0 a0 0) (oa1 : OB L0 a1 5)  (M : MM) {res : MM}  (h : sX0_goes_b0 a0 a1 x2 M = some res) : VV G xX0_goes (ZM G xX0_goes (none) L0 res) L0 M 0 0 0 [(0, .ref (gA G a0)), (1, .ref (gA G a1)), (2, .int (eI x2))] [] := by
  unfold sX0_goes_b0 at h
  refine r_aload_n (pc := 0) (i := 1) dX0_goes_0 rfl 1 rfl ?_
  have o_1 := (wt_5_4 oa1).2
  refine r_getR (pc := 1) fg_0_66 rfl oa1 (wt_5_4 oa1).1 dX0_goes_1 ?_
  refine r_iload_n (pc := 4) (i := 2) dX0_goes_4 rfl 2 rfl ?_
  obtain ⟨c_2, h⟩ := og h
  refine r_iald (pc := 5) o_1 rfl c_2 rfl dX0_goes_5 ?_
  refine r_aload_n (pc := 6) (i := 1) dX0_goes_6 rfl 1 rfl ?_
  refine r_getI (pc := 7) fg_0_69 rfl oa1 dX0_goes_7 ?_
  refine r_icmp_lt (pc := 10) (tgt := 17) dX0_goes_10 (by decide) rfl rfl (fun c_3 => ?_) (fun c_3 => ?_)
  · replace h := (if_pos c_3).symm.trans h
    refine r_iconst (pc := 17) (v := 0) dX0_goes_17 (by decide +kernel) ?_
    refine r_sub (lv' := [(0, .ref (gA G a0)), (1, .ref (gA G a1)), (2, .int (eI x2))]) [0, 1, 2] rfl ?_
    exact bX0_goes_b18 a0 a1 x2 oa0 oa1 _ _ h
  · replace h := (if_neg c_3).symm.trans h
    refine r_iconst (pc := 13) (v := 1) dX0_goes_13 (by decide +kernel) ?_
    refine r_goto (pc := 14) (tgt := 18) dX0_goes_14 (by decide) ?_
    refine r_sub (lv' := [(0, .ref (gA G a0)), (1, .ref (gA G a1)), (2, .int (eI x2))]) [0, 1, 2] rfl ?_
    exact bX0_goes_b18 a0 a1 x2 oa0 oa1 _ _ h
theorem kX0_goes {G : GG} (a0 : Nat) (a1 : Nat) (x2 : Int) (M : MM) {res : MM} (oa0 : OB L0 a0 0) (oa1 : OB L0 a1 5) (h : sX0_goes a0 a1 x2 M = some res) : CO G xX0_goes [.ref (gA G a0), .ref (gA G a1), .int (eI x2)] L0 M (none) L0 res := CO_of (by decide +kernel) (Nat.le_of_ble_eq_true rfl) (bX0_goes_b0 a0 a1 x2 oa0 oa1 M h)
abbrev xX10_emptyBags : XX := (yX10_emptyBags, cX10_emptyBags, 2, none, 0, 0, 0, 0)
def sX10_emptyBags_b2 (a0 : Nat)  : Nat → Int → MM → Option MM
  | 0, _, _ => none
  | n + 1, x1, M => (if 8 ≤ wI x1 then (some (M)) else (if 0 ≤ wI x1 ∧ wI x1 < 8 then ((some (mU M (gR a0 0) (wI x1).toNat 0)).bind fun M_4 => ((some (x1 + 1)).bind fun v_5 => (sX10_emptyBags_b2 a0 n v_5 M_4))) else none))
def sX10_emptyBags_b0 (a0 : Nat)   (M : MM) : Option MM := (sX10_emptyBags_b2 a0 FU 0 M)
def sX10_emptyBags (a0 : Nat) (M : MM) : Option MM := sX10_emptyBags_b0 a0 M
set_option maxHeartbeats 4000000 in
set_option maxRecDepth 100000 in
theorem bX10_emptyBags_b2 {G : GG} (a0 : Nat) (oa0 : OB L0 a0 10) {res : MM} : ∀ (n : Nat) (x1 : Int) (M : MM)  (h : sX10_emptyBags_b2 a0 n x1 M = some res), VV G xX10_emptyBags (ZM G xX10_emptyBags (none) L0 res) L0 M 0 0 2 [(0, .ref (gA G a0)), (1, .int (eI x1))] [] := by
  intro n
  induction n with
  | zero =>
    intro x1 M h
    rw [sX10_emptyBags_b2] at h
    cases h
  | succ n ih =>
    intro x1 M h
    rw [sX10_emptyBags_b2] at h
    refine r_iload_n (pc := 2) (i := 1) dX10_emptyBags_2 rfl 1 rfl ?_
    refine r_bipush (pc := 3) (v := 8) dX10_emptyBags_3 (by decide +kernel) ?_
    refine r_icmp_ge (pc := 5) (tgt := 21) dX10_emptyBags_5 (by decide) rfl wl_8 (fun c_1 => ?_) (fun c_1 => ?_)
    · replace h := (if_pos c_1).symm.trans h
      cases h
      exact r_vret (pc := 21) rfl (Nat.le_refl 0) (Nat.le_refl 0) dX10_emptyBags_21
    · replace h := (if_neg c_1).symm.trans h
      refine r_aload_n (pc := 8) (i := 0) dX10_emptyBags_8 rfl 0 rfl ?_
      have o_2 := (wt_10_0 oa0).2
      refine r_getR (pc := 9) fg_10_9 rfl oa0 (wt_10_0 oa0).1 dX10_emptyBags_9 ?_
      refine r_iload_n (pc := 12) (i := 1) dX10_emptyBags_12 rfl 1 rfl ?_
      refine r_iconst (pc := 13) (v := 0) dX10_emptyBags_13 (by decide +kernel) ?_
      obtain ⟨c_3, h⟩ := og h
      obtain ⟨M_4, hM_4, h⟩ := ob h
      refine r_iast (pc := 14) o_2 rfl c_3 rfl hM_4 dX10_emptyBags_14 ?_
      obtain ⟨v_5, hv_5, h⟩ := ob h
      refine r_iinc (pc := 15) (y := v_5) (lv' := [(1, .int (eI v_5)), (0, .ref (gA G a0))]) dX10_emptyBags_15 1 rfl (Option.some.inj hv_5) (Nat.le_of_ble_eq_true rfl) rfl ?_
      refine r_goto (pc := 18) (tgt := 2) dX10_emptyBags_18 (by decide) ?_
      refine r_sub (lv' := [(0, .ref (gA G a0)), (1, .int (eI v_5))]) [1, 0] rfl ?_
      exact ih _ _ h
set_option maxHeartbeats 4000000 in
set_option maxRecDepth 100000 in
theorem bX10_emptyBags_b0 {G : GG} (a0 : Nat) (oa0 : OB L0 a0 10)  (M : MM) {res : MM}  (h : sX10_emptyBags_b0 a0 M = some res) : VV G xX10_emptyBags (ZM G xX10_emptyBags (none) L0 res) L0 M 0 0 0 [(0, .ref (gA G a0))] [] := by
  unfold sX10_emptyBags_b0 at h
  refine r_iconst (pc := 0) (v := 0) dX10_emptyBags_0 (by decide +kernel) ?_
  refine r_istore_n (pc := 1) (i := 1) (lv' := [(1, .int (eI 0)), (0, .ref (gA G a0))]) dX10_emptyBags_1 rfl (Nat.le_of_ble_eq_true rfl) rfl ?_
  refine r_sub (lv' := [(0, .ref (gA G a0)), (1, .int (eI 0))]) [1, 0] rfl ?_
  exact bX10_emptyBags_b2 a0 oa0 _ _ _ h
theorem kX10_emptyBags {G : GG} (a0 : Nat) (M : MM) {res : MM} (oa0 : OB L0 a0 10) (h : sX10_emptyBags a0 M = some res) : CO G xX10_emptyBags [.ref (gA G a0)] L0 M (none) L0 res := CO_of (by decide +kernel) (Nat.le_of_ble_eq_true rfl) (bX10_emptyBags_b0 a0 oa0 M h)
abbrev xX11_stepsBetween : XX := (yX11_stepsBetween, cX11_stepsBetween, 4, (some .int), 1, 23, 0, 0)
def sX11_stepsBetween_b0 (x0 : Int) (x1 : Int)   : Option Int := ((some (if 0 ≤ wI ((Int.tdiv (wI x0) 5) - (Int.tdiv (wI x1) 5)) then wI ((Int.tdiv (wI x0) 5) - (Int.tdiv (wI x1) 5)) else -(wI ((Int.tdiv (wI x0) 5) - (Int.tdiv (wI x1) 5))))).bind fun v_1 => ((some (if 0 ≤ wI ((Int.tmod (wI x0) 5) - (Int.tmod (wI x1) 5)) then wI ((Int.tmod (wI x0) 5) - (Int.tmod (wI x1) 5)) else -(wI ((Int.tmod (wI x0) 5) - (Int.tmod (wI x1) 5))))).bind fun v_2 => (some ((max (wI v_1) (wI v_2))))))
def sX11_stepsBetween (x0 : Int) (x1 : Int) : Option Int := sX11_stepsBetween_b0 x0 x1
set_option maxHeartbeats 4000000 in
set_option maxRecDepth 100000 in
theorem bX11_stepsBetween_b0 {G : GG} (x0 : Int) (x1 : Int) (M : MM)   {res : Int}  (h : sX11_stepsBetween_b0 x0 x1 = some res) : VV G xX11_stepsBetween (ZM G xX11_stepsBetween (some (.int (eI res))) L0 M) L0 M 0 0 0 [(0, .int (eI x0)), (1, .int (eI x1))] [] := by
  unfold sX11_stepsBetween_b0 at h
  refine r_iload_n (pc := 0) (i := 0) dX11_stepsBetween_0 rfl 0 rfl ?_
  refine r_iconst (pc := 1) (v := 5) dX11_stepsBetween_1 (by decide +kernel) ?_
  refine r_idiv (pc := 2) dX11_stepsBetween_2 rfl wl_5 (by decide) ?_
  refine r_iload_n (pc := 3) (i := 1) dX11_stepsBetween_3 rfl 1 rfl ?_
  refine r_iconst (pc := 4) (v := 5) dX11_stepsBetween_4 (by decide +kernel) ?_
  refine r_idiv (pc := 5) dX11_stepsBetween_5 rfl wl_5 (by decide) ?_
  refine r_isub (pc := 6) dX11_stepsBetween_6 ?_
  refine r_mabs (pc := 7) ml_11_376 ⟨Nat.le_of_ble_eq_true rfl, Nat.le_of_ble_eq_true rfl, Nat.le_of_ble_eq_true rfl, Nat.le_of_ble_eq_true rfl⟩ rfl dX11_stepsBetween_7 ?_
  obtain ⟨v_1, hv_1, h⟩ := ob h
  refine r_nmI (pc := 10) hv_1 ?_
  refine r_istore_n (pc := 10) (i := 2) (lv' := [(2, .int (eI v_1)), (0, .int (eI x0)), (1, .int (eI x1))]) dX11_stepsBetween_10 rfl (Nat.le_of_ble_eq_true rfl) rfl ?_
  refine r_iload_n (pc := 11) (i := 0) dX11_stepsBetween_11 rfl 1 rfl ?_
  refine r_iconst (pc := 12) (v := 5) dX11_stepsBetween_12 (by decide +kernel) ?_
  refine r_irem (pc := 13) dX11_stepsBetween_13 rfl wl_5 (by decide) ?_
  refine r_iload_n (pc := 14) (i := 1) dX11_stepsBetween_14 rfl 2 rfl ?_
  refine r_iconst (pc := 15) (v := 5) dX11_stepsBetween_15 (by decide +kernel) ?_
  refine r_irem (pc := 16) dX11_stepsBetween_16 rfl wl_5 (by decide) ?_
  refine r_isub (pc := 17) dX11_stepsBetween_17 ?_
  refine r_mabs (pc := 18) ml_11_376 ⟨Nat.le_of_ble_eq_true rfl, Nat.le_of_ble_eq_true rfl, Nat.le_of_ble_eq_true rfl, Nat.le_of_ble_eq_true rfl⟩ rfl dX11_stepsBetween_18 ?_
  obtain ⟨v_2, hv_2, h⟩ := ob h
  refine r_nmI (pc := 21) hv_2 ?_
  refine r_istore_n (pc := 21) (i := 3) (lv' := [(3, .int (eI v_2)), (2, .int (eI v_1)), (0, .int (eI x0)), (1, .int (eI x1))]) dX11_stepsBetween_21 rfl (Nat.le_of_ble_eq_true rfl) rfl ?_
  refine r_iload_n (pc := 22) (i := 2) dX11_stepsBetween_22 rfl 1 rfl ?_
  refine r_iload_n (pc := 23) (i := 3) dX11_stepsBetween_23 rfl 0 rfl ?_
  refine r_mmax (pc := 24) ml_11_379 ⟨Nat.le_of_ble_eq_true rfl, Nat.le_of_ble_eq_true rfl, Nat.le_of_ble_eq_true rfl, Nat.le_of_ble_eq_true rfl⟩ rfl rfl dX11_stepsBetween_24 ?_
  cases h
  exact r_iret (pc := 27) rfl rfl (Nat.le_refl 0) (Nat.le_refl 0) dX11_stepsBetween_27
theorem kX11_stepsBetween {G : GG} (x0 : Int) (x1 : Int) (M : MM) {res : Int}  (h : sX11_stepsBetween x0 x1 = some res) : CO G xX11_stepsBetween [.int (eI x0), .int (eI x1)] L0 M (some (.int (eI res))) L0 M := CO_of (by decide +kernel) (Nat.le_of_ble_eq_true rfl) (bX11_stepsBetween_b0 x0 x1 M h)
abbrev xX11_ringOf : XX := (yX11_ringOf, cX11_ringOf, 1, (some .int), 2, 46, 0, 0)
theorem ck_X11_ringOf_382 : CKS xX11_ringOf 382 xX11_stepsBetween 2 := ⟨⟨tb_i 1178 (by decide +kernel) (by decide +kernel), tb_i 139 (by decide +kernel) (by decide +kernel), tb_i 1180 (by decide +kernel) (by decide +kernel), ⟨by decide +kernel, by decide +kernel, by decide +kernel⟩, by decide, by decide⟩, tb_i 1179 (by decide +kernel) (by decide +kernel)⟩
def sX11_ringOf_b0 (x0 : Int)   : Option Int := ((sX11_stepsBetween x0 12).bind fun q_1 => (some (q_1)))
def sX11_ringOf (x0 : Int) : Option Int := sX11_ringOf_b0 x0
set_option maxHeartbeats 4000000 in
set_option maxRecDepth 100000 in
theorem bX11_ringOf_b0 {G : GG} (x0 : Int) (M : MM)   {res : Int}  (h : sX11_ringOf_b0 x0 = some res) : VV G xX11_ringOf (ZM G xX11_ringOf (some (.int (eI res))) L0 M) L0 M 0 0 0 [(0, .int (eI x0))] [] := by
  unfold sX11_ringOf_b0 at h
  refine r_iload_n (pc := 0) (i := 0) dX11_ringOf_0 rfl 0 rfl ?_
  refine r_bipush (pc := 1) (v := 12) dX11_ringOf_1 (by decide +kernel) ?_
  obtain ⟨q_1, hq_1, h⟩ := ob h
  refine r_cS (pc := 3) (Y := xX11_stepsBetween) (As := [.int (eI x0), .int (eI 12)]) (rest := []) (v := (some (.int (eI q_1)))) (st1 := [.int (eI q_1)]) ck_X11_ringOf_382 (kX11_stepsBetween x0 12 M  hq_1) rfl rfl (Nat.le_of_ble_eq_true rfl) ⟨rfl, rfl⟩ rfl dX11_ringOf_3 ?_
  cases h
  exact r_iret (pc := 6) rfl rfl (Nat.le_refl 0) (Nat.le_refl 0) dX11_ringOf_6
theorem kX11_ringOf {G : GG} (x0 : Int) (M : MM) {res : Int}  (h : sX11_ringOf x0 = some res) : CO G xX11_ringOf [.int (eI x0)] L0 M (some (.int (eI res))) L0 M := CO_of (by decide +kernel) (Nat.le_of_ble_eq_true rfl) (bX11_ringOf_b0 x0 M h)
abbrev xX5_weightOf : XX := (yX5_weightOf, cX5_weightOf, 3, (some .int), 3, 66, 0, 0)
theorem ck_X5_weightOf_72 : CKN xX5_weightOf 72 xX11_ringOf 1 "PaperDonkey" := ⟨tn_i 1211 (by decide +kernel) rfl, tb_i 139 (by decide +kernel) (by decide +kernel), tb_i 1177 (by decide +kernel) (by decide +kernel), ⟨by decide +kernel, by decide +kernel, by decide +kernel⟩, by decide, by decide, tb_i 1176 (by decide +kernel) (by decide +kernel)⟩
def sX5_weightOf_b0 (a0 : Nat) (x1 : Int) (M : MM)   : Option Int := ((sX11_ringOf x1).bind fun q_1 => (if wI q_1 < 0 then (some (0)) else (if 3 ≤ wI q_1 then (some (0)) else (if 0 ≤ wI q_1 ∧ wI q_1 < 3 then (some ((M (gR a0 11) (wI q_1).toNat))) else none))))
def sX5_weightOf (a0 : Nat) (x1 : Int) (M : MM) : Option Int := sX5_weightOf_b0 a0 x1 M
set_option maxHeartbeats 4000000 in
set_option maxRecDepth 100000 in
theorem bX5_weightOf_b0 {G : GG} (a0 : Nat) (x1 : Int) (M : MM) (oa0 : OB L0 a0 5)  {res : Int}  (h : sX5_weightOf_b0 a0 x1 M = some res) : VV G xX5_weightOf (ZM G xX5_weightOf (some (.int (eI res))) L0 M) L0 M 0 0 0 [(0, .ref (gA G a0)), (1, .int (eI x1))] [] := by
  unfold sX5_weightOf_b0 at h
  refine r_iload_n (pc := 0) (i := 1) dX5_weightOf_0 rfl 1 rfl ?_
  obtain ⟨q_1, hq_1, h⟩ := ob h
  refine r_cN (pc := 1) (Y := xX11_ringOf) (As := [.int (eI x1)]) (rest := []) (v := (some (.int (eI q_1)))) (st1 := [.int (eI q_1)]) ck_X5_weightOf_72 (kX11_ringOf x1 M  hq_1) rfl rfl (Nat.le_of_ble_eq_true rfl) ⟨rfl, rfl⟩ rfl dX5_weightOf_1 ?_
  refine r_istore_n (pc := 4) (i := 2) (lv' := [(2, .int (eI q_1)), (0, .ref (gA G a0)), (1, .int (eI x1))]) dX5_weightOf_4 rfl (Nat.le_of_ble_eq_true rfl) rfl ?_
  refine r_iload_n (pc := 5) (i := 2) dX5_weightOf_5 rfl 0 rfl ?_
  refine r_if_lt (pc := 6) (tgt := 23) dX5_weightOf_6 (by decide) rfl (fun c_2 => ?_) (fun c_2 => ?_)
  · replace h := (if_pos c_2).symm.trans h
    refine r_iconst (pc := 23) (v := 0) dX5_weightOf_23 (by decide +kernel) ?_
    cases h
    exact r_iret (pc := 24) rfl rfl (Nat.le_refl 0) (Nat.le_refl 0) dX5_weightOf_24
  · replace h := (if_neg c_2).symm.trans h
    refine r_iload_n (pc := 9) (i := 2) dX5_weightOf_9 rfl 0 rfl ?_
    refine r_iconst (pc := 10) (v := 3) dX5_weightOf_10 (by decide +kernel) ?_
    refine r_icmp_ge (pc := 11) (tgt := 23) dX5_weightOf_11 (by decide) rfl wl_3 (fun c_3 => ?_) (fun c_3 => ?_)
    · replace h := (if_pos c_3).symm.trans h
      refine r_iconst (pc := 23) (v := 0) dX5_weightOf_23 (by decide +kernel) ?_
      cases h
      exact r_iret (pc := 24) rfl rfl (Nat.le_refl 0) (Nat.le_refl 0) dX5_weightOf_24
    · replace h := (if_neg c_3).symm.trans h
      refine r_aload_n (pc := 14) (i := 0) dX5_weightOf_14 rfl 1 rfl ?_
      have o_4 := (wt_5_11 oa0).2
      refine r_getR (pc := 15) fg_5_39 rfl oa0 (wt_5_11 oa0).1 dX5_weightOf_15 ?_
      refine r_iload_n (pc := 18) (i := 2) dX5_weightOf_18 rfl 0 rfl ?_
      obtain ⟨c_5, h⟩ := og h
      refine r_iald (pc := 19) o_4 rfl c_5 rfl dX5_weightOf_19 ?_
      refine r_goto (pc := 20) (tgt := 24) dX5_weightOf_20 (by decide) ?_
      cases h
      exact r_iret (pc := 24) rfl rfl (Nat.le_refl 0) (Nat.le_refl 0) dX5_weightOf_24
theorem kX5_weightOf {G : GG} (a0 : Nat) (x1 : Int) (M : MM) {res : Int} (oa0 : OB L0 a0 5) (h : sX5_weightOf a0 x1 M = some res) : CO G xX5_weightOf [.ref (gA G a0), .int (eI x1)] L0 M (some (.int (eI res))) L0 M := CO_of (by decide +kernel) (Nat.le_of_ble_eq_true rfl) (bX5_weightOf_b0 a0 x1 M oa0 h)
abbrev xX10_weightOfAll : XX := (yX10_weightOfAll, cX10_weightOfAll, 4, (some .int), 4, 88, 0, 0)
theorem ck_X10_weightOfAll_41 : CKV xX10_weightOfAll 41 xX5_weightOf 1 := ⟨⟨tb_i 1207 (by decide +kernel) (by decide +kernel), tb_i 141 (by decide +kernel) (by decide +kernel), tb_i 1210 (by decide +kernel) (by decide +kernel), ⟨by decide +kernel, by decide +kernel, by decide +kernel⟩, by decide, by decide⟩, tb_i 1208 (by decide +kernel) (by decide +kernel), tb_i 1209 (by decide +kernel) (by decide +kernel)⟩
def sX10_weightOfAll_b4 (a0 : Nat) (a1 : Nat) (M : MM)  : Nat → Int → Int → Option Int
  | 0, _, _ => none
  | n + 1, x2, x3 => (if 25 ≤ wI x3 then (some (x2)) else ((sX5_weightOf a1 x3 M).bind fun q_2 => ((some (x3 + 1)).bind fun v_3 => (sX10_weightOfAll_b4 a0 a1 M n (x2 + q_2) v_3))))
def sX10_weightOfAll_b0 (a0 : Nat) (a1 : Nat) (M : MM)   : Option Int := (sX10_weightOfAll_b4 a0 a1 M FU 0 0)
def sX10_weightOfAll (a0 : Nat) (a1 : Nat) (M : MM) : Option Int := sX10_weightOfAll_b0 a0 a1 M
set_option maxHeartbeats 4000000 in
set_option maxRecDepth 100000 in
theorem bX10_weightOfAll_b4 {G : GG} (a0 : Nat) (a1 : Nat) (M : MM) (oa0 : OB L0 a0 10) (oa1 : OB L0 a1 5) {res : Int} : ∀ (n : Nat) (x2 : Int) (x3 : Int)  (h : sX10_weightOfAll_b4 a0 a1 M n x2 x3 = some res), VV G xX10_weightOfAll (ZM G xX10_weightOfAll (some (.int (eI res))) L0 M) L0 M 0 0 4 [(1, .ref (gA G a1)), (2, .int (eI x2)), (3, .int (eI x3))] [] := by
  intro n
  induction n with
  | zero =>
    intro x2 x3 h
    rw [sX10_weightOfAll_b4] at h
    cases h
  | succ n ih =>
    intro x2 x3 h
    rw [sX10_weightOfAll_b4] at h
    refine r_iload_n (pc := 4) (i := 3) dX10_weightOfAll_4 rfl 2 rfl ?_
    refine r_bipush (pc := 5) (v := 25) dX10_weightOfAll_5 (by decide +kernel) ?_
    refine r_icmp_ge (pc := 7) (tgt := 24) dX10_weightOfAll_7 (by decide) rfl wl_25 (fun c_1 => ?_) (fun c_1 => ?_)
    · replace h := (if_pos c_1).symm.trans h
      refine r_iload_n (pc := 24) (i := 2) dX10_weightOfAll_24 rfl 1 rfl ?_
      cases h
      exact r_iret (pc := 25) rfl rfl (Nat.le_refl 0) (Nat.le_refl 0) dX10_weightOfAll_25
    · replace h := (if_neg c_1).symm.trans h
      refine r_iload_n (pc := 10) (i := 2) dX10_weightOfAll_10 rfl 1 rfl ?_
      refine r_aload_n (pc := 11) (i := 1) dX10_weightOfAll_11 rfl 0 rfl ?_
      refine r_iload_n (pc := 12) (i := 3) dX10_weightOfAll_12 rfl 2 rfl ?_
      obtain ⟨q_2, hq_2, h⟩ := ob h
      refine r_cV (pc := 13) (Y := xX5_weightOf) (As := [.int (eI x3)]) (rest := [.int (eI x2)]) (v := (some (.int (eI q_2)))) (st1 := [.int (eI q_2), .int (eI x2)]) ck_X10_weightOfAll_41 (kX5_weightOf a1 x3 M oa1 hq_2) oa1 rfl rfl rfl rfl (Nat.le_of_ble_eq_true rfl) ⟨rfl, rfl⟩ rfl dX10_weightOfAll_13 ?_
      refine r_iadd (pc := 16) dX10_weightOfAll_16 ?_
      refine r_istore_n (pc := 17) (i := 2) (lv' := [(2, .int (eI (x2 + q_2))), (1, .ref (gA G a1)), (3, .int (eI x3))]) dX10_weightOfAll_17 rfl (Nat.le_of_ble_eq_true rfl) rfl ?_
      obtain ⟨v_3, hv_3, h⟩ := ob h
      refine r_iinc (pc := 18) (y := v_3) (lv' := [(3, .int (eI v_3)), (2, .int (eI (x2 + q_2))), (1, .ref (gA G a1))]) dX10_weightOfAll_18 2 rfl (Option.some.inj hv_3) (Nat.le_of_ble_eq_true rfl) rfl ?_
      refine r_goto (pc := 21) (tgt := 4) dX10_weightOfAll_21 (by decide) ?_
      refine r_sub (lv' := [(1, .ref (gA G a1)), (2, .int (eI (x2 + q_2))), (3, .int (eI v_3))]) [2, 1, 0] rfl ?_
      exact ih _ _ h
set_option maxHeartbeats 4000000 in
set_option maxRecDepth 100000 in
theorem bX10_weightOfAll_b0 {G : GG} (a0 : Nat) (a1 : Nat) (M : MM) (oa0 : OB L0 a0 10) (oa1 : OB L0 a1 5)  {res : Int}  (h : sX10_weightOfAll_b0 a0 a1 M = some res) : VV G xX10_weightOfAll (ZM G xX10_weightOfAll (some (.int (eI res))) L0 M) L0 M 0 0 0 [(0, .ref (gA G a0)), (1, .ref (gA G a1))] [] := by
  unfold sX10_weightOfAll_b0 at h
  refine r_iconst (pc := 0) (v := 0) dX10_weightOfAll_0 (by decide +kernel) ?_
  refine r_istore_n (pc := 1) (i := 2) (lv' := [(2, .int (eI 0)), (0, .ref (gA G a0)), (1, .ref (gA G a1))]) dX10_weightOfAll_1 rfl (Nat.le_of_ble_eq_true rfl) rfl ?_
  refine r_iconst (pc := 2) (v := 0) dX10_weightOfAll_2 (by decide +kernel) ?_
  refine r_istore_n (pc := 3) (i := 3) (lv' := [(3, .int (eI 0)), (2, .int (eI 0)), (0, .ref (gA G a0)), (1, .ref (gA G a1))]) dX10_weightOfAll_3 rfl (Nat.le_of_ble_eq_true rfl) rfl ?_
  refine r_sub (lv' := [(1, .ref (gA G a1)), (2, .int (eI 0)), (3, .int (eI 0))]) [3, 1, 0] rfl ?_
  exact bX10_weightOfAll_b4 a0 a1 M oa0 oa1 _ _ _ h
theorem kX10_weightOfAll {G : GG} (a0 : Nat) (a1 : Nat) (M : MM) {res : Int} (oa0 : OB L0 a0 10) (oa1 : OB L0 a1 5) (h : sX10_weightOfAll a0 a1 M = some res) : CO G xX10_weightOfAll [.ref (gA G a0), .ref (gA G a1)] L0 M (some (.int (eI res))) L0 M := CO_of (by decide +kernel) (Nat.le_of_ble_eq_true rfl) (bX10_weightOfAll_b0 a0 a1 M oa0 oa1 h)
abbrev xX0_fallsOn : XX := (yX0_fallsOn, cX0_fallsOn, 4, (some .int), 4, 88, 0, 0)
theorem ck_X0_fallsOn_87 : CKV xX0_fallsOn 87 xX5_weightOf 1 := ⟨⟨tb_i 1371 (by decide +kernel) (by decide +kernel), tb_i 141 (by decide +kernel) (by decide +kernel), tb_i 1210 (by decide +kernel) (by decide +kernel), ⟨by decide +kernel, by decide +kernel, by decide +kernel⟩, by decide, by decide⟩, tb_i 1208 (by decide +kernel) (by decide +kernel), tb_i 1209 (by decide +kernel) (by decide +kernel)⟩
def sX0_fallsOn_b4 (a0 : Nat) (x1 : Int) (M : MM)  : Nat → Int → Int → Option Int
  | 0, _, _ => none
  | n + 1, x2, x3 => (if 25 ≤ wI x3 then (some (24)) else ((sX5_weightOf a0 x3 M).bind fun q_2 => (if wI (x2 + q_2) ≤ wI x1 then ((some (x3 + 1)).bind fun v_4 => (sX0_fallsOn_b4 a0 x1 M n (x2 + q_2) v_4)) else (some (x3)))))
def sX0_fallsOn_b0 (a0 : Nat) (x1 : Int) (M : MM)   : Option Int := (sX0_fallsOn_b4 a0 x1 M FU 0 0)
def sX0_fallsOn (a0 : Nat) (x1 : Int) (M : MM) : Option Int := sX0_fallsOn_b0 a0 x1 M
set_option maxHeartbeats 4000000 in
set_option maxRecDepth 100000 in
theorem bX0_fallsOn_b4 {G : GG} (a0 : Nat) (x1 : Int) (M : MM) (oa0 : OB L0 a0 5) {res : Int} : ∀ (n : Nat) (x2 : Int) (x3 : Int)  (h : sX0_fallsOn_b4 a0 x1 M n x2 x3 = some res), VV G xX0_fallsOn (ZM G xX0_fallsOn (some (.int (eI res))) L0 M) L0 M 0 0 4 [(0, .ref (gA G a0)), (1, .int (eI x1)), (2, .int (eI x2)), (3, .int (eI x3))] [] := by
  intro n
  induction n with
  | zero =>
    intro x2 x3 h
    rw [sX0_fallsOn_b4] at h
    cases h
  | succ n ih =>
    intro x2 x3 h
    rw [sX0_fallsOn_b4] at h
    refine r_iload_n (pc := 4) (i := 3) dX0_fallsOn_4 rfl 3 rfl ?_
    refine r_bipush (pc := 5) (v := 25) dX0_fallsOn_5 (by decide +kernel) ?_
    refine r_icmp_ge (pc := 7) (tgt := 31) dX0_fallsOn_7 (by decide) rfl wl_25 (fun c_1 => ?_) (fun c_1 => ?_)
    · replace h := (if_pos c_1).symm.trans h
      refine r_bipush (pc := 31) (v := 24) dX0_fallsOn_31 (by decide +kernel) ?_
      cases h
      exact r_iret (pc := 33) rfl rfl (Nat.le_refl 0) (Nat.le_refl 0) dX0_fallsOn_33
    · replace h := (if_neg c_1).symm.trans h
      refine r_iload_n (pc := 10) (i := 2) dX0_fallsOn_10 rfl 2 rfl ?_
      refine r_aload_n (pc := 11) (i := 0) dX0_fallsOn_11 rfl 0 rfl ?_
      refine r_iload_n (pc := 12) (i := 3) dX0_fallsOn_12 rfl 3 rfl ?_
      obtain ⟨q_2, hq_2, h⟩ := ob h
      refine r_cV (pc := 13) (Y := xX5_weightOf) (As := [.int (eI x3)]) (rest := [.int (eI x2)]) (v := (some (.int (eI q_2)))) (st1 := [.int (eI q_2), .int (eI x2)]) ck_X0_fallsOn_87 (kX5_weightOf a0 x3 M oa0 hq_2) oa0 rfl rfl rfl rfl (Nat.le_of_ble_eq_true rfl) ⟨rfl, rfl⟩ rfl dX0_fallsOn_13 ?_
      refine r_iadd (pc := 16) dX0_fallsOn_16 ?_
      refine r_istore_n (pc := 17) (i := 2) (lv' := [(2, .int (eI (x2 + q_2))), (0, .ref (gA G a0)), (1, .int (eI x1)), (3, .int (eI x3))]) dX0_fallsOn_17 rfl (Nat.le_of_ble_eq_true rfl) rfl ?_
      refine r_iload_n (pc := 18) (i := 2) dX0_fallsOn_18 rfl 0 rfl ?_
      refine r_iload_n (pc := 19) (i := 1) dX0_fallsOn_19 rfl 2 rfl ?_
      refine r_icmp_le (pc := 20) (tgt := 25) dX0_fallsOn_20 (by decide) rfl rfl (fun c_3 => ?_) (fun c_3 => ?_)
      · replace h := (if_pos c_3).symm.trans h
        obtain ⟨v_4, hv_4, h⟩ := ob h
        refine r_iinc (pc := 25) (y := v_4) (lv' := [(3, .int (eI v_4)), (2, .int (eI (x2 + q_2))), (0, .ref (gA G a0)), (1, .int (eI x1))]) dX0_fallsOn_25 3 rfl (Option.some.inj hv_4) (Nat.le_of_ble_eq_true rfl) rfl ?_
        refine r_goto (pc := 28) (tgt := 4) dX0_fallsOn_28 (by decide) ?_
        refine r_sub (lv' := [(0, .ref (gA G a0)), (1, .int (eI x1)), (2, .int (eI (x2 + q_2))), (3, .int (eI v_4))]) [2, 3, 1, 0] rfl ?_
        exact ih _ _ h
      · replace h := (if_neg c_3).symm.trans h
        refine r_iload_n (pc := 23) (i := 3) dX0_fallsOn_23 rfl 3 rfl ?_
        cases h
        exact r_iret (pc := 24) rfl rfl (Nat.le_refl 0) (Nat.le_refl 0) dX0_fallsOn_24
set_option maxHeartbeats 4000000 in
set_option maxRecDepth 100000 in
theorem bX0_fallsOn_b0 {G : GG} (a0 : Nat) (x1 : Int) (M : MM) (oa0 : OB L0 a0 5)  {res : Int}  (h : sX0_fallsOn_b0 a0 x1 M = some res) : VV G xX0_fallsOn (ZM G xX0_fallsOn (some (.int (eI res))) L0 M) L0 M 0 0 0 [(0, .ref (gA G a0)), (1, .int (eI x1))] [] := by
  unfold sX0_fallsOn_b0 at h
  refine r_iconst (pc := 0) (v := 0) dX0_fallsOn_0 (by decide +kernel) ?_
  refine r_istore_n (pc := 1) (i := 2) (lv' := [(2, .int (eI 0)), (0, .ref (gA G a0)), (1, .int (eI x1))]) dX0_fallsOn_1 rfl (Nat.le_of_ble_eq_true rfl) rfl ?_
  refine r_iconst (pc := 2) (v := 0) dX0_fallsOn_2 (by decide +kernel) ?_
  refine r_istore_n (pc := 3) (i := 3) (lv' := [(3, .int (eI 0)), (2, .int (eI 0)), (0, .ref (gA G a0)), (1, .int (eI x1))]) dX0_fallsOn_3 rfl (Nat.le_of_ble_eq_true rfl) rfl ?_
  refine r_sub (lv' := [(0, .ref (gA G a0)), (1, .int (eI x1)), (2, .int (eI 0)), (3, .int (eI 0))]) [2, 3, 1, 0] rfl ?_
  exact bX0_fallsOn_b4 a0 x1 M oa0 _ _ _ h
theorem kX0_fallsOn {G : GG} (a0 : Nat) (x1 : Int) (M : MM) {res : Int} (oa0 : OB L0 a0 5) (h : sX0_fallsOn a0 x1 M = some res) : CO G xX0_fallsOn [.ref (gA G a0), .int (eI x1)] L0 M (some (.int (eI res))) L0 M := CO_of (by decide +kernel) (Nat.le_of_ble_eq_true rfl) (bX0_fallsOn_b0 a0 x1 M oa0 h)
abbrev xX10_whoPicksIf : XX := (yX10_whoPicksIf, cX10_whoPicksIf, 10, (some .int), 2, 46, 0, 0)
theorem ck_X10_whoPicksIf_31 : CKN xX10_whoPicksIf 31 xX11_stepsBetween 2 "PaperDonkey" := ⟨tn_i 1194 (by decide +kernel) rfl, tb_i 139 (by decide +kernel) (by decide +kernel), tb_i 1180 (by decide +kernel) (by decide +kernel), ⟨by decide +kernel, by decide +kernel, by decide +kernel⟩, by decide, by decide, tb_i 1179 (by decide +kernel) (by decide +kernel)⟩
def sX10_whoPicksIf_b107 (a0 : Nat) (a1 : Nat) (x2 : Int) (x3 : Int) (x4 : Int) (x5 : Int) (M : MM) (K9 : Int → Int → Int → Option Int) (x6 : Int) (x7 : Int) (x8 : Int) : Option Int := ((some (x8 + 1)).bind fun v_1 => (K9 x6 x7 v_1))
def sX10_whoPicksIf_b99 (a0 : Nat) (a1 : Nat) (x2 : Int) (x3 : Int) (x4 : Int) (x5 : Int) (M : MM) (K9 : Int → Int → Int → Option Int) (x8 : Int) (x9 : Int) : Option Int := (sX10_whoPicksIf_b107 a0 a1 x2 x3 x4 x5 M K9 x8 x9 x8)
def sX10_whoPicksIf_b62 (a0 : Nat) (a1 : Nat) (x2 : Int) (x3 : Int) (x4 : Int) (x5 : Int) (M : MM) (K9 : Int → Int → Int → Option Int) (x6 : Int) (x7 : Int) (x8 : Int) (x9 : Int) : Option Int := (if wI x6 = (-1) then (sX10_whoPicksIf_b99 a0 a1 x2 x3 x4 x5 M K9 x8 x9) else (if wI x9 < wI x7 then (sX10_whoPicksIf_b99 a0 a1 x2 x3 x4 x5 M K9 x8 x9) else (if wI x9 = wI x7 then (if 0 ≤ wI x8 ∧ wI x8 < 8 then (if 0 ≤ wI x6 ∧ wI x6 < 8 then (if wI (M (gR a1 7) (wI x8).toNat) ≤ wI (M (gR a1 7) (wI x6).toNat) then (sX10_whoPicksIf_b107 a0 a1 x2 x3 x4 x5 M K9 x6 x7 x8) else (sX10_whoPicksIf_b99 a0 a1 x2 x3 x4 x5 M K9 x8 x9)) else none) else none) else (sX10_whoPicksIf_b107 a0 a1 x2 x3 x4 x5 M K9 x6 x7 x8))))
def sX10_whoPicksIf_b37 (a0 : Nat) (a1 : Nat) (x2 : Int) (x3 : Int) (x4 : Int) (x5 : Int) (M : MM) (K9 : Int → Int → Int → Option Int) (x6 : Int) (x7 : Int) (x8 : Int) (x90 : Int) : Option Int := ((sX11_stepsBetween x90 x3).bind fun q_1 => (if wI x8 = wI x2 then ((sX11_stepsBetween 12 x3).bind fun q_3 => (sX10_whoPicksIf_b62 a0 a1 x2 x3 x4 x5 M K9 x6 x7 x8 (q_3 + (M a1 15)))) else (sX10_whoPicksIf_b62 a0 a1 x2 x3 x4 x5 M K9 x6 x7 x8 q_1)))
def sX10_whoPicksIf_b9 (a0 : Nat) (a1 : Nat) (x2 : Int) (x3 : Int) (x4 : Int) (x5 : Int) (M : MM)  : Nat → Int → Int → Int → Option Int
  | 0, _, _, _ => none
  | n + 1, x6, x7, x8 => (if wI (M a1 3) ≤ wI x8 then (some (x6)) else (if wI x8 = wI x4 then (sX10_whoPicksIf_b37 a0 a1 x2 x3 x4 x5 M (fun x6 x7 x8 => sX10_whoPicksIf_b9 a0 a1 x2 x3 x4 x5 M n x6 x7 x8) x6 x7 x8 x5) else (if 0 ≤ wI x8 ∧ wI x8 < 8 then (sX10_whoPicksIf_b37 a0 a1 x2 x3 x4 x5 M (fun x6 x7 x8 => sX10_whoPicksIf_b9 a0 a1 x2 x3 x4 x5 M n x6 x7 x8) x6 x7 x8 (M (gR a1 8) (wI x8).toNat)) else none)))
def sX10_whoPicksIf_b0 (a0 : Nat) (a1 : Nat) (x2 : Int) (x3 : Int) (x4 : Int) (x5 : Int) (M : MM)   : Option Int := (sX10_whoPicksIf_b9 a0 a1 x2 x3 x4 x5 M FU (-1) 0 0)
def sX10_whoPicksIf (a0 : Nat) (a1 : Nat) (x2 : Int) (x3 : Int) (x4 : Int) (x5 : Int) (M : MM) : Option Int := sX10_whoPicksIf_b0 a0 a1 x2 x3 x4 x5 M
set_option maxHeartbeats 4000000 in
set_option maxRecDepth 100000 in
theorem bX10_whoPicksIf_b107 {G : GG} (a0 : Nat) (a1 : Nat) (x2 : Int) (x3 : Int) (x4 : Int) (x5 : Int) (M : MM) (oa0 : OB L0 a0 10) (oa1 : OB L0 a1 5) {K9 : Int → Int → Int → Option Int} (x6 : Int) (x7 : Int) (x8 : Int) {res : Int} (hK9 : ∀ (x6 : Int) (x7 : Int) (x8 : Int), K9 x6 x7 x8 = some res → VV G xX10_whoPicksIf (ZM G xX10_whoPicksIf (some (.int (eI res))) L0 M) L0 M 0 0 9 [(1, .ref (gA G a1)), (2, .int (eI x2)), (3, .int (eI x3)), (4, .int (eI x4)), (5, .int (eI x5)), (6, .int (eI x6)), (7, .int (eI x7)), (8, .int (eI x8))] [])  (h : sX10_whoPicksIf_b107 a0 a1 x2 x3 x4 x5 M K9 x6 x7 x8 = some res) : VV G xX10_whoPicksIf (ZM G xX10_whoPicksIf (some (.int (eI res))) L0 M) L0 M 0 0 107 [(1, .ref (gA G a1)), (2, .int (eI x2)), (3, .int (eI x3)), (4, .int (eI x4)), (5, .int (eI x5)), (6, .int (eI x6)), (7, .int (eI x7)), (8, .int (eI x8))] [] := by
  unfold sX10_whoPicksIf_b107 at h
  obtain ⟨v_1, hv_1, h⟩ := ob h
  refine r_iinc (pc := 107) (y := v_1) (lv' := [(8, .int (eI v_1)), (1, .ref (gA G a1)), (2, .int (eI x2)), (3, .int (eI x3)), (4, .int (eI x4)), (5, .int (eI x5)), (6, .int (eI x6)), (7, .int (eI x7))]) dX10_whoPicksIf_107 7 rfl (Option.some.inj hv_1) (Nat.le_of_ble_eq_true rfl) rfl ?_
  refine r_goto (pc := 110) (tgt := 9) dX10_whoPicksIf_110 (by decide) ?_
  refine r_sub (lv' := [(1, .ref (gA G a1)), (2, .int (eI x2)), (3, .int (eI x3)), (4, .int (eI x4)), (5, .int (eI x5)), (6, .int (eI x6)), (7, .int (eI x7)), (8, .int (eI v_1))]) [1, 2, 3, 4, 5, 6, 7, 0] rfl ?_
  exact hK9 _ _ _ h
set_option maxHeartbeats 4000000 in
set_option maxRecDepth 100000 in
theorem bX10_whoPicksIf_b99 {G : GG} (a0 : Nat) (a1 : Nat) (x2 : Int) (x3 : Int) (x4 : Int) (x5 : Int) (M : MM) (oa0 : OB L0 a0 10) (oa1 : OB L0 a1 5) {K9 : Int → Int → Int → Option Int} (x8 : Int) (x9 : Int) {res : Int} (hK9 : ∀ (x6 : Int) (x7 : Int) (x8 : Int), K9 x6 x7 x8 = some res → VV G xX10_whoPicksIf (ZM G xX10_whoPicksIf (some (.int (eI res))) L0 M) L0 M 0 0 9 [(1, .ref (gA G a1)), (2, .int (eI x2)), (3, .int (eI x3)), (4, .int (eI x4)), (5, .int (eI x5)), (6, .int (eI x6)), (7, .int (eI x7)), (8, .int (eI x8))] [])  (h : sX10_whoPicksIf_b99 a0 a1 x2 x3 x4 x5 M K9 x8 x9 = some res) : VV G xX10_whoPicksIf (ZM G xX10_whoPicksIf (some (.int (eI res))) L0 M) L0 M 0 0 99 [(1, .ref (gA G a1)), (2, .int (eI x2)), (3, .int (eI x3)), (4, .int (eI x4)), (5, .int (eI x5)), (8, .int (eI x8)), (9, .int (eI x9))] [] := by
  unfold sX10_whoPicksIf_b99 at h
  refine r_iload (pc := 99) dX10_whoPicksIf_99 5 rfl ?_
  refine r_istore (pc := 101) (lv' := [(6, .int (eI x8)), (1, .ref (gA G a1)), (2, .int (eI x2)), (3, .int (eI x3)), (4, .int (eI x4)), (5, .int (eI x5)), (8, .int (eI x8)), (9, .int (eI x9))]) dX10_whoPicksIf_101 (Nat.le_of_ble_eq_true rfl) rfl ?_
  refine r_iload (pc := 103) dX10_whoPicksIf_103 7 rfl ?_
  refine r_istore (pc := 105) (lv' := [(7, .int (eI x9)), (6, .int (eI x8)), (1, .ref (gA G a1)), (2, .int (eI x2)), (3, .int (eI x3)), (4, .int (eI x4)), (5, .int (eI x5)), (8, .int (eI x8)), (9, .int (eI x9))]) dX10_whoPicksIf_105 (Nat.le_of_ble_eq_true rfl) rfl ?_
  refine r_sub (lv' := [(1, .ref (gA G a1)), (2, .int (eI x2)), (3, .int (eI x3)), (4, .int (eI x4)), (5, .int (eI x5)), (6, .int (eI x8)), (7, .int (eI x9)), (8, .int (eI x8))]) [2, 3, 4, 5, 6, 1, 0, 7] rfl ?_
  exact bX10_whoPicksIf_b107 a0 a1 x2 x3 x4 x5 M oa0 oa1 _ _ _ hK9 h
set_option maxHeartbeats 4000000 in
set_option maxRecDepth 100000 in
theorem bX10_whoPicksIf_b62 {G : GG} (a0 : Nat) (a1 : Nat) (x2 : Int) (x3 : Int) (x4 : Int) (x5 : Int) (M : MM) (oa0 : OB L0 a0 10) (oa1 : OB L0 a1 5) {K9 : Int → Int → Int → Option Int} (x6 : Int) (x7 : Int) (x8 : Int) (x9 : Int) {res : Int} (hK9 : ∀ (x6 : Int) (x7 : Int) (x8 : Int), K9 x6 x7 x8 = some res → VV G xX10_whoPicksIf (ZM G xX10_whoPicksIf (some (.int (eI res))) L0 M) L0 M 0 0 9 [(1, .ref (gA G a1)), (2, .int (eI x2)), (3, .int (eI x3)), (4, .int (eI x4)), (5, .int (eI x5)), (6, .int (eI x6)), (7, .int (eI x7)), (8, .int (eI x8))] [])  (h : sX10_whoPicksIf_b62 a0 a1 x2 x3 x4 x5 M K9 x6 x7 x8 x9 = some res) : VV G xX10_whoPicksIf (ZM G xX10_whoPicksIf (some (.int (eI res))) L0 M) L0 M 0 0 62 [(1, .ref (gA G a1)), (2, .int (eI x2)), (3, .int (eI x3)), (4, .int (eI x4)), (5, .int (eI x5)), (6, .int (eI x6)), (7, .int (eI x7)), (8, .int (eI x8)), (9, .int (eI x9))] [] := by
  unfold sX10_whoPicksIf_b62 at h
  refine r_iload (pc := 62) dX10_whoPicksIf_62 5 rfl ?_
  refine r_iconst (pc := 64) (v := (-1)) dX10_whoPicksIf_64 (by decide +kernel) ?_
  refine r_icmp_eq (pc := 65) (tgt := 99) dX10_whoPicksIf_65 (by decide) rfl wl_m1 (fun c_1 => ?_) (fun c_1 => ?_)
  · replace h := (if_pos c_1).symm.trans h
    refine r_sub (lv' := [(1, .ref (gA G a1)), (2, .int (eI x2)), (3, .int (eI x3)), (4, .int (eI x4)), (5, .int (eI x5)), (8, .int (eI x8)), (9, .int (eI x9))]) [0, 1, 2, 3, 4, 7, 8] rfl ?_
    exact bX10_whoPicksIf_b99 a0 a1 x2 x3 x4 x5 M oa0 oa1 _ _ hK9 h
  · replace h := (if_neg c_1).symm.trans h
    refine r_iload (pc := 68) dX10_whoPicksIf_68 8 rfl ?_
    refine r_iload (pc := 70) dX10_whoPicksIf_70 6 rfl ?_
    refine r_icmp_lt (pc := 72) (tgt := 99) dX10_whoPicksIf_72 (by decide) rfl rfl (fun c_2 => ?_) (fun c_2 => ?_)
    · replace h := (if_pos c_2).symm.trans h
      refine r_sub (lv' := [(1, .ref (gA G a1)), (2, .int (eI x2)), (3, .int (eI x3)), (4, .int (eI x4)), (5, .int (eI x5)), (8, .int (eI x8)), (9, .int (eI x9))]) [0, 1, 2, 3, 4, 7, 8] rfl ?_
      exact bX10_whoPicksIf_b99 a0 a1 x2 x3 x4 x5 M oa0 oa1 _ _ hK9 h
    · replace h := (if_neg c_2).symm.trans h
      refine r_iload (pc := 75) dX10_whoPicksIf_75 8 rfl ?_
      refine r_iload (pc := 77) dX10_whoPicksIf_77 6 rfl ?_
      refine r_icmp_ne (pc := 79) (tgt := 107) dX10_whoPicksIf_79 (by decide) rfl rfl (fun c_3 => ?_) (fun c_3 => ?_)
      · replace h := (if_neg c_3).symm.trans h
        refine r_sub (lv' := [(1, .ref (gA G a1)), (2, .int (eI x2)), (3, .int (eI x3)), (4, .int (eI x4)), (5, .int (eI x5)), (6, .int (eI x6)), (7, .int (eI x7)), (8, .int (eI x8))]) [0, 1, 2, 3, 4, 5, 6, 7] rfl ?_
        exact bX10_whoPicksIf_b107 a0 a1 x2 x3 x4 x5 M oa0 oa1 _ _ _ hK9 h
      · replace h := (if_pos c_3).symm.trans h
        refine r_aload_n (pc := 82) (i := 1) dX10_whoPicksIf_82 rfl 0 rfl ?_
        have o_4 := (wt_5_7 oa1).2
        refine r_getR (pc := 83) fg_10_38 rfl oa1 (wt_5_7 oa1).1 dX10_whoPicksIf_83 ?_
        refine r_iload (pc := 86) dX10_whoPicksIf_86 7 rfl ?_
        obtain ⟨c_5, h⟩ := og h
        refine r_iald (pc := 88) o_4 rfl c_5 rfl dX10_whoPicksIf_88 ?_
        refine r_aload_n (pc := 89) (i := 1) dX10_whoPicksIf_89 rfl 0 rfl ?_
        have o_6 := (wt_5_7 oa1).2
        refine r_getR (pc := 90) fg_10_38 rfl oa1 (wt_5_7 oa1).1 dX10_whoPicksIf_90 ?_
        refine r_iload (pc := 93) dX10_whoPicksIf_93 5 rfl ?_
        obtain ⟨c_7, h⟩ := og h
        refine r_iald (pc := 95) o_6 rfl c_7 rfl dX10_whoPicksIf_95 ?_
        refine r_icmp_le (pc := 96) (tgt := 107) dX10_whoPicksIf_96 (by decide) rfl rfl (fun c_8 => ?_) (fun c_8 => ?_)
        · replace h := (if_pos c_8).symm.trans h
          refine r_sub (lv' := [(1, .ref (gA G a1)), (2, .int (eI x2)), (3, .int (eI x3)), (4, .int (eI x4)), (5, .int (eI x5)), (6, .int (eI x6)), (7, .int (eI x7)), (8, .int (eI x8))]) [0, 1, 2, 3, 4, 5, 6, 7] rfl ?_
          exact bX10_whoPicksIf_b107 a0 a1 x2 x3 x4 x5 M oa0 oa1 _ _ _ hK9 h
        · replace h := (if_neg c_8).symm.trans h
          refine r_sub (lv' := [(1, .ref (gA G a1)), (2, .int (eI x2)), (3, .int (eI x3)), (4, .int (eI x4)), (5, .int (eI x5)), (8, .int (eI x8)), (9, .int (eI x9))]) [0, 1, 2, 3, 4, 7, 8] rfl ?_
          exact bX10_whoPicksIf_b99 a0 a1 x2 x3 x4 x5 M oa0 oa1 _ _ hK9 h
set_option maxHeartbeats 4000000 in
set_option maxRecDepth 100000 in
theorem bX10_whoPicksIf_b37 {G : GG} (a0 : Nat) (a1 : Nat) (x2 : Int) (x3 : Int) (x4 : Int) (x5 : Int) (M : MM) (oa0 : OB L0 a0 10) (oa1 : OB L0 a1 5) {K9 : Int → Int → Int → Option Int} (x6 : Int) (x7 : Int) (x8 : Int) (x90 : Int) {res : Int} (hK9 : ∀ (x6 : Int) (x7 : Int) (x8 : Int), K9 x6 x7 x8 = some res → VV G xX10_whoPicksIf (ZM G xX10_whoPicksIf (some (.int (eI res))) L0 M) L0 M 0 0 9 [(1, .ref (gA G a1)), (2, .int (eI x2)), (3, .int (eI x3)), (4, .int (eI x4)), (5, .int (eI x5)), (6, .int (eI x6)), (7, .int (eI x7)), (8, .int (eI x8))] [])  (h : sX10_whoPicksIf_b37 a0 a1 x2 x3 x4 x5 M K9 x6 x7 x8 x90 = some res) : VV G xX10_whoPicksIf (ZM G xX10_whoPicksIf (some (.int (eI res))) L0 M) L0 M 0 0 37 [(1, .ref (gA G a1)), (2, .int (eI x2)), (3, .int (eI x3)), (4, .int (eI x4)), (5, .int (eI x5)), (6, .int (eI x6)), (7, .int (eI x7)), (8, .int (eI x8))] [.int (eI x90)] := by
  unfold sX10_whoPicksIf_b37 at h
  refine r_iload_n (pc := 37) (i := 3) dX10_whoPicksIf_37 rfl 2 rfl ?_
  obtain ⟨q_1, hq_1, h⟩ := ob h
  refine r_cN (pc := 38) (Y := xX11_stepsBetween) (As := [.int (eI x90), .int (eI x3)]) (rest := []) (v := (some (.int (eI q_1)))) (st1 := [.int (eI q_1)]) ck_X10_whoPicksIf_31 (kX11_stepsBetween x90 x3 M  hq_1) rfl rfl (Nat.le_of_ble_eq_true rfl) ⟨rfl, rfl⟩ rfl dX10_whoPicksIf_38 ?_
  refine r_istore (pc := 41) (lv' := [(9, .int (eI q_1)), (1, .ref (gA G a1)), (2, .int (eI x2)), (3, .int (eI x3)), (4, .int (eI x4)), (5, .int (eI x5)), (6, .int (eI x6)), (7, .int (eI x7)), (8, .int (eI x8))]) dX10_whoPicksIf_41 (Nat.le_of_ble_eq_true rfl) rfl ?_
  refine r_iload (pc := 43) dX10_whoPicksIf_43 8 rfl ?_
  refine r_iload_n (pc := 45) (i := 2) dX10_whoPicksIf_45 rfl 2 rfl ?_
  refine r_icmp_ne (pc := 46) (tgt := 62) dX10_whoPicksIf_46 (by decide) rfl rfl (fun c_2 => ?_) (fun c_2 => ?_)
  · replace h := (if_neg c_2).symm.trans h
    refine r_sub (lv' := [(1, .ref (gA G a1)), (2, .int (eI x2)), (3, .int (eI x3)), (4, .int (eI x4)), (5, .int (eI x5)), (6, .int (eI x6)), (7, .int (eI x7)), (8, .int (eI x8)), (9, .int (eI q_1))]) [1, 2, 3, 4, 5, 6, 7, 8, 0] rfl ?_
    exact bX10_whoPicksIf_b62 a0 a1 x2 x3 x4 x5 M oa0 oa1 _ _ _ _ hK9 h
  · replace h := (if_pos c_2).symm.trans h
    refine r_bipush (pc := 49) (v := 12) dX10_whoPicksIf_49 (by decide +kernel) ?_
    refine r_iload_n (pc := 51) (i := 3) dX10_whoPicksIf_51 rfl 3 rfl ?_
    obtain ⟨q_3, hq_3, h⟩ := ob h
    refine r_cN (pc := 52) (Y := xX11_stepsBetween) (As := [.int (eI 12), .int (eI x3)]) (rest := []) (v := (some (.int (eI q_3)))) (st1 := [.int (eI q_3)]) ck_X10_whoPicksIf_31 (kX11_stepsBetween 12 x3 M  hq_3) rfl rfl (Nat.le_of_ble_eq_true rfl) ⟨rfl, rfl⟩ rfl dX10_whoPicksIf_52 ?_
    refine r_aload_n (pc := 55) (i := 1) dX10_whoPicksIf_55 rfl 1 rfl ?_
    refine r_getI (pc := 56) fg_10_35 rfl oa1 dX10_whoPicksIf_56 ?_
    refine r_iadd (pc := 59) dX10_whoPicksIf_59 ?_
    refine r_istore (pc := 60) (lv' := [(9, .int (eI (q_3 + (M a1 15)))), (1, .ref (gA G a1)), (2, .int (eI x2)), (3, .int (eI x3)), (4, .int (eI x4)), (5, .int (eI x5)), (6, .int (eI x6)), (7, .int (eI x7)), (8, .int (eI x8))]) dX10_whoPicksIf_60 (Nat.le_of_ble_eq_true rfl) rfl ?_
    refine r_sub (lv' := [(1, .ref (gA G a1)), (2, .int (eI x2)), (3, .int (eI x3)), (4, .int (eI x4)), (5, .int (eI x5)), (6, .int (eI x6)), (7, .int (eI x7)), (8, .int (eI x8)), (9, .int (eI (q_3 + (M a1 15))))]) [1, 2, 3, 4, 5, 6, 7, 8, 0] rfl ?_
    exact bX10_whoPicksIf_b62 a0 a1 x2 x3 x4 x5 M oa0 oa1 _ _ _ _ hK9 h
set_option maxHeartbeats 4000000 in
set_option maxRecDepth 100000 in
theorem bX10_whoPicksIf_b9 {G : GG} (a0 : Nat) (a1 : Nat) (x2 : Int) (x3 : Int) (x4 : Int) (x5 : Int) (M : MM) (oa0 : OB L0 a0 10) (oa1 : OB L0 a1 5) {res : Int} : ∀ (n : Nat) (x6 : Int) (x7 : Int) (x8 : Int)  (h : sX10_whoPicksIf_b9 a0 a1 x2 x3 x4 x5 M n x6 x7 x8 = some res), VV G xX10_whoPicksIf (ZM G xX10_whoPicksIf (some (.int (eI res))) L0 M) L0 M 0 0 9 [(1, .ref (gA G a1)), (2, .int (eI x2)), (3, .int (eI x3)), (4, .int (eI x4)), (5, .int (eI x5)), (6, .int (eI x6)), (7, .int (eI x7)), (8, .int (eI x8))] [] := by
  intro n
  induction n with
  | zero =>
    intro x6 x7 x8 h
    rw [sX10_whoPicksIf_b9] at h
    cases h
  | succ n ih =>
    intro x6 x7 x8 h
    rw [sX10_whoPicksIf_b9] at h
    refine r_iload (pc := 9) dX10_whoPicksIf_9 7 rfl ?_
    refine r_aload_n (pc := 11) (i := 1) dX10_whoPicksIf_11 rfl 0 rfl ?_
    refine r_getI (pc := 12) fg_10_22 rfl oa1 dX10_whoPicksIf_12 ?_
    refine r_icmp_ge (pc := 15) (tgt := 113) dX10_whoPicksIf_15 (by decide) rfl rfl (fun c_1 => ?_) (fun c_1 => ?_)
    · replace h := (if_pos c_1).symm.trans h
      refine r_iload (pc := 113) dX10_whoPicksIf_113 5 rfl ?_
      cases h
      exact r_iret (pc := 115) rfl rfl (Nat.le_refl 0) (Nat.le_refl 0) dX10_whoPicksIf_115
    · replace h := (if_neg c_1).symm.trans h
      refine r_iload (pc := 18) dX10_whoPicksIf_18 7 rfl ?_
      refine r_iload (pc := 20) dX10_whoPicksIf_20 3 rfl ?_
      refine r_icmp_ne (pc := 22) (tgt := 30) dX10_whoPicksIf_22 (by decide) rfl rfl (fun c_2 => ?_) (fun c_2 => ?_)
      · replace h := (if_neg c_2).symm.trans h
        refine r_aload_n (pc := 30) (i := 1) dX10_whoPicksIf_30 rfl 0 rfl ?_
        have o_3 := (wt_5_8 oa1).2
        refine r_getR (pc := 31) fg_10_28 rfl oa1 (wt_5_8 oa1).1 dX10_whoPicksIf_31 ?_
        refine r_iload (pc := 34) dX10_whoPicksIf_34 7 rfl ?_
        obtain ⟨c_4, h⟩ := og h
        refine r_iald (pc := 36) o_3 rfl c_4 rfl dX10_whoPicksIf_36 ?_
        refine r_sub (lv' := [(1, .ref (gA G a1)), (2, .int (eI x2)), (3, .int (eI x3)), (4, .int (eI x4)), (5, .int (eI x5)), (6, .int (eI x6)), (7, .int (eI x7)), (8, .int (eI x8))]) [0, 1, 2, 3, 4, 5, 6, 7] rfl ?_
        exact bX10_whoPicksIf_b37 a0 a1 x2 x3 x4 x5 M oa0 oa1 _ _ _ _ (fun v0 v1 v2 v3 => ih v0 v1 v2 v3) h
      · replace h := (if_pos c_2).symm.trans h
        refine r_iload (pc := 25) dX10_whoPicksIf_25 4 rfl ?_
        refine r_goto (pc := 27) (tgt := 37) dX10_whoPicksIf_27 (by decide) ?_
        refine r_sub (lv' := [(1, .ref (gA G a1)), (2, .int (eI x2)), (3, .int (eI x3)), (4, .int (eI x4)), (5, .int (eI x5)), (6, .int (eI x6)), (7, .int (eI x7)), (8, .int (eI x8))]) [0, 1, 2, 3, 4, 5, 6, 7] rfl ?_
        exact bX10_whoPicksIf_b37 a0 a1 x2 x3 x4 x5 M oa0 oa1 _ _ _ _ (fun v0 v1 v2 v3 => ih v0 v1 v2 v3) h
set_option maxHeartbeats 4000000 in
set_option maxRecDepth 100000 in
theorem bX10_whoPicksIf_b0 {G : GG} (a0 : Nat) (a1 : Nat) (x2 : Int) (x3 : Int) (x4 : Int) (x5 : Int) (M : MM) (oa0 : OB L0 a0 10) (oa1 : OB L0 a1 5)  {res : Int}  (h : sX10_whoPicksIf_b0 a0 a1 x2 x3 x4 x5 M = some res) : VV G xX10_whoPicksIf (ZM G xX10_whoPicksIf (some (.int (eI res))) L0 M) L0 M 0 0 0 [(0, .ref (gA G a0)), (1, .ref (gA G a1)), (2, .int (eI x2)), (3, .int (eI x3)), (4, .int (eI x4)), (5, .int (eI x5))] [] := by
  unfold sX10_whoPicksIf_b0 at h
  refine r_iconst (pc := 0) (v := (-1)) dX10_whoPicksIf_0 (by decide +kernel) ?_
  refine r_istore (pc := 1) (lv' := [(6, .int (eI (-1))), (0, .ref (gA G a0)), (1, .ref (gA G a1)), (2, .int (eI x2)), (3, .int (eI x3)), (4, .int (eI x4)), (5, .int (eI x5))]) dX10_whoPicksIf_1 (Nat.le_of_ble_eq_true rfl) rfl ?_
  refine r_iconst (pc := 3) (v := 0) dX10_whoPicksIf_3 (by decide +kernel) ?_
  refine r_istore (pc := 4) (lv' := [(7, .int (eI 0)), (6, .int (eI (-1))), (0, .ref (gA G a0)), (1, .ref (gA G a1)), (2, .int (eI x2)), (3, .int (eI x3)), (4, .int (eI x4)), (5, .int (eI x5))]) dX10_whoPicksIf_4 (Nat.le_of_ble_eq_true rfl) rfl ?_
  refine r_iconst (pc := 6) (v := 0) dX10_whoPicksIf_6 (by decide +kernel) ?_
  refine r_istore (pc := 7) (lv' := [(8, .int (eI 0)), (7, .int (eI 0)), (6, .int (eI (-1))), (0, .ref (gA G a0)), (1, .ref (gA G a1)), (2, .int (eI x2)), (3, .int (eI x3)), (4, .int (eI x4)), (5, .int (eI x5))]) dX10_whoPicksIf_7 (Nat.le_of_ble_eq_true rfl) rfl ?_
  refine r_sub (lv' := [(1, .ref (gA G a1)), (2, .int (eI x2)), (3, .int (eI x3)), (4, .int (eI x4)), (5, .int (eI x5)), (6, .int (eI (-1))), (7, .int (eI 0)), (8, .int (eI 0))]) [4, 5, 6, 7, 8, 2, 1, 0] rfl ?_
  exact bX10_whoPicksIf_b9 a0 a1 x2 x3 x4 x5 M oa0 oa1 _ _ _ _ h
theorem kX10_whoPicksIf {G : GG} (a0 : Nat) (a1 : Nat) (x2 : Int) (x3 : Int) (x4 : Int) (x5 : Int) (M : MM) {res : Int} (oa0 : OB L0 a0 10) (oa1 : OB L0 a1 5) (h : sX10_whoPicksIf a0 a1 x2 x3 x4 x5 M = some res) : CO G xX10_whoPicksIf [.ref (gA G a0), .ref (gA G a1), .int (eI x2), .int (eI x3), .int (eI x4), .int (eI x5)] L0 M (some (.int (eI res))) L0 M := CO_of (by decide +kernel) (Nat.le_of_ble_eq_true rfl) (bX10_whoPicksIf_b0 a0 a1 x2 x3 x4 x5 M oa0 oa1 h)
abbrev xX10_whoPicks : XX := (yX10_whoPicks, cX10_whoPicks, 4, (some .int), 3, 75, 0, 0)
theorem ck_X10_whoPicks_18 : CKV xX10_whoPicks 18 xX10_whoPicksIf 5 := ⟨⟨tb_i 1190 (by decide +kernel) (by decide +kernel), tb_i 150 (by decide +kernel) (by decide +kernel), tb_i 1193 (by decide +kernel) (by decide +kernel), ⟨by decide +kernel, by decide +kernel, by decide +kernel⟩, by decide, by decide⟩, tb_i 1192 (by decide +kernel) (by decide +kernel), tb_i 37 (by decide +kernel) (by decide +kernel)⟩
def sX10_whoPicks_b0 (a0 : Nat) (a1 : Nat) (x2 : Int) (x3 : Int) (M : MM)   : Option Int := ((sX10_whoPicksIf a0 a1 x2 x3 (-1) 0 M).bind fun q_1 => (some (q_1)))
def sX10_whoPicks (a0 : Nat) (a1 : Nat) (x2 : Int) (x3 : Int) (M : MM) : Option Int := sX10_whoPicks_b0 a0 a1 x2 x3 M
set_option maxHeartbeats 4000000 in
set_option maxRecDepth 100000 in
theorem bX10_whoPicks_b0 {G : GG} (a0 : Nat) (a1 : Nat) (x2 : Int) (x3 : Int) (M : MM) (oa0 : OB L0 a0 10) (oa1 : OB L0 a1 5)  {res : Int}  (h : sX10_whoPicks_b0 a0 a1 x2 x3 M = some res) : VV G xX10_whoPicks (ZM G xX10_whoPicks (some (.int (eI res))) L0 M) L0 M 0 0 0 [(0, .ref (gA G a0)), (1, .ref (gA G a1)), (2, .int (eI x2)), (3, .int (eI x3))] [] := by
  unfold sX10_whoPicks_b0 at h
  refine r_aload_n (pc := 0) (i := 0) dX10_whoPicks_0 rfl 0 rfl ?_
  refine r_aload_n (pc := 1) (i := 1) dX10_whoPicks_1 rfl 1 rfl ?_
  refine r_iload_n (pc := 2) (i := 2) dX10_whoPicks_2 rfl 2 rfl ?_
  refine r_iload_n (pc := 3) (i := 3) dX10_whoPicks_3 rfl 3 rfl ?_
  refine r_iconst (pc := 4) (v := (-1)) dX10_whoPicks_4 (by decide +kernel) ?_
  refine r_iconst (pc := 5) (v := 0) dX10_whoPicks_5 (by decide +kernel) ?_
  obtain ⟨q_1, hq_1, h⟩ := ob h
  refine r_cV (pc := 6) (Y := xX10_whoPicksIf) (As := [.ref (gA G a1), .int (eI x2), .int (eI x3), .int (eI (-1)), .int (eI 0)]) (rest := []) (v := (some (.int (eI q_1)))) (st1 := [.int (eI q_1)]) ck_X10_whoPicks_18 (kX10_whoPicksIf a0 a1 x2 x3 (-1) 0 M oa0 oa1 hq_1) oa0 rfl rfl rfl rfl (Nat.le_of_ble_eq_true rfl) ⟨rfl, rfl⟩ rfl dX10_whoPicks_6 ?_
  cases h
  exact r_iret (pc := 9) rfl rfl (Nat.le_refl 0) (Nat.le_refl 0) dX10_whoPicks_9
theorem kX10_whoPicks {G : GG} (a0 : Nat) (a1 : Nat) (x2 : Int) (x3 : Int) (M : MM) {res : Int} (oa0 : OB L0 a0 10) (oa1 : OB L0 a1 5) (h : sX10_whoPicks a0 a1 x2 x3 M = some res) : CO G xX10_whoPicks [.ref (gA G a0), .ref (gA G a1), .int (eI x2), .int (eI x3)] L0 M (some (.int (eI res))) L0 M := CO_of (by decide +kernel) (Nat.le_of_ble_eq_true rfl) (bX10_whoPicks_b0 a0 a1 x2 x3 M oa0 oa1 h)
abbrev xX10_addToBag : XX := (yX10_addToBag, cX10_addToBag, 3, none, 0, 0, 0, 0)
def sX10_addToBag_b0 (a0 : Nat) (x1 : Int) (x2 : Int)   (M : MM) : Option MM := (if wI x1 < 0 then (some (M)) else (if 8 ≤ wI x1 then (some (M)) else (if 0 ≤ wI x1 ∧ wI x1 < 8 then (if 0 ≤ wI x1 ∧ wI x1 < 8 then ((some (mU M (gR a0 0) (wI x1).toNat ((M (gR a0 0) (wI x1).toNat) + x2))).bind fun M_6 => (some (M_6))) else none) else none)))
def sX10_addToBag (a0 : Nat) (x1 : Int) (x2 : Int) (M : MM) : Option MM := sX10_addToBag_b0 a0 x1 x2 M
set_option maxHeartbeats 4000000 in
set_option maxRecDepth 100000 in
theorem bX10_addToBag_b0 {G : GG} (a0 : Nat) (x1 : Int) (x2 : Int) (oa0 : OB L0 a0 10)  (M : MM) {res : MM}  (h : sX10_addToBag_b0 a0 x1 x2 M = some res) : VV G xX10_addToBag (ZM G xX10_addToBag (none) L0 res) L0 M 0 0 0 [(0, .ref (gA G a0)), (1, .int (eI x1)), (2, .int (eI x2))] [] := by
  unfold sX10_addToBag_b0 at h
  refine r_iload_n (pc := 0) (i := 1) dX10_addToBag_0 rfl 1 rfl ?_
  refine r_if_lt (pc := 1) (tgt := 20) dX10_addToBag_1 (by decide) rfl (fun c_1 => ?_) (fun c_1 => ?_)
  · replace h := (if_pos c_1).symm.trans h
    cases h
    exact r_vret (pc := 20) rfl (Nat.le_refl 0) (Nat.le_refl 0) dX10_addToBag_20
  · replace h := (if_neg c_1).symm.trans h
    refine r_iload_n (pc := 4) (i := 1) dX10_addToBag_4 rfl 1 rfl ?_
    refine r_bipush (pc := 5) (v := 8) dX10_addToBag_5 (by decide +kernel) ?_
    refine r_icmp_ge (pc := 7) (tgt := 20) dX10_addToBag_7 (by decide) rfl wl_8 (fun c_2 => ?_) (fun c_2 => ?_)
    · replace h := (if_pos c_2).symm.trans h
      cases h
      exact r_vret (pc := 20) rfl (Nat.le_refl 0) (Nat.le_refl 0) dX10_addToBag_20
    · replace h := (if_neg c_2).symm.trans h
      refine r_aload_n (pc := 10) (i := 0) dX10_addToBag_10 rfl 0 rfl ?_
      have o_3 := (wt_10_0 oa0).2
      refine r_getR (pc := 11) fg_10_9 rfl oa0 (wt_10_0 oa0).1 dX10_addToBag_11 ?_
      refine r_iload_n (pc := 14) (i := 1) dX10_addToBag_14 rfl 1 rfl ?_
      refine r_dup2 (pc := 15) dX10_addToBag_15 rfl rfl ?_
      obtain ⟨c_4, h⟩ := og h
      refine r_iald (pc := 16) o_3 rfl c_4 rfl dX10_addToBag_16 ?_
      refine r_iload_n (pc := 17) (i := 2) dX10_addToBag_17 rfl 2 rfl ?_
      refine r_iadd (pc := 18) dX10_addToBag_18 ?_
      obtain ⟨c_5, h⟩ := og h
      obtain ⟨M_6, hM_6, h⟩ := ob h
      refine r_iast (pc := 19) o_3 rfl c_5 rfl hM_6 dX10_addToBag_19 ?_
      cases h
      exact r_vret (pc := 20) rfl (Nat.le_refl 0) (Nat.le_refl 0) dX10_addToBag_20
theorem kX10_addToBag {G : GG} (a0 : Nat) (x1 : Int) (x2 : Int) (M : MM) {res : MM} (oa0 : OB L0 a0 10) (h : sX10_addToBag a0 x1 x2 M = some res) : CO G xX10_addToBag [.ref (gA G a0), .int (eI x1), .int (eI x2)] L0 M (none) L0 res := CO_of (by decide +kernel) (Nat.le_of_ble_eq_true rfl) (bX10_addToBag_b0 a0 x1 x2 oa0 M h)
abbrev xX0_passes : XX := (yX0_passes, cX0_passes, 7, none, 5, 111, 0, 0)
theorem ck_X0_passes_33 : CKV xX0_passes 33 xX0_goes 2 := ⟨⟨tb_i 1356 (by decide +kernel) (by decide +kernel), tb_i 151 (by decide +kernel) (by decide +kernel), tb_i 1359 (by decide +kernel) (by decide +kernel), ⟨by decide +kernel, by decide +kernel, by decide +kernel⟩, by decide, by decide⟩, tb_i 1358 (by decide +kernel) (by decide +kernel), tb_i 44 (by decide +kernel) (by decide +kernel)⟩
theorem ck_X0_passes_37 : CKV xX0_passes 37 xX10_emptyBags 0 := ⟨⟨tb_i 1366 (by decide +kernel) (by decide +kernel), tb_i 150 (by decide +kernel) (by decide +kernel), tb_i 1271 (by decide +kernel) (by decide +kernel), ⟨by decide +kernel, by decide +kernel, by decide +kernel⟩, by decide, by decide⟩, tb_i 1269 (by decide +kernel) (by decide +kernel), tb_i 1270 (by decide +kernel) (by decide +kernel)⟩
theorem ck_X0_passes_42 : CKV xX0_passes 42 xX10_weightOfAll 1 := ⟨⟨tb_i 1367 (by decide +kernel) (by decide +kernel), tb_i 150 (by decide +kernel) (by decide +kernel), tb_i 1215 (by decide +kernel) (by decide +kernel), ⟨by decide +kernel, by decide +kernel, by decide +kernel⟩, by decide, by decide⟩, tb_i 1213 (by decide +kernel) (by decide +kernel), tb_i 1214 (by decide +kernel) (by decide +kernel)⟩
theorem ck_X0_passes_49 : CKV xX0_passes 49 xX0_below 1 := ⟨⟨tb_i 1360 (by decide +kernel) (by decide +kernel), tb_i 151 (by decide +kernel) (by decide +kernel), tb_i 1363 (by decide +kernel) (by decide +kernel), ⟨by decide +kernel, by decide +kernel, by decide +kernel⟩, by decide, by decide⟩, tb_i 1362 (by decide +kernel) (by decide +kernel), tb_i 45 (by decide +kernel) (by decide +kernel)⟩
theorem ck_X0_passes_53 : CKS xX0_passes 53 xX0_fallsOn 2 := ⟨⟨tb_i 1368 (by decide +kernel) (by decide +kernel), tb_i 151 (by decide +kernel) (by decide +kernel), tb_i 1370 (by decide +kernel) (by decide +kernel), ⟨by decide +kernel, by decide +kernel, by decide +kernel⟩, by decide, by decide⟩, tb_i 1369 (by decide +kernel) (by decide +kernel)⟩
theorem ck_X0_passes_57 : CKV xX0_passes 57 xX10_whoPicks 3 := ⟨⟨tb_i 1372 (by decide +kernel) (by decide +kernel), tb_i 150 (by decide +kernel) (by decide +kernel), tb_i 1189 (by decide +kernel) (by decide +kernel), ⟨by decide +kernel, by decide +kernel, by decide +kernel⟩, by decide, by decide⟩, tb_i 1187 (by decide +kernel) (by decide +kernel), tb_i 1188 (by decide +kernel) (by decide +kernel)⟩
theorem ck_X0_passes_61 : CKV xX0_passes 61 xX10_addToBag 2 := ⟨⟨tb_i 1373 (by decide +kernel) (by decide +kernel), tb_i 150 (by decide +kernel) (by decide +kernel), tb_i 1284 (by decide +kernel) (by decide +kernel), ⟨by decide +kernel, by decide +kernel, by decide +kernel⟩, by decide, by decide⟩, tb_i 1282 (by decide +kernel) (by decide +kernel), tb_i 1283 (by decide +kernel) (by decide +kernel)⟩
def sX0_passes_b72 (a0 : Nat) (a1 : Nat) (x2 : Int) (a3 : Nat)  : Nat → Int → Int → MM → Option MM
  | 0, _, _, _ => none
  | n + 1, x4, x5, M => (if wI (M a1 14) ≤ wI x5 then (some (M)) else (if wI x4 ≤ 0 then (some (M)) else ((sX0_below a0 x4 M).bind fun q_3 => ((sX0_fallsOn a1 (q_3.1) q_3.2).bind fun q_4 => ((sX10_whoPicks a3 a1 (q_3.2 a0 1) q_4 q_3.2).bind fun q_5 => ((sX10_addToBag a3 q_5 1 q_3.2).bind fun q_6 => ((some (x5 + 1)).bind fun v_7 => (sX0_passes_b72 a0 a1 x2 a3 n x4 v_7 q_6))))))))
def sX0_passes_b58 (a0 : Nat) (a1 : Nat) (x2 : Int) (a3 : Nat)   (M : MM) : Option MM := ((sX10_emptyBags a3 M).bind fun q_1 => ((sX10_weightOfAll a3 a1 q_1).bind fun q_2 => (sX0_passes_b72 a0 a1 x2 a3 FU q_2 0 q_1)))
def sX0_passes_b28 (a0 : Nat) (a1 : Nat) (x2 : Int) (a3 : Nat)  : Nat → Int → MM → Option MM
  | 0, _, _ => none
  | n + 1, x4, M => (if wI (M a1 3) ≤ wI x4 then (sX0_passes_b58 a0 a1 x2 a3 M) else (if wI (M a0 1) = (-1) then ((sX0_goes a0 a1 x4 M).bind fun q_3 => ((some (x4 + 1)).bind fun v_4 => (sX0_passes_b28 a0 a1 x2 a3 n v_4 q_3))) else (sX0_passes_b58 a0 a1 x2 a3 M)))
def sX0_passes_b0 (a0 : Nat) (a1 : Nat) (x2 : Int) (a3 : Nat)   (M : MM) : Option MM := ((some (mU M a0 0 x2)).bind fun M_1 => ((some (mU M_1 a0 1 (-1))).bind fun M_2 => ((some (mU M_2 a0 2 0)).bind fun M_3 => ((some (mU M_3 a0 3 (M_3 (gR a1 2) 0))).bind fun M_5 => (sX0_passes_b28 a0 a1 x2 a3 FU 0 M_5)))))
def sX0_passes (a0 : Nat) (a1 : Nat) (x2 : Int) (a3 : Nat) (M : MM) : Option MM := sX0_passes_b0 a0 a1 x2 a3 M
set_option maxHeartbeats 4000000 in
set_option maxRecDepth 100000 in
theorem bX0_passes_b72 {G : GG} (a0 : Nat) (a1 : Nat) (x2 : Int) (a3 : Nat) (oa0 : OB L0 a0 0) (oa1 : OB L0 a1 5) (oa3 : OB L0 a3 10) {res : MM} : ∀ (n : Nat) (x4 : Int) (x5 : Int) (M : MM)  (h : sX0_passes_b72 a0 a1 x2 a3 n x4 x5 M = some res), VV G xX0_passes (ZM G xX0_passes (none) L0 res) L0 M 0 0 72 [(0, .ref (gA G a0)), (1, .ref (gA G a1)), (3, .ref (gA G a3)), (4, .int (eI x4)), (5, .int (eI x5))] [] := by
  intro n
  induction n with
  | zero =>
    intro x4 x5 M h
    rw [sX0_passes_b72] at h
    cases h
  | succ n ih =>
    intro x4 x5 M h
    rw [sX0_passes_b72] at h
    refine r_iload (pc := 72) dX0_passes_72 4 rfl ?_
    refine r_aload_n (pc := 74) (i := 1) dX0_passes_74 rfl 1 rfl ?_
    refine r_getI (pc := 75) fg_0_46 rfl oa1 dX0_passes_75 ?_
    refine r_icmp_ge (pc := 78) (tgt := 120) dX0_passes_78 (by decide) rfl rfl (fun c_1 => ?_) (fun c_1 => ?_)
    · replace h := (if_pos c_1).symm.trans h
      cases h
      exact r_vret (pc := 120) rfl (Nat.le_refl 0) (Nat.le_refl 0) dX0_passes_120
    · replace h := (if_neg c_1).symm.trans h
      refine r_iload (pc := 81) dX0_passes_81 3 rfl ?_
      refine r_if_le (pc := 83) (tgt := 120) dX0_passes_83 (by decide) rfl (fun c_2 => ?_) (fun c_2 => ?_)
      · replace h := (if_pos c_2).symm.trans h
        cases h
        exact r_vret (pc := 120) rfl (Nat.le_refl 0) (Nat.le_refl 0) dX0_passes_120
      · replace h := (if_neg c_2).symm.trans h
        refine r_aload_n (pc := 86) (i := 1) dX0_passes_86 rfl 1 rfl ?_
        refine r_aload_n (pc := 87) (i := 0) dX0_passes_87 rfl 0 rfl ?_
        refine r_iload (pc := 88) dX0_passes_88 3 rfl ?_
        obtain ⟨q_3, hq_3, h⟩ := ob h
        refine r_cV (pc := 90) (Y := xX0_below) (As := [.int (eI x4)]) (rest := [.ref (gA G a1)]) (v := (some (.int (eI (q_3.1))))) (st1 := [.int (eI (q_3.1)), .ref (gA G a1)]) ck_X0_passes_49 (kX0_below a0 x4 M oa0 hq_3) oa0 rfl rfl rfl rfl (Nat.le_of_ble_eq_true rfl) ⟨rfl, rfl⟩ rfl dX0_passes_90 ?_
        obtain ⟨q_4, hq_4, h⟩ := ob h
        refine r_cS (pc := 93) (Y := xX0_fallsOn) (As := [.ref (gA G a1), .int (eI (q_3.1))]) (rest := []) (v := (some (.int (eI q_4)))) (st1 := [.int (eI q_4)]) ck_X0_passes_53 (kX0_fallsOn a1 (q_3.1) q_3.2 oa1 hq_4) rfl rfl (Nat.le_of_ble_eq_true rfl) ⟨rfl, rfl⟩ rfl dX0_passes_93 ?_
        refine r_istore (pc := 96) (lv' := [(6, .int (eI q_4)), (0, .ref (gA G a0)), (1, .ref (gA G a1)), (3, .ref (gA G a3)), (4, .int (eI x4)), (5, .int (eI x5))]) dX0_passes_96 (Nat.le_of_ble_eq_true rfl) rfl ?_
        refine r_aload_n (pc := 98) (i := 3) dX0_passes_98 rfl 3 rfl ?_
        refine r_aload_n (pc := 99) (i := 3) dX0_passes_99 rfl 3 rfl ?_
        refine r_aload_n (pc := 100) (i := 1) dX0_passes_100 rfl 2 rfl ?_
        refine r_aload_n (pc := 101) (i := 0) dX0_passes_101 rfl 1 rfl ?_
        refine r_getI (pc := 102) fg_0_15 rfl oa0 dX0_passes_102 ?_
        refine r_iload (pc := 105) dX0_passes_105 0 rfl ?_
        obtain ⟨q_5, hq_5, h⟩ := ob h
        refine r_cV (pc := 107) (Y := xX10_whoPicks) (As := [.ref (gA G a1), .int (eI (q_3.2 a0 1)), .int (eI q_4)]) (rest := [.ref (gA G a3)]) (v := (some (.int (eI q_5)))) (st1 := [.int (eI q_5), .ref (gA G a3)]) ck_X0_passes_57 (kX10_whoPicks a3 a1 (q_3.2 a0 1) q_4 q_3.2 oa3 oa1 hq_5) oa3 rfl rfl rfl rfl (Nat.le_of_ble_eq_true rfl) ⟨rfl, rfl⟩ rfl dX0_passes_107 ?_
        refine r_iconst (pc := 110) (v := 1) dX0_passes_110 (by decide +kernel) ?_
        obtain ⟨q_6, hq_6, h⟩ := ob h
        refine r_cV (pc := 111) (Y := xX10_addToBag) (As := [.int (eI q_5), .int (eI 1)]) (rest := []) (v := none) (st1 := []) ck_X0_passes_61 (kX10_addToBag a3 q_5 1 q_3.2 oa3 hq_6) oa3 rfl rfl rfl rfl (Nat.le_of_ble_eq_true rfl) ⟨rfl, rfl⟩ rfl dX0_passes_111 ?_
        obtain ⟨v_7, hv_7, h⟩ := ob h
        refine r_iinc (pc := 114) (y := v_7) (lv' := [(5, .int (eI v_7)), (6, .int (eI q_4)), (0, .ref (gA G a0)), (1, .ref (gA G a1)), (3, .ref (gA G a3)), (4, .int (eI x4))]) dX0_passes_114 5 rfl (Option.some.inj hv_7) (Nat.le_of_ble_eq_true rfl) rfl ?_
        refine r_goto (pc := 117) (tgt := 72) dX0_passes_117 (by decide) ?_
        refine r_sub (lv' := [(0, .ref (gA G a0)), (1, .ref (gA G a1)), (3, .ref (gA G a3)), (4, .int (eI x4)), (5, .int (eI v_7))]) [2, 3, 4, 5, 0] rfl ?_
        exact ih _ _ _ h
set_option maxHeartbeats 4000000 in
set_option maxRecDepth 100000 in
theorem bX0_passes_b58 {G : GG} (a0 : Nat) (a1 : Nat) (x2 : Int) (a3 : Nat) (oa0 : OB L0 a0 0) (oa1 : OB L0 a1 5) (oa3 : OB L0 a3 10)  (M : MM) {res : MM}  (h : sX0_passes_b58 a0 a1 x2 a3 M = some res) : VV G xX0_passes (ZM G xX0_passes (none) L0 res) L0 M 0 0 58 [(0, .ref (gA G a0)), (1, .ref (gA G a1)), (3, .ref (gA G a3))] [] := by
  unfold sX0_passes_b58 at h
  refine r_aload_n (pc := 58) (i := 3) dX0_passes_58 rfl 2 rfl ?_
  obtain ⟨q_1, hq_1, h⟩ := ob h
  refine r_cV (pc := 59) (Y := xX10_emptyBags) (As := []) (rest := []) (v := none) (st1 := []) ck_X0_passes_37 (kX10_emptyBags a3 M oa3 hq_1) oa3 rfl rfl rfl rfl (Nat.le_of_ble_eq_true rfl) ⟨rfl, rfl⟩ rfl dX0_passes_59 ?_
  refine r_aload_n (pc := 62) (i := 3) dX0_passes_62 rfl 2 rfl ?_
  refine r_aload_n (pc := 63) (i := 1) dX0_passes_63 rfl 1 rfl ?_
  obtain ⟨q_2, hq_2, h⟩ := ob h
  refine r_cV (pc := 64) (Y := xX10_weightOfAll) (As := [.ref (gA G a1)]) (rest := []) (v := (some (.int (eI q_2)))) (st1 := [.int (eI q_2)]) ck_X0_passes_42 (kX10_weightOfAll a3 a1 q_1 oa3 oa1 hq_2) oa3 rfl rfl rfl rfl (Nat.le_of_ble_eq_true rfl) ⟨rfl, rfl⟩ rfl dX0_passes_64 ?_
  refine r_istore (pc := 67) (lv' := [(4, .int (eI q_2)), (0, .ref (gA G a0)), (1, .ref (gA G a1)), (3, .ref (gA G a3))]) dX0_passes_67 (Nat.le_of_ble_eq_true rfl) rfl ?_
  refine r_iconst (pc := 69) (v := 0) dX0_passes_69 (by decide +kernel) ?_
  refine r_istore (pc := 70) (lv' := [(5, .int (eI 0)), (4, .int (eI q_2)), (0, .ref (gA G a0)), (1, .ref (gA G a1)), (3, .ref (gA G a3))]) dX0_passes_70 (Nat.le_of_ble_eq_true rfl) rfl ?_
  refine r_sub (lv' := [(0, .ref (gA G a0)), (1, .ref (gA G a1)), (3, .ref (gA G a3)), (4, .int (eI q_2)), (5, .int (eI 0))]) [2, 3, 4, 1, 0] rfl ?_
  exact bX0_passes_b72 a0 a1 x2 a3 oa0 oa1 oa3 _ _ _ _ h
set_option maxHeartbeats 4000000 in
set_option maxRecDepth 100000 in
theorem bX0_passes_b28 {G : GG} (a0 : Nat) (a1 : Nat) (x2 : Int) (a3 : Nat) (oa0 : OB L0 a0 0) (oa1 : OB L0 a1 5) (oa3 : OB L0 a3 10) {res : MM} : ∀ (n : Nat) (x4 : Int) (M : MM)  (h : sX0_passes_b28 a0 a1 x2 a3 n x4 M = some res), VV G xX0_passes (ZM G xX0_passes (none) L0 res) L0 M 0 0 28 [(0, .ref (gA G a0)), (1, .ref (gA G a1)), (3, .ref (gA G a3)), (4, .int (eI x4))] [] := by
  intro n
  induction n with
  | zero =>
    intro x4 M h
    rw [sX0_passes_b28] at h
    cases h
  | succ n ih =>
    intro x4 M h
    rw [sX0_passes_b28] at h
    refine r_iload (pc := 28) dX0_passes_28 3 rfl ?_
    refine r_aload_n (pc := 30) (i := 1) dX0_passes_30 rfl 1 rfl ?_
    refine r_getI (pc := 31) fg_0_30 rfl oa1 dX0_passes_31 ?_
    refine r_icmp_ge (pc := 34) (tgt := 58) dX0_passes_34 (by decide) rfl rfl (fun c_1 => ?_) (fun c_1 => ?_)
    · replace h := (if_pos c_1).symm.trans h
      refine r_sub (lv' := [(0, .ref (gA G a0)), (1, .ref (gA G a1)), (3, .ref (gA G a3))]) [0, 1, 2] rfl ?_
      exact bX0_passes_b58 a0 a1 x2 a3 oa0 oa1 oa3 _ h
    · replace h := (if_neg c_1).symm.trans h
      refine r_aload_n (pc := 37) (i := 0) dX0_passes_37 rfl 0 rfl ?_
      refine r_getI (pc := 38) fg_0_15 rfl oa0 dX0_passes_38 ?_
      refine r_iconst (pc := 41) (v := (-1)) dX0_passes_41 (by decide +kernel) ?_
      refine r_icmp_ne (pc := 42) (tgt := 58) dX0_passes_42 (by decide) rfl wl_m1 (fun c_2 => ?_) (fun c_2 => ?_)
      · replace h := (if_neg c_2).symm.trans h
        refine r_sub (lv' := [(0, .ref (gA G a0)), (1, .ref (gA G a1)), (3, .ref (gA G a3))]) [0, 1, 2] rfl ?_
        exact bX0_passes_b58 a0 a1 x2 a3 oa0 oa1 oa3 _ h
      · replace h := (if_pos c_2).symm.trans h
        refine r_aload_n (pc := 45) (i := 0) dX0_passes_45 rfl 0 rfl ?_
        refine r_aload_n (pc := 46) (i := 1) dX0_passes_46 rfl 1 rfl ?_
        refine r_iload (pc := 47) dX0_passes_47 3 rfl ?_
        obtain ⟨q_3, hq_3, h⟩ := ob h
        refine r_cV (pc := 49) (Y := xX0_goes) (As := [.ref (gA G a1), .int (eI x4)]) (rest := []) (v := none) (st1 := []) ck_X0_passes_33 (kX0_goes a0 a1 x4 M oa0 oa1 hq_3) oa0 rfl rfl rfl rfl (Nat.le_of_ble_eq_true rfl) ⟨rfl, rfl⟩ rfl dX0_passes_49 ?_
        obtain ⟨v_4, hv_4, h⟩ := ob h
        refine r_iinc (pc := 52) (y := v_4) (lv' := [(4, .int (eI v_4)), (0, .ref (gA G a0)), (1, .ref (gA G a1)), (3, .ref (gA G a3))]) dX0_passes_52 3 rfl (Option.some.inj hv_4) (Nat.le_of_ble_eq_true rfl) rfl ?_
        refine r_goto (pc := 55) (tgt := 28) dX0_passes_55 (by decide) ?_
        refine r_sub (lv' := [(0, .ref (gA G a0)), (1, .ref (gA G a1)), (3, .ref (gA G a3)), (4, .int (eI v_4))]) [1, 2, 3, 0] rfl ?_
        exact ih _ _ h
set_option maxHeartbeats 4000000 in
set_option maxRecDepth 100000 in
theorem bX0_passes_b0 {G : GG} (a0 : Nat) (a1 : Nat) (x2 : Int) (a3 : Nat) (oa0 : OB L0 a0 0) (oa1 : OB L0 a1 5) (oa3 : OB L0 a3 10)  (M : MM) {res : MM}  (h : sX0_passes_b0 a0 a1 x2 a3 M = some res) : VV G xX0_passes (ZM G xX0_passes (none) L0 res) L0 M 0 0 0 [(0, .ref (gA G a0)), (1, .ref (gA G a1)), (2, .int (eI x2)), (3, .ref (gA G a3))] [] := by
  unfold sX0_passes_b0 at h
  refine r_aload_n (pc := 0) (i := 0) dX0_passes_0 rfl 0 rfl ?_
  refine r_iload_n (pc := 1) (i := 2) dX0_passes_1 rfl 2 rfl ?_
  obtain ⟨M_1, hM_1, h⟩ := ob h
  refine r_putI (pc := 2) fg_0_9 rfl oa0 hM_1 rfl rfl dX0_passes_2 ?_
  refine r_aload_n (pc := 5) (i := 0) dX0_passes_5 rfl 0 rfl ?_
  refine r_iconst (pc := 6) (v := (-1)) dX0_passes_6 (by decide +kernel) ?_
  obtain ⟨M_2, hM_2, h⟩ := ob h
  refine r_putI (pc := 7) fg_0_15 rfl oa0 hM_2 rfl rfl dX0_passes_7 ?_
  refine r_aload_n (pc := 10) (i := 0) dX0_passes_10 rfl 0 rfl ?_
  refine r_iconst (pc := 11) (v := 0) dX0_passes_11 (by decide +kernel) ?_
  obtain ⟨M_3, hM_3, h⟩ := ob h
  refine r_putI (pc := 12) fg_0_18 rfl oa0 hM_3 rfl rfl dX0_passes_12 ?_
  refine r_aload_n (pc := 15) (i := 0) dX0_passes_15 rfl 0 rfl ?_
  refine r_aload_n (pc := 16) (i := 1) dX0_passes_16 rfl 1 rfl ?_
  have o_4 := (wt_5_2 oa1).2
  refine r_getR (pc := 17) fg_0_21 rfl oa1 (wt_5_2 oa1).1 dX0_passes_17 ?_
  refine r_iconst (pc := 20) (v := 0) dX0_passes_20 (by decide +kernel) ?_
  refine r_iald (pc := 21) o_4 wl_0 ⟨by decide, by decide⟩ rfl dX0_passes_21 ?_
  obtain ⟨M_5, hM_5, h⟩ := ob h
  refine r_putI (pc := 22) fg_0_27 rfl oa0 hM_5 rfl rfl dX0_passes_22 ?_
  refine r_iconst (pc := 25) (v := 0) dX0_passes_25 (by decide +kernel) ?_
  refine r_istore (pc := 26) (lv' := [(4, .int (eI 0)), (0, .ref (gA G a0)), (1, .ref (gA G a1)), (2, .int (eI x2)), (3, .ref (gA G a3))]) dX0_passes_26 (Nat.le_of_ble_eq_true rfl) rfl ?_
  refine r_sub (lv' := [(0, .ref (gA G a0)), (1, .ref (gA G a1)), (3, .ref (gA G a3)), (4, .int (eI 0))]) [1, 2, 4, 0] rfl ?_
  exact bX0_passes_b28 a0 a1 x2 a3 oa0 oa1 oa3 _ _ _ h
theorem kX0_passes {G : GG} (a0 : Nat) (a1 : Nat) (x2 : Int) (a3 : Nat) (M : MM) {res : MM} (oa0 : OB L0 a0 0) (oa1 : OB L0 a1 5) (oa3 : OB L0 a3 10) (h : sX0_passes a0 a1 x2 a3 M = some res) : CO G xX0_passes [.ref (gA G a0), .ref (gA G a1), .int (eI x2), .ref (gA G a3)] L0 M (none) L0 res := CO_of (by decide +kernel) (Nat.le_of_ble_eq_true rfl) (bX0_passes_b0 a0 a1 x2 a3 oa0 oa1 oa3 M h)
abbrev xX0_answer : XX := (yX0_answer, cX0_answer, 2, (some .int), 0, 0, 0, 0)
def sX0_answer_b0 (a0 : Nat) (x1 : Int) (M : MM)   : Int := (if wI x1 = 0 then (M a0 1) else (if wI x1 = 1 then (M a0 2) else (if wI x1 = 2 then (M a0 3) else (-2))))
def sX0_answer (a0 : Nat) (x1 : Int) (M : MM) : Int := sX0_answer_b0 a0 x1 M
set_option maxHeartbeats 4000000 in
set_option maxRecDepth 100000 in
theorem bX0_answer_b0 {G : GG} (a0 : Nat) (x1 : Int) (M : MM) (oa0 : OB L0 a0 0)  {res : Int}  (h : sX0_answer_b0 a0 x1 M = res) : VV G xX0_answer (ZM G xX0_answer (some (.int (eI res))) L0 M) L0 M 0 0 0 [(0, .ref (gA G a0)), (1, .int (eI x1))] [] := by
  unfold sX0_answer_b0 at h
  refine r_iload_n (pc := 0) (i := 1) dX0_answer_0 rfl 1 rfl ?_
  by_cases c_1 : wI x1 = 0
  · replace h := (if_pos c_1).symm.trans h
    refine r_tsw (pc := 1) (tgt := 28) (k' := 0) (rfl.trans c_1) dX0_answer_1 (by decide) rfl (by decide) ?_
    refine r_aload_n (pc := 28) (i := 0) dX0_answer_28 rfl 0 rfl ?_
    refine r_getI (pc := 29) fg_0_15 rfl oa0 dX0_answer_29 ?_
    cases h
    exact r_iret (pc := 32) rfl rfl (Nat.le_refl 0) (Nat.le_refl 0) dX0_answer_32
  · replace h := (if_neg c_1).symm.trans h
    by_cases c_2 : wI x1 = 1
    · replace h := (if_pos c_2).symm.trans h
      refine r_tsw (pc := 1) (tgt := 33) (k' := 1) (rfl.trans c_2) dX0_answer_1 (by decide) rfl (by decide) ?_
      refine r_aload_n (pc := 33) (i := 0) dX0_answer_33 rfl 0 rfl ?_
      refine r_getI (pc := 34) fg_0_18 rfl oa0 dX0_answer_34 ?_
      cases h
      exact r_iret (pc := 37) rfl rfl (Nat.le_refl 0) (Nat.le_refl 0) dX0_answer_37
    · replace h := (if_neg c_2).symm.trans h
      by_cases c_3 : wI x1 = 2
      · replace h := (if_pos c_3).symm.trans h
        refine r_tsw (pc := 1) (tgt := 38) (k' := 2) (rfl.trans c_3) dX0_answer_1 (by decide) rfl (by decide) ?_
        refine r_aload_n (pc := 38) (i := 0) dX0_answer_38 rfl 0 rfl ?_
        refine r_getI (pc := 39) fg_0_27 rfl oa0 dX0_answer_39 ?_
        cases h
        exact r_iret (pc := 42) rfl rfl (Nat.le_refl 0) (Nat.le_refl 0) dX0_answer_42
      · replace h := (if_neg c_3).symm.trans h
        refine r_tswD (pc := 1) (tgt := 43) rfl dX0_answer_1 (by omega) (by decide) ?_
        refine r_bipush (pc := 43) (v := (-2)) dX0_answer_43 (by decide +kernel) ?_
        cases h
        exact r_iret (pc := 45) rfl rfl (Nat.le_refl 0) (Nat.le_refl 0) dX0_answer_45
theorem kX0_answer {G : GG} (a0 : Nat) (x1 : Int) (M : MM) (oa0 : OB L0 a0 0) : CO G xX0_answer [.ref (gA G a0), .int (eI x1)] L0 M (some (.int (eI (sX0_answer a0 x1 M)))) L0 M := CO_of (by decide +kernel) (Nat.le_of_ble_eq_true rfl) (bX0_answer_b0 a0 x1 M oa0 rfl)
abbrev xX1_clear : XX := (yX1_clear, cX1_clear, 2, none, 0, 0, 0, 0)
def sX1_clear_b10 (a0 : Nat)  : Nat → Int → MM → Option MM
  | 0, _, _ => none
  | n + 1, x1, M => (if 8 ≤ wI x1 then (some (M)) else (if 0 ≤ wI x1 ∧ wI x1 < 8 then ((some (mU M (gR a0 1) (wI x1).toNat 5)).bind fun M_4 => ((some (x1 + 1)).bind fun v_5 => (sX1_clear_b10 a0 n v_5 M_4))) else none))
def sX1_clear_b0 (a0 : Nat)   (M : MM) : Option MM := ((some (mU M (gR a0 0) 4 0)).bind fun M_2 => (sX1_clear_b10 a0 FU 0 M_2))
def sX1_clear (a0 : Nat) (M : MM) : Option MM := sX1_clear_b0 a0 M
set_option maxHeartbeats 4000000 in
set_option maxRecDepth 100000 in
theorem bX1_clear_b10 {G : GG} (a0 : Nat) (oa0 : OB L0 a0 1) {res : MM} : ∀ (n : Nat) (x1 : Int) (M : MM)  (h : sX1_clear_b10 a0 n x1 M = some res), VV G xX1_clear (ZM G xX1_clear (none) L0 res) L0 M 0 0 10 [(0, .ref (gA G a0)), (1, .int (eI x1))] [] := by
  intro n
  induction n with
  | zero =>
    intro x1 M h
    rw [sX1_clear_b10] at h
    cases h
  | succ n ih =>
    intro x1 M h
    rw [sX1_clear_b10] at h
    refine r_iload_n (pc := 10) (i := 1) dX1_clear_10 rfl 1 rfl ?_
    refine r_bipush (pc := 11) (v := 8) dX1_clear_11 (by decide +kernel) ?_
    refine r_icmp_ge (pc := 13) (tgt := 29) dX1_clear_13 (by decide) rfl wl_8 (fun c_1 => ?_) (fun c_1 => ?_)
    · replace h := (if_pos c_1).symm.trans h
      cases h
      exact r_vret (pc := 29) rfl (Nat.le_refl 0) (Nat.le_refl 0) dX1_clear_29
    · replace h := (if_neg c_1).symm.trans h
      refine r_aload_n (pc := 16) (i := 0) dX1_clear_16 rfl 0 rfl ?_
      have o_2 := (wt_1_1 oa0).2
      refine r_getR (pc := 17) fg_1_20 rfl oa0 (wt_1_1 oa0).1 dX1_clear_17 ?_
      refine r_iload_n (pc := 20) (i := 1) dX1_clear_20 rfl 1 rfl ?_
      refine r_iconst (pc := 21) (v := 5) dX1_clear_21 (by decide +kernel) ?_
      obtain ⟨c_3, h⟩ := og h
      obtain ⟨M_4, hM_4, h⟩ := ob h
      refine r_iast (pc := 22) o_2 rfl c_3 rfl hM_4 dX1_clear_22 ?_
      obtain ⟨v_5, hv_5, h⟩ := ob h
      refine r_iinc (pc := 23) (y := v_5) (lv' := [(1, .int (eI v_5)), (0, .ref (gA G a0))]) dX1_clear_23 1 rfl (Option.some.inj hv_5) (Nat.le_of_ble_eq_true rfl) rfl ?_
      refine r_goto (pc := 26) (tgt := 10) dX1_clear_26 (by decide) ?_
      refine r_sub (lv' := [(0, .ref (gA G a0)), (1, .int (eI v_5))]) [1, 0] rfl ?_
      exact ih _ _ h
set_option maxHeartbeats 4000000 in
set_option maxRecDepth 100000 in
theorem bX1_clear_b0 {G : GG} (a0 : Nat) (oa0 : OB L0 a0 1)  (M : MM) {res : MM}  (h : sX1_clear_b0 a0 M = some res) : VV G xX1_clear (ZM G xX1_clear (none) L0 res) L0 M 0 0 0 [(0, .ref (gA G a0))] [] := by
  unfold sX1_clear_b0 at h
  refine r_aload_n (pc := 0) (i := 0) dX1_clear_0 rfl 0 rfl ?_
  have o_1 := (wt_1_0 oa0).2
  refine r_getR (pc := 1) fg_1_14 rfl oa0 (wt_1_0 oa0).1 dX1_clear_1 ?_
  refine r_iconst (pc := 4) (v := 0) dX1_clear_4 (by decide +kernel) ?_
  obtain ⟨M_2, hM_2, h⟩ := ob h
  refine r_putI (pc := 5) fg_1_24 rfl o_1 hM_2 rfl rfl dX1_clear_5 ?_
  refine r_iconst (pc := 8) (v := 0) dX1_clear_8 (by decide +kernel) ?_
  refine r_istore_n (pc := 9) (i := 1) (lv' := [(1, .int (eI 0)), (0, .ref (gA G a0))]) dX1_clear_9 rfl (Nat.le_of_ble_eq_true rfl) rfl ?_
  refine r_sub (lv' := [(0, .ref (gA G a0)), (1, .int (eI 0))]) [1, 0] rfl ?_
  exact bX1_clear_b10 a0 oa0 _ _ _ h
theorem kX1_clear {G : GG} (a0 : Nat) (M : MM) {res : MM} (oa0 : OB L0 a0 1) (h : sX1_clear a0 M = some res) : CO G xX1_clear [.ref (gA G a0)] L0 M (none) L0 res := CO_of (by decide +kernel) (Nat.le_of_ble_eq_true rfl) (bX1_clear_b0 a0 oa0 M h)
abbrev xX3_copy : XX := (yX3_copy, cX3_copy, 2, none, 1, 26, 0, 0)
def sX3_copy_b0 (a0 : Nat) (a1 : Nat)   (M : MM) : Option MM := (if wI (M a0 0) = wI (M a1 0) then (if 0 ≤ wI (M a0 0) ∧ wI (M a0 0) ≤ (ln (gR a1 1)) ∧ wI (M a0 0) ≤ (ln (gR a0 1)) then ((some (mC M (gR a1 1) (gR a0 1) (wI (M a0 0)).toNat)).bind fun M_5 => (if 0 ≤ wI (M_5 a0 0) ∧ wI (M_5 a0 0) ≤ (ln (gR a1 2)) ∧ wI (M_5 a0 0) ≤ (ln (gR a0 2)) then ((some (mC M_5 (gR a1 2) (gR a0 2) (wI (M_5 a0 0)).toNat)).bind fun M_9 => (if 0 ≤ wI (M_9 a0 0) ∧ wI (M_9 a0 0) ≤ (ln (gR a1 3)) ∧ wI (M_9 a0 0) ≤ (ln (gR a0 3)) then ((some (mC M_9 (gR a1 3) (gR a0 3) (wI (M_9 a0 0)).toNat)).bind fun M_13 => ((some (mU M_13 a0 4 (M_13 a1 4))).bind fun M_14 => (some (M_14)))) else none)) else none)) else none) else (some (M)))
def sX3_copy (a0 : Nat) (a1 : Nat) (M : MM) : Option MM := sX3_copy_b0 a0 a1 M
set_option maxHeartbeats 4000000 in
set_option maxRecDepth 100000 in
theorem bX3_copy_b0 {G : GG} (a0 : Nat) (a1 : Nat) (oa0 : OB L0 a0 3) (oa1 : OB L0 a1 3)  (M : MM) {res : MM}  (h : sX3_copy_b0 a0 a1 M = some res) : VV G xX3_copy (ZM G xX3_copy (none) L0 res) L0 M 0 0 0 [(0, .ref (gA G a0)), (1, .ref (gA G a1))] [] := by
  unfold sX3_copy_b0 at h
  refine r_aload_n (pc := 0) (i := 0) dX3_copy_0 rfl 0 rfl ?_
  refine r_getI (pc := 1) fg_3_15 rfl oa0 dX3_copy_1 ?_
  refine r_aload_n (pc := 4) (i := 1) dX3_copy_4 rfl 1 rfl ?_
  refine r_getI (pc := 5) fg_3_15 rfl oa1 dX3_copy_5 ?_
  refine r_icmp_ne (pc := 8) (tgt := 70) dX3_copy_8 (by decide) rfl rfl (fun c_1 => ?_) (fun c_1 => ?_)
  · replace h := (if_neg c_1).symm.trans h
    cases h
    exact r_vret (pc := 70) rfl (Nat.le_refl 0) (Nat.le_refl 0) dX3_copy_70
  · replace h := (if_pos c_1).symm.trans h
    refine r_aload_n (pc := 11) (i := 1) dX3_copy_11 rfl 1 rfl ?_
    have o_2 := (wt_3_1 oa1).2
    refine r_getR (pc := 12) fg_3_21 rfl oa1 (wt_3_1 oa1).1 dX3_copy_12 ?_
    refine r_iconst (pc := 15) (v := 0) dX3_copy_15 (by decide +kernel) ?_
    refine r_aload_n (pc := 16) (i := 0) dX3_copy_16 rfl 0 rfl ?_
    have o_3 := (wt_3_1 oa0).2
    refine r_getR (pc := 17) fg_3_21 rfl oa0 (wt_3_1 oa0).1 dX3_copy_17 ?_
    refine r_iconst (pc := 20) (v := 0) dX3_copy_20 (by decide +kernel) ?_
    refine r_aload_n (pc := 21) (i := 0) dX3_copy_21 rfl 0 rfl ?_
    refine r_getI (pc := 22) fg_3_15 rfl oa0 dX3_copy_22 ?_
    obtain ⟨c_4, h⟩ := og h
    obtain ⟨M_5, hM_5, h⟩ := ob h
    refine r_acpI (pc := 25) ml_3_38 ⟨Nat.le_of_ble_eq_true rfl, Nat.le_of_ble_eq_true rfl⟩ o_2 o_3 rfl c_4 hM_5 dX3_copy_25 ?_
    refine r_aload_n (pc := 28) (i := 1) dX3_copy_28 rfl 1 rfl ?_
    have o_6 := (wt_3_2 oa1).2
    refine r_getR (pc := 29) fg_3_25 rfl oa1 (wt_3_2 oa1).1 dX3_copy_29 ?_
    refine r_iconst (pc := 32) (v := 0) dX3_copy_32 (by decide +kernel) ?_
    refine r_aload_n (pc := 33) (i := 0) dX3_copy_33 rfl 0 rfl ?_
    have o_7 := (wt_3_2 oa0).2
    refine r_getR (pc := 34) fg_3_25 rfl oa0 (wt_3_2 oa0).1 dX3_copy_34 ?_
    refine r_iconst (pc := 37) (v := 0) dX3_copy_37 (by decide +kernel) ?_
    refine r_aload_n (pc := 38) (i := 0) dX3_copy_38 rfl 0 rfl ?_
    refine r_getI (pc := 39) fg_3_15 rfl oa0 dX3_copy_39 ?_
    obtain ⟨c_8, h⟩ := og h
    obtain ⟨M_9, hM_9, h⟩ := ob h
    refine r_acpI (pc := 42) ml_3_38 ⟨Nat.le_of_ble_eq_true rfl, Nat.le_of_ble_eq_true rfl⟩ o_6 o_7 rfl c_8 hM_9 dX3_copy_42 ?_
    refine r_aload_n (pc := 45) (i := 1) dX3_copy_45 rfl 1 rfl ?_
    have o_10 := (wt_3_3 oa1).2
    refine r_getR (pc := 46) fg_3_28 rfl oa1 (wt_3_3 oa1).1 dX3_copy_46 ?_
    refine r_iconst (pc := 49) (v := 0) dX3_copy_49 (by decide +kernel) ?_
    refine r_aload_n (pc := 50) (i := 0) dX3_copy_50 rfl 0 rfl ?_
    have o_11 := (wt_3_3 oa0).2
    refine r_getR (pc := 51) fg_3_28 rfl oa0 (wt_3_3 oa0).1 dX3_copy_51 ?_
    refine r_iconst (pc := 54) (v := 0) dX3_copy_54 (by decide +kernel) ?_
    refine r_aload_n (pc := 55) (i := 0) dX3_copy_55 rfl 0 rfl ?_
    refine r_getI (pc := 56) fg_3_15 rfl oa0 dX3_copy_56 ?_
    obtain ⟨c_12, h⟩ := og h
    obtain ⟨M_13, hM_13, h⟩ := ob h
    refine r_acpI (pc := 59) ml_3_38 ⟨Nat.le_of_ble_eq_true rfl, Nat.le_of_ble_eq_true rfl⟩ o_10 o_11 rfl c_12 hM_13 dX3_copy_59 ?_
    refine r_aload_n (pc := 62) (i := 0) dX3_copy_62 rfl 0 rfl ?_
    refine r_aload_n (pc := 63) (i := 1) dX3_copy_63 rfl 1 rfl ?_
    refine r_getI (pc := 64) fg_3_31 rfl oa1 dX3_copy_64 ?_
    obtain ⟨M_14, hM_14, h⟩ := ob h
    refine r_putI (pc := 67) fg_3_31 rfl oa0 hM_14 rfl rfl dX3_copy_67 ?_
    cases h
    exact r_vret (pc := 70) rfl (Nat.le_refl 0) (Nat.le_refl 0) dX3_copy_70
theorem kX3_copy {G : GG} (a0 : Nat) (a1 : Nat) (M : MM) {res : MM} (oa0 : OB L0 a0 3) (oa1 : OB L0 a1 3) (h : sX3_copy a0 a1 M = some res) : CO G xX3_copy [.ref (gA G a0), .ref (gA G a1)] L0 M (none) L0 res := CO_of (by decide +kernel) (Nat.le_of_ble_eq_true rfl) (bX3_copy_b0 a0 a1 oa0 oa1 M h)
abbrev xX1_copy : XX := (yX1_copy, cX1_copy, 2, none, 2, 47, 0, 0)
theorem ck_X1_copy_28 : CKV xX1_copy 28 xX3_copy 1 := ⟨⟨tb_i 851 (by decide +kernel) (by decide +kernel), tb_i 142 (by decide +kernel) (by decide +kernel), tb_i 845 (by decide +kernel) (by decide +kernel), ⟨by decide +kernel, by decide +kernel, by decide +kernel⟩, by decide, by decide⟩, tb_i 843 (by decide +kernel) (by decide +kernel), tb_i 844 (by decide +kernel) (by decide +kernel)⟩
def sX1_copy_b0 (a0 : Nat) (a1 : Nat)   (M : MM) : Option MM := ((sX3_copy (gR a0 0) (gR a1 0) M).bind fun q_3 => ((some (mC q_3 (gR a1 1) (gR a0 1) 8)).bind fun M_6 => (some (M_6))))
def sX1_copy (a0 : Nat) (a1 : Nat) (M : MM) : Option MM := sX1_copy_b0 a0 a1 M
set_option maxHeartbeats 4000000 in
set_option maxRecDepth 100000 in
theorem bX1_copy_b0 {G : GG} (a0 : Nat) (a1 : Nat) (oa0 : OB L0 a0 1) (oa1 : OB L0 a1 1)  (M : MM) {res : MM}  (h : sX1_copy_b0 a0 a1 M = some res) : VV G xX1_copy (ZM G xX1_copy (none) L0 res) L0 M 0 0 0 [(0, .ref (gA G a0)), (1, .ref (gA G a1))] [] := by
  unfold sX1_copy_b0 at h
  refine r_aload_n (pc := 0) (i := 0) dX1_copy_0 rfl 0 rfl ?_
  have o_1 := (wt_1_0 oa0).2
  refine r_getR (pc := 1) fg_1_14 rfl oa0 (wt_1_0 oa0).1 dX1_copy_1 ?_
  refine r_aload_n (pc := 4) (i := 1) dX1_copy_4 rfl 1 rfl ?_
  have o_2 := (wt_1_0 oa1).2
  refine r_getR (pc := 5) fg_1_14 rfl oa1 (wt_1_0 oa1).1 dX1_copy_5 ?_
  obtain ⟨q_3, hq_3, h⟩ := ob h
  refine r_cV (pc := 8) (Y := xX3_copy) (As := [.ref (gA G (gR a1 0))]) (rest := []) (v := none) (st1 := []) ck_X1_copy_28 (kX3_copy (gR a0 0) (gR a1 0) M o_1 o_2 hq_3) o_1 rfl rfl rfl rfl (Nat.le_of_ble_eq_true rfl) ⟨rfl, rfl⟩ rfl dX1_copy_8 ?_
  refine r_aload_n (pc := 11) (i := 1) dX1_copy_11 rfl 1 rfl ?_
  have o_4 := (wt_1_1 oa1).2
  refine r_getR (pc := 12) fg_1_20 rfl oa1 (wt_1_1 oa1).1 dX1_copy_12 ?_
  refine r_iconst (pc := 15) (v := 0) dX1_copy_15 (by decide +kernel) ?_
  refine r_aload_n (pc := 16) (i := 0) dX1_copy_16 rfl 0 rfl ?_
  have o_5 := (wt_1_1 oa0).2
  refine r_getR (pc := 17) fg_1_20 rfl oa0 (wt_1_1 oa0).1 dX1_copy_17 ?_
  refine r_iconst (pc := 20) (v := 0) dX1_copy_20 (by decide +kernel) ?_
  refine r_bipush (pc := 21) (v := 8) dX1_copy_21 (by decide +kernel) ?_
  obtain ⟨M_6, hM_6, h⟩ := ob h
  refine r_acpI (pc := 23) ml_1_32 ⟨Nat.le_of_ble_eq_true rfl, Nat.le_of_ble_eq_true rfl⟩ o_4 o_5 wl_8 ⟨by decide, by decide, by decide⟩ hM_6 dX1_copy_23 ?_
  cases h
  exact r_vret (pc := 26) rfl (Nat.le_refl 0) (Nat.le_refl 0) dX1_copy_26
theorem kX1_copy {G : GG} (a0 : Nat) (a1 : Nat) (M : MM) {res : MM} (oa0 : OB L0 a0 1) (oa1 : OB L0 a1 1) (h : sX1_copy a0 a1 M = some res) : CO G xX1_copy [.ref (gA G a0), .ref (gA G a1)] L0 M (none) L0 res := CO_of (by decide +kernel) (Nat.le_of_ble_eq_true rfl) (bX1_copy_b0 a0 a1 oa0 oa1 M h)
abbrev xX11_farOf : XX := (yX11_farOf, cX11_farOf, 3, (some .int), 1, 23, 0, 0)
def sX11_farOf_b0 (x0 : Int) (x1 : Int)   : Int := (min (wI ((x0 - x1) % 8)) (wI (8 - ((x0 - x1) % 8))))
def sX11_farOf (x0 : Int) (x1 : Int) : Int := sX11_farOf_b0 x0 x1
set_option maxHeartbeats 4000000 in
set_option maxRecDepth 100000 in
theorem bX11_farOf_b0 {G : GG} (x0 : Int) (x1 : Int) (M : MM)   {res : Int}  (h : sX11_farOf_b0 x0 x1 = res) : VV G xX11_farOf (ZM G xX11_farOf (some (.int (eI res))) L0 M) L0 M 0 0 0 [(0, .int (eI x0)), (1, .int (eI x1))] [] := by
  unfold sX11_farOf_b0 at h
  refine r_iload_n (pc := 0) (i := 0) dX11_farOf_0 rfl 0 rfl ?_
  refine r_iload_n (pc := 1) (i := 1) dX11_farOf_1 rfl 1 rfl ?_
  refine r_isub (pc := 2) dX11_farOf_2 ?_
  refine r_bipush (pc := 3) (v := 7) dX11_farOf_3 (by decide +kernel) ?_
  refine r_iand (pc := 5) 3 (by decide) wl_7 rfl dX11_farOf_5 ?_
  refine r_istore_n (pc := 6) (i := 2) (lv' := [(2, .int (eI ((x0 - x1) % 8))), (0, .int (eI x0)), (1, .int (eI x1))]) dX11_farOf_6 rfl (Nat.le_of_ble_eq_true rfl) rfl ?_
  refine r_iload_n (pc := 7) (i := 2) dX11_farOf_7 rfl 0 rfl ?_
  refine r_bipush (pc := 8) (v := 8) dX11_farOf_8 (by decide +kernel) ?_
  refine r_iload_n (pc := 10) (i := 2) dX11_farOf_10 rfl 0 rfl ?_
  refine r_isub (pc := 11) dX11_farOf_11 ?_
  refine r_mmin (pc := 12) ml_11_371 ⟨Nat.le_of_ble_eq_true rfl, Nat.le_of_ble_eq_true rfl, Nat.le_of_ble_eq_true rfl, Nat.le_of_ble_eq_true rfl⟩ rfl rfl dX11_farOf_12 ?_
  cases h
  exact r_iret (pc := 15) rfl rfl (Nat.le_refl 0) (Nat.le_refl 0) dX11_farOf_15
theorem kX11_farOf {G : GG} (x0 : Int) (x1 : Int) (M : MM)  : CO G xX11_farOf [.int (eI x0), .int (eI x1)] L0 M (some (.int (eI (sX11_farOf x0 x1)))) L0 M := CO_of (by decide +kernel) (Nat.le_of_ble_eq_true rfl) (bX11_farOf_b0 x0 x1 M rfl)
abbrev xX2_timesBySays : XX := (yX2_timesBySays, cX2_timesBySays, 4, (some .int), 0, 0, 0, 0)
def sX2_timesBySays_b20 (a0 : Nat) (x1 : Int) (x2 : Int) (M : MM)  (x90 : Int) : Option Int := (if wI x2 = 0 then (some ((7 * x90))) else (some ((10 - x90))))
def sX2_timesBySays_b19 (a0 : Nat) (x1 : Int) (x2 : Int) (M : MM)   : Option Int := (sX2_timesBySays_b20 a0 x1 x2 M 0)
def sX2_timesBySays_b0 (a0 : Nat) (x1 : Int) (x2 : Int) (M : MM)   : Option Int := (if wI x1 < 0 then (sX2_timesBySays_b19 a0 x1 x2 M) else (if 8 ≤ wI x1 then (sX2_timesBySays_b19 a0 x1 x2 M) else (if 0 ≤ wI x1 ∧ wI x1 < 8 then (sX2_timesBySays_b20 a0 x1 x2 M (M (gR a0 1) (wI x1).toNat)) else none)))
def sX2_timesBySays (a0 : Nat) (x1 : Int) (x2 : Int) (M : MM) : Option Int := sX2_timesBySays_b0 a0 x1 x2 M
set_option maxHeartbeats 4000000 in
set_option maxRecDepth 100000 in
theorem bX2_timesBySays_b20 {G : GG} (a0 : Nat) (x1 : Int) (x2 : Int) (M : MM) (oa0 : OB L0 a0 1) (x90 : Int) {res : Int}  (h : sX2_timesBySays_b20 a0 x1 x2 M x90 = some res) : VV G xX2_timesBySays (ZM G xX2_timesBySays (some (.int (eI res))) L0 M) L0 M 0 0 20 [(2, .int (eI x2))] [.int (eI x90)] := by
  unfold sX2_timesBySays_b20 at h
  refine r_istore_n (pc := 20) (i := 3) (lv' := [(3, .int (eI x90)), (2, .int (eI x2))]) dX2_timesBySays_20 rfl (Nat.le_of_ble_eq_true rfl) rfl ?_
  refine r_iload_n (pc := 21) (i := 2) dX2_timesBySays_21 rfl 1 rfl ?_
  refine r_if_ne (pc := 22) (tgt := 32) dX2_timesBySays_22 (by decide) rfl (fun c_1 => ?_) (fun c_1 => ?_)
  · replace h := (if_neg c_1).symm.trans h
    refine r_bipush (pc := 32) (v := 10) dX2_timesBySays_32 (by decide +kernel) ?_
    refine r_iload_n (pc := 34) (i := 3) dX2_timesBySays_34 rfl 0 rfl ?_
    refine r_isub (pc := 35) dX2_timesBySays_35 ?_
    cases h
    exact r_iret (pc := 36) rfl rfl (Nat.le_refl 0) (Nat.le_refl 0) dX2_timesBySays_36
  · replace h := (if_pos c_1).symm.trans h
    refine r_bipush (pc := 25) (v := 7) dX2_timesBySays_25 (by decide +kernel) ?_
    refine r_iload_n (pc := 27) (i := 3) dX2_timesBySays_27 rfl 0 rfl ?_
    refine r_imul (pc := 28) dX2_timesBySays_28 ?_
    refine r_goto (pc := 29) (tgt := 36) dX2_timesBySays_29 (by decide) ?_
    cases h
    exact r_iret (pc := 36) rfl rfl (Nat.le_refl 0) (Nat.le_refl 0) dX2_timesBySays_36
set_option maxHeartbeats 4000000 in
set_option maxRecDepth 100000 in
theorem bX2_timesBySays_b19 {G : GG} (a0 : Nat) (x1 : Int) (x2 : Int) (M : MM) (oa0 : OB L0 a0 1)  {res : Int}  (h : sX2_timesBySays_b19 a0 x1 x2 M = some res) : VV G xX2_timesBySays (ZM G xX2_timesBySays (some (.int (eI res))) L0 M) L0 M 0 0 19 [(2, .int (eI x2))] [] := by
  unfold sX2_timesBySays_b19 at h
  refine r_iconst (pc := 19) (v := 0) dX2_timesBySays_19 (by decide +kernel) ?_
  refine r_sub (lv' := [(2, .int (eI x2))]) [0] rfl ?_
  exact bX2_timesBySays_b20 a0 x1 x2 M oa0 _ h
set_option maxHeartbeats 4000000 in
set_option maxRecDepth 100000 in
theorem bX2_timesBySays_b0 {G : GG} (a0 : Nat) (x1 : Int) (x2 : Int) (M : MM) (oa0 : OB L0 a0 1)  {res : Int}  (h : sX2_timesBySays_b0 a0 x1 x2 M = some res) : VV G xX2_timesBySays (ZM G xX2_timesBySays (some (.int (eI res))) L0 M) L0 M 0 0 0 [(0, .ref (gA G a0)), (1, .int (eI x1)), (2, .int (eI x2))] [] := by
  unfold sX2_timesBySays_b0 at h
  refine r_iload_n (pc := 0) (i := 1) dX2_timesBySays_0 rfl 1 rfl ?_
  refine r_if_lt (pc := 1) (tgt := 19) dX2_timesBySays_1 (by decide) rfl (fun c_1 => ?_) (fun c_1 => ?_)
  · replace h := (if_pos c_1).symm.trans h
    refine r_sub (lv' := [(2, .int (eI x2))]) [2] rfl ?_
    exact bX2_timesBySays_b19 a0 x1 x2 M oa0 h
  · replace h := (if_neg c_1).symm.trans h
    refine r_iload_n (pc := 4) (i := 1) dX2_timesBySays_4 rfl 1 rfl ?_
    refine r_bipush (pc := 5) (v := 8) dX2_timesBySays_5 (by decide +kernel) ?_
    refine r_icmp_ge (pc := 7) (tgt := 19) dX2_timesBySays_7 (by decide) rfl wl_8 (fun c_2 => ?_) (fun c_2 => ?_)
    · replace h := (if_pos c_2).symm.trans h
      refine r_sub (lv' := [(2, .int (eI x2))]) [2] rfl ?_
      exact bX2_timesBySays_b19 a0 x1 x2 M oa0 h
    · replace h := (if_neg c_2).symm.trans h
      refine r_aload_n (pc := 10) (i := 0) dX2_timesBySays_10 rfl 0 rfl ?_
      have o_3 := (wt_1_1 oa0).2
      refine r_getR (pc := 11) fg_2_57 rfl oa0 (wt_1_1 oa0).1 dX2_timesBySays_11 ?_
      refine r_iload_n (pc := 14) (i := 1) dX2_timesBySays_14 rfl 1 rfl ?_
      obtain ⟨c_4, h⟩ := og h
      refine r_iald (pc := 15) o_3 rfl c_4 rfl dX2_timesBySays_15 ?_
      refine r_goto (pc := 16) (tgt := 20) dX2_timesBySays_16 (by decide) ?_
      refine r_sub (lv' := [(2, .int (eI x2))]) [2] rfl ?_
      exact bX2_timesBySays_b20 a0 x1 x2 M oa0 _ h
theorem kX2_timesBySays {G : GG} (a0 : Nat) (x1 : Int) (x2 : Int) (M : MM) {res : Int} (oa0 : OB L0 a0 1) (h : sX2_timesBySays a0 x1 x2 M = some res) : CO G xX2_timesBySays [.ref (gA G a0), .int (eI x1), .int (eI x2)] L0 M (some (.int (eI res))) L0 M := CO_of (by decide +kernel) (Nat.le_of_ble_eq_true rfl) (bX2_timesBySays_b0 a0 x1 x2 M oa0 h)
abbrev xX2_timesBy : XX := (yX2_timesBy, cX2_timesBy, 6, (some .int), 2, 45, 0, 0)
theorem ck_X2_timesBy_47 : CKN xX2_timesBy 47 xX11_farOf 2 "PaperDonkey" := ⟨tn_i 1005 (by decide +kernel) rfl, tb_i 139 (by decide +kernel) (by decide +kernel), tb_i 942 (by decide +kernel) (by decide +kernel), ⟨by decide +kernel, by decide +kernel, by decide +kernel⟩, by decide, by decide, tb_i 941 (by decide +kernel) (by decide +kernel)⟩
theorem ck_X2_timesBy_54 : CKS xX2_timesBy 54 xX2_timesBySays 3 := ⟨⟨tb_i 1006 (by decide +kernel) (by decide +kernel), tb_i 148 (by decide +kernel) (by decide +kernel), tb_i 1008 (by decide +kernel) (by decide +kernel), ⟨by decide +kernel, by decide +kernel, by decide +kernel⟩, by decide, by decide⟩, tb_i 1007 (by decide +kernel) (by decide +kernel)⟩
def sX2_timesBy_b0 (a0 : Nat) (x1 : Int) (x2 : Int) (M : MM)   : Option Int := (if 0 ≤ wI x1 ∧ wI x1 < (ln (gR (gR a0 0) 1)) then ((some ((M (gR (gR a0 0) 1) (wI x1).toNat) + 18)).bind fun v_4 => (if 0 ≤ wI x1 ∧ wI x1 < (ln (gR (gR a0 0) 3)) then ((some (M (gR (gR a0 0) 3) (wI x1).toNat)).bind fun v_8 => (if wI v_4 = 18 then (if 0 ≤ wI x1 ∧ wI x1 < (ln (gR (gR a0 0) 2)) then ((sX2_timesBySays a0 (M (gR (gR a0 0) 2) (wI x1).toNat) (sX11_farOf v_8 x2) M).bind fun q_13 => (some (q_13))) else none) else (if wI v_4 = 19 then (if wI (sX11_farOf v_8 x2) < 2 then (some (0)) else (some (1))) else (if wI v_4 = 20 then (if wI (sX11_farOf v_8 x2) = 1 then (some (1)) else (some (0))) else (if wI (sX11_farOf v_8 x2) = 0 then (some (1)) else (some (0))))))) else none)) else none)
def sX2_timesBy (a0 : Nat) (x1 : Int) (x2 : Int) (M : MM) : Option Int := sX2_timesBy_b0 a0 x1 x2 M
set_option maxHeartbeats 4000000 in
set_option maxRecDepth 100000 in
theorem bX2_timesBy_b0 {G : GG} (a0 : Nat) (x1 : Int) (x2 : Int) (M : MM) (oa0 : OB L0 a0 1)  {res : Int}  (h : sX2_timesBy_b0 a0 x1 x2 M = some res) : VV G xX2_timesBy (ZM G xX2_timesBy (some (.int (eI res))) L0 M) L0 M 0 0 0 [(0, .ref (gA G a0)), (1, .int (eI x1)), (2, .int (eI x2))] [] := by
  unfold sX2_timesBy_b0 at h
  refine r_aload_n (pc := 0) (i := 0) dX2_timesBy_0 rfl 0 rfl ?_
  have o_1 := (wt_1_0 oa0).2
  refine r_getR (pc := 1) fg_2_25 rfl oa0 (wt_1_0 oa0).1 dX2_timesBy_1 ?_
  have o_2 := (wt_3_1 o_1).2
  refine r_getR (pc := 4) fg_2_41 rfl o_1 (wt_3_1 o_1).1 dX2_timesBy_4 ?_
  refine r_iload_n (pc := 7) (i := 1) dX2_timesBy_7 rfl 1 rfl ?_
  obtain ⟨c_3, h⟩ := og h
  refine r_iald (pc := 8) o_2 rfl c_3 rfl dX2_timesBy_8 ?_
  refine r_bipush (pc := 9) (v := 18) dX2_timesBy_9 (by decide +kernel) ?_
  refine r_iadd (pc := 11) dX2_timesBy_11 ?_
  obtain ⟨v_4, hv_4, h⟩ := ob h
  refine r_nmI (pc := 12) hv_4 ?_
  refine r_istore_n (pc := 12) (i := 3) (lv' := [(3, .int (eI v_4)), (0, .ref (gA G a0)), (1, .int (eI x1)), (2, .int (eI x2))]) dX2_timesBy_12 rfl (Nat.le_of_ble_eq_true rfl) rfl ?_
  refine r_aload_n (pc := 13) (i := 0) dX2_timesBy_13 rfl 1 rfl ?_
  have o_5 := (wt_1_0 oa0).2
  refine r_getR (pc := 14) fg_2_25 rfl oa0 (wt_1_0 oa0).1 dX2_timesBy_14 ?_
  have o_6 := (wt_3_3 o_5).2
  refine r_getR (pc := 17) fg_2_44 rfl o_5 (wt_3_3 o_5).1 dX2_timesBy_17 ?_
  refine r_iload_n (pc := 20) (i := 1) dX2_timesBy_20 rfl 2 rfl ?_
  obtain ⟨c_7, h⟩ := og h
  refine r_iald (pc := 21) o_6 rfl c_7 rfl dX2_timesBy_21 ?_
  obtain ⟨v_8, hv_8, h⟩ := ob h
  refine r_nmI (pc := 22) hv_8 ?_
  refine r_istore (pc := 22) (lv' := [(4, .int (eI v_8)), (3, .int (eI v_4)), (0, .ref (gA G a0)), (1, .int (eI x1)), (2, .int (eI x2))]) dX2_timesBy_22 (Nat.le_of_ble_eq_true rfl) rfl ?_
  refine r_iload (pc := 24) dX2_timesBy_24 0 rfl ?_
  refine r_iload_n (pc := 26) (i := 2) dX2_timesBy_26 rfl 4 rfl ?_
  refine r_cN (pc := 27) (Y := xX11_farOf) (As := [.int (eI v_8), .int (eI x2)]) (rest := []) (v := (some (.int (eI (sX11_farOf v_8 x2))))) (st1 := [.int (eI (sX11_farOf v_8 x2))]) ck_X2_timesBy_47 (kX11_farOf v_8 x2 M ) rfl rfl (Nat.le_of_ble_eq_true rfl) ⟨rfl, rfl⟩ rfl dX2_timesBy_27 ?_
  refine r_istore (pc := 30) (lv' := [(5, .int (eI (sX11_farOf v_8 x2))), (4, .int (eI v_8)), (3, .int (eI v_4)), (0, .ref (gA G a0)), (1, .int (eI x1)), (2, .int (eI x2))]) dX2_timesBy_30 (Nat.le_of_ble_eq_true rfl) rfl ?_
  refine r_iload_n (pc := 32) (i := 3) dX2_timesBy_32 rfl 2 rfl ?_
  by_cases c_9 : wI v_4 = 18
  · replace h := (if_pos c_9).symm.trans h
    refine r_tsw (pc := 33) (tgt := 60) (k' := 18) (rfl.trans c_9) dX2_timesBy_33 (by decide) rfl (by decide) ?_
    refine r_aload_n (pc := 60) (i := 0) dX2_timesBy_60 rfl 3 rfl ?_
    refine r_aload_n (pc := 61) (i := 0) dX2_timesBy_61 rfl 3 rfl ?_
    have o_10 := (wt_1_0 oa0).2
    refine r_getR (pc := 62) fg_2_25 rfl oa0 (wt_1_0 oa0).1 dX2_timesBy_62 ?_
    have o_11 := (wt_3_2 o_10).2
    refine r_getR (pc := 65) fg_2_51 rfl o_10 (wt_3_2 o_10).1 dX2_timesBy_65 ?_
    refine r_iload_n (pc := 68) (i := 1) dX2_timesBy_68 rfl 4 rfl ?_
    obtain ⟨c_12, h⟩ := og h
    refine r_iald (pc := 69) o_11 rfl c_12 rfl dX2_timesBy_69 ?_
    refine r_iload (pc := 70) dX2_timesBy_70 0 rfl ?_
    obtain ⟨q_13, hq_13, h⟩ := ob h
    refine r_cS (pc := 72) (Y := xX2_timesBySays) (As := [.ref (gA G a0), .int (eI (M (gR (gR a0 0) 2) (wI x1).toNat)), .int (eI (sX11_farOf v_8 x2))]) (rest := []) (v := (some (.int (eI q_13)))) (st1 := [.int (eI q_13)]) ck_X2_timesBy_54 (kX2_timesBySays a0 (M (gR (gR a0 0) 2) (wI x1).toNat) (sX11_farOf v_8 x2) M oa0 hq_13) rfl rfl (Nat.le_of_ble_eq_true rfl) ⟨rfl, rfl⟩ rfl dX2_timesBy_72 ?_
    cases h
    exact r_iret (pc := 75) rfl rfl (Nat.le_refl 0) (Nat.le_refl 0) dX2_timesBy_75
  · replace h := (if_neg c_9).symm.trans h
    by_cases c_14 : wI v_4 = 19
    · replace h := (if_pos c_14).symm.trans h
      refine r_tsw (pc := 33) (tgt := 76) (k' := 19) (rfl.trans c_14) dX2_timesBy_33 (by decide) rfl (by decide) ?_
      refine r_iload (pc := 76) dX2_timesBy_76 0 rfl ?_
      refine r_iconst (pc := 78) (v := 2) dX2_timesBy_78 (by decide +kernel) ?_
      refine r_icmp_lt (pc := 79) (tgt := 86) dX2_timesBy_79 (by decide) rfl wl_2 (fun c_15 => ?_) (fun c_15 => ?_)
      · replace h := (if_pos c_15).symm.trans h
        refine r_iconst (pc := 86) (v := 0) dX2_timesBy_86 (by decide +kernel) ?_
        cases h
        exact r_iret (pc := 87) rfl rfl (Nat.le_refl 0) (Nat.le_refl 0) dX2_timesBy_87
      · replace h := (if_neg c_15).symm.trans h
        refine r_iconst (pc := 82) (v := 1) dX2_timesBy_82 (by decide +kernel) ?_
        refine r_goto (pc := 83) (tgt := 87) dX2_timesBy_83 (by decide) ?_
        cases h
        exact r_iret (pc := 87) rfl rfl (Nat.le_refl 0) (Nat.le_refl 0) dX2_timesBy_87
    · replace h := (if_neg c_14).symm.trans h
      by_cases c_16 : wI v_4 = 20
      · replace h := (if_pos c_16).symm.trans h
        refine r_tsw (pc := 33) (tgt := 88) (k' := 20) (rfl.trans c_16) dX2_timesBy_33 (by decide) rfl (by decide) ?_
        refine r_iload (pc := 88) dX2_timesBy_88 0 rfl ?_
        refine r_iconst (pc := 90) (v := 1) dX2_timesBy_90 (by decide +kernel) ?_
        refine r_icmp_ne (pc := 91) (tgt := 98) dX2_timesBy_91 (by decide) rfl wl_1 (fun c_17 => ?_) (fun c_17 => ?_)
        · replace h := (if_neg c_17).symm.trans h
          refine r_iconst (pc := 98) (v := 0) dX2_timesBy_98 (by decide +kernel) ?_
          cases h
          exact r_iret (pc := 99) rfl rfl (Nat.le_refl 0) (Nat.le_refl 0) dX2_timesBy_99
        · replace h := (if_pos c_17).symm.trans h
          refine r_iconst (pc := 94) (v := 1) dX2_timesBy_94 (by decide +kernel) ?_
          refine r_goto (pc := 95) (tgt := 99) dX2_timesBy_95 (by decide) ?_
          cases h
          exact r_iret (pc := 99) rfl rfl (Nat.le_refl 0) (Nat.le_refl 0) dX2_timesBy_99
      · replace h := (if_neg c_16).symm.trans h
        refine r_tswD (pc := 33) (tgt := 100) rfl dX2_timesBy_33 (by omega) (by decide) ?_
        refine r_iload (pc := 100) dX2_timesBy_100 0 rfl ?_
        refine r_if_ne (pc := 102) (tgt := 109) dX2_timesBy_102 (by decide) rfl (fun c_18 => ?_) (fun c_18 => ?_)
        · replace h := (if_neg c_18).symm.trans h
          refine r_iconst (pc := 109) (v := 0) dX2_timesBy_109 (by decide +kernel) ?_
          cases h
          exact r_iret (pc := 110) rfl rfl (Nat.le_refl 0) (Nat.le_refl 0) dX2_timesBy_110
        · replace h := (if_pos c_18).symm.trans h
          refine r_iconst (pc := 105) (v := 1) dX2_timesBy_105 (by decide +kernel) ?_
          refine r_goto (pc := 106) (tgt := 110) dX2_timesBy_106 (by decide) ?_
          cases h
          exact r_iret (pc := 110) rfl rfl (Nat.le_refl 0) (Nat.le_refl 0) dX2_timesBy_110
theorem kX2_timesBy {G : GG} (a0 : Nat) (x1 : Int) (x2 : Int) (M : MM) {res : Int} (oa0 : OB L0 a0 1) (h : sX2_timesBy a0 x1 x2 M = some res) : CO G xX2_timesBy [.ref (gA G a0), .int (eI x1), .int (eI x2)] L0 M (some (.int (eI res))) L0 M := CO_of (by decide +kernel) (Nat.le_of_ble_eq_true rfl) (bX2_timesBy_b0 a0 x1 x2 M oa0 h)
abbrev xX2_weighs : XX := (yX2_weighs, cX2_weighs, 6, none, 3, 70, 0, 0)
theorem ck_X2_weighs_37 : CKS xX2_weighs 37 xX2_timesBy 3 := ⟨⟨tb_i 1002 (by decide +kernel) (by decide +kernel), tb_i 148 (by decide +kernel) (by decide +kernel), tb_i 1004 (by decide +kernel) (by decide +kernel), ⟨by decide +kernel, by decide +kernel, by decide +kernel⟩, by decide, by decide⟩, tb_i 1003 (by decide +kernel) (by decide +kernel)⟩
def sX2_weighs_b70 (a0 : Nat) (a1 : Nat) (a2 : Nat) (x3 : Int) (K33 : Int → Int → MM → Option MM) (x4 : Int) (x5 : Int) (M : MM) : Option MM := ((some (x5 + 1)).bind fun v_1 => (K33 x4 v_1 M))
def sX2_weighs_b33 (a0 : Nat) (a1 : Nat) (a2 : Nat) (x3 : Int) (K8 : Int → MM → Option MM) : Nat → Int → Int → MM → Option MM
  | 0, _, _, _ => none
  | n + 1, x4, x5, M => (if wI (M (gR a2 0) 4) ≤ wI x5 then (if 0 ≤ wI x4 ∧ wI x4 < 8 then ((some (mU M a0 1 ((M a0 1) + (M (gR a0 0) (wI x4).toNat)))).bind fun M_5 => ((some (x4 + 1)).bind fun v_6 => (K8 v_6 M_5))) else none) else (if wI x5 = wI x3 then (sX2_weighs_b70 a0 a1 a2 x3 (fun x4 x5 M => sX2_weighs_b33 a0 a1 a2 x3 K8 n x4 x5 M) x4 x5 M) else (if 0 ≤ wI x4 ∧ wI x4 < 8 then ((sX2_timesBy a2 x5 x4 M).bind fun q_10 => (if 0 ≤ wI x4 ∧ wI x4 < 8 then ((some (mU M (gR a0 0) (wI x4).toNat ((M (gR a0 0) (wI x4).toNat) * (wI q_10)))).bind fun M_12 => (sX2_weighs_b70 a0 a1 a2 x3 (fun x4 x5 M => sX2_weighs_b33 a0 a1 a2 x3 K8 n x4 x5 M) x4 x5 M_12)) else none)) else none)))
def sX2_weighs_b8 (a0 : Nat) (a1 : Nat) (a2 : Nat) (x3 : Int)  : Nat → Int → MM → Option MM
  | 0, _, _ => none
  | n + 1, x4, M => (if 8 ≤ wI x4 then (some (M)) else (if 0 ≤ wI x4 ∧ wI x4 < 8 then (if 0 ≤ wI x4 ∧ wI x4 < 8 then ((some (mU M (gR a0 0) (wI x4).toNat (wI (M (gR a1 10) (wI x4).toNat)))).bind fun M_6 => (sX2_weighs_b33 a0 a1 a2 x3 (fun x4 M => sX2_weighs_b8 a0 a1 a2 x3 n x4 M) FU x4 0 M_6)) else none) else none))
def sX2_weighs_b0 (a0 : Nat) (a1 : Nat) (a2 : Nat) (x3 : Int)   (M : MM) : Option MM := ((some (mU M a0 1 0)).bind fun M_1 => (sX2_weighs_b8 a0 a1 a2 x3 FU 0 M_1))
def sX2_weighs (a0 : Nat) (a1 : Nat) (a2 : Nat) (x3 : Int) (M : MM) : Option MM := sX2_weighs_b0 a0 a1 a2 x3 M
set_option maxHeartbeats 4000000 in
set_option maxRecDepth 100000 in
theorem bX2_weighs_b70 {G : GG} (a0 : Nat) (a1 : Nat) (a2 : Nat) (x3 : Int) (oa0 : OB L0 a0 2) (oa1 : OB L0 a1 5) (oa2 : OB L0 a2 1) {K33 : Int → Int → MM → Option MM} (x4 : Int) (x5 : Int) (M : MM) {res : MM} (hK33 : ∀ (x4 : Int) (x5 : Int) (M : MM), K33 x4 x5 M = some res → VV G xX2_weighs (ZM G xX2_weighs (none) L0 res) L0 M 0 0 33 [(0, .ref (gA G a0)), (1, .ref (gA G a1)), (2, .ref (gA G a2)), (3, .int (eI x3)), (4, .int (eI x4)), (5, .int (eI x5))] [])  (h : sX2_weighs_b70 a0 a1 a2 x3 K33 x4 x5 M = some res) : VV G xX2_weighs (ZM G xX2_weighs (none) L0 res) L0 M 0 0 70 [(0, .ref (gA G a0)), (1, .ref (gA G a1)), (2, .ref (gA G a2)), (3, .int (eI x3)), (4, .int (eI x4)), (5, .int (eI x5))] [] := by
  unfold sX2_weighs_b70 at h
  obtain ⟨v_1, hv_1, h⟩ := ob h
  refine r_iinc (pc := 70) (y := v_1) (lv' := [(5, .int (eI v_1)), (0, .ref (gA G a0)), (1, .ref (gA G a1)), (2, .ref (gA G a2)), (3, .int (eI x3)), (4, .int (eI x4))]) dX2_weighs_70 5 rfl (Option.some.inj hv_1) (Nat.le_of_ble_eq_true rfl) rfl ?_
  refine r_goto (pc := 73) (tgt := 33) dX2_weighs_73 (by decide) ?_
  refine r_sub (lv' := [(0, .ref (gA G a0)), (1, .ref (gA G a1)), (2, .ref (gA G a2)), (3, .int (eI x3)), (4, .int (eI x4)), (5, .int (eI v_1))]) [1, 2, 3, 4, 5, 0] rfl ?_
  exact hK33 _ _ _ h
set_option maxHeartbeats 4000000 in
set_option maxRecDepth 100000 in
theorem bX2_weighs_b33 {G : GG} (a0 : Nat) (a1 : Nat) (a2 : Nat) (x3 : Int) (oa0 : OB L0 a0 2) (oa1 : OB L0 a1 5) (oa2 : OB L0 a2 1) {K8 : Int → MM → Option MM} {res : MM} (hK8 : ∀ (x4 : Int) (M : MM), K8 x4 M = some res → VV G xX2_weighs (ZM G xX2_weighs (none) L0 res) L0 M 0 0 8 [(0, .ref (gA G a0)), (1, .ref (gA G a1)), (2, .ref (gA G a2)), (3, .int (eI x3)), (4, .int (eI x4))] []) : ∀ (n : Nat) (x4 : Int) (x5 : Int) (M : MM)  (h : sX2_weighs_b33 a0 a1 a2 x3 K8 n x4 x5 M = some res), VV G xX2_weighs (ZM G xX2_weighs (none) L0 res) L0 M 0 0 33 [(0, .ref (gA G a0)), (1, .ref (gA G a1)), (2, .ref (gA G a2)), (3, .int (eI x3)), (4, .int (eI x4)), (5, .int (eI x5))] [] := by
  intro n
  induction n with
  | zero =>
    intro x4 x5 M h
    rw [sX2_weighs_b33] at h
    cases h
  | succ n ih =>
    intro x4 x5 M h
    rw [sX2_weighs_b33] at h
    refine r_iload (pc := 33) dX2_weighs_33 5 rfl ?_
    refine r_aload_n (pc := 35) (i := 2) dX2_weighs_35 rfl 2 rfl ?_
    have o_1 := (wt_1_0 oa2).2
    refine r_getR (pc := 36) fg_2_25 rfl oa2 (wt_1_0 oa2).1 dX2_weighs_36 ?_
    refine r_getI (pc := 39) fg_2_31 rfl o_1 dX2_weighs_39 ?_
    refine r_icmp_ge (pc := 42) (tgt := 76) dX2_weighs_42 (by decide) rfl rfl (fun c_2 => ?_) (fun c_2 => ?_)
    · replace h := (if_pos c_2).symm.trans h
      refine r_aload_n (pc := 76) (i := 0) dX2_weighs_76 rfl 0 rfl ?_
      refine r_dup (pc := 77) dX2_weighs_77 rfl ?_
      refine r_getJ (pc := 78) fg_2_15 rfl oa0 dX2_weighs_78 ?_
      refine r_aload_n (pc := 81) (i := 0) dX2_weighs_81 rfl 0 rfl ?_
      have o_3 := (wt_2_0 oa0).2
      refine r_getR (pc := 82) fg_2_9 rfl oa0 (wt_2_0 oa0).1 dX2_weighs_82 ?_
      refine r_iload (pc := 85) dX2_weighs_85 4 rfl ?_
      obtain ⟨c_4, h⟩ := og h
      refine r_lald (pc := 87) o_3 rfl c_4 rfl dX2_weighs_87 ?_
      refine r_ladd (pc := 88) dX2_weighs_88 ?_
      obtain ⟨M_5, hM_5, h⟩ := ob h
      refine r_putJ (pc := 89) fg_2_15 rfl oa0 hM_5 rfl rfl dX2_weighs_89 ?_
      obtain ⟨v_6, hv_6, h⟩ := ob h
      refine r_iinc (pc := 92) (y := v_6) (lv' := [(4, .int (eI v_6)), (0, .ref (gA G a0)), (1, .ref (gA G a1)), (2, .ref (gA G a2)), (3, .int (eI x3)), (5, .int (eI x5))]) dX2_weighs_92 4 rfl (Option.some.inj hv_6) (Nat.le_of_ble_eq_true rfl) rfl ?_
      refine r_goto (pc := 95) (tgt := 8) dX2_weighs_95 (by decide) ?_
      refine r_sub (lv' := [(0, .ref (gA G a0)), (1, .ref (gA G a1)), (2, .ref (gA G a2)), (3, .int (eI x3)), (4, .int (eI v_6))]) [1, 2, 3, 4, 0] rfl ?_
      exact hK8 _ _ h
    · replace h := (if_neg c_2).symm.trans h
      refine r_iload (pc := 45) dX2_weighs_45 5 rfl ?_
      refine r_iload_n (pc := 47) (i := 3) dX2_weighs_47 rfl 3 rfl ?_
      refine r_icmp_eq (pc := 48) (tgt := 70) dX2_weighs_48 (by decide) rfl rfl (fun c_7 => ?_) (fun c_7 => ?_)
      · replace h := (if_pos c_7).symm.trans h
        refine r_sub (lv' := [(0, .ref (gA G a0)), (1, .ref (gA G a1)), (2, .ref (gA G a2)), (3, .int (eI x3)), (4, .int (eI x4)), (5, .int (eI x5))]) [0, 1, 2, 3, 4, 5] rfl ?_
        exact bX2_weighs_b70 a0 a1 a2 x3 oa0 oa1 oa2 _ _ _ (fun v0 v1 v2 v3 => ih v0 v1 v2 v3) h
      · replace h := (if_neg c_7).symm.trans h
        refine r_aload_n (pc := 51) (i := 0) dX2_weighs_51 rfl 0 rfl ?_
        have o_8 := (wt_2_0 oa0).2
        refine r_getR (pc := 52) fg_2_9 rfl oa0 (wt_2_0 oa0).1 dX2_weighs_52 ?_
        refine r_iload (pc := 55) dX2_weighs_55 4 rfl ?_
        refine r_dup2 (pc := 57) dX2_weighs_57 rfl rfl ?_
        obtain ⟨c_9, h⟩ := og h
        refine r_lald (pc := 58) o_8 rfl c_9 rfl dX2_weighs_58 ?_
        refine r_aload_n (pc := 59) (i := 2) dX2_weighs_59 rfl 2 rfl ?_
        refine r_iload (pc := 60) dX2_weighs_60 5 rfl ?_
        refine r_iload (pc := 62) dX2_weighs_62 4 rfl ?_
        obtain ⟨q_10, hq_10, h⟩ := ob h
        refine r_cS (pc := 64) (Y := xX2_timesBy) (As := [.ref (gA G a2), .int (eI x5), .int (eI x4)]) (rest := [.long (eJ (M (gR a0 0) (wI x4).toNat)), .int (eI x4), .ref (gA G (gR a0 0))]) (v := (some (.int (eI q_10)))) (st1 := [.int (eI q_10), .long (eJ (M (gR a0 0) (wI x4).toNat)), .int (eI x4), .ref (gA G (gR a0 0))]) ck_X2_weighs_37 (kX2_timesBy a2 x5 x4 M oa2 hq_10) rfl rfl (Nat.le_of_ble_eq_true rfl) ⟨rfl, rfl⟩ rfl dX2_weighs_64 ?_
        refine r_i2l (pc := 67) rfl dX2_weighs_67 ?_
        refine r_lmul (pc := 68) dX2_weighs_68 ?_
        obtain ⟨c_11, h⟩ := og h
        obtain ⟨M_12, hM_12, h⟩ := ob h
        refine r_last (pc := 69) o_8 rfl c_11 rfl hM_12 dX2_weighs_69 ?_
        refine r_sub (lv' := [(0, .ref (gA G a0)), (1, .ref (gA G a1)), (2, .ref (gA G a2)), (3, .int (eI x3)), (4, .int (eI x4)), (5, .int (eI x5))]) [0, 1, 2, 3, 4, 5] rfl ?_
        exact bX2_weighs_b70 a0 a1 a2 x3 oa0 oa1 oa2 _ _ _ (fun v0 v1 v2 v3 => ih v0 v1 v2 v3) h
set_option maxHeartbeats 4000000 in
set_option maxRecDepth 100000 in
theorem bX2_weighs_b8 {G : GG} (a0 : Nat) (a1 : Nat) (a2 : Nat) (x3 : Int) (oa0 : OB L0 a0 2) (oa1 : OB L0 a1 5) (oa2 : OB L0 a2 1) {res : MM} : ∀ (n : Nat) (x4 : Int) (M : MM)  (h : sX2_weighs_b8 a0 a1 a2 x3 n x4 M = some res), VV G xX2_weighs (ZM G xX2_weighs (none) L0 res) L0 M 0 0 8 [(0, .ref (gA G a0)), (1, .ref (gA G a1)), (2, .ref (gA G a2)), (3, .int (eI x3)), (4, .int (eI x4))] [] := by
  intro n
  induction n with
  | zero =>
    intro x4 M h
    rw [sX2_weighs_b8] at h
    cases h
  | succ n ih =>
    intro x4 M h
    rw [sX2_weighs_b8] at h
    refine r_iload (pc := 8) dX2_weighs_8 4 rfl ?_
    refine r_bipush (pc := 10) (v := 8) dX2_weighs_10 (by decide +kernel) ?_
    refine r_icmp_ge (pc := 12) (tgt := 98) dX2_weighs_12 (by decide) rfl wl_8 (fun c_1 => ?_) (fun c_1 => ?_)
    · replace h := (if_pos c_1).symm.trans h
      cases h
      exact r_vret (pc := 98) rfl (Nat.le_refl 0) (Nat.le_refl 0) dX2_weighs_98
    · replace h := (if_neg c_1).symm.trans h
      refine r_aload_n (pc := 15) (i := 0) dX2_weighs_15 rfl 0 rfl ?_
      have o_2 := (wt_2_0 oa0).2
      refine r_getR (pc := 16) fg_2_9 rfl oa0 (wt_2_0 oa0).1 dX2_weighs_16 ?_
      refine r_iload (pc := 19) dX2_weighs_19 4 rfl ?_
      refine r_aload_n (pc := 21) (i := 1) dX2_weighs_21 rfl 1 rfl ?_
      have o_3 := (wt_5_10 oa1).2
      refine r_getR (pc := 22) fg_2_19 rfl oa1 (wt_5_10 oa1).1 dX2_weighs_22 ?_
      refine r_iload (pc := 25) dX2_weighs_25 4 rfl ?_
      obtain ⟨c_4, h⟩ := og h
      refine r_iald (pc := 27) o_3 rfl c_4 rfl dX2_weighs_27 ?_
      refine r_i2l (pc := 28) rfl dX2_weighs_28 ?_
      obtain ⟨c_5, h⟩ := og h
      obtain ⟨M_6, hM_6, h⟩ := ob h
      refine r_last (pc := 29) o_2 rfl c_5 rfl hM_6 dX2_weighs_29 ?_
      refine r_iconst (pc := 30) (v := 0) dX2_weighs_30 (by decide +kernel) ?_
      refine r_istore (pc := 31) (lv' := [(5, .int (eI 0)), (0, .ref (gA G a0)), (1, .ref (gA G a1)), (2, .ref (gA G a2)), (3, .int (eI x3)), (4, .int (eI x4))]) dX2_weighs_31 (Nat.le_of_ble_eq_true rfl) rfl ?_
      refine r_sub (lv' := [(0, .ref (gA G a0)), (1, .ref (gA G a1)), (2, .ref (gA G a2)), (3, .int (eI x3)), (4, .int (eI x4)), (5, .int (eI 0))]) [1, 2, 3, 4, 5, 0] rfl ?_
      exact bX2_weighs_b33 a0 a1 a2 x3 oa0 oa1 oa2 (fun v0 v1 v2 => ih v0 v1 v2) _ _ _ _ h
set_option maxHeartbeats 4000000 in
set_option maxRecDepth 100000 in
theorem bX2_weighs_b0 {G : GG} (a0 : Nat) (a1 : Nat) (a2 : Nat) (x3 : Int) (oa0 : OB L0 a0 2) (oa1 : OB L0 a1 5) (oa2 : OB L0 a2 1)  (M : MM) {res : MM}  (h : sX2_weighs_b0 a0 a1 a2 x3 M = some res) : VV G xX2_weighs (ZM G xX2_weighs (none) L0 res) L0 M 0 0 0 [(0, .ref (gA G a0)), (1, .ref (gA G a1)), (2, .ref (gA G a2)), (3, .int (eI x3))] [] := by
  unfold sX2_weighs_b0 at h
  refine r_aload_n (pc := 0) (i := 0) dX2_weighs_0 rfl 0 rfl ?_
  refine r_lconst (pc := 1) (v := 0) dX2_weighs_1 (by decide +kernel) ?_
  obtain ⟨M_1, hM_1, h⟩ := ob h
  refine r_putJ (pc := 2) fg_2_15 rfl oa0 hM_1 rfl rfl dX2_weighs_2 ?_
  refine r_iconst (pc := 5) (v := 0) dX2_weighs_5 (by decide +kernel) ?_
  refine r_istore (pc := 6) (lv' := [(4, .int (eI 0)), (0, .ref (gA G a0)), (1, .ref (gA G a1)), (2, .ref (gA G a2)), (3, .int (eI x3))]) dX2_weighs_6 (Nat.le_of_ble_eq_true rfl) rfl ?_
  refine r_sub (lv' := [(0, .ref (gA G a0)), (1, .ref (gA G a1)), (2, .ref (gA G a2)), (3, .int (eI x3)), (4, .int (eI 0))]) [1, 2, 3, 4, 0] rfl ?_
  exact bX2_weighs_b8 a0 a1 a2 x3 oa0 oa1 oa2 _ _ _ h
theorem kX2_weighs {G : GG} (a0 : Nat) (a1 : Nat) (a2 : Nat) (x3 : Int) (M : MM) {res : MM} (oa0 : OB L0 a0 2) (oa1 : OB L0 a1 5) (oa2 : OB L0 a2 1) (h : sX2_weighs a0 a1 a2 x3 M = some res) : CO G xX2_weighs [.ref (gA G a0), .ref (gA G a1), .ref (gA G a2), .int (eI x3)] L0 M (none) L0 res := CO_of (by decide +kernel) (Nat.le_of_ble_eq_true rfl) (bX2_weighs_b0 a0 a1 a2 x3 oa0 oa1 oa2 M h)
abbrev xX2_beside : XX := (yX2_beside, cX2_beside, 2, (some .long), 0, 0, 0, 0)
def sX2_beside_b0 (a0 : Nat) (x1 : Int) (M : MM)   : Option Int := (if 0 ≤ wI ((x1 + 1) % 8) ∧ wI ((x1 + 1) % 8) < 8 then (if 0 ≤ wI ((x1 + 7) % 8) ∧ wI ((x1 + 7) % 8) < 8 then (some (((M (gR a0 0) (wI ((x1 + 1) % 8)).toNat) + (M (gR a0 0) (wI ((x1 + 7) % 8)).toNat)))) else none) else none)
def sX2_beside (a0 : Nat) (x1 : Int) (M : MM) : Option Int := sX2_beside_b0 a0 x1 M
set_option maxHeartbeats 4000000 in
set_option maxRecDepth 100000 in
theorem bX2_beside_b0 {G : GG} (a0 : Nat) (x1 : Int) (M : MM) (oa0 : OB L0 a0 2)  {res : Int}  (h : sX2_beside_b0 a0 x1 M = some res) : VV G xX2_beside (ZM G xX2_beside (some (.long (eJ res))) L0 M) L0 M 0 0 0 [(0, .ref (gA G a0)), (1, .int (eI x1))] [] := by
  unfold sX2_beside_b0 at h
  refine r_aload_n (pc := 0) (i := 0) dX2_beside_0 rfl 0 rfl ?_
  have o_1 := (wt_2_0 oa0).2
  refine r_getR (pc := 1) fg_2_9 rfl oa0 (wt_2_0 oa0).1 dX2_beside_1 ?_
  refine r_iload_n (pc := 4) (i := 1) dX2_beside_4 rfl 1 rfl ?_
  refine r_iconst (pc := 5) (v := 1) dX2_beside_5 (by decide +kernel) ?_
  refine r_iadd (pc := 6) dX2_beside_6 ?_
  refine r_bipush (pc := 7) (v := 7) dX2_beside_7 (by decide +kernel) ?_
  refine r_iand (pc := 9) 3 (by decide) wl_7 rfl dX2_beside_9 ?_
  obtain ⟨c_2, h⟩ := og h
  refine r_lald (pc := 10) o_1 rfl c_2 rfl dX2_beside_10 ?_
  refine r_aload_n (pc := 11) (i := 0) dX2_beside_11 rfl 0 rfl ?_
  have o_3 := (wt_2_0 oa0).2
  refine r_getR (pc := 12) fg_2_9 rfl oa0 (wt_2_0 oa0).1 dX2_beside_12 ?_
  refine r_iload_n (pc := 15) (i := 1) dX2_beside_15 rfl 1 rfl ?_
  refine r_bipush (pc := 16) (v := 7) dX2_beside_16 (by decide +kernel) ?_
  refine r_iadd (pc := 18) dX2_beside_18 ?_
  refine r_bipush (pc := 19) (v := 7) dX2_beside_19 (by decide +kernel) ?_
  refine r_iand (pc := 21) 3 (by decide) wl_7 rfl dX2_beside_21 ?_
  obtain ⟨c_4, h⟩ := og h
  refine r_lald (pc := 22) o_3 rfl c_4 rfl dX2_beside_22 ?_
  refine r_ladd (pc := 23) dX2_beside_23 ?_
  cases h
  exact r_lret (pc := 24) rfl (Nat.le_refl 0) (Nat.le_refl 0) dX2_beside_24
theorem kX2_beside {G : GG} (a0 : Nat) (x1 : Int) (M : MM) {res : Int} (oa0 : OB L0 a0 2) (h : sX2_beside a0 x1 M = some res) : CO G xX2_beside [.ref (gA G a0), .int (eI x1)] L0 M (some (.long (eJ res))) L0 M := CO_of (by decide +kernel) (Nat.le_of_ble_eq_true rfl) (bX2_beside_b0 a0 x1 M oa0 h)
abbrev xX2_bestWay : XX := (yX2_bestWay, cX2_bestWay, 6, (some .int), 4, 95, 0, 0)
theorem ck_X2_bestWay_60 : CKV xX2_bestWay 60 xX2_weighs 3 := ⟨⟨tb_i 1023 (by decide +kernel) (by decide +kernel), tb_i 148 (by decide +kernel) (by decide +kernel), tb_i 1001 (by decide +kernel) (by decide +kernel), ⟨by decide +kernel, by decide +kernel, by decide +kernel⟩, by decide, by decide⟩, tb_i 999 (by decide +kernel) (by decide +kernel), tb_i 1000 (by decide +kernel) (by decide +kernel)⟩
theorem ck_X2_bestWay_66 : CKV xX2_bestWay 66 xX2_beside 1 := ⟨⟨tb_i 1025 (by decide +kernel) (by decide +kernel), tb_i 148 (by decide +kernel) (by decide +kernel), tb_i 1028 (by decide +kernel) (by decide +kernel), ⟨by decide +kernel, by decide +kernel, by decide +kernel⟩, by decide, by decide⟩, tb_i 1026 (by decide +kernel) (by decide +kernel), tb_i 1027 (by decide +kernel) (by decide +kernel)⟩
def sX2_bestWay_b75 (a0 : Nat) (a1 : Nat) (a2 : Nat) (x3 : Int) (K24 : Int → Int → MM → Option (Int × MM)) (x4 : Int) (x5 : Int) (M : MM) : Option (Int × MM) := ((some (x5 + 1)).bind fun v_1 => (K24 x4 v_1 M))
def sX2_bestWay_b24 (a0 : Nat) (a1 : Nat) (a2 : Nat) (x3 : Int)  : Nat → Int → Int → MM → Option (Int × MM)
  | 0, _, _, _ => none
  | n + 1, x4, x5, M => (if 8 ≤ wI x5 then (some ((x4, M))) else (if 0 ≤ wI x5 ∧ wI x5 < 8 then ((sX2_beside a0 x5 M).bind fun q_4 => (if 0 ≤ wI x4 ∧ wI x4 < 8 then ((sX2_beside a0 x4 M).bind fun q_7 => (if wJ ((2 * (M (gR a0 0) (wI x5).toNat)) + q_4) ≤ wJ ((2 * (M (gR a0 0) (wI x4).toNat)) + q_7) then (sX2_bestWay_b75 a0 a1 a2 x3 (fun x4 x5 M => sX2_bestWay_b24 a0 a1 a2 x3 n x4 x5 M) x4 x5 M) else (sX2_bestWay_b75 a0 a1 a2 x3 (fun x4 x5 M => sX2_bestWay_b24 a0 a1 a2 x3 n x4 x5 M) x5 x5 M))) else none)) else none))
def sX2_bestWay_b0 (a0 : Nat) (a1 : Nat) (a2 : Nat) (x3 : Int)   (M : MM) : Option (Int × MM) := ((sX2_weighs a0 a1 a2 x3 M).bind fun q_1 => (if wJ (q_1 a0 1) = 0 then (some (((-1), q_1))) else (sX2_bestWay_b24 a0 a1 a2 x3 FU 0 1 q_1)))
def sX2_bestWay (a0 : Nat) (a1 : Nat) (a2 : Nat) (x3 : Int) (M : MM) : Option (Int × MM) := sX2_bestWay_b0 a0 a1 a2 x3 M
set_option maxHeartbeats 4000000 in
set_option maxRecDepth 100000 in
theorem bX2_bestWay_b75 {G : GG} (a0 : Nat) (a1 : Nat) (a2 : Nat) (x3 : Int) (oa0 : OB L0 a0 2) (oa1 : OB L0 a1 5) (oa2 : OB L0 a2 1) {K24 : Int → Int → MM → Option (Int × MM)} (x4 : Int) (x5 : Int) (M : MM) {res : (Int × MM)} (hK24 : ∀ (x4 : Int) (x5 : Int) (M : MM), K24 x4 x5 M = some res → VV G xX2_bestWay (ZM G xX2_bestWay (some (.int (eI res.1))) L0 res.2) L0 M 0 0 24 [(0, .ref (gA G a0)), (4, .int (eI x4)), (5, .int (eI x5))] [])  (h : sX2_bestWay_b75 a0 a1 a2 x3 K24 x4 x5 M = some res) : VV G xX2_bestWay (ZM G xX2_bestWay (some (.int (eI res.1))) L0 res.2) L0 M 0 0 75 [(0, .ref (gA G a0)), (4, .int (eI x4)), (5, .int (eI x5))] [] := by
  unfold sX2_bestWay_b75 at h
  obtain ⟨v_1, hv_1, h⟩ := ob h
  refine r_iinc (pc := 75) (y := v_1) (lv' := [(5, .int (eI v_1)), (0, .ref (gA G a0)), (4, .int (eI x4))]) dX2_bestWay_75 2 rfl (Option.some.inj hv_1) (Nat.le_of_ble_eq_true rfl) rfl ?_
  refine r_goto (pc := 78) (tgt := 24) dX2_bestWay_78 (by decide) ?_
  refine r_sub (lv' := [(0, .ref (gA G a0)), (4, .int (eI x4)), (5, .int (eI v_1))]) [1, 2, 0] rfl ?_
  exact hK24 _ _ _ h
set_option maxHeartbeats 4000000 in
set_option maxRecDepth 100000 in
theorem bX2_bestWay_b24 {G : GG} (a0 : Nat) (a1 : Nat) (a2 : Nat) (x3 : Int) (oa0 : OB L0 a0 2) (oa1 : OB L0 a1 5) (oa2 : OB L0 a2 1) {res : (Int × MM)} : ∀ (n : Nat) (x4 : Int) (x5 : Int) (M : MM)  (h : sX2_bestWay_b24 a0 a1 a2 x3 n x4 x5 M = some res), VV G xX2_bestWay (ZM G xX2_bestWay (some (.int (eI res.1))) L0 res.2) L0 M 0 0 24 [(0, .ref (gA G a0)), (4, .int (eI x4)), (5, .int (eI x5))] [] := by
  intro n
  induction n with
  | zero =>
    intro x4 x5 M h
    rw [sX2_bestWay_b24] at h
    cases h
  | succ n ih =>
    intro x4 x5 M h
    rw [sX2_bestWay_b24] at h
    refine r_iload (pc := 24) dX2_bestWay_24 2 rfl ?_
    refine r_bipush (pc := 26) (v := 8) dX2_bestWay_26 (by decide +kernel) ?_
    refine r_icmp_ge (pc := 28) (tgt := 81) dX2_bestWay_28 (by decide) rfl wl_8 (fun c_1 => ?_) (fun c_1 => ?_)
    · replace h := (if_pos c_1).symm.trans h
      refine r_iload (pc := 81) dX2_bestWay_81 1 rfl ?_
      cases h
      exact r_iret (pc := 83) rfl rfl (Nat.le_refl 0) (Nat.le_refl 0) dX2_bestWay_83
    · replace h := (if_neg c_1).symm.trans h
      refine r_ldc2 (pc := 31) (v := 2) kc_2_64 dX2_bestWay_31 ?_
      refine r_aload_n (pc := 34) (i := 0) dX2_bestWay_34 rfl 0 rfl ?_
      have o_2 := (wt_2_0 oa0).2
      refine r_getR (pc := 35) fg_2_9 rfl oa0 (wt_2_0 oa0).1 dX2_bestWay_35 ?_
      refine r_iload (pc := 38) dX2_bestWay_38 2 rfl ?_
      obtain ⟨c_3, h⟩ := og h
      refine r_lald (pc := 40) o_2 rfl c_3 rfl dX2_bestWay_40 ?_
      refine r_lmul (pc := 41) dX2_bestWay_41 ?_
      refine r_aload_n (pc := 42) (i := 0) dX2_bestWay_42 rfl 0 rfl ?_
      refine r_iload (pc := 43) dX2_bestWay_43 2 rfl ?_
      obtain ⟨q_4, hq_4, h⟩ := ob h
      refine r_cV (pc := 45) (Y := xX2_beside) (As := [.int (eI x5)]) (rest := [.long (eJ (2 * (M (gR a0 0) (wI x5).toNat)))]) (v := (some (.long (eJ q_4)))) (st1 := [.long (eJ q_4), .long (eJ (2 * (M (gR a0 0) (wI x5).toNat)))]) ck_X2_bestWay_66 (kX2_beside a0 x5 M oa0 hq_4) oa0 rfl rfl rfl rfl (Nat.le_of_ble_eq_true rfl) ⟨rfl, rfl⟩ rfl dX2_bestWay_45 ?_
      refine r_ladd (pc := 48) dX2_bestWay_48 ?_
      refine r_ldc2 (pc := 49) (v := 2) kc_2_64 dX2_bestWay_49 ?_
      refine r_aload_n (pc := 52) (i := 0) dX2_bestWay_52 rfl 0 rfl ?_
      have o_5 := (wt_2_0 oa0).2
      refine r_getR (pc := 53) fg_2_9 rfl oa0 (wt_2_0 oa0).1 dX2_bestWay_53 ?_
      refine r_iload (pc := 56) dX2_bestWay_56 1 rfl ?_
      obtain ⟨c_6, h⟩ := og h
      refine r_lald (pc := 58) o_5 rfl c_6 rfl dX2_bestWay_58 ?_
      refine r_lmul (pc := 59) dX2_bestWay_59 ?_
      refine r_aload_n (pc := 60) (i := 0) dX2_bestWay_60 rfl 0 rfl ?_
      refine r_iload (pc := 61) dX2_bestWay_61 1 rfl ?_
      obtain ⟨q_7, hq_7, h⟩ := ob h
      refine r_cV (pc := 63) (Y := xX2_beside) (As := [.int (eI x4)]) (rest := [.long (eJ (2 * (M (gR a0 0) (wI x4).toNat))), .long (eJ ((2 * (M (gR a0 0) (wI x5).toNat)) + q_4))]) (v := (some (.long (eJ q_7)))) (st1 := [.long (eJ q_7), .long (eJ (2 * (M (gR a0 0) (wI x4).toNat))), .long (eJ ((2 * (M (gR a0 0) (wI x5).toNat)) + q_4))]) ck_X2_bestWay_66 (kX2_beside a0 x4 M oa0 hq_7) oa0 rfl rfl rfl rfl (Nat.le_of_ble_eq_true rfl) ⟨rfl, rfl⟩ rfl dX2_bestWay_63 ?_
      refine r_ladd (pc := 66) dX2_bestWay_66 ?_
      refine r_lcmp_le (pc := 67) (tgt := 75) dX2_bestWay_67 dX2_bestWay_68 (by decide) rfl rfl (fun c_8 => ?_) (fun c_8 => ?_)
      · replace h := (if_pos c_8).symm.trans h
        refine r_sub (lv' := [(0, .ref (gA G a0)), (4, .int (eI x4)), (5, .int (eI x5))]) [0, 1, 2] rfl ?_
        exact bX2_bestWay_b75 a0 a1 a2 x3 oa0 oa1 oa2 _ _ _ (fun v0 v1 v2 v3 => ih v0 v1 v2 v3) h
      · replace h := (if_neg c_8).symm.trans h
        refine r_iload (pc := 71) dX2_bestWay_71 2 rfl ?_
        refine r_istore (pc := 73) (lv' := [(4, .int (eI x5)), (0, .ref (gA G a0)), (5, .int (eI x5))]) dX2_bestWay_73 (Nat.le_of_ble_eq_true rfl) rfl ?_
        refine r_sub (lv' := [(0, .ref (gA G a0)), (4, .int (eI x5)), (5, .int (eI x5))]) [1, 0, 2] rfl ?_
        exact bX2_bestWay_b75 a0 a1 a2 x3 oa0 oa1 oa2 _ _ _ (fun v0 v1 v2 v3 => ih v0 v1 v2 v3) h
set_option maxHeartbeats 4000000 in
set_option maxRecDepth 100000 in
theorem bX2_bestWay_b0 {G : GG} (a0 : Nat) (a1 : Nat) (a2 : Nat) (x3 : Int) (oa0 : OB L0 a0 2) (oa1 : OB L0 a1 5) (oa2 : OB L0 a2 1)  (M : MM) {res : (Int × MM)}  (h : sX2_bestWay_b0 a0 a1 a2 x3 M = some res) : VV G xX2_bestWay (ZM G xX2_bestWay (some (.int (eI res.1))) L0 res.2) L0 M 0 0 0 [(0, .ref (gA G a0)), (1, .ref (gA G a1)), (2, .ref (gA G a2)), (3, .int (eI x3))] [] := by
  unfold sX2_bestWay_b0 at h
  refine r_aload_n (pc := 0) (i := 0) dX2_bestWay_0 rfl 0 rfl ?_
  refine r_aload_n (pc := 1) (i := 1) dX2_bestWay_1 rfl 1 rfl ?_
  refine r_aload_n (pc := 2) (i := 2) dX2_bestWay_2 rfl 2 rfl ?_
  refine r_iload_n (pc := 3) (i := 3) dX2_bestWay_3 rfl 3 rfl ?_
  obtain ⟨q_1, hq_1, h⟩ := ob h
  refine r_cV (pc := 4) (Y := xX2_weighs) (As := [.ref (gA G a1), .ref (gA G a2), .int (eI x3)]) (rest := []) (v := none) (st1 := []) ck_X2_bestWay_60 (kX2_weighs a0 a1 a2 x3 M oa0 oa1 oa2 hq_1) oa0 rfl rfl rfl rfl (Nat.le_of_ble_eq_true rfl) ⟨rfl, rfl⟩ rfl dX2_bestWay_4 ?_
  refine r_aload_n (pc := 7) (i := 0) dX2_bestWay_7 rfl 0 rfl ?_
  refine r_getJ (pc := 8) fg_2_15 rfl oa0 dX2_bestWay_8 ?_
  refine r_lconst (pc := 11) (v := 0) dX2_bestWay_11 (by decide +kernel) ?_
  refine r_lcmp_ne (pc := 12) (tgt := 18) dX2_bestWay_12 dX2_bestWay_13 (by decide) rfl wj_0 (fun c_2 => ?_) (fun c_2 => ?_)
  · replace h := (if_neg c_2).symm.trans h
    refine r_iconst (pc := 18) (v := 0) dX2_bestWay_18 (by decide +kernel) ?_
    refine r_istore (pc := 19) (lv' := [(4, .int (eI 0)), (0, .ref (gA G a0)), (1, .ref (gA G a1)), (2, .ref (gA G a2)), (3, .int (eI x3))]) dX2_bestWay_19 (Nat.le_of_ble_eq_true rfl) rfl ?_
    refine r_iconst (pc := 21) (v := 1) dX2_bestWay_21 (by decide +kernel) ?_
    refine r_istore (pc := 22) (lv' := [(5, .int (eI 1)), (4, .int (eI 0)), (0, .ref (gA G a0)), (1, .ref (gA G a1)), (2, .ref (gA G a2)), (3, .int (eI x3))]) dX2_bestWay_22 (Nat.le_of_ble_eq_true rfl) rfl ?_
    refine r_sub (lv' := [(0, .ref (gA G a0)), (4, .int (eI 0)), (5, .int (eI 1))]) [2, 1, 0] rfl ?_
    exact bX2_bestWay_b24 a0 a1 a2 x3 oa0 oa1 oa2 _ _ _ _ h
  · replace h := (if_pos c_2).symm.trans h
    refine r_iconst (pc := 16) (v := (-1)) dX2_bestWay_16 (by decide +kernel) ?_
    cases h
    exact r_iret (pc := 17) rfl rfl (Nat.le_refl 0) (Nat.le_refl 0) dX2_bestWay_17
theorem kX2_bestWay {G : GG} (a0 : Nat) (a1 : Nat) (a2 : Nat) (x3 : Int) (M : MM) {res : (Int × MM)} (oa0 : OB L0 a0 2) (oa1 : OB L0 a1 5) (oa2 : OB L0 a2 1) (h : sX2_bestWay a0 a1 a2 x3 M = some res) : CO G xX2_bestWay [.ref (gA G a0), .ref (gA G a1), .ref (gA G a2), .int (eI x3)] L0 M (some (.int (eI res.1))) L0 res.2 := CO_of (by decide +kernel) (Nat.le_of_ble_eq_true rfl) (bX2_bestWay_b0 a0 a1 a2 x3 oa0 oa1 oa2 M h)
abbrev xX2_misled : XX := (yX2_misled, cX2_misled, 6, (some .int), 5, 120, 0, 0)
theorem ck_X2_misled_70 : CKV xX2_misled 70 xX2_bestWay 3 := ⟨⟨tb_i 1033 (by decide +kernel) (by decide +kernel), tb_i 148 (by decide +kernel) (by decide +kernel), tb_i 1022 (by decide +kernel) (by decide +kernel), ⟨by decide +kernel, by decide +kernel, by decide +kernel⟩, by decide, by decide⟩, tb_i 1020 (by decide +kernel) (by decide +kernel), tb_i 1021 (by decide +kernel) (by decide +kernel)⟩
def sX2_misled_b58 (a0 : Nat) (a1 : Nat) (a2 : Nat)  (x4 : Int) (M : MM) : Option (Int × MM) := (some ((x4, M)))
def sX2_misled_b52 (a0 : Nat) (a1 : Nat) (a2 : Nat) (K14 : Int → Int → Int → MM → Option (Int × MM)) (x3 : Int) (x4 : Int) (x5 : Int) (M : MM) : Option (Int × MM) := ((some (x5 + 1)).bind fun v_1 => (K14 x3 x4 v_1 M))
def sX2_misled_b14 (a0 : Nat) (a1 : Nat) (a2 : Nat)  : Nat → Int → Int → Int → MM → Option (Int × MM)
  | 0, _, _, _, _ => none
  | n + 1, x3, x4, x5, M => (if wI (M (gR a2 0) 4) ≤ wI x5 then (sX2_misled_b58 a0 a1 a2 x4 M) else (if wI x3 = (-1) then (sX2_misled_b58 a0 a1 a2 x4 M) else ((sX2_bestWay a0 a1 a2 x5 M).bind fun q_4 => (if wI (q_4.1) = wI x3 then (sX2_misled_b52 a0 a1 a2 (fun x3 x4 x5 M => sX2_misled_b14 a0 a1 a2 n x3 x4 x5 M) x3 x4 x5 q_4.2) else (if 0 ≤ wI x5 ∧ wI x5 < 32 then ((some (oI x4 (1 * 2 ^ (wI x5).toNat))).bind fun v_7 => (sX2_misled_b52 a0 a1 a2 (fun x3 x4 x5 M => sX2_misled_b14 a0 a1 a2 n x3 x4 x5 M) x3 v_7 x5 q_4.2)) else none)))))
def sX2_misled_b0 (a0 : Nat) (a1 : Nat) (a2 : Nat)   (M : MM) : Option (Int × MM) := ((sX2_bestWay a0 a1 a2 (-1) M).bind fun q_1 => (sX2_misled_b14 a0 a1 a2 FU (q_1.1) 0 0 q_1.2))
def sX2_misled (a0 : Nat) (a1 : Nat) (a2 : Nat) (M : MM) : Option (Int × MM) := sX2_misled_b0 a0 a1 a2 M
set_option maxHeartbeats 4000000 in
set_option maxRecDepth 100000 in
theorem bX2_misled_b58 {G : GG} (a0 : Nat) (a1 : Nat) (a2 : Nat) (oa0 : OB L0 a0 2) (oa1 : OB L0 a1 5) (oa2 : OB L0 a2 1) (x4 : Int) (M : MM) {res : (Int × MM)}  (h : sX2_misled_b58 a0 a1 a2 x4 M = some res) : VV G xX2_misled (ZM G xX2_misled (some (.int (eI res.1))) L0 res.2) L0 M 0 0 58 [(4, .int (eI x4))] [] := by
  unfold sX2_misled_b58 at h
  refine r_iload (pc := 58) dX2_misled_58 0 rfl ?_
  cases h
  exact r_iret (pc := 60) rfl rfl (Nat.le_refl 0) (Nat.le_refl 0) dX2_misled_60
set_option maxHeartbeats 4000000 in
set_option maxRecDepth 100000 in
theorem bX2_misled_b52 {G : GG} (a0 : Nat) (a1 : Nat) (a2 : Nat) (oa0 : OB L0 a0 2) (oa1 : OB L0 a1 5) (oa2 : OB L0 a2 1) {K14 : Int → Int → Int → MM → Option (Int × MM)} (x3 : Int) (x4 : Int) (x5 : Int) (M : MM) {res : (Int × MM)} (hK14 : ∀ (x3 : Int) (x4 : Int) (x5 : Int) (M : MM), K14 x3 x4 x5 M = some res → VV G xX2_misled (ZM G xX2_misled (some (.int (eI res.1))) L0 res.2) L0 M 0 0 14 [(0, .ref (gA G a0)), (1, .ref (gA G a1)), (2, .ref (gA G a2)), (3, .int (eI x3)), (4, .int (eI x4)), (5, .int (eI x5))] [])  (h : sX2_misled_b52 a0 a1 a2 K14 x3 x4 x5 M = some res) : VV G xX2_misled (ZM G xX2_misled (some (.int (eI res.1))) L0 res.2) L0 M 0 0 52 [(0, .ref (gA G a0)), (1, .ref (gA G a1)), (2, .ref (gA G a2)), (3, .int (eI x3)), (4, .int (eI x4)), (5, .int (eI x5))] [] := by
  unfold sX2_misled_b52 at h
  obtain ⟨v_1, hv_1, h⟩ := ob h
  refine r_iinc (pc := 52) (y := v_1) (lv' := [(5, .int (eI v_1)), (0, .ref (gA G a0)), (1, .ref (gA G a1)), (2, .ref (gA G a2)), (3, .int (eI x3)), (4, .int (eI x4))]) dX2_misled_52 5 rfl (Option.some.inj hv_1) (Nat.le_of_ble_eq_true rfl) rfl ?_
  refine r_goto (pc := 55) (tgt := 14) dX2_misled_55 (by decide) ?_
  refine r_sub (lv' := [(0, .ref (gA G a0)), (1, .ref (gA G a1)), (2, .ref (gA G a2)), (3, .int (eI x3)), (4, .int (eI x4)), (5, .int (eI v_1))]) [1, 2, 3, 4, 5, 0] rfl ?_
  exact hK14 _ _ _ _ h
set_option maxHeartbeats 4000000 in
set_option maxRecDepth 100000 in
theorem bX2_misled_b14 {G : GG} (a0 : Nat) (a1 : Nat) (a2 : Nat) (oa0 : OB L0 a0 2) (oa1 : OB L0 a1 5) (oa2 : OB L0 a2 1) {res : (Int × MM)} : ∀ (n : Nat) (x3 : Int) (x4 : Int) (x5 : Int) (M : MM)  (h : sX2_misled_b14 a0 a1 a2 n x3 x4 x5 M = some res), VV G xX2_misled (ZM G xX2_misled (some (.int (eI res.1))) L0 res.2) L0 M 0 0 14 [(0, .ref (gA G a0)), (1, .ref (gA G a1)), (2, .ref (gA G a2)), (3, .int (eI x3)), (4, .int (eI x4)), (5, .int (eI x5))] [] := by
  intro n
  induction n with
  | zero =>
    intro x3 x4 x5 M h
    rw [sX2_misled_b14] at h
    cases h
  | succ n ih =>
    intro x3 x4 x5 M h
    rw [sX2_misled_b14] at h
    refine r_iload (pc := 14) dX2_misled_14 5 rfl ?_
    refine r_aload_n (pc := 16) (i := 2) dX2_misled_16 rfl 2 rfl ?_
    have o_1 := (wt_1_0 oa2).2
    refine r_getR (pc := 17) fg_2_25 rfl oa2 (wt_1_0 oa2).1 dX2_misled_17 ?_
    refine r_getI (pc := 20) fg_2_31 rfl o_1 dX2_misled_20 ?_
    refine r_icmp_ge (pc := 23) (tgt := 58) dX2_misled_23 (by decide) rfl rfl (fun c_2 => ?_) (fun c_2 => ?_)
    · replace h := (if_pos c_2).symm.trans h
      refine r_sub (lv' := [(4, .int (eI x4))]) [4] rfl ?_
      exact bX2_misled_b58 a0 a1 a2 oa0 oa1 oa2 _ _ h
    · replace h := (if_neg c_2).symm.trans h
      refine r_iload_n (pc := 26) (i := 3) dX2_misled_26 rfl 3 rfl ?_
      refine r_iconst (pc := 27) (v := (-1)) dX2_misled_27 (by decide +kernel) ?_
      refine r_icmp_eq (pc := 28) (tgt := 58) dX2_misled_28 (by decide) rfl wl_m1 (fun c_3 => ?_) (fun c_3 => ?_)
      · replace h := (if_pos c_3).symm.trans h
        refine r_sub (lv' := [(4, .int (eI x4))]) [4] rfl ?_
        exact bX2_misled_b58 a0 a1 a2 oa0 oa1 oa2 _ _ h
      · replace h := (if_neg c_3).symm.trans h
        refine r_aload_n (pc := 31) (i := 0) dX2_misled_31 rfl 0 rfl ?_
        refine r_aload_n (pc := 32) (i := 1) dX2_misled_32 rfl 1 rfl ?_
        refine r_aload_n (pc := 33) (i := 2) dX2_misled_33 rfl 2 rfl ?_
        refine r_iload (pc := 34) dX2_misled_34 5 rfl ?_
        obtain ⟨q_4, hq_4, h⟩ := ob h
        refine r_cV (pc := 36) (Y := xX2_bestWay) (As := [.ref (gA G a1), .ref (gA G a2), .int (eI x5)]) (rest := []) (v := (some (.int (eI (q_4.1))))) (st1 := [.int (eI (q_4.1))]) ck_X2_misled_70 (kX2_bestWay a0 a1 a2 x5 M oa0 oa1 oa2 hq_4) oa0 rfl rfl rfl rfl (Nat.le_of_ble_eq_true rfl) ⟨rfl, rfl⟩ rfl dX2_misled_36 ?_
        refine r_iload_n (pc := 39) (i := 3) dX2_misled_39 rfl 3 rfl ?_
        refine r_icmp_eq (pc := 40) (tgt := 52) dX2_misled_40 (by decide) rfl rfl (fun c_5 => ?_) (fun c_5 => ?_)
        · replace h := (if_pos c_5).symm.trans h
          refine r_sub (lv' := [(0, .ref (gA G a0)), (1, .ref (gA G a1)), (2, .ref (gA G a2)), (3, .int (eI x3)), (4, .int (eI x4)), (5, .int (eI x5))]) [0, 1, 2, 3, 4, 5] rfl ?_
          exact bX2_misled_b52 a0 a1 a2 oa0 oa1 oa2 _ _ _ _ (fun v0 v1 v2 v3 v4 => ih v0 v1 v2 v3 v4) h
        · replace h := (if_neg c_5).symm.trans h
          refine r_iload (pc := 43) dX2_misled_43 4 rfl ?_
          refine r_iconst (pc := 45) (v := 1) dX2_misled_45 (by decide +kernel) ?_
          refine r_iload (pc := 46) dX2_misled_46 5 rfl ?_
          obtain ⟨c_6, h⟩ := og h
          refine r_ishl (pc := 48) rfl c_6 dX2_misled_48 ?_
          refine r_ior (pc := 49) dX2_misled_49 ?_
          obtain ⟨v_7, hv_7, h⟩ := ob h
          refine r_nmI (pc := 50) hv_7 ?_
          refine r_istore (pc := 50) (lv' := [(4, .int (eI v_7)), (0, .ref (gA G a0)), (1, .ref (gA G a1)), (2, .ref (gA G a2)), (3, .int (eI x3)), (5, .int (eI x5))]) dX2_misled_50 (Nat.le_of_ble_eq_true rfl) rfl ?_
          refine r_sub (lv' := [(0, .ref (gA G a0)), (1, .ref (gA G a1)), (2, .ref (gA G a2)), (3, .int (eI x3)), (4, .int (eI v_7)), (5, .int (eI x5))]) [1, 2, 3, 4, 0, 5] rfl ?_
          exact bX2_misled_b52 a0 a1 a2 oa0 oa1 oa2 _ _ _ _ (fun v0 v1 v2 v3 v4 => ih v0 v1 v2 v3 v4) h
set_option maxHeartbeats 4000000 in
set_option maxRecDepth 100000 in
theorem bX2_misled_b0 {G : GG} (a0 : Nat) (a1 : Nat) (a2 : Nat) (oa0 : OB L0 a0 2) (oa1 : OB L0 a1 5) (oa2 : OB L0 a2 1)  (M : MM) {res : (Int × MM)}  (h : sX2_misled_b0 a0 a1 a2 M = some res) : VV G xX2_misled (ZM G xX2_misled (some (.int (eI res.1))) L0 res.2) L0 M 0 0 0 [(0, .ref (gA G a0)), (1, .ref (gA G a1)), (2, .ref (gA G a2))] [] := by
  unfold sX2_misled_b0 at h
  refine r_aload_n (pc := 0) (i := 0) dX2_misled_0 rfl 0 rfl ?_
  refine r_aload_n (pc := 1) (i := 1) dX2_misled_1 rfl 1 rfl ?_
  refine r_aload_n (pc := 2) (i := 2) dX2_misled_2 rfl 2 rfl ?_
  refine r_iconst (pc := 3) (v := (-1)) dX2_misled_3 (by decide +kernel) ?_
  obtain ⟨q_1, hq_1, h⟩ := ob h
  refine r_cV (pc := 4) (Y := xX2_bestWay) (As := [.ref (gA G a1), .ref (gA G a2), .int (eI (-1))]) (rest := []) (v := (some (.int (eI (q_1.1))))) (st1 := [.int (eI (q_1.1))]) ck_X2_misled_70 (kX2_bestWay a0 a1 a2 (-1) M oa0 oa1 oa2 hq_1) oa0 rfl rfl rfl rfl (Nat.le_of_ble_eq_true rfl) ⟨rfl, rfl⟩ rfl dX2_misled_4 ?_
  refine r_istore_n (pc := 7) (i := 3) (lv' := [(3, .int (eI (q_1.1))), (0, .ref (gA G a0)), (1, .ref (gA G a1)), (2, .ref (gA G a2))]) dX2_misled_7 rfl (Nat.le_of_ble_eq_true rfl) rfl ?_
  refine r_iconst (pc := 8) (v := 0) dX2_misled_8 (by decide +kernel) ?_
  refine r_istore (pc := 9) (lv' := [(4, .int (eI 0)), (3, .int (eI (q_1.1))), (0, .ref (gA G a0)), (1, .ref (gA G a1)), (2, .ref (gA G a2))]) dX2_misled_9 (Nat.le_of_ble_eq_true rfl) rfl ?_
  refine r_iconst (pc := 11) (v := 0) dX2_misled_11 (by decide +kernel) ?_
  refine r_istore (pc := 12) (lv' := [(5, .int (eI 0)), (4, .int (eI 0)), (3, .int (eI (q_1.1))), (0, .ref (gA G a0)), (1, .ref (gA G a1)), (2, .ref (gA G a2))]) dX2_misled_12 (Nat.le_of_ble_eq_true rfl) rfl ?_
  refine r_sub (lv' := [(0, .ref (gA G a0)), (1, .ref (gA G a1)), (2, .ref (gA G a2)), (3, .int (eI (q_1.1))), (4, .int (eI 0)), (5, .int (eI 0))]) [3, 4, 5, 2, 1, 0] rfl ?_
  exact bX2_misled_b14 a0 a1 a2 oa0 oa1 oa2 _ _ _ _ _ h
theorem kX2_misled {G : GG} (a0 : Nat) (a1 : Nat) (a2 : Nat) (M : MM) {res : (Int × MM)} (oa0 : OB L0 a0 2) (oa1 : OB L0 a1 5) (oa2 : OB L0 a2 1) (h : sX2_misled a0 a1 a2 M = some res) : CO G xX2_misled [.ref (gA G a0), .ref (gA G a1), .ref (gA G a2)] L0 M (some (.int (eI res.1))) L0 res.2 := CO_of (by decide +kernel) (Nat.le_of_ble_eq_true rfl) (bX2_misled_b0 a0 a1 a2 oa0 oa1 oa2 M h)
abbrev xX2_contrary : XX := (yX2_contrary, cX2_contrary, 6, (some .int), 4, 95, 0, 0)
theorem ck_X2_contrary_60 : CKV xX2_contrary 60 xX2_weighs 3 := ⟨⟨tb_i 1023 (by decide +kernel) (by decide +kernel), tb_i 148 (by decide +kernel) (by decide +kernel), tb_i 1001 (by decide +kernel) (by decide +kernel), ⟨by decide +kernel, by decide +kernel, by decide +kernel⟩, by decide, by decide⟩, tb_i 999 (by decide +kernel) (by decide +kernel), tb_i 1000 (by decide +kernel) (by decide +kernel)⟩
def sX2_contrary_b76 (a0 : Nat) (a1 : Nat) (a2 : Nat)  (x4 : Int) (M : MM) : Option (Int × MM) := (some ((x4, M)))
def sX2_contrary_b70 (a0 : Nat) (a1 : Nat) (a2 : Nat) (K28 : Int → Int → Int → MM → Option (Int × MM)) (x3 : Int) (x4 : Int) (x5 : Int) (M : MM) : Option (Int × MM) := ((some (x5 + 1)).bind fun v_1 => (K28 x3 x4 v_1 M))
def sX2_contrary_b28 (a0 : Nat) (a1 : Nat) (a2 : Nat)  : Nat → Int → Int → Int → MM → Option (Int × MM)
  | 0, _, _, _, _ => none
  | n + 1, x3, x4, x5, M => (if wI (M (gR a2 0) 4) ≤ wI x5 then (sX2_contrary_b76 a0 a1 a2 x4 M) else (if wI x3 = 0 then (sX2_contrary_b76 a0 a1 a2 x4 M) else ((sX2_weighs a0 a1 a2 x5 M).bind fun q_4 => (if wJ (q_4 a0 1) ≤ 0 then (sX2_contrary_b70 a0 a1 a2 (fun x3 x4 x5 M => sX2_contrary_b28 a0 a1 a2 n x3 x4 x5 M) x3 x4 x5 q_4) else (if 0 ≤ wI x5 ∧ wI x5 < 32 then ((some (oI x4 (1 * 2 ^ (wI x5).toNat))).bind fun v_7 => (sX2_contrary_b70 a0 a1 a2 (fun x3 x4 x5 M => sX2_contrary_b28 a0 a1 a2 n x3 x4 x5 M) x3 v_7 x5 q_4)) else none)))))
def sX2_contrary_b21 (a0 : Nat) (a1 : Nat) (a2 : Nat)  (x90 : Int) (M : MM) : Option (Int × MM) := (sX2_contrary_b28 a0 a1 a2 FU x90 0 0 M)
def sX2_contrary_b0 (a0 : Nat) (a1 : Nat) (a2 : Nat)   (M : MM) : Option (Int × MM) := ((sX2_weighs a0 a1 a2 (-1) M).bind fun q_1 => (if wJ (q_1 a0 1) = 0 then (sX2_contrary_b21 a0 a1 a2 1 q_1) else (sX2_contrary_b21 a0 a1 a2 0 q_1)))
def sX2_contrary (a0 : Nat) (a1 : Nat) (a2 : Nat) (M : MM) : Option (Int × MM) := sX2_contrary_b0 a0 a1 a2 M
set_option maxHeartbeats 4000000 in
set_option maxRecDepth 100000 in
theorem bX2_contrary_b76 {G : GG} (a0 : Nat) (a1 : Nat) (a2 : Nat) (oa0 : OB L0 a0 2) (oa1 : OB L0 a1 5) (oa2 : OB L0 a2 1) (x4 : Int) (M : MM) {res : (Int × MM)}  (h : sX2_contrary_b76 a0 a1 a2 x4 M = some res) : VV G xX2_contrary (ZM G xX2_contrary (some (.int (eI res.1))) L0 res.2) L0 M 0 0 76 [(4, .int (eI x4))] [] := by
  unfold sX2_contrary_b76 at h
  refine r_iload (pc := 76) dX2_contrary_76 0 rfl ?_
  cases h
  exact r_iret (pc := 78) rfl rfl (Nat.le_refl 0) (Nat.le_refl 0) dX2_contrary_78
set_option maxHeartbeats 4000000 in
set_option maxRecDepth 100000 in
theorem bX2_contrary_b70 {G : GG} (a0 : Nat) (a1 : Nat) (a2 : Nat) (oa0 : OB L0 a0 2) (oa1 : OB L0 a1 5) (oa2 : OB L0 a2 1) {K28 : Int → Int → Int → MM → Option (Int × MM)} (x3 : Int) (x4 : Int) (x5 : Int) (M : MM) {res : (Int × MM)} (hK28 : ∀ (x3 : Int) (x4 : Int) (x5 : Int) (M : MM), K28 x3 x4 x5 M = some res → VV G xX2_contrary (ZM G xX2_contrary (some (.int (eI res.1))) L0 res.2) L0 M 0 0 28 [(0, .ref (gA G a0)), (1, .ref (gA G a1)), (2, .ref (gA G a2)), (3, .int (eI x3)), (4, .int (eI x4)), (5, .int (eI x5))] [])  (h : sX2_contrary_b70 a0 a1 a2 K28 x3 x4 x5 M = some res) : VV G xX2_contrary (ZM G xX2_contrary (some (.int (eI res.1))) L0 res.2) L0 M 0 0 70 [(0, .ref (gA G a0)), (1, .ref (gA G a1)), (2, .ref (gA G a2)), (3, .int (eI x3)), (4, .int (eI x4)), (5, .int (eI x5))] [] := by
  unfold sX2_contrary_b70 at h
  obtain ⟨v_1, hv_1, h⟩ := ob h
  refine r_iinc (pc := 70) (y := v_1) (lv' := [(5, .int (eI v_1)), (0, .ref (gA G a0)), (1, .ref (gA G a1)), (2, .ref (gA G a2)), (3, .int (eI x3)), (4, .int (eI x4))]) dX2_contrary_70 5 rfl (Option.some.inj hv_1) (Nat.le_of_ble_eq_true rfl) rfl ?_
  refine r_goto (pc := 73) (tgt := 28) dX2_contrary_73 (by decide) ?_
  refine r_sub (lv' := [(0, .ref (gA G a0)), (1, .ref (gA G a1)), (2, .ref (gA G a2)), (3, .int (eI x3)), (4, .int (eI x4)), (5, .int (eI v_1))]) [1, 2, 3, 4, 5, 0] rfl ?_
  exact hK28 _ _ _ _ h
set_option maxHeartbeats 4000000 in
set_option maxRecDepth 100000 in
theorem bX2_contrary_b28 {G : GG} (a0 : Nat) (a1 : Nat) (a2 : Nat) (oa0 : OB L0 a0 2) (oa1 : OB L0 a1 5) (oa2 : OB L0 a2 1) {res : (Int × MM)} : ∀ (n : Nat) (x3 : Int) (x4 : Int) (x5 : Int) (M : MM)  (h : sX2_contrary_b28 a0 a1 a2 n x3 x4 x5 M = some res), VV G xX2_contrary (ZM G xX2_contrary (some (.int (eI res.1))) L0 res.2) L0 M 0 0 28 [(0, .ref (gA G a0)), (1, .ref (gA G a1)), (2, .ref (gA G a2)), (3, .int (eI x3)), (4, .int (eI x4)), (5, .int (eI x5))] [] := by
  intro n
  induction n with
  | zero =>
    intro x3 x4 x5 M h
    rw [sX2_contrary_b28] at h
    cases h
  | succ n ih =>
    intro x3 x4 x5 M h
    rw [sX2_contrary_b28] at h
    refine r_iload (pc := 28) dX2_contrary_28 5 rfl ?_
    refine r_aload_n (pc := 30) (i := 2) dX2_contrary_30 rfl 2 rfl ?_
    have o_1 := (wt_1_0 oa2).2
    refine r_getR (pc := 31) fg_2_25 rfl oa2 (wt_1_0 oa2).1 dX2_contrary_31 ?_
    refine r_getI (pc := 34) fg_2_31 rfl o_1 dX2_contrary_34 ?_
    refine r_icmp_ge (pc := 37) (tgt := 76) dX2_contrary_37 (by decide) rfl rfl (fun c_2 => ?_) (fun c_2 => ?_)
    · replace h := (if_pos c_2).symm.trans h
      refine r_sub (lv' := [(4, .int (eI x4))]) [4] rfl ?_
      exact bX2_contrary_b76 a0 a1 a2 oa0 oa1 oa2 _ _ h
    · replace h := (if_neg c_2).symm.trans h
      refine r_iload_n (pc := 40) (i := 3) dX2_contrary_40 rfl 3 rfl ?_
      refine r_if_eq (pc := 41) (tgt := 76) dX2_contrary_41 (by decide) rfl (fun c_3 => ?_) (fun c_3 => ?_)
      · replace h := (if_pos c_3).symm.trans h
        refine r_sub (lv' := [(4, .int (eI x4))]) [4] rfl ?_
        exact bX2_contrary_b76 a0 a1 a2 oa0 oa1 oa2 _ _ h
      · replace h := (if_neg c_3).symm.trans h
        refine r_aload_n (pc := 44) (i := 0) dX2_contrary_44 rfl 0 rfl ?_
        refine r_aload_n (pc := 45) (i := 1) dX2_contrary_45 rfl 1 rfl ?_
        refine r_aload_n (pc := 46) (i := 2) dX2_contrary_46 rfl 2 rfl ?_
        refine r_iload (pc := 47) dX2_contrary_47 5 rfl ?_
        obtain ⟨q_4, hq_4, h⟩ := ob h
        refine r_cV (pc := 49) (Y := xX2_weighs) (As := [.ref (gA G a1), .ref (gA G a2), .int (eI x5)]) (rest := []) (v := none) (st1 := []) ck_X2_contrary_60 (kX2_weighs a0 a1 a2 x5 M oa0 oa1 oa2 hq_4) oa0 rfl rfl rfl rfl (Nat.le_of_ble_eq_true rfl) ⟨rfl, rfl⟩ rfl dX2_contrary_49 ?_
        refine r_aload_n (pc := 52) (i := 0) dX2_contrary_52 rfl 0 rfl ?_
        refine r_getJ (pc := 53) fg_2_15 rfl oa0 dX2_contrary_53 ?_
        refine r_lconst (pc := 56) (v := 0) dX2_contrary_56 (by decide +kernel) ?_
        refine r_lcmp_le (pc := 57) (tgt := 70) dX2_contrary_57 dX2_contrary_58 (by decide) rfl wj_0 (fun c_5 => ?_) (fun c_5 => ?_)
        · replace h := (if_pos c_5).symm.trans h
          refine r_sub (lv' := [(0, .ref (gA G a0)), (1, .ref (gA G a1)), (2, .ref (gA G a2)), (3, .int (eI x3)), (4, .int (eI x4)), (5, .int (eI x5))]) [0, 1, 2, 3, 4, 5] rfl ?_
          exact bX2_contrary_b70 a0 a1 a2 oa0 oa1 oa2 _ _ _ _ (fun v0 v1 v2 v3 v4 => ih v0 v1 v2 v3 v4) h
        · replace h := (if_neg c_5).symm.trans h
          refine r_iload (pc := 61) dX2_contrary_61 4 rfl ?_
          refine r_iconst (pc := 63) (v := 1) dX2_contrary_63 (by decide +kernel) ?_
          refine r_iload (pc := 64) dX2_contrary_64 5 rfl ?_
          obtain ⟨c_6, h⟩ := og h
          refine r_ishl (pc := 66) rfl c_6 dX2_contrary_66 ?_
          refine r_ior (pc := 67) dX2_contrary_67 ?_
          obtain ⟨v_7, hv_7, h⟩ := ob h
          refine r_nmI (pc := 68) hv_7 ?_
          refine r_istore (pc := 68) (lv' := [(4, .int (eI v_7)), (0, .ref (gA G a0)), (1, .ref (gA G a1)), (2, .ref (gA G a2)), (3, .int (eI x3)), (5, .int (eI x5))]) dX2_contrary_68 (Nat.le_of_ble_eq_true rfl) rfl ?_
          refine r_sub (lv' := [(0, .ref (gA G a0)), (1, .ref (gA G a1)), (2, .ref (gA G a2)), (3, .int (eI x3)), (4, .int (eI v_7)), (5, .int (eI x5))]) [1, 2, 3, 4, 0, 5] rfl ?_
          exact bX2_contrary_b70 a0 a1 a2 oa0 oa1 oa2 _ _ _ _ (fun v0 v1 v2 v3 v4 => ih v0 v1 v2 v3 v4) h
set_option maxHeartbeats 4000000 in
set_option maxRecDepth 100000 in
theorem bX2_contrary_b21 {G : GG} (a0 : Nat) (a1 : Nat) (a2 : Nat) (oa0 : OB L0 a0 2) (oa1 : OB L0 a1 5) (oa2 : OB L0 a2 1) (x90 : Int) (M : MM) {res : (Int × MM)}  (h : sX2_contrary_b21 a0 a1 a2 x90 M = some res) : VV G xX2_contrary (ZM G xX2_contrary (some (.int (eI res.1))) L0 res.2) L0 M 0 0 21 [(0, .ref (gA G a0)), (1, .ref (gA G a1)), (2, .ref (gA G a2))] [.int (eI x90)] := by
  unfold sX2_contrary_b21 at h
  refine r_istore_n (pc := 21) (i := 3) (lv' := [(3, .int (eI x90)), (0, .ref (gA G a0)), (1, .ref (gA G a1)), (2, .ref (gA G a2))]) dX2_contrary_21 rfl (Nat.le_of_ble_eq_true rfl) rfl ?_
  refine r_iconst (pc := 22) (v := 0) dX2_contrary_22 (by decide +kernel) ?_
  refine r_istore (pc := 23) (lv' := [(4, .int (eI 0)), (3, .int (eI x90)), (0, .ref (gA G a0)), (1, .ref (gA G a1)), (2, .ref (gA G a2))]) dX2_contrary_23 (Nat.le_of_ble_eq_true rfl) rfl ?_
  refine r_iconst (pc := 25) (v := 0) dX2_contrary_25 (by decide +kernel) ?_
  refine r_istore (pc := 26) (lv' := [(5, .int (eI 0)), (4, .int (eI 0)), (3, .int (eI x90)), (0, .ref (gA G a0)), (1, .ref (gA G a1)), (2, .ref (gA G a2))]) dX2_contrary_26 (Nat.le_of_ble_eq_true rfl) rfl ?_
  refine r_sub (lv' := [(0, .ref (gA G a0)), (1, .ref (gA G a1)), (2, .ref (gA G a2)), (3, .int (eI x90)), (4, .int (eI 0)), (5, .int (eI 0))]) [3, 4, 5, 2, 1, 0] rfl ?_
  exact bX2_contrary_b28 a0 a1 a2 oa0 oa1 oa2 _ _ _ _ _ h
set_option maxHeartbeats 4000000 in
set_option maxRecDepth 100000 in
theorem bX2_contrary_b0 {G : GG} (a0 : Nat) (a1 : Nat) (a2 : Nat) (oa0 : OB L0 a0 2) (oa1 : OB L0 a1 5) (oa2 : OB L0 a2 1)  (M : MM) {res : (Int × MM)}  (h : sX2_contrary_b0 a0 a1 a2 M = some res) : VV G xX2_contrary (ZM G xX2_contrary (some (.int (eI res.1))) L0 res.2) L0 M 0 0 0 [(0, .ref (gA G a0)), (1, .ref (gA G a1)), (2, .ref (gA G a2))] [] := by
  unfold sX2_contrary_b0 at h
  refine r_aload_n (pc := 0) (i := 0) dX2_contrary_0 rfl 0 rfl ?_
  refine r_aload_n (pc := 1) (i := 1) dX2_contrary_1 rfl 1 rfl ?_
  refine r_aload_n (pc := 2) (i := 2) dX2_contrary_2 rfl 2 rfl ?_
  refine r_iconst (pc := 3) (v := (-1)) dX2_contrary_3 (by decide +kernel) ?_
  obtain ⟨q_1, hq_1, h⟩ := ob h
  refine r_cV (pc := 4) (Y := xX2_weighs) (As := [.ref (gA G a1), .ref (gA G a2), .int (eI (-1))]) (rest := []) (v := none) (st1 := []) ck_X2_contrary_60 (kX2_weighs a0 a1 a2 (-1) M oa0 oa1 oa2 hq_1) oa0 rfl rfl rfl rfl (Nat.le_of_ble_eq_true rfl) ⟨rfl, rfl⟩ rfl dX2_contrary_4 ?_
  refine r_aload_n (pc := 7) (i := 0) dX2_contrary_7 rfl 0 rfl ?_
  refine r_getJ (pc := 8) fg_2_15 rfl oa0 dX2_contrary_8 ?_
  refine r_lconst (pc := 11) (v := 0) dX2_contrary_11 (by decide +kernel) ?_
  refine r_lcmp_ne (pc := 12) (tgt := 20) dX2_contrary_12 dX2_contrary_13 (by decide) rfl wj_0 (fun c_2 => ?_) (fun c_2 => ?_)
  · replace h := (if_neg c_2).symm.trans h
    refine r_iconst (pc := 20) (v := 0) dX2_contrary_20 (by decide +kernel) ?_
    refine r_sub (lv' := [(0, .ref (gA G a0)), (1, .ref (gA G a1)), (2, .ref (gA G a2))]) [0, 1, 2] rfl ?_
    exact bX2_contrary_b21 a0 a1 a2 oa0 oa1 oa2 _ _ h
  · replace h := (if_pos c_2).symm.trans h
    refine r_iconst (pc := 16) (v := 1) dX2_contrary_16 (by decide +kernel) ?_
    refine r_goto (pc := 17) (tgt := 21) dX2_contrary_17 (by decide) ?_
    refine r_sub (lv' := [(0, .ref (gA G a0)), (1, .ref (gA G a1)), (2, .ref (gA G a2))]) [0, 1, 2] rfl ?_
    exact bX2_contrary_b21 a0 a1 a2 oa0 oa1 oa2 _ _ h
theorem kX2_contrary {G : GG} (a0 : Nat) (a1 : Nat) (a2 : Nat) (M : MM) {res : (Int × MM)} (oa0 : OB L0 a0 2) (oa1 : OB L0 a1 5) (oa2 : OB L0 a2 1) (h : sX2_contrary a0 a1 a2 M = some res) : CO G xX2_contrary [.ref (gA G a0), .ref (gA G a1), .ref (gA G a2)] L0 M (some (.int (eI res.1))) L0 res.2 := CO_of (by decide +kernel) (Nat.le_of_ble_eq_true rfl) (bX2_contrary_b0 a0 a1 a2 oa0 oa1 oa2 M h)
abbrev xX3_isFull : XX := (yX3_isFull, cX3_isFull, 1, (some .boolean), 0, 0, 0, 0)
def sX3_isFull_b0 (a0 : Nat) (M : MM)   : Int := (if wI (M a0 4) < wI (M a0 0) then 0 else 1)
def sX3_isFull (a0 : Nat) (M : MM) : Int := sX3_isFull_b0 a0 M
set_option maxHeartbeats 4000000 in
set_option maxRecDepth 100000 in
theorem bX3_isFull_b0 {G : GG} (a0 : Nat) (M : MM) (oa0 : OB L0 a0 3)  {res : Int}  (h : sX3_isFull_b0 a0 M = res) : VV G xX3_isFull (ZM G xX3_isFull (some (.int (eI res))) L0 M) L0 M 0 0 0 [(0, .ref (gA G a0))] [] := by
  unfold sX3_isFull_b0 at h
  refine r_aload_n (pc := 0) (i := 0) dX3_isFull_0 rfl 0 rfl ?_
  refine r_getI (pc := 1) fg_3_31 rfl oa0 dX3_isFull_1 ?_
  refine r_aload_n (pc := 4) (i := 0) dX3_isFull_4 rfl 0 rfl ?_
  refine r_getI (pc := 5) fg_3_15 rfl oa0 dX3_isFull_5 ?_
  refine r_icmp_lt (pc := 8) (tgt := 15) dX3_isFull_8 (by decide) rfl rfl (fun c_1 => ?_) (fun c_1 => ?_)
  · replace h := (if_pos c_1).symm.trans h
    refine r_iconst (pc := 15) (v := 0) dX3_isFull_15 (by decide +kernel) ?_
    cases h
    exact r_iret (pc := 16) rfl (zn_ok (Or.inl rfl)).1 (Nat.le_refl 0) (Nat.le_refl 0) dX3_isFull_16
  · replace h := (if_neg c_1).symm.trans h
    refine r_iconst (pc := 11) (v := 1) dX3_isFull_11 (by decide +kernel) ?_
    refine r_goto (pc := 12) (tgt := 16) dX3_isFull_12 (by decide) ?_
    cases h
    exact r_iret (pc := 16) rfl (zn_ok (Or.inr rfl)).1 (Nat.le_refl 0) (Nat.le_refl 0) dX3_isFull_16
theorem kX3_isFull {G : GG} (a0 : Nat) (M : MM) (oa0 : OB L0 a0 3) : CO G xX3_isFull [.ref (gA G a0)] L0 M (some (.int (eI (sX3_isFull a0 M)))) L0 M := CO_of (by decide +kernel) (Nat.le_of_ble_eq_true rfl) (bX3_isFull_b0 a0 M oa0 rfl)
abbrev xX3_add : XX := (yX3_add, cX3_add, 4, none, 1, 20, 0, 0)
theorem ck_X3_add_34 : CKV xX3_add 34 xX3_isFull 0 := ⟨⟨tb_i 822 (by decide +kernel) (by decide +kernel), tb_i 142 (by decide +kernel) (by decide +kernel), tb_i 771 (by decide +kernel) (by decide +kernel), ⟨by decide +kernel, by decide +kernel, by decide +kernel⟩, by decide, by decide⟩, tb_i 769 (by decide +kernel) (by decide +kernel), tb_i 770 (by decide +kernel) (by decide +kernel)⟩
def sX3_add_b0 (a0 : Nat) (x1 : Int) (x2 : Int) (x3 : Int)   (M : MM) : Option MM := (if wI (sX3_isFull a0 M) = 0 then (if 0 ≤ wI (M a0 4) ∧ wI (M a0 4) < (ln (gR a0 1)) then ((some (mU M (gR a0 1) (wI (M a0 4)).toNat x1)).bind fun M_4 => (if 0 ≤ wI (M_4 a0 4) ∧ wI (M_4 a0 4) < (ln (gR a0 2)) then ((some (mU M_4 (gR a0 2) (wI (M_4 a0 4)).toNat x2)).bind fun M_7 => (if 0 ≤ wI (M_7 a0 4) ∧ wI (M_7 a0 4) < (ln (gR a0 3)) then ((some (mU M_7 (gR a0 3) (wI (M_7 a0 4)).toNat x3)).bind fun M_10 => ((some (mU M_10 a0 4 ((M_10 a0 4) + 1))).bind fun M_11 => (some (M_11)))) else none)) else none)) else none) else (some (M)))
def sX3_add (a0 : Nat) (x1 : Int) (x2 : Int) (x3 : Int) (M : MM) : Option MM := sX3_add_b0 a0 x1 x2 x3 M
set_option maxHeartbeats 4000000 in
set_option maxRecDepth 100000 in
theorem bX3_add_b0 {G : GG} (a0 : Nat) (x1 : Int) (x2 : Int) (x3 : Int) (oa0 : OB L0 a0 3)  (M : MM) {res : MM}  (h : sX3_add_b0 a0 x1 x2 x3 M = some res) : VV G xX3_add (ZM G xX3_add (none) L0 res) L0 M 0 0 0 [(0, .ref (gA G a0)), (1, .int (eI x1)), (2, .int (eI x2)), (3, .int (eI x3))] [] := by
  unfold sX3_add_b0 at h
  refine r_aload_n (pc := 0) (i := 0) dX3_add_0 rfl 0 rfl ?_
  refine r_cV (pc := 1) (Y := xX3_isFull) (As := []) (rest := []) (v := (some (.int (eI (sX3_isFull a0 M))))) (st1 := [.int (eI (sX3_isFull a0 M))]) ck_X3_add_34 (kX3_isFull a0 M oa0) oa0 rfl rfl rfl rfl (Nat.le_of_ble_eq_true rfl) ⟨rfl, rfl⟩ rfl dX3_add_1 ?_
  refine r_if_ne (pc := 4) (tgt := 47) dX3_add_4 (by decide) rfl (fun c_1 => ?_) (fun c_1 => ?_)
  · replace h := (if_neg c_1).symm.trans h
    cases h
    exact r_vret (pc := 47) rfl (Nat.le_refl 0) (Nat.le_refl 0) dX3_add_47
  · replace h := (if_pos c_1).symm.trans h
    refine r_aload_n (pc := 7) (i := 0) dX3_add_7 rfl 0 rfl ?_
    have o_2 := (wt_3_1 oa0).2
    refine r_getR (pc := 8) fg_3_21 rfl oa0 (wt_3_1 oa0).1 dX3_add_8 ?_
    refine r_aload_n (pc := 11) (i := 0) dX3_add_11 rfl 0 rfl ?_
    refine r_getI (pc := 12) fg_3_31 rfl oa0 dX3_add_12 ?_
    refine r_iload_n (pc := 15) (i := 1) dX3_add_15 rfl 1 rfl ?_
    obtain ⟨c_3, h⟩ := og h
    obtain ⟨M_4, hM_4, h⟩ := ob h
    refine r_iast (pc := 16) o_2 rfl c_3 rfl hM_4 dX3_add_16 ?_
    refine r_aload_n (pc := 17) (i := 0) dX3_add_17 rfl 0 rfl ?_
    have o_5 := (wt_3_2 oa0).2
    refine r_getR (pc := 18) fg_3_25 rfl oa0 (wt_3_2 oa0).1 dX3_add_18 ?_
    refine r_aload_n (pc := 21) (i := 0) dX3_add_21 rfl 0 rfl ?_
    refine r_getI (pc := 22) fg_3_31 rfl oa0 dX3_add_22 ?_
    refine r_iload_n (pc := 25) (i := 2) dX3_add_25 rfl 2 rfl ?_
    obtain ⟨c_6, h⟩ := og h
    obtain ⟨M_7, hM_7, h⟩ := ob h
    refine r_iast (pc := 26) o_5 rfl c_6 rfl hM_7 dX3_add_26 ?_
    refine r_aload_n (pc := 27) (i := 0) dX3_add_27 rfl 0 rfl ?_
    have o_8 := (wt_3_3 oa0).2
    refine r_getR (pc := 28) fg_3_28 rfl oa0 (wt_3_3 oa0).1 dX3_add_28 ?_
    refine r_aload_n (pc := 31) (i := 0) dX3_add_31 rfl 0 rfl ?_
    refine r_getI (pc := 32) fg_3_31 rfl oa0 dX3_add_32 ?_
    refine r_iload_n (pc := 35) (i := 3) dX3_add_35 rfl 3 rfl ?_
    obtain ⟨c_9, h⟩ := og h
    obtain ⟨M_10, hM_10, h⟩ := ob h
    refine r_iast (pc := 36) o_8 rfl c_9 rfl hM_10 dX3_add_36 ?_
    refine r_aload_n (pc := 37) (i := 0) dX3_add_37 rfl 0 rfl ?_
    refine r_dup (pc := 38) dX3_add_38 rfl ?_
    refine r_getI (pc := 39) fg_3_31 rfl oa0 dX3_add_39 ?_
    refine r_iconst (pc := 42) (v := 1) dX3_add_42 (by decide +kernel) ?_
    refine r_iadd (pc := 43) dX3_add_43 ?_
    obtain ⟨M_11, hM_11, h⟩ := ob h
    refine r_putI (pc := 44) fg_3_31 rfl oa0 hM_11 rfl rfl dX3_add_44 ?_
    cases h
    exact r_vret (pc := 47) rfl (Nat.le_refl 0) (Nat.le_refl 0) dX3_add_47
theorem kX3_add {G : GG} (a0 : Nat) (x1 : Int) (x2 : Int) (x3 : Int) (M : MM) {res : MM} (oa0 : OB L0 a0 3) (h : sX3_add a0 x1 x2 x3 M = some res) : CO G xX3_add [.ref (gA G a0), .int (eI x1), .int (eI x2), .int (eI x3)] L0 M (none) L0 res := CO_of (by decide +kernel) (Nat.le_of_ble_eq_true rfl) (bX3_add_b0 a0 x1 x2 x3 oa0 M h)
abbrev xX3_answer : XX := (yX3_answer, cX3_answer, 3, (some .int), 0, 0, 0, 0)
def sX3_answer_b0 (a0 : Nat) (x1 : Int) (x2 : Int) (M : MM)   : Option Int := (if wI x1 < 0 then (some ((-2))) else (if wI x1 < wI (M a0 4) then (if wI x2 = 0 then (if 0 ≤ wI x1 ∧ wI x1 < (ln (gR a0 1)) then (some ((M (gR a0 1) (wI x1).toNat))) else none) else (if wI x2 = 1 then (if 0 ≤ wI x1 ∧ wI x1 < (ln (gR a0 2)) then (some ((M (gR a0 2) (wI x1).toNat))) else none) else (if wI x2 = 2 then (if 0 ≤ wI x1 ∧ wI x1 < (ln (gR a0 3)) then (some ((M (gR a0 3) (wI x1).toNat))) else none) else (some ((-2)))))) else (some ((-2)))))
def sX3_answer (a0 : Nat) (x1 : Int) (x2 : Int) (M : MM) : Option Int := sX3_answer_b0 a0 x1 x2 M
set_option maxHeartbeats 4000000 in
set_option maxRecDepth 100000 in
theorem bX3_answer_b0 {G : GG} (a0 : Nat) (x1 : Int) (x2 : Int) (M : MM) (oa0 : OB L0 a0 3)  {res : Int}  (h : sX3_answer_b0 a0 x1 x2 M = some res) : VV G xX3_answer (ZM G xX3_answer (some (.int (eI res))) L0 M) L0 M 0 0 0 [(0, .ref (gA G a0)), (1, .int (eI x1)), (2, .int (eI x2))] [] := by
  unfold sX3_answer_b0 at h
  refine r_iload_n (pc := 0) (i := 1) dX3_answer_0 rfl 1 rfl ?_
  refine r_if_lt (pc := 1) (tgt := 12) dX3_answer_1 (by decide) rfl (fun c_1 => ?_) (fun c_1 => ?_)
  · replace h := (if_pos c_1).symm.trans h
    refine r_bipush (pc := 12) (v := (-2)) dX3_answer_12 (by decide +kernel) ?_
    cases h
    exact r_iret (pc := 14) rfl rfl (Nat.le_refl 0) (Nat.le_refl 0) dX3_answer_14
  · replace h := (if_neg c_1).symm.trans h
    refine r_iload_n (pc := 4) (i := 1) dX3_answer_4 rfl 1 rfl ?_
    refine r_aload_n (pc := 5) (i := 0) dX3_answer_5 rfl 0 rfl ?_
    refine r_getI (pc := 6) fg_3_31 rfl oa0 dX3_answer_6 ?_
    refine r_icmp_lt (pc := 9) (tgt := 15) dX3_answer_9 (by decide) rfl rfl (fun c_2 => ?_) (fun c_2 => ?_)
    · replace h := (if_pos c_2).symm.trans h
      refine r_iload_n (pc := 15) (i := 2) dX3_answer_15 rfl 2 rfl ?_
      by_cases c_3 : wI x2 = 0
      · replace h := (if_pos c_3).symm.trans h
        refine r_tsw (pc := 16) (tgt := 44) (k' := 0) (rfl.trans c_3) dX3_answer_16 (by decide) rfl (by decide) ?_
        refine r_aload_n (pc := 44) (i := 0) dX3_answer_44 rfl 0 rfl ?_
        have o_4 := (wt_3_1 oa0).2
        refine r_getR (pc := 45) fg_3_21 rfl oa0 (wt_3_1 oa0).1 dX3_answer_45 ?_
        refine r_iload_n (pc := 48) (i := 1) dX3_answer_48 rfl 1 rfl ?_
        obtain ⟨c_5, h⟩ := og h
        refine r_iald (pc := 49) o_4 rfl c_5 rfl dX3_answer_49 ?_
        cases h
        exact r_iret (pc := 50) rfl rfl (Nat.le_refl 0) (Nat.le_refl 0) dX3_answer_50
      · replace h := (if_neg c_3).symm.trans h
        by_cases c_6 : wI x2 = 1
        · replace h := (if_pos c_6).symm.trans h
          refine r_tsw (pc := 16) (tgt := 51) (k' := 1) (rfl.trans c_6) dX3_answer_16 (by decide) rfl (by decide) ?_
          refine r_aload_n (pc := 51) (i := 0) dX3_answer_51 rfl 0 rfl ?_
          have o_7 := (wt_3_2 oa0).2
          refine r_getR (pc := 52) fg_3_25 rfl oa0 (wt_3_2 oa0).1 dX3_answer_52 ?_
          refine r_iload_n (pc := 55) (i := 1) dX3_answer_55 rfl 1 rfl ?_
          obtain ⟨c_8, h⟩ := og h
          refine r_iald (pc := 56) o_7 rfl c_8 rfl dX3_answer_56 ?_
          cases h
          exact r_iret (pc := 57) rfl rfl (Nat.le_refl 0) (Nat.le_refl 0) dX3_answer_57
        · replace h := (if_neg c_6).symm.trans h
          by_cases c_9 : wI x2 = 2
          · replace h := (if_pos c_9).symm.trans h
            refine r_tsw (pc := 16) (tgt := 58) (k' := 2) (rfl.trans c_9) dX3_answer_16 (by decide) rfl (by decide) ?_
            refine r_aload_n (pc := 58) (i := 0) dX3_answer_58 rfl 0 rfl ?_
            have o_10 := (wt_3_3 oa0).2
            refine r_getR (pc := 59) fg_3_28 rfl oa0 (wt_3_3 oa0).1 dX3_answer_59 ?_
            refine r_iload_n (pc := 62) (i := 1) dX3_answer_62 rfl 1 rfl ?_
            obtain ⟨c_11, h⟩ := og h
            refine r_iald (pc := 63) o_10 rfl c_11 rfl dX3_answer_63 ?_
            cases h
            exact r_iret (pc := 64) rfl rfl (Nat.le_refl 0) (Nat.le_refl 0) dX3_answer_64
          · replace h := (if_neg c_9).symm.trans h
            refine r_tswD (pc := 16) (tgt := 65) rfl dX3_answer_16 (by omega) (by decide) ?_
            refine r_bipush (pc := 65) (v := (-2)) dX3_answer_65 (by decide +kernel) ?_
            cases h
            exact r_iret (pc := 67) rfl rfl (Nat.le_refl 0) (Nat.le_refl 0) dX3_answer_67
    · replace h := (if_neg c_2).symm.trans h
      refine r_bipush (pc := 12) (v := (-2)) dX3_answer_12 (by decide +kernel) ?_
      cases h
      exact r_iret (pc := 14) rfl rfl (Nat.le_refl 0) (Nat.le_refl 0) dX3_answer_14
theorem kX3_answer {G : GG} (a0 : Nat) (x1 : Int) (x2 : Int) (M : MM) {res : Int} (oa0 : OB L0 a0 3) (h : sX3_answer a0 x1 x2 M = some res) : CO G xX3_answer [.ref (gA G a0), .int (eI x1), .int (eI x2)] L0 M (some (.int (eI res))) L0 M := CO_of (by decide +kernel) (Nat.le_of_ble_eq_true rfl) (bX3_answer_b0 a0 x1 x2 M oa0 h)
abbrev xX3_sumOfSeconds : XX := (yX3_sumOfSeconds, cX3_sumOfSeconds, 3, (some .int), 0, 0, 0, 0)
def sX3_sumOfSeconds_b4 (a0 : Nat) (M : MM)  : Nat → Int → Int → Option Int
  | 0, _, _ => none
  | n + 1, x1, x2 => (if wI (M a0 4) ≤ wI x2 then (some (x1)) else (if 0 ≤ wI x2 ∧ wI x2 < (ln (gR a0 3)) then ((some (x1 + (M (gR a0 3) (wI x2).toNat))).bind fun v_4 => ((some (x2 + 1)).bind fun v_5 => (sX3_sumOfSeconds_b4 a0 M n v_4 v_5))) else none))
def sX3_sumOfSeconds_b0 (a0 : Nat) (M : MM)   : Option Int := (sX3_sumOfSeconds_b4 a0 M FU 0 0)
def sX3_sumOfSeconds (a0 : Nat) (M : MM) : Option Int := sX3_sumOfSeconds_b0 a0 M
set_option maxHeartbeats 4000000 in
set_option maxRecDepth 100000 in
theorem bX3_sumOfSeconds_b4 {G : GG} (a0 : Nat) (M : MM) (oa0 : OB L0 a0 3) {res : Int} : ∀ (n : Nat) (x1 : Int) (x2 : Int)  (h : sX3_sumOfSeconds_b4 a0 M n x1 x2 = some res), VV G xX3_sumOfSeconds (ZM G xX3_sumOfSeconds (some (.int (eI res))) L0 M) L0 M 0 0 4 [(0, .ref (gA G a0)), (1, .int (eI x1)), (2, .int (eI x2))] [] := by
  intro n
  induction n with
  | zero =>
    intro x1 x2 h
    rw [sX3_sumOfSeconds_b4] at h
    cases h
  | succ n ih =>
    intro x1 x2 h
    rw [sX3_sumOfSeconds_b4] at h
    refine r_iload_n (pc := 4) (i := 2) dX3_sumOfSeconds_4 rfl 2 rfl ?_
    refine r_aload_n (pc := 5) (i := 0) dX3_sumOfSeconds_5 rfl 0 rfl ?_
    refine r_getI (pc := 6) fg_3_31 rfl oa0 dX3_sumOfSeconds_6 ?_
    refine r_icmp_ge (pc := 9) (tgt := 27) dX3_sumOfSeconds_9 (by decide) rfl rfl (fun c_1 => ?_) (fun c_1 => ?_)
    · replace h := (if_pos c_1).symm.trans h
      refine r_iload_n (pc := 27) (i := 1) dX3_sumOfSeconds_27 rfl 1 rfl ?_
      cases h
      exact r_iret (pc := 28) rfl rfl (Nat.le_refl 0) (Nat.le_refl 0) dX3_sumOfSeconds_28
    · replace h := (if_neg c_1).symm.trans h
      refine r_iload_n (pc := 12) (i := 1) dX3_sumOfSeconds_12 rfl 1 rfl ?_
      refine r_aload_n (pc := 13) (i := 0) dX3_sumOfSeconds_13 rfl 0 rfl ?_
      have o_2 := (wt_3_3 oa0).2
      refine r_getR (pc := 14) fg_3_28 rfl oa0 (wt_3_3 oa0).1 dX3_sumOfSeconds_14 ?_
      refine r_iload_n (pc := 17) (i := 2) dX3_sumOfSeconds_17 rfl 2 rfl ?_
      obtain ⟨c_3, h⟩ := og h
      refine r_iald (pc := 18) o_2 rfl c_3 rfl dX3_sumOfSeconds_18 ?_
      refine r_iadd (pc := 19) dX3_sumOfSeconds_19 ?_
      obtain ⟨v_4, hv_4, h⟩ := ob h
      refine r_nmI (pc := 20) hv_4 ?_
      refine r_istore_n (pc := 20) (i := 1) (lv' := [(1, .int (eI v_4)), (0, .ref (gA G a0)), (2, .int (eI x2))]) dX3_sumOfSeconds_20 rfl (Nat.le_of_ble_eq_true rfl) rfl ?_
      obtain ⟨v_5, hv_5, h⟩ := ob h
      refine r_iinc (pc := 21) (y := v_5) (lv' := [(2, .int (eI v_5)), (1, .int (eI v_4)), (0, .ref (gA G a0))]) dX3_sumOfSeconds_21 2 rfl (Option.some.inj hv_5) (Nat.le_of_ble_eq_true rfl) rfl ?_
      refine r_goto (pc := 24) (tgt := 4) dX3_sumOfSeconds_24 (by decide) ?_
      refine r_sub (lv' := [(0, .ref (gA G a0)), (1, .int (eI v_4)), (2, .int (eI v_5))]) [2, 1, 0] rfl ?_
      exact ih _ _ h
set_option maxHeartbeats 4000000 in
set_option maxRecDepth 100000 in
theorem bX3_sumOfSeconds_b0 {G : GG} (a0 : Nat) (M : MM) (oa0 : OB L0 a0 3)  {res : Int}  (h : sX3_sumOfSeconds_b0 a0 M = some res) : VV G xX3_sumOfSeconds (ZM G xX3_sumOfSeconds (some (.int (eI res))) L0 M) L0 M 0 0 0 [(0, .ref (gA G a0))] [] := by
  unfold sX3_sumOfSeconds_b0 at h
  refine r_iconst (pc := 0) (v := 0) dX3_sumOfSeconds_0 (by decide +kernel) ?_
  refine r_istore_n (pc := 1) (i := 1) (lv' := [(1, .int (eI 0)), (0, .ref (gA G a0))]) dX3_sumOfSeconds_1 rfl (Nat.le_of_ble_eq_true rfl) rfl ?_
  refine r_iconst (pc := 2) (v := 0) dX3_sumOfSeconds_2 (by decide +kernel) ?_
  refine r_istore_n (pc := 3) (i := 2) (lv' := [(2, .int (eI 0)), (1, .int (eI 0)), (0, .ref (gA G a0))]) dX3_sumOfSeconds_3 rfl (Nat.le_of_ble_eq_true rfl) rfl ?_
  refine r_sub (lv' := [(0, .ref (gA G a0)), (1, .int (eI 0)), (2, .int (eI 0))]) [2, 1, 0] rfl ?_
  exact bX3_sumOfSeconds_b4 a0 M oa0 _ _ _ h
theorem kX3_sumOfSeconds {G : GG} (a0 : Nat) (M : MM) {res : Int} (oa0 : OB L0 a0 3) (h : sX3_sumOfSeconds a0 M = some res) : CO G xX3_sumOfSeconds [.ref (gA G a0)] L0 M (some (.int (eI res))) L0 M := CO_of (by decide +kernel) (Nat.le_of_ble_eq_true rfl) (bX3_sumOfSeconds_b0 a0 M oa0 h)
abbrev xX4_tens : XX := (yX4_tens, cX4_tens, 1, (some .long), 0, 0, 0, 0)
def sX4_tens_b0 (x0 : Int) (M : MM)   : Option Int := (if wI x0 < 0 then (some (0)) else (if 16 ≤ wI x0 then (some (0)) else (if 0 ≤ wI x0 ∧ wI x0 < 16 then (some (((sT 4).getD (wI x0).toNat 0))) else none)))
def sX4_tens (x0 : Int) (M : MM) : Option Int := sX4_tens_b0 x0 M
set_option maxHeartbeats 4000000 in
set_option maxRecDepth 100000 in
theorem bX4_tens_b0 {G : GG} (x0 : Int) (M : MM)   {res : Int}  (h : sX4_tens_b0 x0 M = some res) : VV G xX4_tens (ZM G xX4_tens (some (.long (eJ res))) L0 M) L0 M 0 0 0 [(0, .int (eI x0))] [] := by
  unfold sX4_tens_b0 at h
  refine r_iload_n (pc := 0) (i := 0) dX4_tens_0 rfl 0 rfl ?_
  refine r_if_lt (pc := 1) (tgt := 20) dX4_tens_1 (by decide) rfl (fun c_1 => ?_) (fun c_1 => ?_)
  · replace h := (if_pos c_1).symm.trans h
    refine r_lconst (pc := 20) (v := 0) dX4_tens_20 (by decide +kernel) ?_
    cases h
    exact r_lret (pc := 21) rfl (Nat.le_refl 0) (Nat.le_refl 0) dX4_tens_21
  · replace h := (if_neg c_1).symm.trans h
    refine r_iload_n (pc := 4) (i := 0) dX4_tens_4 rfl 0 rfl ?_
    refine r_gets (pc := 5) (j := 4) sg_4_41 dX4_tens_5 ?_
    refine r_tlen (pc := 8) (n := 16) (by decide) (by decide +kernel) dX4_tens_8 ?_
    refine r_icmp_ge (pc := 9) (tgt := 20) dX4_tens_9 (by decide) rfl wl_16 (fun c_2 => ?_) (fun c_2 => ?_)
    · replace h := (if_pos c_2).symm.trans h
      refine r_lconst (pc := 20) (v := 0) dX4_tens_20 (by decide +kernel) ?_
      cases h
      exact r_lret (pc := 21) rfl (Nat.le_refl 0) (Nat.le_refl 0) dX4_tens_21
    · replace h := (if_neg c_2).symm.trans h
      refine r_gets (pc := 12) (j := 4) sg_4_41 dX4_tens_12 ?_
      refine r_iload_n (pc := 15) (i := 0) dX4_tens_15 rfl 0 rfl ?_
      obtain ⟨c_3, h⟩ := og h
      refine r_taldl (pc := 16) rfl c_3 rfl dX4_tens_16 ?_
      refine r_goto (pc := 17) (tgt := 21) dX4_tens_17 (by decide) ?_
      cases h
      exact r_lret (pc := 21) rfl (Nat.le_refl 0) (Nat.le_refl 0) dX4_tens_21
theorem kX4_tens {G : GG} (x0 : Int) (M : MM) {res : Int}  (h : sX4_tens x0 M = some res) : CO G xX4_tens [.int (eI x0)] L0 M (some (.long (eJ res))) L0 M := CO_of (by decide +kernel) (Nat.le_of_ble_eq_true rfl) (bX4_tens_b0 x0 M h)
abbrev xX4_ofAll : XX := (yX4_ofAll, cX4_ofAll, 2, (some .long), 1, 20, 0, 0)
theorem ck_X4_ofAll_37 : CKS xX4_ofAll 37 xX4_tens 1 := ⟨⟨tb_i 1072 (by decide +kernel) (by decide +kernel), tb_i 149 (by decide +kernel) (by decide +kernel), tb_i 1074 (by decide +kernel) (by decide +kernel), ⟨by decide +kernel, by decide +kernel, by decide +kernel⟩, by decide, by decide⟩, tb_i 1073 (by decide +kernel) (by decide +kernel)⟩
def sX4_ofAll_b0 (a0 : Nat) (a1 : Nat) (M : MM)   : Option Int := ((sX4_tens ((M a1 3) * (M a1 12)) M).bind fun q_1 => (some (q_1)))
def sX4_ofAll (a0 : Nat) (a1 : Nat) (M : MM) : Option Int := sX4_ofAll_b0 a0 a1 M
set_option maxHeartbeats 4000000 in
set_option maxRecDepth 100000 in
theorem bX4_ofAll_b0 {G : GG} (a0 : Nat) (a1 : Nat) (M : MM) (oa0 : OB L0 a0 4) (oa1 : OB L0 a1 5)  {res : Int}  (h : sX4_ofAll_b0 a0 a1 M = some res) : VV G xX4_ofAll (ZM G xX4_ofAll (some (.long (eJ res))) L0 M) L0 M 0 0 0 [(0, .ref (gA G a0)), (1, .ref (gA G a1))] [] := by
  unfold sX4_ofAll_b0 at h
  refine r_aload_n (pc := 0) (i := 1) dX4_ofAll_0 rfl 1 rfl ?_
  refine r_getI (pc := 1) fg_4_28 rfl oa1 dX4_ofAll_1 ?_
  refine r_aload_n (pc := 4) (i := 1) dX4_ofAll_4 rfl 1 rfl ?_
  refine r_getI (pc := 5) fg_4_34 rfl oa1 dX4_ofAll_5 ?_
  refine r_imul (pc := 8) dX4_ofAll_8 ?_
  obtain ⟨q_1, hq_1, h⟩ := ob h
  refine r_cS (pc := 9) (Y := xX4_tens) (As := [.int (eI ((M a1 3) * (M a1 12)))]) (rest := []) (v := (some (.long (eJ q_1)))) (st1 := [.long (eJ q_1)]) ck_X4_ofAll_37 (kX4_tens ((M a1 3) * (M a1 12)) M  hq_1) rfl rfl (Nat.le_of_ble_eq_true rfl) ⟨rfl, rfl⟩ rfl dX4_ofAll_9 ?_
  cases h
  exact r_lret (pc := 12) rfl (Nat.le_refl 0) (Nat.le_refl 0) dX4_ofAll_12
theorem kX4_ofAll {G : GG} (a0 : Nat) (a1 : Nat) (M : MM) {res : Int} (oa0 : OB L0 a0 4) (oa1 : OB L0 a1 5) (h : sX4_ofAll a0 a1 M = some res) : CO G xX4_ofAll [.ref (gA G a0), .ref (gA G a1)] L0 M (some (.long (eJ res))) L0 M := CO_of (by decide +kernel) (Nat.le_of_ble_eq_true rfl) (bX4_ofAll_b0 a0 a1 M oa0 oa1 h)
abbrev xX4_ordersBy : XX := (yX4_ordersBy, cX4_ordersBy, 7, (some .boolean), 0, 0, 0, 0)
def sX4_ordersBy_b32 (a0 : Nat) (a1 : Nat) (x2 : Int) (K13 : Int → Int → Int → MM → Option (Int × MM)) (x3 : Int) (x4 : Int) (x5 : Int) (x90 : Int) (M : MM) : Option (Int × MM) := ((some (x3 % 4294967296 / 2 ^ (Int.toNat 3))).bind fun v_1 => (if 0 ≤ wI x5 ∧ wI x5 < 8 then ((some (mU M (gR a0 0) (wI x5).toNat x90)).bind fun M_4 => (if 0 ≤ wI x90 ∧ wI x90 < 32 then ((some (oI x4 (1 * 2 ^ (wI x90).toNat))).bind fun v_6 => ((some (x5 + (-1))).bind fun v_7 => (K13 v_1 v_6 v_7 M_4))) else none)) else none))
def sX4_ordersBy_b13 (a0 : Nat) (a1 : Nat) (x2 : Int)  : Nat → Int → Int → Int → MM → Option (Int × MM)
  | 0, _, _, _, _ => none
  | n + 1, x3, x4, x5, M => (if wI x5 < 0 then (if 0 ≤ wI (M a1 3) ∧ wI (M a1 3) < 32 then (if wI x4 = wI ((1 * 2 ^ (wI (M a1 3)).toNat) - 1) then (if wI x2 = (-1) then (some ((1, M))) else (if wI x3 = 0 then (some ((1, M))) else (some ((0, M))))) else (some ((0, M)))) else none) else (if wI x2 = (-1) then (sX4_ordersBy_b32 a0 a1 x2 (fun x3 x4 x5 M => sX4_ordersBy_b13 a0 a1 x2 n x3 x4 x5 M) x3 x4 x5 x5 M) else (sX4_ordersBy_b32 a0 a1 x2 (fun x3 x4 x5 M => sX4_ordersBy_b13 a0 a1 x2 n x3 x4 x5 M) x3 x4 x5 (x3 % 8) M)))
def sX4_ordersBy_b0 (a0 : Nat) (a1 : Nat) (x2 : Int)   (M : MM) : Option (Int × MM) := (sX4_ordersBy_b13 a0 a1 x2 FU x2 0 ((M a1 3) - 1) M)
def sX4_ordersBy (a0 : Nat) (a1 : Nat) (x2 : Int) (M : MM) : Option (Int × MM) := sX4_ordersBy_b0 a0 a1 x2 M
set_option maxHeartbeats 4000000 in
set_option maxRecDepth 100000 in
theorem bX4_ordersBy_b32 {G : GG} (a0 : Nat) (a1 : Nat) (x2 : Int) (oa0 : OB L0 a0 4) (oa1 : OB L0 a1 5) {K13 : Int → Int → Int → MM → Option (Int × MM)} (x3 : Int) (x4 : Int) (x5 : Int) (x90 : Int) (M : MM) {res : (Int × MM)} (hK13 : ∀ (x3 : Int) (x4 : Int) (x5 : Int) (M : MM), K13 x3 x4 x5 M = some res → VV G xX4_ordersBy (ZM G xX4_ordersBy (some (.int (eI res.1))) L0 res.2) L0 M 0 0 13 [(0, .ref (gA G a0)), (1, .ref (gA G a1)), (2, .int (eI x2)), (3, .int (eI x3)), (4, .int (eI x4)), (5, .int (eI x5))] [])  (h : sX4_ordersBy_b32 a0 a1 x2 K13 x3 x4 x5 x90 M = some res) : VV G xX4_ordersBy (ZM G xX4_ordersBy (some (.int (eI res.1))) L0 res.2) L0 M 0 0 32 [(0, .ref (gA G a0)), (1, .ref (gA G a1)), (2, .int (eI x2)), (3, .int (eI x3)), (4, .int (eI x4)), (5, .int (eI x5))] [.int (eI x90)] := by
  unfold sX4_ordersBy_b32 at h
  refine r_istore (pc := 32) (lv' := [(6, .int (eI x90)), (0, .ref (gA G a0)), (1, .ref (gA G a1)), (2, .int (eI x2)), (3, .int (eI x3)), (4, .int (eI x4)), (5, .int (eI x5))]) dX4_ordersBy_32 (Nat.le_of_ble_eq_true rfl) rfl ?_
  refine r_iload_n (pc := 34) (i := 3) dX4_ordersBy_34 rfl 4 rfl ?_
  refine r_iconst (pc := 35) (v := 3) dX4_ordersBy_35 (by decide +kernel) ?_
  refine r_iushr (pc := 36) wl_3 ⟨by decide, by decide⟩ dX4_ordersBy_36 ?_
  obtain ⟨v_1, hv_1, h⟩ := ob h
  refine r_nmI (pc := 37) hv_1 ?_
  refine r_istore_n (pc := 37) (i := 3) (lv' := [(3, .int (eI v_1)), (6, .int (eI x90)), (0, .ref (gA G a0)), (1, .ref (gA G a1)), (2, .int (eI x2)), (4, .int (eI x4)), (5, .int (eI x5))]) dX4_ordersBy_37 rfl (Nat.le_of_ble_eq_true rfl) rfl ?_
  refine r_aload_n (pc := 38) (i := 0) dX4_ordersBy_38 rfl 2 rfl ?_
  have o_2 := (wt_4_0 oa0).2
  refine r_getR (pc := 39) fg_4_9 rfl oa0 (wt_4_0 oa0).1 dX4_ordersBy_39 ?_
  refine r_iload (pc := 42) dX4_ordersBy_42 6 rfl ?_
  refine r_iload (pc := 44) dX4_ordersBy_44 1 rfl ?_
  obtain ⟨c_3, h⟩ := og h
  obtain ⟨M_4, hM_4, h⟩ := ob h
  refine r_iast (pc := 46) o_2 rfl c_3 rfl hM_4 dX4_ordersBy_46 ?_
  refine r_iload (pc := 47) dX4_ordersBy_47 5 rfl ?_
  refine r_iconst (pc := 49) (v := 1) dX4_ordersBy_49 (by decide +kernel) ?_
  refine r_iload (pc := 50) dX4_ordersBy_50 1 rfl ?_
  obtain ⟨c_5, h⟩ := og h
  refine r_ishl (pc := 52) rfl c_5 dX4_ordersBy_52 ?_
  refine r_ior (pc := 53) dX4_ordersBy_53 ?_
  obtain ⟨v_6, hv_6, h⟩ := ob h
  refine r_nmI (pc := 54) hv_6 ?_
  refine r_istore (pc := 54) (lv' := [(4, .int (eI v_6)), (3, .int (eI v_1)), (6, .int (eI x90)), (0, .ref (gA G a0)), (1, .ref (gA G a1)), (2, .int (eI x2)), (5, .int (eI x5))]) dX4_ordersBy_54 (Nat.le_of_ble_eq_true rfl) rfl ?_
  obtain ⟨v_7, hv_7, h⟩ := ob h
  refine r_iinc (pc := 56) (y := v_7) (lv' := [(5, .int (eI v_7)), (4, .int (eI v_6)), (3, .int (eI v_1)), (6, .int (eI x90)), (0, .ref (gA G a0)), (1, .ref (gA G a1)), (2, .int (eI x2))]) dX4_ordersBy_56 6 rfl (Option.some.inj hv_7) (Nat.le_of_ble_eq_true rfl) rfl ?_
  refine r_goto (pc := 59) (tgt := 13) dX4_ordersBy_59 (by decide) ?_
  refine r_sub (lv' := [(0, .ref (gA G a0)), (1, .ref (gA G a1)), (2, .int (eI x2)), (3, .int (eI v_1)), (4, .int (eI v_6)), (5, .int (eI v_7))]) [4, 5, 6, 2, 1, 0] rfl ?_
  exact hK13 _ _ _ _ h
set_option maxHeartbeats 4000000 in
set_option maxRecDepth 100000 in
theorem bX4_ordersBy_b13 {G : GG} (a0 : Nat) (a1 : Nat) (x2 : Int) (oa0 : OB L0 a0 4) (oa1 : OB L0 a1 5) {res : (Int × MM)} : ∀ (n : Nat) (x3 : Int) (x4 : Int) (x5 : Int) (M : MM)  (h : sX4_ordersBy_b13 a0 a1 x2 n x3 x4 x5 M = some res), VV G xX4_ordersBy (ZM G xX4_ordersBy (some (.int (eI res.1))) L0 res.2) L0 M 0 0 13 [(0, .ref (gA G a0)), (1, .ref (gA G a1)), (2, .int (eI x2)), (3, .int (eI x3)), (4, .int (eI x4)), (5, .int (eI x5))] [] := by
  intro n
  induction n with
  | zero =>
    intro x3 x4 x5 M h
    rw [sX4_ordersBy_b13] at h
    cases h
  | succ n ih =>
    intro x3 x4 x5 M h
    rw [sX4_ordersBy_b13] at h
    refine r_iload (pc := 13) dX4_ordersBy_13 5 rfl ?_
    refine r_if_lt (pc := 15) (tgt := 62) dX4_ordersBy_15 (by decide) rfl (fun c_1 => ?_) (fun c_1 => ?_)
    · replace h := (if_pos c_1).symm.trans h
      refine r_iload (pc := 62) dX4_ordersBy_62 4 rfl ?_
      refine r_iconst (pc := 64) (v := 1) dX4_ordersBy_64 (by decide +kernel) ?_
      refine r_aload_n (pc := 65) (i := 1) dX4_ordersBy_65 rfl 1 rfl ?_
      refine r_getI (pc := 66) fg_4_28 rfl oa1 dX4_ordersBy_66 ?_
      obtain ⟨c_2, h⟩ := og h
      refine r_ishl (pc := 69) rfl c_2 dX4_ordersBy_69 ?_
      refine r_iconst (pc := 70) (v := 1) dX4_ordersBy_70 (by decide +kernel) ?_
      refine r_isub (pc := 71) dX4_ordersBy_71 ?_
      refine r_icmp_ne (pc := 72) (tgt := 88) dX4_ordersBy_72 (by decide) rfl rfl (fun c_3 => ?_) (fun c_3 => ?_)
      · replace h := (if_neg c_3).symm.trans h
        refine r_iconst (pc := 88) (v := 0) dX4_ordersBy_88 (by decide +kernel) ?_
        cases h
        exact r_iret (pc := 89) rfl (zn_ok (Or.inl rfl)).1 (Nat.le_refl 0) (Nat.le_refl 0) dX4_ordersBy_89
      · replace h := (if_pos c_3).symm.trans h
        refine r_iload_n (pc := 75) (i := 2) dX4_ordersBy_75 rfl 2 rfl ?_
        refine r_iconst (pc := 76) (v := (-1)) dX4_ordersBy_76 (by decide +kernel) ?_
        refine r_icmp_eq (pc := 77) (tgt := 84) dX4_ordersBy_77 (by decide) rfl wl_m1 (fun c_4 => ?_) (fun c_4 => ?_)
        · replace h := (if_pos c_4).symm.trans h
          refine r_iconst (pc := 84) (v := 1) dX4_ordersBy_84 (by decide +kernel) ?_
          refine r_goto (pc := 85) (tgt := 89) dX4_ordersBy_85 (by decide) ?_
          cases h
          exact r_iret (pc := 89) rfl (zn_ok (Or.inr rfl)).1 (Nat.le_refl 0) (Nat.le_refl 0) dX4_ordersBy_89
        · replace h := (if_neg c_4).symm.trans h
          refine r_iload_n (pc := 80) (i := 3) dX4_ordersBy_80 rfl 3 rfl ?_
          refine r_if_ne (pc := 81) (tgt := 88) dX4_ordersBy_81 (by decide) rfl (fun c_5 => ?_) (fun c_5 => ?_)
          · replace h := (if_neg c_5).symm.trans h
            refine r_iconst (pc := 88) (v := 0) dX4_ordersBy_88 (by decide +kernel) ?_
            cases h
            exact r_iret (pc := 89) rfl (zn_ok (Or.inl rfl)).1 (Nat.le_refl 0) (Nat.le_refl 0) dX4_ordersBy_89
          · replace h := (if_pos c_5).symm.trans h
            refine r_iconst (pc := 84) (v := 1) dX4_ordersBy_84 (by decide +kernel) ?_
            refine r_goto (pc := 85) (tgt := 89) dX4_ordersBy_85 (by decide) ?_
            cases h
            exact r_iret (pc := 89) rfl (zn_ok (Or.inr rfl)).1 (Nat.le_refl 0) (Nat.le_refl 0) dX4_ordersBy_89
    · replace h := (if_neg c_1).symm.trans h
      refine r_iload_n (pc := 18) (i := 2) dX4_ordersBy_18 rfl 2 rfl ?_
      refine r_iconst (pc := 19) (v := (-1)) dX4_ordersBy_19 (by decide +kernel) ?_
      refine r_icmp_ne (pc := 20) (tgt := 28) dX4_ordersBy_20 (by decide) rfl wl_m1 (fun c_6 => ?_) (fun c_6 => ?_)
      · replace h := (if_neg c_6).symm.trans h
        refine r_iload_n (pc := 28) (i := 3) dX4_ordersBy_28 rfl 3 rfl ?_
        refine r_bipush (pc := 29) (v := 7) dX4_ordersBy_29 (by decide +kernel) ?_
        refine r_iand (pc := 31) 3 (by decide) wl_7 rfl dX4_ordersBy_31 ?_
        refine r_sub (lv' := [(0, .ref (gA G a0)), (1, .ref (gA G a1)), (2, .int (eI x2)), (3, .int (eI x3)), (4, .int (eI x4)), (5, .int (eI x5))]) [0, 1, 2, 3, 4, 5] rfl ?_
        exact bX4_ordersBy_b32 a0 a1 x2 oa0 oa1 _ _ _ _ _ (fun v0 v1 v2 v3 v4 => ih v0 v1 v2 v3 v4) h
      · replace h := (if_pos c_6).symm.trans h
        refine r_iload (pc := 23) dX4_ordersBy_23 5 rfl ?_
        refine r_goto (pc := 25) (tgt := 32) dX4_ordersBy_25 (by decide) ?_
        refine r_sub (lv' := [(0, .ref (gA G a0)), (1, .ref (gA G a1)), (2, .int (eI x2)), (3, .int (eI x3)), (4, .int (eI x4)), (5, .int (eI x5))]) [0, 1, 2, 3, 4, 5] rfl ?_
        exact bX4_ordersBy_b32 a0 a1 x2 oa0 oa1 _ _ _ _ _ (fun v0 v1 v2 v3 v4 => ih v0 v1 v2 v3 v4) h
set_option maxHeartbeats 4000000 in
set_option maxRecDepth 100000 in
theorem bX4_ordersBy_b0 {G : GG} (a0 : Nat) (a1 : Nat) (x2 : Int) (oa0 : OB L0 a0 4) (oa1 : OB L0 a1 5)  (M : MM) {res : (Int × MM)}  (h : sX4_ordersBy_b0 a0 a1 x2 M = some res) : VV G xX4_ordersBy (ZM G xX4_ordersBy (some (.int (eI res.1))) L0 res.2) L0 M 0 0 0 [(0, .ref (gA G a0)), (1, .ref (gA G a1)), (2, .int (eI x2))] [] := by
  unfold sX4_ordersBy_b0 at h
  refine r_iload_n (pc := 0) (i := 2) dX4_ordersBy_0 rfl 2 rfl ?_
  refine r_istore_n (pc := 1) (i := 3) (lv' := [(3, .int (eI x2)), (0, .ref (gA G a0)), (1, .ref (gA G a1)), (2, .int (eI x2))]) dX4_ordersBy_1 rfl (Nat.le_of_ble_eq_true rfl) rfl ?_
  refine r_iconst (pc := 2) (v := 0) dX4_ordersBy_2 (by decide +kernel) ?_
  refine r_istore (pc := 3) (lv' := [(4, .int (eI 0)), (3, .int (eI x2)), (0, .ref (gA G a0)), (1, .ref (gA G a1)), (2, .int (eI x2))]) dX4_ordersBy_3 (Nat.le_of_ble_eq_true rfl) rfl ?_
  refine r_aload_n (pc := 5) (i := 1) dX4_ordersBy_5 rfl 3 rfl ?_
  refine r_getI (pc := 6) fg_4_28 rfl oa1 dX4_ordersBy_6 ?_
  refine r_iconst (pc := 9) (v := 1) dX4_ordersBy_9 (by decide +kernel) ?_
  refine r_isub (pc := 10) dX4_ordersBy_10 ?_
  refine r_istore (pc := 11) (lv' := [(5, .int (eI ((M a1 3) - 1))), (4, .int (eI 0)), (3, .int (eI x2)), (0, .ref (gA G a0)), (1, .ref (gA G a1)), (2, .int (eI x2))]) dX4_ordersBy_11 (Nat.le_of_ble_eq_true rfl) rfl ?_
  refine r_sub (lv' := [(0, .ref (gA G a0)), (1, .ref (gA G a1)), (2, .int (eI x2)), (3, .int (eI x2)), (4, .int (eI 0)), (5, .int (eI ((M a1 3) - 1)))]) [3, 4, 5, 2, 1, 0] rfl ?_
  exact bX4_ordersBy_b13 a0 a1 x2 oa0 oa1 _ _ _ _ _ h
theorem kX4_ordersBy {G : GG} (a0 : Nat) (a1 : Nat) (x2 : Int) (M : MM) {res : (Int × MM)} (oa0 : OB L0 a0 4) (oa1 : OB L0 a1 5) (h : sX4_ordersBy a0 a1 x2 M = some res) : CO G xX4_ordersBy [.ref (gA G a0), .ref (gA G a1), .int (eI x2)] L0 M (some (.int (eI res.1))) L0 res.2 := CO_of (by decide +kernel) (Nat.le_of_ble_eq_true rfl) (bX4_ordersBy_b0 a0 a1 x2 oa0 oa1 M h)
abbrev xX4_strikeOnce : XX := (yX4_strikeOnce, cX4_strikeOnce, 8, none, 0, 0, 0, 0)
def sX4_strikeOnce_b84 (a0 : Nat) (x1 : Int) (x2 : Int) (x3 : Int) (K9 : Int → Int → MM → Option MM) (x4 : Int) (x5 : Int) (M : MM) : Option MM := ((some (x5 + 1)).bind fun v_1 => (K9 x4 v_1 M))
def sX4_strikeOnce_b9 (a0 : Nat) (x1 : Int) (x2 : Int) (x3 : Int)  : Nat → Int → Int → MM → Option MM
  | 0, _, _, _ => none
  | n + 1, x4, x5, M => (if wI x3 < wI x5 then (some (M)) else (if 0 ≤ wI x5 ∧ wI x5 < 137 then (if 0 ≤ wI x5 ∧ wI x5 < 137 then (if 0 ≤ wI x5 ∧ wI x5 < 137 then ((some (mU M (gR a0 2) (wI x5).toNat (((M (gR a0 2) (wI x5).toNat) * (wI x4)) + ((M (gR a0 1) (wI x5).toNat) * (wI x1))))).bind fun M_8 => (if 0 ≤ wI x5 ∧ wI x5 < 137 then (if 0 ≤ wI x5 ∧ wI x5 < 137 then ((some (mU M_8 (gR a0 1) (wI x5).toNat ((M_8 (gR a0 1) (wI x5).toNat) * (wI x4)))).bind fun M_12 => (if wI x5 ≤ wI x2 then (sX4_strikeOnce_b84 a0 x1 x2 x3 (fun x4 x5 M => sX4_strikeOnce_b9 a0 x1 x2 x3 n x4 x5 M) x4 x5 M_12) else (if 0 ≤ wI (x5 - x2) ∧ wI (x5 - x2) < 137 then (if 0 ≤ wI (x5 - x2) ∧ wI (x5 - x2) < 137 then ((some (mU M_12 (gR a0 2) (wI (x5 - x2)).toNat ((M_12 (gR a0 2) (wI (x5 - x2)).toNat) + ((M (gR a0 2) (wI x5).toNat) * (wI x1))))).bind fun M_17 => (sX4_strikeOnce_b84 a0 x1 x2 x3 (fun x4 x5 M => sX4_strikeOnce_b9 a0 x1 x2 x3 n x4 x5 M) x4 x5 M_17)) else none) else none))) else none) else none)) else none) else none) else none))
def sX4_strikeOnce_b0 (a0 : Nat) (x1 : Int) (x2 : Int) (x3 : Int)   (M : MM) : Option MM := (sX4_strikeOnce_b9 a0 x1 x2 x3 FU (10 - x1) 1 M)
def sX4_strikeOnce (a0 : Nat) (x1 : Int) (x2 : Int) (x3 : Int) (M : MM) : Option MM := sX4_strikeOnce_b0 a0 x1 x2 x3 M
set_option maxHeartbeats 4000000 in
set_option maxRecDepth 100000 in
theorem bX4_strikeOnce_b84 {G : GG} (a0 : Nat) (x1 : Int) (x2 : Int) (x3 : Int) (oa0 : OB L0 a0 4) {K9 : Int → Int → MM → Option MM} (x4 : Int) (x5 : Int) (M : MM) {res : MM} (hK9 : ∀ (x4 : Int) (x5 : Int) (M : MM), K9 x4 x5 M = some res → VV G xX4_strikeOnce (ZM G xX4_strikeOnce (none) L0 res) L0 M 0 0 9 [(0, .ref (gA G a0)), (1, .int (eI x1)), (2, .int (eI x2)), (3, .int (eI x3)), (4, .int (eI x4)), (5, .int (eI x5))] [])  (h : sX4_strikeOnce_b84 a0 x1 x2 x3 K9 x4 x5 M = some res) : VV G xX4_strikeOnce (ZM G xX4_strikeOnce (none) L0 res) L0 M 0 0 84 [(0, .ref (gA G a0)), (1, .int (eI x1)), (2, .int (eI x2)), (3, .int (eI x3)), (4, .int (eI x4)), (5, .int (eI x5))] [] := by
  unfold sX4_strikeOnce_b84 at h
  obtain ⟨v_1, hv_1, h⟩ := ob h
  refine r_iinc (pc := 84) (y := v_1) (lv' := [(5, .int (eI v_1)), (0, .ref (gA G a0)), (1, .int (eI x1)), (2, .int (eI x2)), (3, .int (eI x3)), (4, .int (eI x4))]) dX4_strikeOnce_84 5 rfl (Option.some.inj hv_1) (Nat.le_of_ble_eq_true rfl) rfl ?_
  refine r_goto (pc := 87) (tgt := 9) dX4_strikeOnce_87 (by decide) ?_
  refine r_sub (lv' := [(0, .ref (gA G a0)), (1, .int (eI x1)), (2, .int (eI x2)), (3, .int (eI x3)), (4, .int (eI x4)), (5, .int (eI v_1))]) [1, 2, 3, 4, 5, 0] rfl ?_
  exact hK9 _ _ _ h
set_option maxHeartbeats 4000000 in
set_option maxRecDepth 100000 in
theorem bX4_strikeOnce_b9 {G : GG} (a0 : Nat) (x1 : Int) (x2 : Int) (x3 : Int) (oa0 : OB L0 a0 4) {res : MM} : ∀ (n : Nat) (x4 : Int) (x5 : Int) (M : MM)  (h : sX4_strikeOnce_b9 a0 x1 x2 x3 n x4 x5 M = some res), VV G xX4_strikeOnce (ZM G xX4_strikeOnce (none) L0 res) L0 M 0 0 9 [(0, .ref (gA G a0)), (1, .int (eI x1)), (2, .int (eI x2)), (3, .int (eI x3)), (4, .int (eI x4)), (5, .int (eI x5))] [] := by
  intro n
  induction n with
  | zero =>
    intro x4 x5 M h
    rw [sX4_strikeOnce_b9] at h
    cases h
  | succ n ih =>
    intro x4 x5 M h
    rw [sX4_strikeOnce_b9] at h
    refine r_iload (pc := 9) dX4_strikeOnce_9 5 rfl ?_
    refine r_iload_n (pc := 11) (i := 3) dX4_strikeOnce_11 rfl 3 rfl ?_
    refine r_icmp_gt (pc := 12) (tgt := 90) dX4_strikeOnce_12 (by decide) rfl rfl (fun c_1 => ?_) (fun c_1 => ?_)
    · replace h := (if_pos c_1).symm.trans h
      cases h
      exact r_vret (pc := 90) rfl (Nat.le_refl 0) (Nat.le_refl 0) dX4_strikeOnce_90
    · replace h := (if_neg c_1).symm.trans h
      refine r_aload_n (pc := 15) (i := 0) dX4_strikeOnce_15 rfl 0 rfl ?_
      have o_2 := (wt_4_2 oa0).2
      refine r_getR (pc := 16) fg_4_19 rfl oa0 (wt_4_2 oa0).1 dX4_strikeOnce_16 ?_
      refine r_iload (pc := 19) dX4_strikeOnce_19 5 rfl ?_
      obtain ⟨c_3, h⟩ := og h
      refine r_lald (pc := 21) o_2 rfl c_3 rfl dX4_strikeOnce_21 ?_
      refine r_lstore (pc := 22) (lv' := [(6, .long (eJ (M (gR a0 2) (wI x5).toNat))), (0, .ref (gA G a0)), (1, .int (eI x1)), (2, .int (eI x2)), (3, .int (eI x3)), (4, .int (eI x4)), (5, .int (eI x5))]) dX4_strikeOnce_22 (Nat.le_of_ble_eq_true rfl) rfl ?_
      refine r_aload_n (pc := 24) (i := 0) dX4_strikeOnce_24 rfl 1 rfl ?_
      have o_4 := (wt_4_2 oa0).2
      refine r_getR (pc := 25) fg_4_19 rfl oa0 (wt_4_2 oa0).1 dX4_strikeOnce_25 ?_
      refine r_iload (pc := 28) dX4_strikeOnce_28 6 rfl ?_
      refine r_lload (pc := 30) dX4_strikeOnce_30 0 rfl ?_
      refine r_iload (pc := 32) dX4_strikeOnce_32 5 rfl ?_
      refine r_i2l (pc := 34) rfl dX4_strikeOnce_34 ?_
      refine r_lmul (pc := 35) dX4_strikeOnce_35 ?_
      refine r_aload_n (pc := 36) (i := 0) dX4_strikeOnce_36 rfl 1 rfl ?_
      have o_5 := (wt_4_1 oa0).2
      refine r_getR (pc := 37) fg_4_15 rfl oa0 (wt_4_1 oa0).1 dX4_strikeOnce_37 ?_
      refine r_iload (pc := 40) dX4_strikeOnce_40 6 rfl ?_
      obtain ⟨c_6, h⟩ := og h
      refine r_lald (pc := 42) o_5 rfl c_6 rfl dX4_strikeOnce_42 ?_
      refine r_iload_n (pc := 43) (i := 1) dX4_strikeOnce_43 rfl 2 rfl ?_
      refine r_i2l (pc := 44) rfl dX4_strikeOnce_44 ?_
      refine r_lmul (pc := 45) dX4_strikeOnce_45 ?_
      refine r_ladd (pc := 46) dX4_strikeOnce_46 ?_
      obtain ⟨c_7, h⟩ := og h
      obtain ⟨M_8, hM_8, h⟩ := ob h
      refine r_last (pc := 47) o_4 rfl c_7 rfl hM_8 dX4_strikeOnce_47 ?_
      refine r_aload_n (pc := 48) (i := 0) dX4_strikeOnce_48 rfl 1 rfl ?_
      have o_9 := (wt_4_1 oa0).2
      refine r_getR (pc := 49) fg_4_15 rfl oa0 (wt_4_1 oa0).1 dX4_strikeOnce_49 ?_
      refine r_iload (pc := 52) dX4_strikeOnce_52 6 rfl ?_
      refine r_dup2 (pc := 54) dX4_strikeOnce_54 rfl rfl ?_
      obtain ⟨c_10, h⟩ := og h
      refine r_lald (pc := 55) o_9 rfl c_10 rfl dX4_strikeOnce_55 ?_
      refine r_iload (pc := 56) dX4_strikeOnce_56 5 rfl ?_
      refine r_i2l (pc := 58) rfl dX4_strikeOnce_58 ?_
      refine r_lmul (pc := 59) dX4_strikeOnce_59 ?_
      obtain ⟨c_11, h⟩ := og h
      obtain ⟨M_12, hM_12, h⟩ := ob h
      refine r_last (pc := 60) o_9 rfl c_11 rfl hM_12 dX4_strikeOnce_60 ?_
      refine r_iload (pc := 61) dX4_strikeOnce_61 6 rfl ?_
      refine r_iload_n (pc := 63) (i := 2) dX4_strikeOnce_63 rfl 3 rfl ?_
      refine r_icmp_le (pc := 64) (tgt := 84) dX4_strikeOnce_64 (by decide) rfl rfl (fun c_13 => ?_) (fun c_13 => ?_)
      · replace h := (if_pos c_13).symm.trans h
        refine r_sub (lv' := [(0, .ref (gA G a0)), (1, .int (eI x1)), (2, .int (eI x2)), (3, .int (eI x3)), (4, .int (eI x4)), (5, .int (eI x5))]) [1, 2, 3, 4, 5, 6] rfl ?_
        exact bX4_strikeOnce_b84 a0 x1 x2 x3 oa0 _ _ _ (fun v0 v1 v2 v3 => ih v0 v1 v2 v3) h
      · replace h := (if_neg c_13).symm.trans h
        refine r_aload_n (pc := 67) (i := 0) dX4_strikeOnce_67 rfl 1 rfl ?_
        have o_14 := (wt_4_2 oa0).2
        refine r_getR (pc := 68) fg_4_19 rfl oa0 (wt_4_2 oa0).1 dX4_strikeOnce_68 ?_
        refine r_iload (pc := 71) dX4_strikeOnce_71 6 rfl ?_
        refine r_iload_n (pc := 73) (i := 2) dX4_strikeOnce_73 rfl 3 rfl ?_
        refine r_isub (pc := 74) dX4_strikeOnce_74 ?_
        refine r_dup2 (pc := 75) dX4_strikeOnce_75 rfl rfl ?_
        obtain ⟨c_15, h⟩ := og h
        refine r_lald (pc := 76) o_14 rfl c_15 rfl dX4_strikeOnce_76 ?_
        refine r_lload (pc := 77) dX4_strikeOnce_77 0 rfl ?_
        refine r_iload_n (pc := 79) (i := 1) dX4_strikeOnce_79 rfl 2 rfl ?_
        refine r_i2l (pc := 80) rfl dX4_strikeOnce_80 ?_
        refine r_lmul (pc := 81) dX4_strikeOnce_81 ?_
        refine r_ladd (pc := 82) dX4_strikeOnce_82 ?_
        obtain ⟨c_16, h⟩ := og h
        obtain ⟨M_17, hM_17, h⟩ := ob h
        refine r_last (pc := 83) o_14 rfl c_16 rfl hM_17 dX4_strikeOnce_83 ?_
        refine r_sub (lv' := [(0, .ref (gA G a0)), (1, .int (eI x1)), (2, .int (eI x2)), (3, .int (eI x3)), (4, .int (eI x4)), (5, .int (eI x5))]) [1, 2, 3, 4, 5, 6] rfl ?_
        exact bX4_strikeOnce_b84 a0 x1 x2 x3 oa0 _ _ _ (fun v0 v1 v2 v3 => ih v0 v1 v2 v3) h
set_option maxHeartbeats 4000000 in
set_option maxRecDepth 100000 in
theorem bX4_strikeOnce_b0 {G : GG} (a0 : Nat) (x1 : Int) (x2 : Int) (x3 : Int) (oa0 : OB L0 a0 4)  (M : MM) {res : MM}  (h : sX4_strikeOnce_b0 a0 x1 x2 x3 M = some res) : VV G xX4_strikeOnce (ZM G xX4_strikeOnce (none) L0 res) L0 M 0 0 0 [(0, .ref (gA G a0)), (1, .int (eI x1)), (2, .int (eI x2)), (3, .int (eI x3))] [] := by
  unfold sX4_strikeOnce_b0 at h
  refine r_bipush (pc := 0) (v := 10) dX4_strikeOnce_0 (by decide +kernel) ?_
  refine r_iload_n (pc := 2) (i := 1) dX4_strikeOnce_2 rfl 1 rfl ?_
  refine r_isub (pc := 3) dX4_strikeOnce_3 ?_
  refine r_istore (pc := 4) (lv' := [(4, .int (eI (10 - x1))), (0, .ref (gA G a0)), (1, .int (eI x1)), (2, .int (eI x2)), (3, .int (eI x3))]) dX4_strikeOnce_4 (Nat.le_of_ble_eq_true rfl) rfl ?_
  refine r_iconst (pc := 6) (v := 1) dX4_strikeOnce_6 (by decide +kernel) ?_
  refine r_istore (pc := 7) (lv' := [(5, .int (eI 1)), (4, .int (eI (10 - x1))), (0, .ref (gA G a0)), (1, .int (eI x1)), (2, .int (eI x2)), (3, .int (eI x3))]) dX4_strikeOnce_7 (Nat.le_of_ble_eq_true rfl) rfl ?_
  refine r_sub (lv' := [(0, .ref (gA G a0)), (1, .int (eI x1)), (2, .int (eI x2)), (3, .int (eI x3)), (4, .int (eI (10 - x1))), (5, .int (eI 1))]) [2, 3, 4, 5, 1, 0] rfl ?_
  exact bX4_strikeOnce_b9 a0 x1 x2 x3 oa0 _ _ _ _ h
theorem kX4_strikeOnce {G : GG} (a0 : Nat) (x1 : Int) (x2 : Int) (x3 : Int) (M : MM) {res : MM} (oa0 : OB L0 a0 4) (h : sX4_strikeOnce a0 x1 x2 x3 M = some res) : CO G xX4_strikeOnce [.ref (gA G a0), .int (eI x1), .int (eI x2), .int (eI x3)] L0 M (none) L0 res := CO_of (by decide +kernel) (Nat.le_of_ble_eq_true rfl) (bX4_strikeOnce_b0 a0 x1 x2 x3 oa0 M h)
abbrev xX4_strikeAll : XX := (yX4_strikeAll, cX4_strikeAll, 5, none, 1, 27, 0, 0)
theorem ck_X4_strikeAll_83 : CKV xX4_strikeAll 83 xX4_strikeOnce 3 := ⟨⟨tb_i 1068 (by decide +kernel) (by decide +kernel), tb_i 149 (by decide +kernel) (by decide +kernel), tb_i 1071 (by decide +kernel) (by decide +kernel), ⟨by decide +kernel, by decide +kernel, by decide +kernel⟩, by decide, by decide⟩, tb_i 1070 (by decide +kernel) (by decide +kernel), tb_i 27 (by decide +kernel) (by decide +kernel)⟩
def sX4_strikeAll_b88 (a0 : Nat) (a1 : Nat) (x2 : Int) (x3 : Int)  : Nat → Int → MM → Option MM
  | 0, _, _ => none
  | n + 1, x4, M => (if wI x3 < wI x4 then (some (M)) else (if 0 ≤ wI x4 ∧ wI x4 < 137 then (if 0 ≤ wI x4 ∧ wI x4 < 137 then (if 0 ≤ wI x4 ∧ wI x4 < 137 then ((some (mU M (gR a0 2) (wI x4).toNat ((M (gR a0 2) (wI x4).toNat) + (M (gR a0 1) (wI x4).toNat)))).bind fun M_7 => (if 0 ≤ wI x4 ∧ wI x4 < 137 then ((some (mU M_7 (gR a0 1) (wI x4).toNat 0)).bind fun M_10 => ((some (x4 + 1)).bind fun v_11 => (sX4_strikeAll_b88 a0 a1 x2 x3 n v_11 M_10))) else none)) else none) else none) else none))
def sX4_strikeAll_b53 (a0 : Nat) (a1 : Nat) (x2 : Int) (x3 : Int)  : Nat → Int → MM → Option MM
  | 0, _, _ => none
  | n + 1, x4, M => (if wI (M a1 12) ≤ wI x4 then (sX4_strikeAll_b88 a0 a1 x2 x3 FU 1 M) else (if 0 ≤ wI x2 ∧ wI x2 < 8 then (if 0 ≤ wI x2 ∧ wI x2 < 8 then ((sX4_strikeOnce a0 (M (gR a1 6) (wI x2).toNat) (M (gR a1 5) (wI x2).toNat) x3 M).bind fun q_6 => ((some (x4 + 1)).bind fun v_7 => (sX4_strikeAll_b53 a0 a1 x2 x3 n v_7 q_6))) else none) else none))
def sX4_strikeAll_b50 (a0 : Nat) (a1 : Nat) (x2 : Int) (x3 : Int)   (M : MM) : Option MM := (sX4_strikeAll_b53 a0 a1 x2 x3 FU 0 M)
def sX4_strikeAll_b16 (a0 : Nat) (a1 : Nat) (x2 : Int) (x3 : Int)  : Nat → Int → MM → Option MM
  | 0, _, _ => none
  | n + 1, x4, M => (if wI x3 < wI x4 then (sX4_strikeAll_b50 a0 a1 x2 x3 M) else (if 0 ≤ wI x4 ∧ wI x4 < 137 then (if 0 ≤ wI x4 ∧ wI x4 < 137 then ((some (mU M (gR a0 1) (wI x4).toNat (M (gR a0 2) (wI x4).toNat))).bind fun M_6 => (if 0 ≤ wI x4 ∧ wI x4 < 137 then ((some (mU M_6 (gR a0 2) (wI x4).toNat 0)).bind fun M_9 => ((some (x4 + 1)).bind fun v_10 => (sX4_strikeAll_b16 a0 a1 x2 x3 n v_10 M_9))) else none)) else none) else none))
def sX4_strikeAll_b0 (a0 : Nat) (a1 : Nat) (x2 : Int) (x3 : Int)   (M : MM) : Option MM := (if 0 ≤ wI x2 ∧ wI x2 < 8 then (if wI (M (gR a1 4) (wI x2).toNat) < wI (M a1 13) then (sX4_strikeAll_b50 a0 a1 x2 x3 M) else (sX4_strikeAll_b16 a0 a1 x2 x3 FU 1 M)) else none)
def sX4_strikeAll (a0 : Nat) (a1 : Nat) (x2 : Int) (x3 : Int) (M : MM) : Option MM := sX4_strikeAll_b0 a0 a1 x2 x3 M
set_option maxHeartbeats 4000000 in
set_option maxRecDepth 100000 in
theorem bX4_strikeAll_b88 {G : GG} (a0 : Nat) (a1 : Nat) (x2 : Int) (x3 : Int) (oa0 : OB L0 a0 4) (oa1 : OB L0 a1 5) {res : MM} : ∀ (n : Nat) (x4 : Int) (M : MM)  (h : sX4_strikeAll_b88 a0 a1 x2 x3 n x4 M = some res), VV G xX4_strikeAll (ZM G xX4_strikeAll (none) L0 res) L0 M 0 0 88 [(0, .ref (gA G a0)), (3, .int (eI x3)), (4, .int (eI x4))] [] := by
  intro n
  induction n with
  | zero =>
    intro x4 M h
    rw [sX4_strikeAll_b88] at h
    cases h
  | succ n ih =>
    intro x4 M h
    rw [sX4_strikeAll_b88] at h
    refine r_iload (pc := 88) dX4_strikeAll_88 2 rfl ?_
    refine r_iload_n (pc := 90) (i := 3) dX4_strikeAll_90 rfl 1 rfl ?_
    refine r_icmp_gt (pc := 91) (tgt := 125) dX4_strikeAll_91 (by decide) rfl rfl (fun c_1 => ?_) (fun c_1 => ?_)
    · replace h := (if_pos c_1).symm.trans h
      cases h
      exact r_vret (pc := 125) rfl (Nat.le_refl 0) (Nat.le_refl 0) dX4_strikeAll_125
    · replace h := (if_neg c_1).symm.trans h
      refine r_aload_n (pc := 94) (i := 0) dX4_strikeAll_94 rfl 0 rfl ?_
      have o_2 := (wt_4_2 oa0).2
      refine r_getR (pc := 95) fg_4_19 rfl oa0 (wt_4_2 oa0).1 dX4_strikeAll_95 ?_
      refine r_iload (pc := 98) dX4_strikeAll_98 2 rfl ?_
      refine r_dup2 (pc := 100) dX4_strikeAll_100 rfl rfl ?_
      obtain ⟨c_3, h⟩ := og h
      refine r_lald (pc := 101) o_2 rfl c_3 rfl dX4_strikeAll_101 ?_
      refine r_aload_n (pc := 102) (i := 0) dX4_strikeAll_102 rfl 0 rfl ?_
      have o_4 := (wt_4_1 oa0).2
      refine r_getR (pc := 103) fg_4_15 rfl oa0 (wt_4_1 oa0).1 dX4_strikeAll_103 ?_
      refine r_iload (pc := 106) dX4_strikeAll_106 2 rfl ?_
      obtain ⟨c_5, h⟩ := og h
      refine r_lald (pc := 108) o_4 rfl c_5 rfl dX4_strikeAll_108 ?_
      refine r_ladd (pc := 109) dX4_strikeAll_109 ?_
      obtain ⟨c_6, h⟩ := og h
      obtain ⟨M_7, hM_7, h⟩ := ob h
      refine r_last (pc := 110) o_2 rfl c_6 rfl hM_7 dX4_strikeAll_110 ?_
      refine r_aload_n (pc := 111) (i := 0) dX4_strikeAll_111 rfl 0 rfl ?_
      have o_8 := (wt_4_1 oa0).2
      refine r_getR (pc := 112) fg_4_15 rfl oa0 (wt_4_1 oa0).1 dX4_strikeAll_112 ?_
      refine r_iload (pc := 115) dX4_strikeAll_115 2 rfl ?_
      refine r_lconst (pc := 117) (v := 0) dX4_strikeAll_117 (by decide +kernel) ?_
      obtain ⟨c_9, h⟩ := og h
      obtain ⟨M_10, hM_10, h⟩ := ob h
      refine r_last (pc := 118) o_8 rfl c_9 rfl hM_10 dX4_strikeAll_118 ?_
      obtain ⟨v_11, hv_11, h⟩ := ob h
      refine r_iinc (pc := 119) (y := v_11) (lv' := [(4, .int (eI v_11)), (0, .ref (gA G a0)), (3, .int (eI x3))]) dX4_strikeAll_119 2 rfl (Option.some.inj hv_11) (Nat.le_of_ble_eq_true rfl) rfl ?_
      refine r_goto (pc := 122) (tgt := 88) dX4_strikeAll_122 (by decide) ?_
      refine r_sub (lv' := [(0, .ref (gA G a0)), (3, .int (eI x3)), (4, .int (eI v_11))]) [1, 2, 0] rfl ?_
      exact ih _ _ h
set_option maxHeartbeats 4000000 in
set_option maxRecDepth 100000 in
theorem bX4_strikeAll_b53 {G : GG} (a0 : Nat) (a1 : Nat) (x2 : Int) (x3 : Int) (oa0 : OB L0 a0 4) (oa1 : OB L0 a1 5) {res : MM} : ∀ (n : Nat) (x4 : Int) (M : MM)  (h : sX4_strikeAll_b53 a0 a1 x2 x3 n x4 M = some res), VV G xX4_strikeAll (ZM G xX4_strikeAll (none) L0 res) L0 M 0 0 53 [(0, .ref (gA G a0)), (1, .ref (gA G a1)), (2, .int (eI x2)), (3, .int (eI x3)), (4, .int (eI x4))] [] := by
  intro n
  induction n with
  | zero =>
    intro x4 M h
    rw [sX4_strikeAll_b53] at h
    cases h
  | succ n ih =>
    intro x4 M h
    rw [sX4_strikeAll_b53] at h
    refine r_iload (pc := 53) dX4_strikeAll_53 4 rfl ?_
    refine r_aload_n (pc := 55) (i := 1) dX4_strikeAll_55 rfl 1 rfl ?_
    refine r_getI (pc := 56) fg_4_34 rfl oa1 dX4_strikeAll_56 ?_
    refine r_icmp_ge (pc := 59) (tgt := 85) dX4_strikeAll_59 (by decide) rfl rfl (fun c_1 => ?_) (fun c_1 => ?_)
    · replace h := (if_pos c_1).symm.trans h
      refine r_iconst (pc := 85) (v := 1) dX4_strikeAll_85 (by decide +kernel) ?_
      refine r_istore (pc := 86) (lv' := [(4, .int (eI 1)), (0, .ref (gA G a0)), (1, .ref (gA G a1)), (2, .int (eI x2)), (3, .int (eI x3))]) dX4_strikeAll_86 (Nat.le_of_ble_eq_true rfl) rfl ?_
      refine r_sub (lv' := [(0, .ref (gA G a0)), (3, .int (eI x3)), (4, .int (eI 1))]) [1, 4, 0] rfl ?_
      exact bX4_strikeAll_b88 a0 a1 x2 x3 oa0 oa1 _ _ _ h
    · replace h := (if_neg c_1).symm.trans h
      refine r_aload_n (pc := 62) (i := 0) dX4_strikeAll_62 rfl 0 rfl ?_
      refine r_aload_n (pc := 63) (i := 1) dX4_strikeAll_63 rfl 1 rfl ?_
      have o_2 := (wt_5_6 oa1).2
      refine r_getR (pc := 64) fg_4_77 rfl oa1 (wt_5_6 oa1).1 dX4_strikeAll_64 ?_
      refine r_iload_n (pc := 67) (i := 2) dX4_strikeAll_67 rfl 2 rfl ?_
      obtain ⟨c_3, h⟩ := og h
      refine r_iald (pc := 68) o_2 rfl c_3 rfl dX4_strikeAll_68 ?_
      refine r_aload_n (pc := 69) (i := 1) dX4_strikeAll_69 rfl 1 rfl ?_
      have o_4 := (wt_5_5 oa1).2
      refine r_getR (pc := 70) fg_4_80 rfl oa1 (wt_5_5 oa1).1 dX4_strikeAll_70 ?_
      refine r_iload_n (pc := 73) (i := 2) dX4_strikeAll_73 rfl 2 rfl ?_
      obtain ⟨c_5, h⟩ := og h
      refine r_iald (pc := 74) o_4 rfl c_5 rfl dX4_strikeAll_74 ?_
      refine r_iload_n (pc := 75) (i := 3) dX4_strikeAll_75 rfl 3 rfl ?_
      obtain ⟨q_6, hq_6, h⟩ := ob h
      refine r_cV (pc := 76) (Y := xX4_strikeOnce) (As := [.int (eI (M (gR a1 6) (wI x2).toNat)), .int (eI (M (gR a1 5) (wI x2).toNat)), .int (eI x3)]) (rest := []) (v := none) (st1 := []) ck_X4_strikeAll_83 (kX4_strikeOnce a0 (M (gR a1 6) (wI x2).toNat) (M (gR a1 5) (wI x2).toNat) x3 M oa0 hq_6) oa0 rfl rfl rfl rfl (Nat.le_of_ble_eq_true rfl) ⟨rfl, rfl⟩ rfl dX4_strikeAll_76 ?_
      obtain ⟨v_7, hv_7, h⟩ := ob h
      refine r_iinc (pc := 79) (y := v_7) (lv' := [(4, .int (eI v_7)), (0, .ref (gA G a0)), (1, .ref (gA G a1)), (2, .int (eI x2)), (3, .int (eI x3))]) dX4_strikeAll_79 4 rfl (Option.some.inj hv_7) (Nat.le_of_ble_eq_true rfl) rfl ?_
      refine r_goto (pc := 82) (tgt := 53) dX4_strikeAll_82 (by decide) ?_
      refine r_sub (lv' := [(0, .ref (gA G a0)), (1, .ref (gA G a1)), (2, .int (eI x2)), (3, .int (eI x3)), (4, .int (eI v_7))]) [1, 2, 3, 4, 0] rfl ?_
      exact ih _ _ h
set_option maxHeartbeats 4000000 in
set_option maxRecDepth 100000 in
theorem bX4_strikeAll_b50 {G : GG} (a0 : Nat) (a1 : Nat) (x2 : Int) (x3 : Int) (oa0 : OB L0 a0 4) (oa1 : OB L0 a1 5)  (M : MM) {res : MM}  (h : sX4_strikeAll_b50 a0 a1 x2 x3 M = some res) : VV G xX4_strikeAll (ZM G xX4_strikeAll (none) L0 res) L0 M 0 0 50 [(0, .ref (gA G a0)), (1, .ref (gA G a1)), (2, .int (eI x2)), (3, .int (eI x3))] [] := by
  unfold sX4_strikeAll_b50 at h
  refine r_iconst (pc := 50) (v := 0) dX4_strikeAll_50 (by decide +kernel) ?_
  refine r_istore (pc := 51) (lv' := [(4, .int (eI 0)), (0, .ref (gA G a0)), (1, .ref (gA G a1)), (2, .int (eI x2)), (3, .int (eI x3))]) dX4_strikeAll_51 (Nat.le_of_ble_eq_true rfl) rfl ?_
  refine r_sub (lv' := [(0, .ref (gA G a0)), (1, .ref (gA G a1)), (2, .int (eI x2)), (3, .int (eI x3)), (4, .int (eI 0))]) [1, 2, 3, 4, 0] rfl ?_
  exact bX4_strikeAll_b53 a0 a1 x2 x3 oa0 oa1 _ _ _ h
set_option maxHeartbeats 4000000 in
set_option maxRecDepth 100000 in
theorem bX4_strikeAll_b16 {G : GG} (a0 : Nat) (a1 : Nat) (x2 : Int) (x3 : Int) (oa0 : OB L0 a0 4) (oa1 : OB L0 a1 5) {res : MM} : ∀ (n : Nat) (x4 : Int) (M : MM)  (h : sX4_strikeAll_b16 a0 a1 x2 x3 n x4 M = some res), VV G xX4_strikeAll (ZM G xX4_strikeAll (none) L0 res) L0 M 0 0 16 [(0, .ref (gA G a0)), (1, .ref (gA G a1)), (2, .int (eI x2)), (3, .int (eI x3)), (4, .int (eI x4))] [] := by
  intro n
  induction n with
  | zero =>
    intro x4 M h
    rw [sX4_strikeAll_b16] at h
    cases h
  | succ n ih =>
    intro x4 M h
    rw [sX4_strikeAll_b16] at h
    refine r_iload (pc := 16) dX4_strikeAll_16 4 rfl ?_
    refine r_iload_n (pc := 18) (i := 3) dX4_strikeAll_18 rfl 3 rfl ?_
    refine r_icmp_gt (pc := 19) (tgt := 50) dX4_strikeAll_19 (by decide) rfl rfl (fun c_1 => ?_) (fun c_1 => ?_)
    · replace h := (if_pos c_1).symm.trans h
      refine r_sub (lv' := [(0, .ref (gA G a0)), (1, .ref (gA G a1)), (2, .int (eI x2)), (3, .int (eI x3))]) [0, 1, 2, 3] rfl ?_
      exact bX4_strikeAll_b50 a0 a1 x2 x3 oa0 oa1 _ h
    · replace h := (if_neg c_1).symm.trans h
      refine r_aload_n (pc := 22) (i := 0) dX4_strikeAll_22 rfl 0 rfl ?_
      have o_2 := (wt_4_1 oa0).2
      refine r_getR (pc := 23) fg_4_15 rfl oa0 (wt_4_1 oa0).1 dX4_strikeAll_23 ?_
      refine r_iload (pc := 26) dX4_strikeAll_26 4 rfl ?_
      refine r_aload_n (pc := 28) (i := 0) dX4_strikeAll_28 rfl 0 rfl ?_
      have o_3 := (wt_4_2 oa0).2
      refine r_getR (pc := 29) fg_4_19 rfl oa0 (wt_4_2 oa0).1 dX4_strikeAll_29 ?_
      refine r_iload (pc := 32) dX4_strikeAll_32 4 rfl ?_
      obtain ⟨c_4, h⟩ := og h
      refine r_lald (pc := 34) o_3 rfl c_4 rfl dX4_strikeAll_34 ?_
      obtain ⟨c_5, h⟩ := og h
      obtain ⟨M_6, hM_6, h⟩ := ob h
      refine r_last (pc := 35) o_2 rfl c_5 rfl hM_6 dX4_strikeAll_35 ?_
      refine r_aload_n (pc := 36) (i := 0) dX4_strikeAll_36 rfl 0 rfl ?_
      have o_7 := (wt_4_2 oa0).2
      refine r_getR (pc := 37) fg_4_19 rfl oa0 (wt_4_2 oa0).1 dX4_strikeAll_37 ?_
      refine r_iload (pc := 40) dX4_strikeAll_40 4 rfl ?_
      refine r_lconst (pc := 42) (v := 0) dX4_strikeAll_42 (by decide +kernel) ?_
      obtain ⟨c_8, h⟩ := og h
      obtain ⟨M_9, hM_9, h⟩ := ob h
      refine r_last (pc := 43) o_7 rfl c_8 rfl hM_9 dX4_strikeAll_43 ?_
      obtain ⟨v_10, hv_10, h⟩ := ob h
      refine r_iinc (pc := 44) (y := v_10) (lv' := [(4, .int (eI v_10)), (0, .ref (gA G a0)), (1, .ref (gA G a1)), (2, .int (eI x2)), (3, .int (eI x3))]) dX4_strikeAll_44 4 rfl (Option.some.inj hv_10) (Nat.le_of_ble_eq_true rfl) rfl ?_
      refine r_goto (pc := 47) (tgt := 16) dX4_strikeAll_47 (by decide) ?_
      refine r_sub (lv' := [(0, .ref (gA G a0)), (1, .ref (gA G a1)), (2, .int (eI x2)), (3, .int (eI x3)), (4, .int (eI v_10))]) [1, 2, 3, 4, 0] rfl ?_
      exact ih _ _ h
set_option maxHeartbeats 4000000 in
set_option maxRecDepth 100000 in
theorem bX4_strikeAll_b0 {G : GG} (a0 : Nat) (a1 : Nat) (x2 : Int) (x3 : Int) (oa0 : OB L0 a0 4) (oa1 : OB L0 a1 5)  (M : MM) {res : MM}  (h : sX4_strikeAll_b0 a0 a1 x2 x3 M = some res) : VV G xX4_strikeAll (ZM G xX4_strikeAll (none) L0 res) L0 M 0 0 0 [(0, .ref (gA G a0)), (1, .ref (gA G a1)), (2, .int (eI x2)), (3, .int (eI x3))] [] := by
  unfold sX4_strikeAll_b0 at h
  refine r_aload_n (pc := 0) (i := 1) dX4_strikeAll_0 rfl 1 rfl ?_
  have o_1 := (wt_5_4 oa1).2
  refine r_getR (pc := 1) fg_4_71 rfl oa1 (wt_5_4 oa1).1 dX4_strikeAll_1 ?_
  refine r_iload_n (pc := 4) (i := 2) dX4_strikeAll_4 rfl 2 rfl ?_
  obtain ⟨c_2, h⟩ := og h
  refine r_iald (pc := 5) o_1 rfl c_2 rfl dX4_strikeAll_5 ?_
  refine r_aload_n (pc := 6) (i := 1) dX4_strikeAll_6 rfl 1 rfl ?_
  refine r_getI (pc := 7) fg_4_74 rfl oa1 dX4_strikeAll_7 ?_
  refine r_icmp_lt (pc := 10) (tgt := 50) dX4_strikeAll_10 (by decide) rfl rfl (fun c_3 => ?_) (fun c_3 => ?_)
  · replace h := (if_pos c_3).symm.trans h
    refine r_sub (lv' := [(0, .ref (gA G a0)), (1, .ref (gA G a1)), (2, .int (eI x2)), (3, .int (eI x3))]) [0, 1, 2, 3] rfl ?_
    exact bX4_strikeAll_b50 a0 a1 x2 x3 oa0 oa1 _ h
  · replace h := (if_neg c_3).symm.trans h
    refine r_iconst (pc := 13) (v := 1) dX4_strikeAll_13 (by decide +kernel) ?_
    refine r_istore (pc := 14) (lv' := [(4, .int (eI 1)), (0, .ref (gA G a0)), (1, .ref (gA G a1)), (2, .int (eI x2)), (3, .int (eI x3))]) dX4_strikeAll_14 (Nat.le_of_ble_eq_true rfl) rfl ?_
    refine r_sub (lv' := [(0, .ref (gA G a0)), (1, .ref (gA G a1)), (2, .int (eI x2)), (3, .int (eI x3)), (4, .int (eI 1))]) [1, 2, 3, 4, 0] rfl ?_
    exact bX4_strikeAll_b16 a0 a1 x2 x3 oa0 oa1 _ _ _ h
theorem kX4_strikeAll {G : GG} (a0 : Nat) (a1 : Nat) (x2 : Int) (x3 : Int) (M : MM) {res : MM} (oa0 : OB L0 a0 4) (oa1 : OB L0 a1 5) (h : sX4_strikeAll a0 a1 x2 x3 M = some res) : CO G xX4_strikeAll [.ref (gA G a0), .ref (gA G a1), .int (eI x2), .int (eI x3)] L0 M (none) L0 res := CO_of (by decide +kernel) (Nat.le_of_ble_eq_true rfl) (bX4_strikeAll_b0 a0 a1 x2 x3 oa0 oa1 M h)
abbrev xX4_holds : XX := (yX4_holds, cX4_holds, 9, (some .long), 2, 51, 0, 0)
theorem ck_X4_holds_37 : CKS xX4_holds 37 xX4_tens 1 := ⟨⟨tb_i 1072 (by decide +kernel) (by decide +kernel), tb_i 149 (by decide +kernel) (by decide +kernel), tb_i 1074 (by decide +kernel) (by decide +kernel), ⟨by decide +kernel, by decide +kernel, by decide +kernel⟩, by decide, by decide⟩, tb_i 1073 (by decide +kernel) (by decide +kernel)⟩
theorem ck_X4_holds_67 : CKV xX4_holds 67 xX4_strikeAll 3 := ⟨⟨tb_i 1064 (by decide +kernel) (by decide +kernel), tb_i 149 (by decide +kernel) (by decide +kernel), tb_i 1067 (by decide +kernel) (by decide +kernel), ⟨by decide +kernel, by decide +kernel, by decide +kernel⟩, by decide, by decide⟩, tb_i 1066 (by decide +kernel) (by decide +kernel), tb_i 26 (by decide +kernel) (by decide +kernel)⟩
def sX4_holds_b108 (a0 : Nat) (a1 : Nat) (x2 : Int) (x3 : Int)  : Nat → Int → Int → Int → Int → MM → Option (Int × MM)
  | 0, _, _, _, _, _ => none
  | n + 1, x4, x5, y6, x8, M => (if wI x4 < wI x8 then ((sX4_tens (x5 * (M a1 12)) M).bind fun q_2 => (some (((y6 * q_2), M)))) else (if 0 ≤ wI x8 ∧ wI x8 < 137 then ((some (y6 + (M (gR a0 2) (wI x8).toNat))).bind fun v_5 => ((some (x8 + 1)).bind fun v_6 => (sX4_holds_b108 a0 a1 x2 x3 n x4 x5 v_5 v_6 M))) else none))
def sX4_holds_b96 (a0 : Nat) (a1 : Nat) (x2 : Int) (x3 : Int) (K65 : Int → Int → Int → MM → Option (Int × MM)) (x4 : Int) (x5 : Int) (x6 : Int) (M : MM) : Option (Int × MM) := ((some (x6 + 1)).bind fun v_1 => (K65 x4 x5 v_1 M))
def sX4_holds_b65 (a0 : Nat) (a1 : Nat) (x2 : Int) (x3 : Int)  : Nat → Int → Int → Int → MM → Option (Int × MM)
  | 0, _, _, _, _ => none
  | n + 1, x4, x5, x6, M => (if wI (M a1 3) ≤ wI x6 then (sX4_holds_b108 a0 a1 x2 x3 FU x4 x5 0 1 M) else (if 0 ≤ wI x6 ∧ wI x6 < 32 then (if wI ((x3 % 4294967296 / 2 ^ (wI x6).toNat) % 2) = 1 then ((sX4_strikeAll a0 a1 x6 x4 M).bind fun q_4 => ((some (x5 + (-1))).bind fun v_5 => (sX4_holds_b96 a0 a1 x2 x3 (fun x4 x5 x6 M => sX4_holds_b65 a0 a1 x2 x3 n x4 x5 x6 M) x4 v_5 x6 q_4))) else (sX4_holds_b96 a0 a1 x2 x3 (fun x4 x5 x6 M => sX4_holds_b65 a0 a1 x2 x3 n x4 x5 x6 M) x4 x5 x6 M)) else none))
def sX4_holds_b19 (a0 : Nat) (a1 : Nat) (x2 : Int) (x3 : Int)  : Nat → Int → Int → MM → Option (Int × MM)
  | 0, _, _, _ => none
  | n + 1, x4, x5, M => (if wI x4 < wI x5 then (if 0 ≤ wI x4 ∧ wI x4 < 137 then ((some (mU M (gR a0 2) (wI x4).toNat 1)).bind fun M_4 => (sX4_holds_b65 a0 a1 x2 x3 FU x4 (M_4 a1 3) 0 M_4)) else none) else (if 0 ≤ wI x5 ∧ wI x5 < 137 then ((some (mU M (gR a0 1) (wI x5).toNat 0)).bind fun M_7 => (if 0 ≤ wI x5 ∧ wI x5 < 137 then ((some (mU M_7 (gR a0 2) (wI x5).toNat 0)).bind fun M_10 => ((some (x5 + 1)).bind fun v_11 => (sX4_holds_b19 a0 a1 x2 x3 n x4 v_11 M_10))) else none)) else none))
def sX4_holds_b0 (a0 : Nat) (a1 : Nat) (x2 : Int) (x3 : Int)   (M : MM) : Option (Int × MM) := ((some (min (wI ((M (gR a1 2) 0) * x2)) 136)).bind fun v_2 => (sX4_holds_b19 a0 a1 x2 x3 FU v_2 0 M))
def sX4_holds (a0 : Nat) (a1 : Nat) (x2 : Int) (x3 : Int) (M : MM) : Option (Int × MM) := sX4_holds_b0 a0 a1 x2 x3 M
set_option maxHeartbeats 4000000 in
set_option maxRecDepth 100000 in
theorem bX4_holds_b108 {G : GG} (a0 : Nat) (a1 : Nat) (x2 : Int) (x3 : Int) (oa0 : OB L0 a0 4) (oa1 : OB L0 a1 5) {res : (Int × MM)} : ∀ (n : Nat) (x4 : Int) (x5 : Int) (y6 : Int) (x8 : Int) (M : MM)  (h : sX4_holds_b108 a0 a1 x2 x3 n x4 x5 y6 x8 M = some res), VV G xX4_holds (ZM G xX4_holds (some (.long (eJ res.1))) L0 res.2) L0 M 0 0 108 [(0, .ref (gA G a0)), (1, .ref (gA G a1)), (4, .int (eI x4)), (5, .int (eI x5)), (6, .long (eJ y6)), (8, .int (eI x8))] [] := by
  intro n
  induction n with
  | zero =>
    intro x4 x5 y6 x8 M h
    rw [sX4_holds_b108] at h
    cases h
  | succ n ih =>
    intro x4 x5 y6 x8 M h
    rw [sX4_holds_b108] at h
    refine r_iload (pc := 108) dX4_holds_108 5 rfl ?_
    refine r_iload (pc := 110) dX4_holds_110 2 rfl ?_
    refine r_icmp_gt (pc := 112) (tgt := 133) dX4_holds_112 (by decide) rfl rfl (fun c_1 => ?_) (fun c_1 => ?_)
    · replace h := (if_pos c_1).symm.trans h
      refine r_lload (pc := 133) dX4_holds_133 4 rfl ?_
      refine r_iload (pc := 135) dX4_holds_135 3 rfl ?_
      refine r_aload_n (pc := 137) (i := 1) dX4_holds_137 rfl 1 rfl ?_
      refine r_getI (pc := 138) fg_4_34 rfl oa1 dX4_holds_138 ?_
      refine r_imul (pc := 141) dX4_holds_141 ?_
      obtain ⟨q_2, hq_2, h⟩ := ob h
      refine r_cS (pc := 142) (Y := xX4_tens) (As := [.int (eI (x5 * (M a1 12)))]) (rest := [.long (eJ y6)]) (v := (some (.long (eJ q_2)))) (st1 := [.long (eJ q_2), .long (eJ y6)]) ck_X4_holds_37 (kX4_tens (x5 * (M a1 12)) M  hq_2) rfl rfl (Nat.le_of_ble_eq_true rfl) ⟨rfl, rfl⟩ rfl dX4_holds_142 ?_
      refine r_lmul (pc := 145) dX4_holds_145 ?_
      cases h
      exact r_lret (pc := 146) rfl (Nat.le_refl 0) (Nat.le_refl 0) dX4_holds_146
    · replace h := (if_neg c_1).symm.trans h
      refine r_lload (pc := 115) dX4_holds_115 4 rfl ?_
      refine r_aload_n (pc := 117) (i := 0) dX4_holds_117 rfl 0 rfl ?_
      have o_3 := (wt_4_2 oa0).2
      refine r_getR (pc := 118) fg_4_19 rfl oa0 (wt_4_2 oa0).1 dX4_holds_118 ?_
      refine r_iload (pc := 121) dX4_holds_121 5 rfl ?_
      obtain ⟨c_4, h⟩ := og h
      refine r_lald (pc := 123) o_3 rfl c_4 rfl dX4_holds_123 ?_
      refine r_ladd (pc := 124) dX4_holds_124 ?_
      obtain ⟨v_5, hv_5, h⟩ := ob h
      refine r_nmJ (pc := 125) hv_5 ?_
      refine r_lstore (pc := 125) (lv' := [(6, .long (eJ v_5)), (0, .ref (gA G a0)), (1, .ref (gA G a1)), (4, .int (eI x4)), (5, .int (eI x5)), (8, .int (eI x8))]) dX4_holds_125 (Nat.le_of_ble_eq_true rfl) rfl ?_
      obtain ⟨v_6, hv_6, h⟩ := ob h
      refine r_iinc (pc := 127) (y := v_6) (lv' := [(8, .int (eI v_6)), (6, .long (eJ v_5)), (0, .ref (gA G a0)), (1, .ref (gA G a1)), (4, .int (eI x4)), (5, .int (eI x5))]) dX4_holds_127 5 rfl (Option.some.inj hv_6) (Nat.le_of_ble_eq_true rfl) rfl ?_
      refine r_goto (pc := 130) (tgt := 108) dX4_holds_130 (by decide) ?_
      refine r_sub (lv' := [(0, .ref (gA G a0)), (1, .ref (gA G a1)), (4, .int (eI x4)), (5, .int (eI x5)), (6, .long (eJ v_5)), (8, .int (eI v_6))]) [2, 3, 4, 5, 1, 0] rfl ?_
      exact ih _ _ _ _ _ h
set_option maxHeartbeats 4000000 in
set_option maxRecDepth 100000 in
theorem bX4_holds_b96 {G : GG} (a0 : Nat) (a1 : Nat) (x2 : Int) (x3 : Int) (oa0 : OB L0 a0 4) (oa1 : OB L0 a1 5) {K65 : Int → Int → Int → MM → Option (Int × MM)} (x4 : Int) (x5 : Int) (x6 : Int) (M : MM) {res : (Int × MM)} (hK65 : ∀ (x4 : Int) (x5 : Int) (x6 : Int) (M : MM), K65 x4 x5 x6 M = some res → VV G xX4_holds (ZM G xX4_holds (some (.long (eJ res.1))) L0 res.2) L0 M 0 0 65 [(0, .ref (gA G a0)), (1, .ref (gA G a1)), (3, .int (eI x3)), (4, .int (eI x4)), (5, .int (eI x5)), (6, .int (eI x6))] [])  (h : sX4_holds_b96 a0 a1 x2 x3 K65 x4 x5 x6 M = some res) : VV G xX4_holds (ZM G xX4_holds (some (.long (eJ res.1))) L0 res.2) L0 M 0 0 96 [(0, .ref (gA G a0)), (1, .ref (gA G a1)), (3, .int (eI x3)), (4, .int (eI x4)), (5, .int (eI x5)), (6, .int (eI x6))] [] := by
  unfold sX4_holds_b96 at h
  obtain ⟨v_1, hv_1, h⟩ := ob h
  refine r_iinc (pc := 96) (y := v_1) (lv' := [(6, .int (eI v_1)), (0, .ref (gA G a0)), (1, .ref (gA G a1)), (3, .int (eI x3)), (4, .int (eI x4)), (5, .int (eI x5))]) dX4_holds_96 5 rfl (Option.some.inj hv_1) (Nat.le_of_ble_eq_true rfl) rfl ?_
  refine r_goto (pc := 99) (tgt := 65) dX4_holds_99 (by decide) ?_
  refine r_sub (lv' := [(0, .ref (gA G a0)), (1, .ref (gA G a1)), (3, .int (eI x3)), (4, .int (eI x4)), (5, .int (eI x5)), (6, .int (eI v_1))]) [1, 2, 3, 4, 5, 0] rfl ?_
  exact hK65 _ _ _ _ h
set_option maxHeartbeats 4000000 in
set_option maxRecDepth 100000 in
theorem bX4_holds_b65 {G : GG} (a0 : Nat) (a1 : Nat) (x2 : Int) (x3 : Int) (oa0 : OB L0 a0 4) (oa1 : OB L0 a1 5) {res : (Int × MM)} : ∀ (n : Nat) (x4 : Int) (x5 : Int) (x6 : Int) (M : MM)  (h : sX4_holds_b65 a0 a1 x2 x3 n x4 x5 x6 M = some res), VV G xX4_holds (ZM G xX4_holds (some (.long (eJ res.1))) L0 res.2) L0 M 0 0 65 [(0, .ref (gA G a0)), (1, .ref (gA G a1)), (3, .int (eI x3)), (4, .int (eI x4)), (5, .int (eI x5)), (6, .int (eI x6))] [] := by
  intro n
  induction n with
  | zero =>
    intro x4 x5 x6 M h
    rw [sX4_holds_b65] at h
    cases h
  | succ n ih =>
    intro x4 x5 x6 M h
    rw [sX4_holds_b65] at h
    refine r_iload (pc := 65) dX4_holds_65 5 rfl ?_
    refine r_aload_n (pc := 67) (i := 1) dX4_holds_67 rfl 1 rfl ?_
    refine r_getI (pc := 68) fg_4_28 rfl oa1 dX4_holds_68 ?_
    refine r_icmp_ge (pc := 71) (tgt := 102) dX4_holds_71 (by decide) rfl rfl (fun c_1 => ?_) (fun c_1 => ?_)
    · replace h := (if_pos c_1).symm.trans h
      refine r_lconst (pc := 102) (v := 0) dX4_holds_102 (by decide +kernel) ?_
      refine r_lstore (pc := 103) (lv' := [(6, .long (eJ 0)), (0, .ref (gA G a0)), (1, .ref (gA G a1)), (3, .int (eI x3)), (4, .int (eI x4)), (5, .int (eI x5))]) dX4_holds_103 (Nat.le_of_ble_eq_true rfl) rfl ?_
      refine r_iconst (pc := 105) (v := 1) dX4_holds_105 (by decide +kernel) ?_
      refine r_istore (pc := 106) (lv' := [(8, .int (eI 1)), (6, .long (eJ 0)), (0, .ref (gA G a0)), (1, .ref (gA G a1)), (3, .int (eI x3)), (4, .int (eI x4)), (5, .int (eI x5))]) dX4_holds_106 (Nat.le_of_ble_eq_true rfl) rfl ?_
      refine r_sub (lv' := [(0, .ref (gA G a0)), (1, .ref (gA G a1)), (4, .int (eI x4)), (5, .int (eI x5)), (6, .long (eJ 0)), (8, .int (eI 1))]) [2, 3, 5, 6, 1, 0] rfl ?_
      exact bX4_holds_b108 a0 a1 x2 x3 oa0 oa1 _ _ _ _ _ _ h
    · replace h := (if_neg c_1).symm.trans h
      refine r_iload_n (pc := 74) (i := 3) dX4_holds_74 rfl 2 rfl ?_
      refine r_iload (pc := 75) dX4_holds_75 5 rfl ?_
      obtain ⟨c_2, h⟩ := og h
      refine r_iushr (pc := 77) rfl c_2 dX4_holds_77 ?_
      refine r_iconst (pc := 78) (v := 1) dX4_holds_78 (by decide +kernel) ?_
      refine r_iand (pc := 79) 1 (by decide) wl_1 rfl dX4_holds_79 ?_
      refine r_iconst (pc := 80) (v := 1) dX4_holds_80 (by decide +kernel) ?_
      refine r_icmp_ne (pc := 81) (tgt := 96) dX4_holds_81 (by decide) rfl wl_1 (fun c_3 => ?_) (fun c_3 => ?_)
      · replace h := (if_neg c_3).symm.trans h
        refine r_sub (lv' := [(0, .ref (gA G a0)), (1, .ref (gA G a1)), (3, .int (eI x3)), (4, .int (eI x4)), (5, .int (eI x5)), (6, .int (eI x6))]) [0, 1, 2, 3, 4, 5] rfl ?_
        exact bX4_holds_b96 a0 a1 x2 x3 oa0 oa1 _ _ _ _ (fun v0 v1 v2 v3 v4 => ih v0 v1 v2 v3 v4) h
      · replace h := (if_pos c_3).symm.trans h
        refine r_aload_n (pc := 84) (i := 0) dX4_holds_84 rfl 0 rfl ?_
        refine r_aload_n (pc := 85) (i := 1) dX4_holds_85 rfl 1 rfl ?_
        refine r_iload (pc := 86) dX4_holds_86 5 rfl ?_
        refine r_iload (pc := 88) dX4_holds_88 3 rfl ?_
        obtain ⟨q_4, hq_4, h⟩ := ob h
        refine r_cV (pc := 90) (Y := xX4_strikeAll) (As := [.ref (gA G a1), .int (eI x6), .int (eI x4)]) (rest := []) (v := none) (st1 := []) ck_X4_holds_67 (kX4_strikeAll a0 a1 x6 x4 M oa0 oa1 hq_4) oa0 rfl rfl rfl rfl (Nat.le_of_ble_eq_true rfl) ⟨rfl, rfl⟩ rfl dX4_holds_90 ?_
        obtain ⟨v_5, hv_5, h⟩ := ob h
        refine r_iinc (pc := 93) (y := v_5) (lv' := [(5, .int (eI v_5)), (0, .ref (gA G a0)), (1, .ref (gA G a1)), (3, .int (eI x3)), (4, .int (eI x4)), (6, .int (eI x6))]) dX4_holds_93 4 rfl (Option.some.inj hv_5) (Nat.le_of_ble_eq_true rfl) rfl ?_
        refine r_sub (lv' := [(0, .ref (gA G a0)), (1, .ref (gA G a1)), (3, .int (eI x3)), (4, .int (eI x4)), (5, .int (eI v_5)), (6, .int (eI x6))]) [1, 2, 3, 4, 0, 5] rfl ?_
        exact bX4_holds_b96 a0 a1 x2 x3 oa0 oa1 _ _ _ _ (fun v0 v1 v2 v3 v4 => ih v0 v1 v2 v3 v4) h
set_option maxHeartbeats 4000000 in
set_option maxRecDepth 100000 in
theorem bX4_holds_b19 {G : GG} (a0 : Nat) (a1 : Nat) (x2 : Int) (x3 : Int) (oa0 : OB L0 a0 4) (oa1 : OB L0 a1 5) {res : (Int × MM)} : ∀ (n : Nat) (x4 : Int) (x5 : Int) (M : MM)  (h : sX4_holds_b19 a0 a1 x2 x3 n x4 x5 M = some res), VV G xX4_holds (ZM G xX4_holds (some (.long (eJ res.1))) L0 res.2) L0 M 0 0 19 [(0, .ref (gA G a0)), (1, .ref (gA G a1)), (3, .int (eI x3)), (4, .int (eI x4)), (5, .int (eI x5))] [] := by
  intro n
  induction n with
  | zero =>
    intro x4 x5 M h
    rw [sX4_holds_b19] at h
    cases h
  | succ n ih =>
    intro x4 x5 M h
    rw [sX4_holds_b19] at h
    refine r_iload (pc := 19) dX4_holds_19 4 rfl ?_
    refine r_iload (pc := 21) dX4_holds_21 3 rfl ?_
    refine r_icmp_gt (pc := 23) (tgt := 48) dX4_holds_23 (by decide) rfl rfl (fun c_1 => ?_) (fun c_1 => ?_)
    · replace h := (if_pos c_1).symm.trans h
      refine r_aload_n (pc := 48) (i := 0) dX4_holds_48 rfl 0 rfl ?_
      have o_2 := (wt_4_2 oa0).2
      refine r_getR (pc := 49) fg_4_19 rfl oa0 (wt_4_2 oa0).1 dX4_holds_49 ?_
      refine r_iload (pc := 52) dX4_holds_52 3 rfl ?_
      refine r_lconst (pc := 54) (v := 1) dX4_holds_54 (by decide +kernel) ?_
      obtain ⟨c_3, h⟩ := og h
      obtain ⟨M_4, hM_4, h⟩ := ob h
      refine r_last (pc := 55) o_2 rfl c_3 rfl hM_4 dX4_holds_55 ?_
      refine r_aload_n (pc := 56) (i := 1) dX4_holds_56 rfl 1 rfl ?_
      refine r_getI (pc := 57) fg_4_28 rfl oa1 dX4_holds_57 ?_
      refine r_istore (pc := 60) (lv' := [(5, .int (eI (M_4 a1 3))), (0, .ref (gA G a0)), (1, .ref (gA G a1)), (3, .int (eI x3)), (4, .int (eI x4))]) dX4_holds_60 (Nat.le_of_ble_eq_true rfl) rfl ?_
      refine r_iconst (pc := 62) (v := 0) dX4_holds_62 (by decide +kernel) ?_
      refine r_istore (pc := 63) (lv' := [(6, .int (eI 0)), (5, .int (eI (M_4 a1 3))), (0, .ref (gA G a0)), (1, .ref (gA G a1)), (3, .int (eI x3)), (4, .int (eI x4))]) dX4_holds_63 (Nat.le_of_ble_eq_true rfl) rfl ?_
      refine r_sub (lv' := [(0, .ref (gA G a0)), (1, .ref (gA G a1)), (3, .int (eI x3)), (4, .int (eI x4)), (5, .int (eI (M_4 a1 3))), (6, .int (eI 0))]) [2, 3, 4, 5, 1, 0] rfl ?_
      exact bX4_holds_b65 a0 a1 x2 x3 oa0 oa1 _ _ _ _ _ h
    · replace h := (if_neg c_1).symm.trans h
      refine r_aload_n (pc := 26) (i := 0) dX4_holds_26 rfl 0 rfl ?_
      have o_5 := (wt_4_1 oa0).2
      refine r_getR (pc := 27) fg_4_15 rfl oa0 (wt_4_1 oa0).1 dX4_holds_27 ?_
      refine r_iload (pc := 30) dX4_holds_30 4 rfl ?_
      refine r_lconst (pc := 32) (v := 0) dX4_holds_32 (by decide +kernel) ?_
      obtain ⟨c_6, h⟩ := og h
      obtain ⟨M_7, hM_7, h⟩ := ob h
      refine r_last (pc := 33) o_5 rfl c_6 rfl hM_7 dX4_holds_33 ?_
      refine r_aload_n (pc := 34) (i := 0) dX4_holds_34 rfl 0 rfl ?_
      have o_8 := (wt_4_2 oa0).2
      refine r_getR (pc := 35) fg_4_19 rfl oa0 (wt_4_2 oa0).1 dX4_holds_35 ?_
      refine r_iload (pc := 38) dX4_holds_38 4 rfl ?_
      refine r_lconst (pc := 40) (v := 0) dX4_holds_40 (by decide +kernel) ?_
      obtain ⟨c_9, h⟩ := og h
      obtain ⟨M_10, hM_10, h⟩ := ob h
      refine r_last (pc := 41) o_8 rfl c_9 rfl hM_10 dX4_holds_41 ?_
      obtain ⟨v_11, hv_11, h⟩ := ob h
      refine r_iinc (pc := 42) (y := v_11) (lv' := [(5, .int (eI v_11)), (0, .ref (gA G a0)), (1, .ref (gA G a1)), (3, .int (eI x3)), (4, .int (eI x4))]) dX4_holds_42 4 rfl (Option.some.inj hv_11) (Nat.le_of_ble_eq_true rfl) rfl ?_
      refine r_goto (pc := 45) (tgt := 19) dX4_holds_45 (by decide) ?_
      refine r_sub (lv' := [(0, .ref (gA G a0)), (1, .ref (gA G a1)), (3, .int (eI x3)), (4, .int (eI x4)), (5, .int (eI v_11))]) [1, 2, 3, 4, 0] rfl ?_
      exact ih _ _ _ h
set_option maxHeartbeats 4000000 in
set_option maxRecDepth 100000 in
theorem bX4_holds_b0 {G : GG} (a0 : Nat) (a1 : Nat) (x2 : Int) (x3 : Int) (oa0 : OB L0 a0 4) (oa1 : OB L0 a1 5)  (M : MM) {res : (Int × MM)}  (h : sX4_holds_b0 a0 a1 x2 x3 M = some res) : VV G xX4_holds (ZM G xX4_holds (some (.long (eJ res.1))) L0 res.2) L0 M 0 0 0 [(0, .ref (gA G a0)), (1, .ref (gA G a1)), (2, .int (eI x2)), (3, .int (eI x3))] [] := by
  unfold sX4_holds_b0 at h
  refine r_aload_n (pc := 0) (i := 1) dX4_holds_0 rfl 1 rfl ?_
  have o_1 := (wt_5_2 oa1).2
  refine r_getR (pc := 1) fg_4_58 rfl oa1 (wt_5_2 oa1).1 dX4_holds_1 ?_
  refine r_iconst (pc := 4) (v := 0) dX4_holds_4 (by decide +kernel) ?_
  refine r_iald (pc := 5) o_1 wl_0 ⟨by decide, by decide⟩ rfl dX4_holds_5 ?_
  refine r_iload_n (pc := 6) (i := 2) dX4_holds_6 rfl 2 rfl ?_
  refine r_imul (pc := 7) dX4_holds_7 ?_
  refine r_sipush (pc := 8) (v := 136) dX4_holds_8 (by decide +kernel) ?_
  refine r_mmin (pc := 11) ml_4_61 ⟨Nat.le_of_ble_eq_true rfl, Nat.le_of_ble_eq_true rfl, Nat.le_of_ble_eq_true rfl, Nat.le_of_ble_eq_true rfl⟩ rfl wl_136 dX4_holds_11 ?_
  obtain ⟨v_2, hv_2, h⟩ := ob h
  refine r_nmI (pc := 14) hv_2 ?_
  refine r_istore (pc := 14) (lv' := [(4, .int (eI v_2)), (0, .ref (gA G a0)), (1, .ref (gA G a1)), (2, .int (eI x2)), (3, .int (eI x3))]) dX4_holds_14 (Nat.le_of_ble_eq_true rfl) rfl ?_
  refine r_iconst (pc := 16) (v := 0) dX4_holds_16 (by decide +kernel) ?_
  refine r_istore (pc := 17) (lv' := [(5, .int (eI 0)), (4, .int (eI v_2)), (0, .ref (gA G a0)), (1, .ref (gA G a1)), (2, .int (eI x2)), (3, .int (eI x3))]) dX4_holds_17 (Nat.le_of_ble_eq_true rfl) rfl ?_
  refine r_sub (lv' := [(0, .ref (gA G a0)), (1, .ref (gA G a1)), (3, .int (eI x3)), (4, .int (eI v_2)), (5, .int (eI 0))]) [2, 3, 5, 1, 0] rfl ?_
  exact bX4_holds_b19 a0 a1 x2 x3 oa0 oa1 _ _ _ _ h
theorem kX4_holds {G : GG} (a0 : Nat) (a1 : Nat) (x2 : Int) (x3 : Int) (M : MM) {res : (Int × MM)} (oa0 : OB L0 a0 4) (oa1 : OB L0 a1 5) (h : sX4_holds a0 a1 x2 x3 M = some res) : CO G xX4_holds [.ref (gA G a0), .ref (gA G a1), .int (eI x2), .int (eI x3)] L0 M (some (.long (eJ res.1))) L0 res.2 := CO_of (by decide +kernel) (Nat.le_of_ble_eq_true rfl) (bX4_holds_b0 a0 a1 x2 x3 oa0 oa1 M h)
abbrev xX4_bitsAhead : XX := (yX4_bitsAhead, cX4_bitsAhead, 4, (some .int), 0, 0, 0, 0)
def sX4_bitsAhead_b32 (a0 : Nat) (x1 : Int) (M : MM)  (x2 : Int) : Option Int := (some (x2))
def sX4_bitsAhead_b4 (a0 : Nat) (x1 : Int) (M : MM)  : Nat → Int → Int → Option Int
  | 0, _, _ => none
  | n + 1, x2, x3 => (if wI x1 ≤ wI x3 then (sX4_bitsAhead_b32 a0 x1 M x2) else (if 8 ≤ wI x3 then (sX4_bitsAhead_b32 a0 x1 M x2) else (if 0 ≤ wI x3 ∧ wI x3 < 8 then (if 0 ≤ wI (M (gR a0 0) (wI x3).toNat) ∧ wI (M (gR a0 0) (wI x3).toNat) < 32 then ((some (oI x2 (1 * 2 ^ (wI (M (gR a0 0) (wI x3).toNat)).toNat))).bind fun v_6 => ((some (x3 + 1)).bind fun v_7 => (sX4_bitsAhead_b4 a0 x1 M n v_6 v_7))) else none) else none)))
def sX4_bitsAhead_b0 (a0 : Nat) (x1 : Int) (M : MM)   : Option Int := (sX4_bitsAhead_b4 a0 x1 M FU 0 0)
def sX4_bitsAhead (a0 : Nat) (x1 : Int) (M : MM) : Option Int := sX4_bitsAhead_b0 a0 x1 M
set_option maxHeartbeats 4000000 in
set_option maxRecDepth 100000 in
theorem bX4_bitsAhead_b32 {G : GG} (a0 : Nat) (x1 : Int) (M : MM) (oa0 : OB L0 a0 4) (x2 : Int) {res : Int}  (h : sX4_bitsAhead_b32 a0 x1 M x2 = some res) : VV G xX4_bitsAhead (ZM G xX4_bitsAhead (some (.int (eI res))) L0 M) L0 M 0 0 32 [(2, .int (eI x2))] [] := by
  unfold sX4_bitsAhead_b32 at h
  refine r_iload_n (pc := 32) (i := 2) dX4_bitsAhead_32 rfl 0 rfl ?_
  cases h
  exact r_iret (pc := 33) rfl rfl (Nat.le_refl 0) (Nat.le_refl 0) dX4_bitsAhead_33
set_option maxHeartbeats 4000000 in
set_option maxRecDepth 100000 in
theorem bX4_bitsAhead_b4 {G : GG} (a0 : Nat) (x1 : Int) (M : MM) (oa0 : OB L0 a0 4) {res : Int} : ∀ (n : Nat) (x2 : Int) (x3 : Int)  (h : sX4_bitsAhead_b4 a0 x1 M n x2 x3 = some res), VV G xX4_bitsAhead (ZM G xX4_bitsAhead (some (.int (eI res))) L0 M) L0 M 0 0 4 [(0, .ref (gA G a0)), (1, .int (eI x1)), (2, .int (eI x2)), (3, .int (eI x3))] [] := by
  intro n
  induction n with
  | zero =>
    intro x2 x3 h
    rw [sX4_bitsAhead_b4] at h
    cases h
  | succ n ih =>
    intro x2 x3 h
    rw [sX4_bitsAhead_b4] at h
    refine r_iload_n (pc := 4) (i := 3) dX4_bitsAhead_4 rfl 3 rfl ?_
    refine r_iload_n (pc := 5) (i := 1) dX4_bitsAhead_5 rfl 1 rfl ?_
    refine r_icmp_ge (pc := 6) (tgt := 32) dX4_bitsAhead_6 (by decide) rfl rfl (fun c_1 => ?_) (fun c_1 => ?_)
    · replace h := (if_pos c_1).symm.trans h
      refine r_sub (lv' := [(2, .int (eI x2))]) [2] rfl ?_
      exact bX4_bitsAhead_b32 a0 x1 M oa0 _ h
    · replace h := (if_neg c_1).symm.trans h
      refine r_iload_n (pc := 9) (i := 3) dX4_bitsAhead_9 rfl 3 rfl ?_
      refine r_bipush (pc := 10) (v := 8) dX4_bitsAhead_10 (by decide +kernel) ?_
      refine r_icmp_ge (pc := 12) (tgt := 32) dX4_bitsAhead_12 (by decide) rfl wl_8 (fun c_2 => ?_) (fun c_2 => ?_)
      · replace h := (if_pos c_2).symm.trans h
        refine r_sub (lv' := [(2, .int (eI x2))]) [2] rfl ?_
        exact bX4_bitsAhead_b32 a0 x1 M oa0 _ h
      · replace h := (if_neg c_2).symm.trans h
        refine r_iload_n (pc := 15) (i := 2) dX4_bitsAhead_15 rfl 2 rfl ?_
        refine r_iconst (pc := 16) (v := 1) dX4_bitsAhead_16 (by decide +kernel) ?_
        refine r_aload_n (pc := 17) (i := 0) dX4_bitsAhead_17 rfl 0 rfl ?_
        have o_3 := (wt_4_0 oa0).2
        refine r_getR (pc := 18) fg_4_9 rfl oa0 (wt_4_0 oa0).1 dX4_bitsAhead_18 ?_
        refine r_iload_n (pc := 21) (i := 3) dX4_bitsAhead_21 rfl 3 rfl ?_
        obtain ⟨c_4, h⟩ := og h
        refine r_iald (pc := 22) o_3 rfl c_4 rfl dX4_bitsAhead_22 ?_
        obtain ⟨c_5, h⟩ := og h
        refine r_ishl (pc := 23) rfl c_5 dX4_bitsAhead_23 ?_
        refine r_ior (pc := 24) dX4_bitsAhead_24 ?_
        obtain ⟨v_6, hv_6, h⟩ := ob h
        refine r_nmI (pc := 25) hv_6 ?_
        refine r_istore_n (pc := 25) (i := 2) (lv' := [(2, .int (eI v_6)), (0, .ref (gA G a0)), (1, .int (eI x1)), (3, .int (eI x3))]) dX4_bitsAhead_25 rfl (Nat.le_of_ble_eq_true rfl) rfl ?_
        obtain ⟨v_7, hv_7, h⟩ := ob h
        refine r_iinc (pc := 26) (y := v_7) (lv' := [(3, .int (eI v_7)), (2, .int (eI v_6)), (0, .ref (gA G a0)), (1, .int (eI x1))]) dX4_bitsAhead_26 3 rfl (Option.some.inj hv_7) (Nat.le_of_ble_eq_true rfl) rfl ?_
        refine r_goto (pc := 29) (tgt := 4) dX4_bitsAhead_29 (by decide) ?_
        refine r_sub (lv' := [(0, .ref (gA G a0)), (1, .int (eI x1)), (2, .int (eI v_6)), (3, .int (eI v_7))]) [2, 3, 1, 0] rfl ?_
        exact ih _ _ h
set_option maxHeartbeats 4000000 in
set_option maxRecDepth 100000 in
theorem bX4_bitsAhead_b0 {G : GG} (a0 : Nat) (x1 : Int) (M : MM) (oa0 : OB L0 a0 4)  {res : Int}  (h : sX4_bitsAhead_b0 a0 x1 M = some res) : VV G xX4_bitsAhead (ZM G xX4_bitsAhead (some (.int (eI res))) L0 M) L0 M 0 0 0 [(0, .ref (gA G a0)), (1, .int (eI x1))] [] := by
  unfold sX4_bitsAhead_b0 at h
  refine r_iconst (pc := 0) (v := 0) dX4_bitsAhead_0 (by decide +kernel) ?_
  refine r_istore_n (pc := 1) (i := 2) (lv' := [(2, .int (eI 0)), (0, .ref (gA G a0)), (1, .int (eI x1))]) dX4_bitsAhead_1 rfl (Nat.le_of_ble_eq_true rfl) rfl ?_
  refine r_iconst (pc := 2) (v := 0) dX4_bitsAhead_2 (by decide +kernel) ?_
  refine r_istore_n (pc := 3) (i := 3) (lv' := [(3, .int (eI 0)), (2, .int (eI 0)), (0, .ref (gA G a0)), (1, .int (eI x1))]) dX4_bitsAhead_3 rfl (Nat.le_of_ble_eq_true rfl) rfl ?_
  refine r_sub (lv' := [(0, .ref (gA G a0)), (1, .int (eI x1)), (2, .int (eI 0)), (3, .int (eI 0))]) [2, 3, 1, 0] rfl ?_
  exact bX4_bitsAhead_b4 a0 x1 M oa0 _ _ _ h
theorem kX4_bitsAhead {G : GG} (a0 : Nat) (x1 : Int) (M : MM) {res : Int} (oa0 : OB L0 a0 4) (h : sX4_bitsAhead a0 x1 M = some res) : CO G xX4_bitsAhead [.ref (gA G a0), .int (eI x1)] L0 M (some (.int (eI res))) L0 M := CO_of (by decide +kernel) (Nat.le_of_ble_eq_true rfl) (bX4_bitsAhead_b0 a0 x1 M oa0 h)
abbrev xX4_bitsAheadOf : XX := (yX4_bitsAheadOf, cX4_bitsAheadOf, 5, (some .int), 0, 0, 0, 0)
def sX4_bitsAheadOf_b43 (a0 : Nat) (a1 : Nat) (x2 : Int) (M : MM)  (x3 : Int) : Option Int := (some (x3))
def sX4_bitsAheadOf_b5 (a0 : Nat) (a1 : Nat) (x2 : Int) (M : MM)  : Nat → Int → Int → Option Int
  | 0, _, _ => none
  | n + 1, x3, x4 => (if wI (M a1 3) ≤ wI x4 then (sX4_bitsAheadOf_b43 a0 a1 x2 M x3) else (if 0 ≤ wI x4 ∧ wI x4 < 8 then (if wI (M (gR a0 0) (wI x4).toNat) = wI x2 then (sX4_bitsAheadOf_b43 a0 a1 x2 M x3) else (if 0 ≤ wI x4 ∧ wI x4 < 8 then (if 0 ≤ wI (M (gR a0 0) (wI x4).toNat) ∧ wI (M (gR a0 0) (wI x4).toNat) < 32 then ((some (oI x3 (1 * 2 ^ (wI (M (gR a0 0) (wI x4).toNat)).toNat))).bind fun v_8 => ((some (x4 + 1)).bind fun v_9 => (sX4_bitsAheadOf_b5 a0 a1 x2 M n v_8 v_9))) else none) else none)) else none))
def sX4_bitsAheadOf_b0 (a0 : Nat) (a1 : Nat) (x2 : Int) (M : MM)   : Option Int := (sX4_bitsAheadOf_b5 a0 a1 x2 M FU 0 0)
def sX4_bitsAheadOf (a0 : Nat) (a1 : Nat) (x2 : Int) (M : MM) : Option Int := sX4_bitsAheadOf_b0 a0 a1 x2 M
set_option maxHeartbeats 4000000 in
set_option maxRecDepth 100000 in
theorem bX4_bitsAheadOf_b43 {G : GG} (a0 : Nat) (a1 : Nat) (x2 : Int) (M : MM) (oa0 : OB L0 a0 4) (oa1 : OB L0 a1 5) (x3 : Int) {res : Int}  (h : sX4_bitsAheadOf_b43 a0 a1 x2 M x3 = some res) : VV G xX4_bitsAheadOf (ZM G xX4_bitsAheadOf (some (.int (eI res))) L0 M) L0 M 0 0 43 [(3, .int (eI x3))] [] := by
  unfold sX4_bitsAheadOf_b43 at h
  refine r_iload_n (pc := 43) (i := 3) dX4_bitsAheadOf_43 rfl 0 rfl ?_
  cases h
  exact r_iret (pc := 44) rfl rfl (Nat.le_refl 0) (Nat.le_refl 0) dX4_bitsAheadOf_44
set_option maxHeartbeats 4000000 in
set_option maxRecDepth 100000 in
theorem bX4_bitsAheadOf_b5 {G : GG} (a0 : Nat) (a1 : Nat) (x2 : Int) (M : MM) (oa0 : OB L0 a0 4) (oa1 : OB L0 a1 5) {res : Int} : ∀ (n : Nat) (x3 : Int) (x4 : Int)  (h : sX4_bitsAheadOf_b5 a0 a1 x2 M n x3 x4 = some res), VV G xX4_bitsAheadOf (ZM G xX4_bitsAheadOf (some (.int (eI res))) L0 M) L0 M 0 0 5 [(0, .ref (gA G a0)), (1, .ref (gA G a1)), (2, .int (eI x2)), (3, .int (eI x3)), (4, .int (eI x4))] [] := by
  intro n
  induction n with
  | zero =>
    intro x3 x4 h
    rw [sX4_bitsAheadOf_b5] at h
    cases h
  | succ n ih =>
    intro x3 x4 h
    rw [sX4_bitsAheadOf_b5] at h
    refine r_iload (pc := 5) dX4_bitsAheadOf_5 4 rfl ?_
    refine r_aload_n (pc := 7) (i := 1) dX4_bitsAheadOf_7 rfl 1 rfl ?_
    refine r_getI (pc := 8) fg_4_28 rfl oa1 dX4_bitsAheadOf_8 ?_
    refine r_icmp_ge (pc := 11) (tgt := 43) dX4_bitsAheadOf_11 (by decide) rfl rfl (fun c_1 => ?_) (fun c_1 => ?_)
    · replace h := (if_pos c_1).symm.trans h
      refine r_sub (lv' := [(3, .int (eI x3))]) [3] rfl ?_
      exact bX4_bitsAheadOf_b43 a0 a1 x2 M oa0 oa1 _ h
    · replace h := (if_neg c_1).symm.trans h
      refine r_aload_n (pc := 14) (i := 0) dX4_bitsAheadOf_14 rfl 0 rfl ?_
      have o_2 := (wt_4_0 oa0).2
      refine r_getR (pc := 15) fg_4_9 rfl oa0 (wt_4_0 oa0).1 dX4_bitsAheadOf_15 ?_
      refine r_iload (pc := 18) dX4_bitsAheadOf_18 4 rfl ?_
      obtain ⟨c_3, h⟩ := og h
      refine r_iald (pc := 20) o_2 rfl c_3 rfl dX4_bitsAheadOf_20 ?_
      refine r_iload_n (pc := 21) (i := 2) dX4_bitsAheadOf_21 rfl 2 rfl ?_
      refine r_icmp_eq (pc := 22) (tgt := 43) dX4_bitsAheadOf_22 (by decide) rfl rfl (fun c_4 => ?_) (fun c_4 => ?_)
      · replace h := (if_pos c_4).symm.trans h
        refine r_sub (lv' := [(3, .int (eI x3))]) [3] rfl ?_
        exact bX4_bitsAheadOf_b43 a0 a1 x2 M oa0 oa1 _ h
      · replace h := (if_neg c_4).symm.trans h
        refine r_iload_n (pc := 25) (i := 3) dX4_bitsAheadOf_25 rfl 3 rfl ?_
        refine r_iconst (pc := 26) (v := 1) dX4_bitsAheadOf_26 (by decide +kernel) ?_
        refine r_aload_n (pc := 27) (i := 0) dX4_bitsAheadOf_27 rfl 0 rfl ?_
        have o_5 := (wt_4_0 oa0).2
        refine r_getR (pc := 28) fg_4_9 rfl oa0 (wt_4_0 oa0).1 dX4_bitsAheadOf_28 ?_
        refine r_iload (pc := 31) dX4_bitsAheadOf_31 4 rfl ?_
        obtain ⟨c_6, h⟩ := og h
        refine r_iald (pc := 33) o_5 rfl c_6 rfl dX4_bitsAheadOf_33 ?_
        obtain ⟨c_7, h⟩ := og h
        refine r_ishl (pc := 34) rfl c_7 dX4_bitsAheadOf_34 ?_
        refine r_ior (pc := 35) dX4_bitsAheadOf_35 ?_
        obtain ⟨v_8, hv_8, h⟩ := ob h
        refine r_nmI (pc := 36) hv_8 ?_
        refine r_istore_n (pc := 36) (i := 3) (lv' := [(3, .int (eI v_8)), (0, .ref (gA G a0)), (1, .ref (gA G a1)), (2, .int (eI x2)), (4, .int (eI x4))]) dX4_bitsAheadOf_36 rfl (Nat.le_of_ble_eq_true rfl) rfl ?_
        obtain ⟨v_9, hv_9, h⟩ := ob h
        refine r_iinc (pc := 37) (y := v_9) (lv' := [(4, .int (eI v_9)), (3, .int (eI v_8)), (0, .ref (gA G a0)), (1, .ref (gA G a1)), (2, .int (eI x2))]) dX4_bitsAheadOf_37 4 rfl (Option.some.inj hv_9) (Nat.le_of_ble_eq_true rfl) rfl ?_
        refine r_goto (pc := 40) (tgt := 5) dX4_bitsAheadOf_40 (by decide) ?_
        refine r_sub (lv' := [(0, .ref (gA G a0)), (1, .ref (gA G a1)), (2, .int (eI x2)), (3, .int (eI v_8)), (4, .int (eI v_9))]) [2, 3, 4, 1, 0] rfl ?_
        exact ih _ _ h
set_option maxHeartbeats 4000000 in
set_option maxRecDepth 100000 in
theorem bX4_bitsAheadOf_b0 {G : GG} (a0 : Nat) (a1 : Nat) (x2 : Int) (M : MM) (oa0 : OB L0 a0 4) (oa1 : OB L0 a1 5)  {res : Int}  (h : sX4_bitsAheadOf_b0 a0 a1 x2 M = some res) : VV G xX4_bitsAheadOf (ZM G xX4_bitsAheadOf (some (.int (eI res))) L0 M) L0 M 0 0 0 [(0, .ref (gA G a0)), (1, .ref (gA G a1)), (2, .int (eI x2))] [] := by
  unfold sX4_bitsAheadOf_b0 at h
  refine r_iconst (pc := 0) (v := 0) dX4_bitsAheadOf_0 (by decide +kernel) ?_
  refine r_istore_n (pc := 1) (i := 3) (lv' := [(3, .int (eI 0)), (0, .ref (gA G a0)), (1, .ref (gA G a1)), (2, .int (eI x2))]) dX4_bitsAheadOf_1 rfl (Nat.le_of_ble_eq_true rfl) rfl ?_
  refine r_iconst (pc := 2) (v := 0) dX4_bitsAheadOf_2 (by decide +kernel) ?_
  refine r_istore (pc := 3) (lv' := [(4, .int (eI 0)), (3, .int (eI 0)), (0, .ref (gA G a0)), (1, .ref (gA G a1)), (2, .int (eI x2))]) dX4_bitsAheadOf_3 (Nat.le_of_ble_eq_true rfl) rfl ?_
  refine r_sub (lv' := [(0, .ref (gA G a0)), (1, .ref (gA G a1)), (2, .int (eI x2)), (3, .int (eI 0)), (4, .int (eI 0))]) [2, 3, 4, 1, 0] rfl ?_
  exact bX4_bitsAheadOf_b5 a0 a1 x2 M oa0 oa1 _ _ _ h
theorem kX4_bitsAheadOf {G : GG} (a0 : Nat) (a1 : Nat) (x2 : Int) (M : MM) {res : Int} (oa0 : OB L0 a0 4) (oa1 : OB L0 a1 5) (h : sX4_bitsAheadOf a0 a1 x2 M = some res) : CO G xX4_bitsAheadOf [.ref (gA G a0), .ref (gA G a1), .int (eI x2)] L0 M (some (.int (eI res))) L0 M := CO_of (by decide +kernel) (Nat.le_of_ble_eq_true rfl) (bX4_bitsAheadOf_b0 a0 a1 x2 M oa0 oa1 h)
abbrev xX4_ofWhat : XX := (yX4_ofWhat, cX4_ofWhat, 8, (some .long), 3, 79, 0, 0)
theorem ck_X4_ofWhat_44 : CKV xX4_ofWhat 44 xX4_holds 3 := ⟨⟨tb_i 1059 (by decide +kernel) (by decide +kernel), tb_i 149 (by decide +kernel) (by decide +kernel), tb_i 1062 (by decide +kernel) (by decide +kernel), ⟨by decide +kernel, by decide +kernel, by decide +kernel⟩, by decide, by decide⟩, tb_i 1061 (by decide +kernel) (by decide +kernel), tb_i 25 (by decide +kernel) (by decide +kernel)⟩
theorem ck_X4_ofWhat_48 : CKV xX4_ofWhat 48 xX4_bitsAhead 1 := ⟨⟨tb_i 1077 (by decide +kernel) (by decide +kernel), tb_i 149 (by decide +kernel) (by decide +kernel), tb_i 1080 (by decide +kernel) (by decide +kernel), ⟨by decide +kernel, by decide +kernel, by decide +kernel⟩, by decide, by decide⟩, tb_i 1079 (by decide +kernel) (by decide +kernel), tb_i 28 (by decide +kernel) (by decide +kernel)⟩
theorem ck_X4_ofWhat_54 : CKV xX4_ofWhat 54 xX4_bitsAheadOf 2 := ⟨⟨tb_i 1082 (by decide +kernel) (by decide +kernel), tb_i 149 (by decide +kernel) (by decide +kernel), tb_i 1085 (by decide +kernel) (by decide +kernel), ⟨by decide +kernel, by decide +kernel, by decide +kernel⟩, by decide, by decide⟩, tb_i 1084 (by decide +kernel) (by decide +kernel), tb_i 29 (by decide +kernel) (by decide +kernel)⟩
def sX4_ofWhat_b87 (a0 : Nat) (a1 : Nat) (x2 : Int) (x3 : Int)   (M : MM) : Option (Int × MM) := (some (((-1), M)))
def sX4_ofWhat_b0 (a0 : Nat) (a1 : Nat) (x2 : Int) (x3 : Int)   (M : MM) : Option (Int × MM) := (if 0 ≤ wI (M a1 3) ∧ wI (M a1 3) < 32 then ((sX4_holds a0 a1 x2 ((1 * 2 ^ (wI (M a1 3)).toNat) - 1) M).bind fun q_2 => (if wI x3 = 1 then (some (((q_2.1), q_2.2))) else (if wI x3 = 0 then ((sX4_bitsAhead a0 ((M a1 3) - 1) q_2.2).bind fun q_14 => ((sX4_holds a0 a1 x2 q_14 q_2.2).bind fun q_15 => (some (((q_15.1), q_15.2))))) else (if wI x3 = 2 then ((sX4_bitsAhead a0 ((M a1 3) - 1) q_2.2).bind fun q_12 => ((sX4_holds a0 a1 x2 q_12 q_2.2).bind fun q_13 => (some ((((q_13.1) - (q_2.1)), q_13.2))))) else (if wI x3 < 10 then (sX4_ofWhat_b87 a0 a1 x2 x3 q_2.2) else (if wI x3 < wI (10 + (q_2.2 a1 3)) then ((sX4_bitsAheadOf a0 a1 (x3 - 10) q_2.2).bind fun q_8 => ((sX4_holds a0 a1 x2 q_8 q_2.2).bind fun q_9 => (if 0 ≤ wI (x3 - 10) ∧ wI (x3 - 10) < 32 then ((sX4_holds a0 a1 x2 (oI q_8 (1 * 2 ^ (wI (x3 - 10)).toNat)) q_9.2).bind fun q_11 => (some ((((q_9.1) - (q_11.1)), q_11.2)))) else none))) else (sX4_ofWhat_b87 a0 a1 x2 x3 q_2.2))))))) else none)
def sX4_ofWhat (a0 : Nat) (a1 : Nat) (x2 : Int) (x3 : Int) (M : MM) : Option (Int × MM) := sX4_ofWhat_b0 a0 a1 x2 x3 M
set_option maxHeartbeats 4000000 in
set_option maxRecDepth 100000 in
theorem bX4_ofWhat_b87 {G : GG} (a0 : Nat) (a1 : Nat) (x2 : Int) (x3 : Int) (oa0 : OB L0 a0 4) (oa1 : OB L0 a1 5)  (M : MM) {res : (Int × MM)}  (h : sX4_ofWhat_b87 a0 a1 x2 x3 M = some res) : VV G xX4_ofWhat (ZM G xX4_ofWhat (some (.long (eJ res.1))) L0 res.2) L0 M 0 0 87 [] [] := by
  unfold sX4_ofWhat_b87 at h
  refine r_ldc2 (pc := 87) (v := (-1)) kc_4_52 dX4_ofWhat_87 ?_
  cases h
  exact r_lret (pc := 90) rfl (Nat.le_refl 0) (Nat.le_refl 0) dX4_ofWhat_90
set_option maxHeartbeats 4000000 in
set_option maxRecDepth 100000 in
theorem bX4_ofWhat_b0 {G : GG} (a0 : Nat) (a1 : Nat) (x2 : Int) (x3 : Int) (oa0 : OB L0 a0 4) (oa1 : OB L0 a1 5)  (M : MM) {res : (Int × MM)}  (h : sX4_ofWhat_b0 a0 a1 x2 x3 M = some res) : VV G xX4_ofWhat (ZM G xX4_ofWhat (some (.long (eJ res.1))) L0 res.2) L0 M 0 0 0 [(0, .ref (gA G a0)), (1, .ref (gA G a1)), (2, .int (eI x2)), (3, .int (eI x3))] [] := by
  unfold sX4_ofWhat_b0 at h
  refine r_aload_n (pc := 0) (i := 1) dX4_ofWhat_0 rfl 1 rfl ?_
  refine r_getI (pc := 1) fg_4_28 rfl oa1 dX4_ofWhat_1 ?_
  refine r_iconst (pc := 4) (v := 1) dX4_ofWhat_4 (by decide +kernel) ?_
  refine r_isub (pc := 5) dX4_ofWhat_5 ?_
  refine r_istore (pc := 6) (lv' := [(4, .int (eI ((M a1 3) - 1))), (0, .ref (gA G a0)), (1, .ref (gA G a1)), (2, .int (eI x2)), (3, .int (eI x3))]) dX4_ofWhat_6 (Nat.le_of_ble_eq_true rfl) rfl ?_
  refine r_aload_n (pc := 8) (i := 0) dX4_ofWhat_8 rfl 1 rfl ?_
  refine r_aload_n (pc := 9) (i := 1) dX4_ofWhat_9 rfl 2 rfl ?_
  refine r_iload_n (pc := 10) (i := 2) dX4_ofWhat_10 rfl 3 rfl ?_
  refine r_iconst (pc := 11) (v := 1) dX4_ofWhat_11 (by decide +kernel) ?_
  refine r_aload_n (pc := 12) (i := 1) dX4_ofWhat_12 rfl 2 rfl ?_
  refine r_getI (pc := 13) fg_4_28 rfl oa1 dX4_ofWhat_13 ?_
  obtain ⟨c_1, h⟩ := og h
  refine r_ishl (pc := 16) rfl c_1 dX4_ofWhat_16 ?_
  refine r_iconst (pc := 17) (v := 1) dX4_ofWhat_17 (by decide +kernel) ?_
  refine r_isub (pc := 18) dX4_ofWhat_18 ?_
  obtain ⟨q_2, hq_2, h⟩ := ob h
  refine r_cV (pc := 19) (Y := xX4_holds) (As := [.ref (gA G a1), .int (eI x2), .int (eI ((1 * 2 ^ (wI (M a1 3)).toNat) - 1))]) (rest := []) (v := (some (.long (eJ (q_2.1))))) (st1 := [.long (eJ (q_2.1))]) ck_X4_ofWhat_44 (kX4_holds a0 a1 x2 ((1 * 2 ^ (wI (M a1 3)).toNat) - 1) M oa0 oa1 hq_2) oa0 rfl rfl rfl rfl (Nat.le_of_ble_eq_true rfl) ⟨rfl, rfl⟩ rfl dX4_ofWhat_19 ?_
  refine r_lstore (pc := 22) (lv' := [(5, .long (eJ (q_2.1))), (4, .int (eI ((M a1 3) - 1))), (0, .ref (gA G a0)), (1, .ref (gA G a1)), (2, .int (eI x2)), (3, .int (eI x3))]) dX4_ofWhat_22 (Nat.le_of_ble_eq_true rfl) rfl ?_
  refine r_iload_n (pc := 24) (i := 3) dX4_ofWhat_24 rfl 5 rfl ?_
  refine r_iconst (pc := 25) (v := 1) dX4_ofWhat_25 (by decide +kernel) ?_
  refine r_icmp_ne (pc := 26) (tgt := 32) dX4_ofWhat_26 (by decide) rfl wl_1 (fun c_3 => ?_) (fun c_3 => ?_)
  · replace h := (if_neg c_3).symm.trans h
    refine r_iload_n (pc := 32) (i := 3) dX4_ofWhat_32 rfl 5 rfl ?_
    refine r_if_ne (pc := 33) (tgt := 49) dX4_ofWhat_33 (by decide) rfl (fun c_4 => ?_) (fun c_4 => ?_)
    · replace h := (if_neg c_4).symm.trans h
      refine r_iload_n (pc := 49) (i := 3) dX4_ofWhat_49 rfl 5 rfl ?_
      refine r_iconst (pc := 50) (v := 2) dX4_ofWhat_50 (by decide +kernel) ?_
      refine r_icmp_ne (pc := 51) (tgt := 70) dX4_ofWhat_51 (by decide) rfl wl_2 (fun c_5 => ?_) (fun c_5 => ?_)
      · replace h := (if_neg c_5).symm.trans h
        refine r_iload_n (pc := 70) (i := 3) dX4_ofWhat_70 rfl 5 rfl ?_
        refine r_bipush (pc := 71) (v := 10) dX4_ofWhat_71 (by decide +kernel) ?_
        refine r_icmp_lt (pc := 73) (tgt := 87) dX4_ofWhat_73 (by decide) rfl wl_10 (fun c_6 => ?_) (fun c_6 => ?_)
        · replace h := (if_pos c_6).symm.trans h
          refine r_sub (lv' := []) [] rfl ?_
          exact bX4_ofWhat_b87 a0 a1 x2 x3 oa0 oa1 _ h
        · replace h := (if_neg c_6).symm.trans h
          refine r_iload_n (pc := 76) (i := 3) dX4_ofWhat_76 rfl 5 rfl ?_
          refine r_bipush (pc := 77) (v := 10) dX4_ofWhat_77 (by decide +kernel) ?_
          refine r_aload_n (pc := 79) (i := 1) dX4_ofWhat_79 rfl 3 rfl ?_
          refine r_getI (pc := 80) fg_4_28 rfl oa1 dX4_ofWhat_80 ?_
          refine r_iadd (pc := 83) dX4_ofWhat_83 ?_
          refine r_icmp_lt (pc := 84) (tgt := 91) dX4_ofWhat_84 (by decide) rfl rfl (fun c_7 => ?_) (fun c_7 => ?_)
          · replace h := (if_pos c_7).symm.trans h
            refine r_aload_n (pc := 91) (i := 0) dX4_ofWhat_91 rfl 2 rfl ?_
            refine r_aload_n (pc := 92) (i := 1) dX4_ofWhat_92 rfl 3 rfl ?_
            refine r_iload_n (pc := 93) (i := 3) dX4_ofWhat_93 rfl 5 rfl ?_
            refine r_bipush (pc := 94) (v := 10) dX4_ofWhat_94 (by decide +kernel) ?_
            refine r_isub (pc := 96) dX4_ofWhat_96 ?_
            obtain ⟨q_8, hq_8, h⟩ := ob h
            refine r_cV (pc := 97) (Y := xX4_bitsAheadOf) (As := [.ref (gA G a1), .int (eI (x3 - 10))]) (rest := []) (v := (some (.int (eI q_8)))) (st1 := [.int (eI q_8)]) ck_X4_ofWhat_54 (kX4_bitsAheadOf a0 a1 (x3 - 10) q_2.2 oa0 oa1 hq_8) oa0 rfl rfl rfl rfl (Nat.le_of_ble_eq_true rfl) ⟨rfl, rfl⟩ rfl dX4_ofWhat_97 ?_
            refine r_istore (pc := 100) (lv' := [(7, .int (eI q_8)), (5, .long (eJ (q_2.1))), (4, .int (eI ((M a1 3) - 1))), (0, .ref (gA G a0)), (1, .ref (gA G a1)), (2, .int (eI x2)), (3, .int (eI x3))]) dX4_ofWhat_100 (Nat.le_of_ble_eq_true rfl) rfl ?_
            refine r_aload_n (pc := 102) (i := 0) dX4_ofWhat_102 rfl 3 rfl ?_
            refine r_aload_n (pc := 103) (i := 1) dX4_ofWhat_103 rfl 4 rfl ?_
            refine r_iload_n (pc := 104) (i := 2) dX4_ofWhat_104 rfl 5 rfl ?_
            refine r_iload (pc := 105) dX4_ofWhat_105 0 rfl ?_
            obtain ⟨q_9, hq_9, h⟩ := ob h
            refine r_cV (pc := 107) (Y := xX4_holds) (As := [.ref (gA G a1), .int (eI x2), .int (eI q_8)]) (rest := []) (v := (some (.long (eJ (q_9.1))))) (st1 := [.long (eJ (q_9.1))]) ck_X4_ofWhat_44 (kX4_holds a0 a1 x2 q_8 q_2.2 oa0 oa1 hq_9) oa0 rfl rfl rfl rfl (Nat.le_of_ble_eq_true rfl) ⟨rfl, rfl⟩ rfl dX4_ofWhat_107 ?_
            refine r_aload_n (pc := 110) (i := 0) dX4_ofWhat_110 rfl 3 rfl ?_
            refine r_aload_n (pc := 111) (i := 1) dX4_ofWhat_111 rfl 4 rfl ?_
            refine r_iload_n (pc := 112) (i := 2) dX4_ofWhat_112 rfl 5 rfl ?_
            refine r_iload (pc := 113) dX4_ofWhat_113 0 rfl ?_
            refine r_iconst (pc := 115) (v := 1) dX4_ofWhat_115 (by decide +kernel) ?_
            refine r_iload_n (pc := 116) (i := 3) dX4_ofWhat_116 rfl 6 rfl ?_
            refine r_bipush (pc := 117) (v := 10) dX4_ofWhat_117 (by decide +kernel) ?_
            refine r_isub (pc := 119) dX4_ofWhat_119 ?_
            obtain ⟨c_10, h⟩ := og h
            refine r_ishl (pc := 120) rfl c_10 dX4_ofWhat_120 ?_
            refine r_ior (pc := 121) dX4_ofWhat_121 ?_
            obtain ⟨q_11, hq_11, h⟩ := ob h
            refine r_cV (pc := 122) (Y := xX4_holds) (As := [.ref (gA G a1), .int (eI x2), .int (eI (oI q_8 (1 * 2 ^ (wI (x3 - 10)).toNat)))]) (rest := [.long (eJ (q_9.1))]) (v := (some (.long (eJ (q_11.1))))) (st1 := [.long (eJ (q_11.1)), .long (eJ (q_9.1))]) ck_X4_ofWhat_44 (kX4_holds a0 a1 x2 (oI q_8 (1 * 2 ^ (wI (x3 - 10)).toNat)) q_9.2 oa0 oa1 hq_11) oa0 rfl rfl rfl rfl (Nat.le_of_ble_eq_true rfl) ⟨rfl, rfl⟩ rfl dX4_ofWhat_122 ?_
            refine r_lsub (pc := 125) dX4_ofWhat_125 ?_
            cases h
            exact r_lret (pc := 126) rfl (Nat.le_refl 0) (Nat.le_refl 0) dX4_ofWhat_126
          · replace h := (if_neg c_7).symm.trans h
            refine r_sub (lv' := []) [] rfl ?_
            exact bX4_ofWhat_b87 a0 a1 x2 x3 oa0 oa1 _ h
      · replace h := (if_pos c_5).symm.trans h
        refine r_aload_n (pc := 54) (i := 0) dX4_ofWhat_54 rfl 2 rfl ?_
        refine r_aload_n (pc := 55) (i := 1) dX4_ofWhat_55 rfl 3 rfl ?_
        refine r_iload_n (pc := 56) (i := 2) dX4_ofWhat_56 rfl 4 rfl ?_
        refine r_aload_n (pc := 57) (i := 0) dX4_ofWhat_57 rfl 2 rfl ?_
        refine r_iload (pc := 58) dX4_ofWhat_58 1 rfl ?_
        obtain ⟨q_12, hq_12, h⟩ := ob h
        refine r_cV (pc := 60) (Y := xX4_bitsAhead) (As := [.int (eI ((M a1 3) - 1))]) (rest := [.int (eI x2), .ref (gA G a1), .ref (gA G a0)]) (v := (some (.int (eI q_12)))) (st1 := [.int (eI q_12), .int (eI x2), .ref (gA G a1), .ref (gA G a0)]) ck_X4_ofWhat_48 (kX4_bitsAhead a0 ((M a1 3) - 1) q_2.2 oa0 hq_12) oa0 rfl rfl rfl rfl (Nat.le_of_ble_eq_true rfl) ⟨rfl, rfl⟩ rfl dX4_ofWhat_60 ?_
        obtain ⟨q_13, hq_13, h⟩ := ob h
        refine r_cV (pc := 63) (Y := xX4_holds) (As := [.ref (gA G a1), .int (eI x2), .int (eI q_12)]) (rest := []) (v := (some (.long (eJ (q_13.1))))) (st1 := [.long (eJ (q_13.1))]) ck_X4_ofWhat_44 (kX4_holds a0 a1 x2 q_12 q_2.2 oa0 oa1 hq_13) oa0 rfl rfl rfl rfl (Nat.le_of_ble_eq_true rfl) ⟨rfl, rfl⟩ rfl dX4_ofWhat_63 ?_
        refine r_lload (pc := 66) dX4_ofWhat_66 0 rfl ?_
        refine r_lsub (pc := 68) dX4_ofWhat_68 ?_
        cases h
        exact r_lret (pc := 69) rfl (Nat.le_refl 0) (Nat.le_refl 0) dX4_ofWhat_69
    · replace h := (if_pos c_4).symm.trans h
      refine r_aload_n (pc := 36) (i := 0) dX4_ofWhat_36 rfl 2 rfl ?_
      refine r_aload_n (pc := 37) (i := 1) dX4_ofWhat_37 rfl 3 rfl ?_
      refine r_iload_n (pc := 38) (i := 2) dX4_ofWhat_38 rfl 4 rfl ?_
      refine r_aload_n (pc := 39) (i := 0) dX4_ofWhat_39 rfl 2 rfl ?_
      refine r_iload (pc := 40) dX4_ofWhat_40 1 rfl ?_
      obtain ⟨q_14, hq_14, h⟩ := ob h
      refine r_cV (pc := 42) (Y := xX4_bitsAhead) (As := [.int (eI ((M a1 3) - 1))]) (rest := [.int (eI x2), .ref (gA G a1), .ref (gA G a0)]) (v := (some (.int (eI q_14)))) (st1 := [.int (eI q_14), .int (eI x2), .ref (gA G a1), .ref (gA G a0)]) ck_X4_ofWhat_48 (kX4_bitsAhead a0 ((M a1 3) - 1) q_2.2 oa0 hq_14) oa0 rfl rfl rfl rfl (Nat.le_of_ble_eq_true rfl) ⟨rfl, rfl⟩ rfl dX4_ofWhat_42 ?_
      obtain ⟨q_15, hq_15, h⟩ := ob h
      refine r_cV (pc := 45) (Y := xX4_holds) (As := [.ref (gA G a1), .int (eI x2), .int (eI q_14)]) (rest := []) (v := (some (.long (eJ (q_15.1))))) (st1 := [.long (eJ (q_15.1))]) ck_X4_ofWhat_44 (kX4_holds a0 a1 x2 q_14 q_2.2 oa0 oa1 hq_15) oa0 rfl rfl rfl rfl (Nat.le_of_ble_eq_true rfl) ⟨rfl, rfl⟩ rfl dX4_ofWhat_45 ?_
      cases h
      exact r_lret (pc := 48) rfl (Nat.le_refl 0) (Nat.le_refl 0) dX4_ofWhat_48
  · replace h := (if_pos c_3).symm.trans h
    refine r_lload (pc := 29) dX4_ofWhat_29 0 rfl ?_
    cases h
    exact r_lret (pc := 31) rfl (Nat.le_refl 0) (Nat.le_refl 0) dX4_ofWhat_31
theorem kX4_ofWhat {G : GG} (a0 : Nat) (a1 : Nat) (x2 : Int) (x3 : Int) (M : MM) {res : (Int × MM)} (oa0 : OB L0 a0 4) (oa1 : OB L0 a1 5) (h : sX4_ofWhat a0 a1 x2 x3 M = some res) : CO G xX4_ofWhat [.ref (gA G a0), .ref (gA G a1), .int (eI x2), .int (eI x3)] L0 M (some (.long (eJ res.1))) L0 res.2 := CO_of (by decide +kernel) (Nat.le_of_ble_eq_true rfl) (bX4_ofWhat_b0 a0 a1 x2 x3 oa0 oa1 M h)
abbrev xX4_orderOfRow : XX := (yX4_orderOfRow, cX4_orderOfRow, 4, (some .int), 0, 0, 0, 0)
def sX4_orderOfRow_b4 (a0 : Nat) (a1 : Nat) (M : MM)  : Nat → Int → Int → Option Int
  | 0, _, _ => none
  | n + 1, x2, x3 => (if wI (M a1 3) ≤ wI x3 then (some (x2)) else (if 0 ≤ wI x3 ∧ wI x3 < 8 then ((some ((x2 * 8) + (M (gR a0 0) (wI x3).toNat))).bind fun v_4 => ((some (x3 + 1)).bind fun v_5 => (sX4_orderOfRow_b4 a0 a1 M n v_4 v_5))) else none))
def sX4_orderOfRow_b0 (a0 : Nat) (a1 : Nat) (M : MM)   : Option Int := (sX4_orderOfRow_b4 a0 a1 M FU 0 0)
def sX4_orderOfRow (a0 : Nat) (a1 : Nat) (M : MM) : Option Int := sX4_orderOfRow_b0 a0 a1 M
set_option maxHeartbeats 4000000 in
set_option maxRecDepth 100000 in
theorem bX4_orderOfRow_b4 {G : GG} (a0 : Nat) (a1 : Nat) (M : MM) (oa0 : OB L0 a0 4) (oa1 : OB L0 a1 5) {res : Int} : ∀ (n : Nat) (x2 : Int) (x3 : Int)  (h : sX4_orderOfRow_b4 a0 a1 M n x2 x3 = some res), VV G xX4_orderOfRow (ZM G xX4_orderOfRow (some (.int (eI res))) L0 M) L0 M 0 0 4 [(0, .ref (gA G a0)), (1, .ref (gA G a1)), (2, .int (eI x2)), (3, .int (eI x3))] [] := by
  intro n
  induction n with
  | zero =>
    intro x2 x3 h
    rw [sX4_orderOfRow_b4] at h
    cases h
  | succ n ih =>
    intro x2 x3 h
    rw [sX4_orderOfRow_b4] at h
    refine r_iload_n (pc := 4) (i := 3) dX4_orderOfRow_4 rfl 3 rfl ?_
    refine r_aload_n (pc := 5) (i := 1) dX4_orderOfRow_5 rfl 1 rfl ?_
    refine r_getI (pc := 6) fg_4_28 rfl oa1 dX4_orderOfRow_6 ?_
    refine r_icmp_ge (pc := 9) (tgt := 30) dX4_orderOfRow_9 (by decide) rfl rfl (fun c_1 => ?_) (fun c_1 => ?_)
    · replace h := (if_pos c_1).symm.trans h
      refine r_iload_n (pc := 30) (i := 2) dX4_orderOfRow_30 rfl 2 rfl ?_
      cases h
      exact r_iret (pc := 31) rfl rfl (Nat.le_refl 0) (Nat.le_refl 0) dX4_orderOfRow_31
    · replace h := (if_neg c_1).symm.trans h
      refine r_iload_n (pc := 12) (i := 2) dX4_orderOfRow_12 rfl 2 rfl ?_
      refine r_bipush (pc := 13) (v := 8) dX4_orderOfRow_13 (by decide +kernel) ?_
      refine r_imul (pc := 15) dX4_orderOfRow_15 ?_
      refine r_aload_n (pc := 16) (i := 0) dX4_orderOfRow_16 rfl 0 rfl ?_
      have o_2 := (wt_4_0 oa0).2
      refine r_getR (pc := 17) fg_4_9 rfl oa0 (wt_4_0 oa0).1 dX4_orderOfRow_17 ?_
      refine r_iload_n (pc := 20) (i := 3) dX4_orderOfRow_20 rfl 3 rfl ?_
      obtain ⟨c_3, h⟩ := og h
      refine r_iald (pc := 21) o_2 rfl c_3 rfl dX4_orderOfRow_21 ?_
      refine r_iadd (pc := 22) dX4_orderOfRow_22 ?_
      obtain ⟨v_4, hv_4, h⟩ := ob h
      refine r_nmI (pc := 23) hv_4 ?_
      refine r_istore_n (pc := 23) (i := 2) (lv' := [(2, .int (eI v_4)), (0, .ref (gA G a0)), (1, .ref (gA G a1)), (3, .int (eI x3))]) dX4_orderOfRow_23 rfl (Nat.le_of_ble_eq_true rfl) rfl ?_
      obtain ⟨v_5, hv_5, h⟩ := ob h
      refine r_iinc (pc := 24) (y := v_5) (lv' := [(3, .int (eI v_5)), (2, .int (eI v_4)), (0, .ref (gA G a0)), (1, .ref (gA G a1))]) dX4_orderOfRow_24 3 rfl (Option.some.inj hv_5) (Nat.le_of_ble_eq_true rfl) rfl ?_
      refine r_goto (pc := 27) (tgt := 4) dX4_orderOfRow_27 (by decide) ?_
      refine r_sub (lv' := [(0, .ref (gA G a0)), (1, .ref (gA G a1)), (2, .int (eI v_4)), (3, .int (eI v_5))]) [2, 3, 1, 0] rfl ?_
      exact ih _ _ h
set_option maxHeartbeats 4000000 in
set_option maxRecDepth 100000 in
theorem bX4_orderOfRow_b0 {G : GG} (a0 : Nat) (a1 : Nat) (M : MM) (oa0 : OB L0 a0 4) (oa1 : OB L0 a1 5)  {res : Int}  (h : sX4_orderOfRow_b0 a0 a1 M = some res) : VV G xX4_orderOfRow (ZM G xX4_orderOfRow (some (.int (eI res))) L0 M) L0 M 0 0 0 [(0, .ref (gA G a0)), (1, .ref (gA G a1))] [] := by
  unfold sX4_orderOfRow_b0 at h
  refine r_iconst (pc := 0) (v := 0) dX4_orderOfRow_0 (by decide +kernel) ?_
  refine r_istore_n (pc := 1) (i := 2) (lv' := [(2, .int (eI 0)), (0, .ref (gA G a0)), (1, .ref (gA G a1))]) dX4_orderOfRow_1 rfl (Nat.le_of_ble_eq_true rfl) rfl ?_
  refine r_iconst (pc := 2) (v := 0) dX4_orderOfRow_2 (by decide +kernel) ?_
  refine r_istore_n (pc := 3) (i := 3) (lv' := [(3, .int (eI 0)), (2, .int (eI 0)), (0, .ref (gA G a0)), (1, .ref (gA G a1))]) dX4_orderOfRow_3 rfl (Nat.le_of_ble_eq_true rfl) rfl ?_
  refine r_sub (lv' := [(0, .ref (gA G a0)), (1, .ref (gA G a1)), (2, .int (eI 0)), (3, .int (eI 0))]) [2, 3, 1, 0] rfl ?_
  exact bX4_orderOfRow_b4 a0 a1 M oa0 oa1 _ _ _ h
theorem kX4_orderOfRow {G : GG} (a0 : Nat) (a1 : Nat) (M : MM) {res : Int} (oa0 : OB L0 a0 4) (oa1 : OB L0 a1 5) (h : sX4_orderOfRow a0 a1 M = some res) : CO G xX4_orderOfRow [.ref (gA G a0), .ref (gA G a1)] L0 M (some (.int (eI res))) L0 M := CO_of (by decide +kernel) (Nat.le_of_ble_eq_true rfl) (bX4_orderOfRow_b0 a0 a1 M oa0 oa1 h)
abbrev xX4_gapOfRow : XX := (yX4_gapOfRow, cX4_gapOfRow, 11, (some .long), 2, 41, 0, 0)
theorem ck_X4_gapOfRow_103 : CKV xX4_gapOfRow 103 xX4_ofAll 1 := ⟨⟨tb_i 1147 (by decide +kernel) (by decide +kernel), tb_i 149 (by decide +kernel) (by decide +kernel), tb_i 1089 (by decide +kernel) (by decide +kernel), ⟨by decide +kernel, by decide +kernel, by decide +kernel⟩, by decide, by decide⟩, tb_i 1087 (by decide +kernel) (by decide +kernel), tb_i 1088 (by decide +kernel) (by decide +kernel)⟩
def sX4_gapOfRow_b85 (a0 : Nat) (a1 : Nat) (M : MM) (K15 : Int → Int → Int → Int → Option Int) (y2 : Int) (y4 : Int) (x6 : Int) (x7 : Int) : Option Int := ((some (x7 + 1)).bind fun v_1 => (K15 y2 y4 x6 v_1))
def sX4_gapOfRow_b15 (a0 : Nat) (a1 : Nat) (M : MM)  : Nat → Int → Int → Int → Int → Option Int
  | 0, _, _, _, _ => none
  | n + 1, y2, y4, x6, x7 => (if wI (M a1 3) ≤ wI x7 then (some ((y2 - y4))) else (if 0 ≤ wI x7 ∧ wI x7 < 8 then (if 0 ≤ wI (M (gR a0 0) (wI x7).toNat) ∧ wI (M (gR a0 0) (wI x7).toNat) < 32 then ((some (oI x6 (1 * 2 ^ (wI (M (gR a0 0) (wI x7).toNat)).toNat))).bind fun v_5 => (if 32 ≤ wI v_5 then (sX4_gapOfRow_b85 a0 a1 M (fun y2 y4 x6 x7 => sX4_gapOfRow_b15 a0 a1 M n y2 y4 x6 x7) y2 y4 x6 x7) else (if 0 ≤ wI x6 ∧ wI x6 < 32 then (if 0 ≤ wI v_5 ∧ wI v_5 < 32 then ((some ((M (gR a0 3) (wI x6).toNat) - (M (gR a0 3) (wI v_5).toNat))).bind fun v_12 => (sX4_gapOfRow_b85 a0 a1 M (fun y2 y4 x6 x7 => sX4_gapOfRow_b15 a0 a1 M n y2 y4 x6 x7) (max (wJ y2) (wJ v_12)) (min (wJ y4) (wJ v_12)) v_5 x7)) else none) else none))) else none) else none))
def sX4_gapOfRow_b0 (a0 : Nat) (a1 : Nat) (M : MM)   : Option Int := ((sX4_ofAll a0 a1 M).bind fun q_1 => (sX4_gapOfRow_b15 a0 a1 M FU 0 q_1 0 0))
def sX4_gapOfRow (a0 : Nat) (a1 : Nat) (M : MM) : Option Int := sX4_gapOfRow_b0 a0 a1 M
set_option maxHeartbeats 4000000 in
set_option maxRecDepth 100000 in
theorem bX4_gapOfRow_b85 {G : GG} (a0 : Nat) (a1 : Nat) (M : MM) (oa0 : OB L0 a0 4) (oa1 : OB L0 a1 5) {K15 : Int → Int → Int → Int → Option Int} (y2 : Int) (y4 : Int) (x6 : Int) (x7 : Int) {res : Int} (hK15 : ∀ (y2 : Int) (y4 : Int) (x6 : Int) (x7 : Int), K15 y2 y4 x6 x7 = some res → VV G xX4_gapOfRow (ZM G xX4_gapOfRow (some (.long (eJ res))) L0 M) L0 M 0 0 15 [(0, .ref (gA G a0)), (1, .ref (gA G a1)), (2, .long (eJ y2)), (4, .long (eJ y4)), (6, .int (eI x6)), (7, .int (eI x7))] [])  (h : sX4_gapOfRow_b85 a0 a1 M K15 y2 y4 x6 x7 = some res) : VV G xX4_gapOfRow (ZM G xX4_gapOfRow (some (.long (eJ res))) L0 M) L0 M 0 0 85 [(0, .ref (gA G a0)), (1, .ref (gA G a1)), (2, .long (eJ y2)), (4, .long (eJ y4)), (6, .int (eI x6)), (7, .int (eI x7))] [] := by
  unfold sX4_gapOfRow_b85 at h
  obtain ⟨v_1, hv_1, h⟩ := ob h
  refine r_iinc (pc := 85) (y := v_1) (lv' := [(7, .int (eI v_1)), (0, .ref (gA G a0)), (1, .ref (gA G a1)), (2, .long (eJ y2)), (4, .long (eJ y4)), (6, .int (eI x6))]) dX4_gapOfRow_85 5 rfl (Option.some.inj hv_1) (Nat.le_of_ble_eq_true rfl) rfl ?_
  refine r_goto (pc := 88) (tgt := 15) dX4_gapOfRow_88 (by decide) ?_
  refine r_sub (lv' := [(0, .ref (gA G a0)), (1, .ref (gA G a1)), (2, .long (eJ y2)), (4, .long (eJ y4)), (6, .int (eI x6)), (7, .int (eI v_1))]) [1, 2, 3, 4, 5, 0] rfl ?_
  exact hK15 _ _ _ _ h
set_option maxHeartbeats 4000000 in
set_option maxRecDepth 100000 in
theorem bX4_gapOfRow_b15 {G : GG} (a0 : Nat) (a1 : Nat) (M : MM) (oa0 : OB L0 a0 4) (oa1 : OB L0 a1 5) {res : Int} : ∀ (n : Nat) (y2 : Int) (y4 : Int) (x6 : Int) (x7 : Int)  (h : sX4_gapOfRow_b15 a0 a1 M n y2 y4 x6 x7 = some res), VV G xX4_gapOfRow (ZM G xX4_gapOfRow (some (.long (eJ res))) L0 M) L0 M 0 0 15 [(0, .ref (gA G a0)), (1, .ref (gA G a1)), (2, .long (eJ y2)), (4, .long (eJ y4)), (6, .int (eI x6)), (7, .int (eI x7))] [] := by
  intro n
  induction n with
  | zero =>
    intro y2 y4 x6 x7 h
    rw [sX4_gapOfRow_b15] at h
    cases h
  | succ n ih =>
    intro y2 y4 x6 x7 h
    rw [sX4_gapOfRow_b15] at h
    refine r_iload (pc := 15) dX4_gapOfRow_15 5 rfl ?_
    refine r_aload_n (pc := 17) (i := 1) dX4_gapOfRow_17 rfl 1 rfl ?_
    refine r_getI (pc := 18) fg_4_28 rfl oa1 dX4_gapOfRow_18 ?_
    refine r_icmp_ge (pc := 21) (tgt := 91) dX4_gapOfRow_21 (by decide) rfl rfl (fun c_1 => ?_) (fun c_1 => ?_)
    · replace h := (if_pos c_1).symm.trans h
      refine r_lload_n (pc := 91) (i := 2) dX4_gapOfRow_91 rfl 2 rfl ?_
      refine r_lload (pc := 92) dX4_gapOfRow_92 3 rfl ?_
      refine r_lsub (pc := 94) dX4_gapOfRow_94 ?_
      cases h
      exact r_lret (pc := 95) rfl (Nat.le_refl 0) (Nat.le_refl 0) dX4_gapOfRow_95
    · replace h := (if_neg c_1).symm.trans h
      refine r_iload (pc := 24) dX4_gapOfRow_24 4 rfl ?_
      refine r_iconst (pc := 26) (v := 1) dX4_gapOfRow_26 (by decide +kernel) ?_
      refine r_aload_n (pc := 27) (i := 0) dX4_gapOfRow_27 rfl 0 rfl ?_
      have o_2 := (wt_4_0 oa0).2
      refine r_getR (pc := 28) fg_4_9 rfl oa0 (wt_4_0 oa0).1 dX4_gapOfRow_28 ?_
      refine r_iload (pc := 31) dX4_gapOfRow_31 5 rfl ?_
      obtain ⟨c_3, h⟩ := og h
      refine r_iald (pc := 33) o_2 rfl c_3 rfl dX4_gapOfRow_33 ?_
      obtain ⟨c_4, h⟩ := og h
      refine r_ishl (pc := 34) rfl c_4 dX4_gapOfRow_34 ?_
      refine r_ior (pc := 35) dX4_gapOfRow_35 ?_
      obtain ⟨v_5, hv_5, h⟩ := ob h
      refine r_nmI (pc := 36) hv_5 ?_
      refine r_istore (pc := 36) (lv' := [(8, .int (eI v_5)), (0, .ref (gA G a0)), (1, .ref (gA G a1)), (2, .long (eJ y2)), (4, .long (eJ y4)), (6, .int (eI x6)), (7, .int (eI x7))]) dX4_gapOfRow_36 (Nat.le_of_ble_eq_true rfl) rfl ?_
      refine r_iload (pc := 38) dX4_gapOfRow_38 0 rfl ?_
      refine r_aload_n (pc := 40) (i := 0) dX4_gapOfRow_40 rfl 1 rfl ?_
      have o_6 := (wt_4_3 oa0).2
      refine r_getR (pc := 41) fg_4_22 rfl oa0 (wt_4_3 oa0).1 dX4_gapOfRow_41 ?_
      refine r_alen (pc := 44) (by decide) o_6 dX4_gapOfRow_44 ?_
      refine r_icmp_ge (pc := 45) (tgt := 85) dX4_gapOfRow_45 (by decide) rfl wl_32 (fun c_7 => ?_) (fun c_7 => ?_)
      · replace h := (if_pos c_7).symm.trans h
        refine r_sub (lv' := [(0, .ref (gA G a0)), (1, .ref (gA G a1)), (2, .long (eJ y2)), (4, .long (eJ y4)), (6, .int (eI x6)), (7, .int (eI x7))]) [1, 2, 3, 4, 5, 6] rfl ?_
        exact bX4_gapOfRow_b85 a0 a1 M oa0 oa1 _ _ _ _ (fun v0 v1 v2 v3 v4 => ih v0 v1 v2 v3 v4) h
      · replace h := (if_neg c_7).symm.trans h
        refine r_aload_n (pc := 48) (i := 0) dX4_gapOfRow_48 rfl 1 rfl ?_
        have o_8 := (wt_4_3 oa0).2
        refine r_getR (pc := 49) fg_4_22 rfl oa0 (wt_4_3 oa0).1 dX4_gapOfRow_49 ?_
        refine r_iload (pc := 52) dX4_gapOfRow_52 5 rfl ?_
        obtain ⟨c_9, h⟩ := og h
        refine r_lald (pc := 54) o_8 rfl c_9 rfl dX4_gapOfRow_54 ?_
        refine r_aload_n (pc := 55) (i := 0) dX4_gapOfRow_55 rfl 1 rfl ?_
        have o_10 := (wt_4_3 oa0).2
        refine r_getR (pc := 56) fg_4_22 rfl oa0 (wt_4_3 oa0).1 dX4_gapOfRow_56 ?_
        refine r_iload (pc := 59) dX4_gapOfRow_59 0 rfl ?_
        obtain ⟨c_11, h⟩ := og h
        refine r_lald (pc := 61) o_10 rfl c_11 rfl dX4_gapOfRow_61 ?_
        refine r_lsub (pc := 62) dX4_gapOfRow_62 ?_
        obtain ⟨v_12, hv_12, h⟩ := ob h
        refine r_nmJ (pc := 63) hv_12 ?_
        refine r_lstore (pc := 63) (lv' := [(9, .long (eJ v_12)), (8, .int (eI v_5)), (0, .ref (gA G a0)), (1, .ref (gA G a1)), (2, .long (eJ y2)), (4, .long (eJ y4)), (6, .int (eI x6)), (7, .int (eI x7))]) dX4_gapOfRow_63 (Nat.le_of_ble_eq_true rfl) rfl ?_
        refine r_lload_n (pc := 65) (i := 2) dX4_gapOfRow_65 rfl 4 rfl ?_
        refine r_lload (pc := 66) dX4_gapOfRow_66 0 rfl ?_
        refine r_mmaxL (pc := 68) ml_4_106 ⟨Nat.le_of_ble_eq_true rfl, Nat.le_of_ble_eq_true rfl, Nat.le_of_ble_eq_true rfl, Nat.le_of_ble_eq_true rfl⟩ rfl rfl dX4_gapOfRow_68 ?_
        refine r_lstore_n (pc := 71) (i := 2) (lv' := [(2, .long (eJ (max (wJ y2) (wJ v_12)))), (9, .long (eJ v_12)), (8, .int (eI v_5)), (0, .ref (gA G a0)), (1, .ref (gA G a1)), (4, .long (eJ y4)), (6, .int (eI x6)), (7, .int (eI x7))]) dX4_gapOfRow_71 rfl (Nat.le_of_ble_eq_true rfl) rfl ?_
        refine r_lload (pc := 72) dX4_gapOfRow_72 5 rfl ?_
        refine r_lload (pc := 74) dX4_gapOfRow_74 1 rfl ?_
        refine r_mminL (pc := 76) ml_4_110 ⟨Nat.le_of_ble_eq_true rfl, Nat.le_of_ble_eq_true rfl, Nat.le_of_ble_eq_true rfl, Nat.le_of_ble_eq_true rfl⟩ rfl rfl dX4_gapOfRow_76 ?_
        refine r_lstore (pc := 79) (lv' := [(4, .long (eJ (min (wJ y4) (wJ v_12)))), (2, .long (eJ (max (wJ y2) (wJ v_12)))), (9, .long (eJ v_12)), (8, .int (eI v_5)), (0, .ref (gA G a0)), (1, .ref (gA G a1)), (6, .int (eI x6)), (7, .int (eI x7))]) dX4_gapOfRow_79 (Nat.le_of_ble_eq_true rfl) rfl ?_
        refine r_iload (pc := 81) dX4_gapOfRow_81 3 rfl ?_
        refine r_istore (pc := 83) (lv' := [(6, .int (eI v_5)), (4, .long (eJ (min (wJ y4) (wJ v_12)))), (2, .long (eJ (max (wJ y2) (wJ v_12)))), (9, .long (eJ v_12)), (8, .int (eI v_5)), (0, .ref (gA G a0)), (1, .ref (gA G a1)), (7, .int (eI x7))]) dX4_gapOfRow_83 (Nat.le_of_ble_eq_true rfl) rfl ?_
        refine r_sub (lv' := [(0, .ref (gA G a0)), (1, .ref (gA G a1)), (2, .long (eJ (max (wJ y2) (wJ v_12)))), (4, .long (eJ (min (wJ y4) (wJ v_12)))), (6, .int (eI v_5)), (7, .int (eI x7))]) [5, 6, 2, 1, 0, 7] rfl ?_
        exact bX4_gapOfRow_b85 a0 a1 M oa0 oa1 _ _ _ _ (fun v0 v1 v2 v3 v4 => ih v0 v1 v2 v3 v4) h
set_option maxHeartbeats 4000000 in
set_option maxRecDepth 100000 in
theorem bX4_gapOfRow_b0 {G : GG} (a0 : Nat) (a1 : Nat) (M : MM) (oa0 : OB L0 a0 4) (oa1 : OB L0 a1 5)  {res : Int}  (h : sX4_gapOfRow_b0 a0 a1 M = some res) : VV G xX4_gapOfRow (ZM G xX4_gapOfRow (some (.long (eJ res))) L0 M) L0 M 0 0 0 [(0, .ref (gA G a0)), (1, .ref (gA G a1))] [] := by
  unfold sX4_gapOfRow_b0 at h
  refine r_lconst (pc := 0) (v := 0) dX4_gapOfRow_0 (by decide +kernel) ?_
  refine r_lstore_n (pc := 1) (i := 2) (lv' := [(2, .long (eJ 0)), (0, .ref (gA G a0)), (1, .ref (gA G a1))]) dX4_gapOfRow_1 rfl (Nat.le_of_ble_eq_true rfl) rfl ?_
  refine r_aload_n (pc := 2) (i := 0) dX4_gapOfRow_2 rfl 1 rfl ?_
  refine r_aload_n (pc := 3) (i := 1) dX4_gapOfRow_3 rfl 2 rfl ?_
  obtain ⟨q_1, hq_1, h⟩ := ob h
  refine r_cV (pc := 4) (Y := xX4_ofAll) (As := [.ref (gA G a1)]) (rest := []) (v := (some (.long (eJ q_1)))) (st1 := [.long (eJ q_1)]) ck_X4_gapOfRow_103 (kX4_ofAll a0 a1 M oa0 oa1 hq_1) oa0 rfl rfl rfl rfl (Nat.le_of_ble_eq_true rfl) ⟨rfl, rfl⟩ rfl dX4_gapOfRow_4 ?_
  refine r_lstore (pc := 7) (lv' := [(4, .long (eJ q_1)), (2, .long (eJ 0)), (0, .ref (gA G a0)), (1, .ref (gA G a1))]) dX4_gapOfRow_7 (Nat.le_of_ble_eq_true rfl) rfl ?_
  refine r_iconst (pc := 9) (v := 0) dX4_gapOfRow_9 (by decide +kernel) ?_
  refine r_istore (pc := 10) (lv' := [(6, .int (eI 0)), (4, .long (eJ q_1)), (2, .long (eJ 0)), (0, .ref (gA G a0)), (1, .ref (gA G a1))]) dX4_gapOfRow_10 (Nat.le_of_ble_eq_true rfl) rfl ?_
  refine r_iconst (pc := 12) (v := 0) dX4_gapOfRow_12 (by decide +kernel) ?_
  refine r_istore (pc := 13) (lv' := [(7, .int (eI 0)), (6, .int (eI 0)), (4, .long (eJ q_1)), (2, .long (eJ 0)), (0, .ref (gA G a0)), (1, .ref (gA G a1))]) dX4_gapOfRow_13 (Nat.le_of_ble_eq_true rfl) rfl ?_
  refine r_sub (lv' := [(0, .ref (gA G a0)), (1, .ref (gA G a1)), (2, .long (eJ 0)), (4, .long (eJ q_1)), (6, .int (eI 0)), (7, .int (eI 0))]) [4, 5, 3, 2, 1, 0] rfl ?_
  exact bX4_gapOfRow_b15 a0 a1 M oa0 oa1 _ _ _ _ _ h
theorem kX4_gapOfRow {G : GG} (a0 : Nat) (a1 : Nat) (M : MM) {res : Int} (oa0 : OB L0 a0 4) (oa1 : OB L0 a1 5) (h : sX4_gapOfRow a0 a1 M = some res) : CO G xX4_gapOfRow [.ref (gA G a0), .ref (gA G a1)] L0 M (some (.long (eJ res))) L0 M := CO_of (by decide +kernel) (Nat.le_of_ble_eq_true rfl) (bX4_gapOfRow_b0 a0 a1 M oa0 oa1 h)
