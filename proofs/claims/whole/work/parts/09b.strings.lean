theorem kByt_at {i j : Nat} (hi : i < 28) : (kByt.getD i []).getD j 0 = eI ((kCh i).getD j 0) := by
  unfold kByt
  simp only [List.getD_eq_getElem?_getD, List.getElem?_map, List.getElem?_range hi, Option.map_some, Option.getD_some]
  cases (kCh i)[j]? with
  | none => rfl
  | some v => rfl
theorem kLen_at {i : Nat} (hi : i < 28) : kLen.getD i 0 = (kCh i).length := by
  unfold kLen
  simp only [List.getD_eq_getElem?_getD, List.getElem?_map, List.getElem?_range hi, Option.map_some, Option.getD_some]
theorem kCh_b : ∀ i, i < 28 → ∀ j, j < 8 → 0 ≤ (kCh i).getD j 0 ∧ (kCh i).getD j 0 ≤ 127 ∧ (kCh i).length ≤ 8 := by decide +kernel
theorem r_getsK {G : GG} {X : XX} {Z : ZZ} {L : List LE} {M : MM} {ce sl pc : Nat} {lv : List (Nat × Value)} {st : List Value} {index : Nat} (hw : Cond.fieldLink (xy X).cls index "java/lang/String" "COMPACT_STRINGS" "Z" ∈ lw_good) (hd : decode (xc X) pc = .ok (.getstatic index, 3)) (kk : VV G X Z L M ce sl (pc + 3) lv (.int (eI 1) :: st)) : VV G X Z L M ce sl pc lv (st) := by
  intro p e R s m args below meth c hc he H locs ls hP hD hS hl
  exact va_gets hc.1 hc.2.1 hc.2.2.2.2.2.2.2.2.1.2.1 hS hc.2.2.2.2.1 (hT_of hc hw) (fun _ h => h) hd (kk p e R s m args below meth c hc he H locs ls hP hD hS hl)
theorem r_getKv {G : GG} {X : XX} {Z : ZZ} {L : List LE} {M : MM} {ce sl pc : Nat} {lv : List (Nat × Value)} {st : List Value} {index i : Nat} (hi : i < 28) (hw : Cond.fieldLink (xy X).cls index "java/lang/String" "value" "[B" ∈ lw_good) (hd : decode (xc X) pc = .ok (.getfield index, 3)) (kk : VV G X Z L M ce sl (pc + 3) lv (.ref (gV G i) :: st)) : VV G X Z L M ce sl pc lv (.ref (gK G i) :: st) := by
  intro p e R s m args below meth c hc he H locs ls hP hD hS hl
  exact vk_getf hc.1 hc.2.1 (hc.2.2.2.2.2.2.2.2.1.2.2.1.1 i hi).2.2.1 hS hc.2.2.2.2.1 (hT_of hc hw) (fun _ h => h) hd (kk p e R s m args below meth c hc he H locs ls hP hD hS hl)
theorem r_getKc {G : GG} {X : XX} {Z : ZZ} {L : List LE} {M : MM} {ce sl pc : Nat} {lv : List (Nat × Value)} {st : List Value} {index i : Nat} (hi : i < 28) (hw : Cond.fieldLink (xy X).cls index "java/lang/String" "coder" "B" ∈ lw_good) (hd : decode (xc X) pc = .ok (.getfield index, 3)) (kk : VV G X Z L M ce sl (pc + 3) lv (.int (eI 0) :: st)) : VV G X Z L M ce sl pc lv (.ref (gK G i) :: st) := by
  intro p e R s m args below meth c hc he H locs ls hP hD hS hl
  exact vk_getf hc.1 hc.2.1 (hc.2.2.2.2.2.2.2.2.1.2.2.1.1 i hi).2.1 hS hc.2.2.2.2.1 (hT_of hc hw) (fun _ h => h) hd (kk p e R s m args below meth c hc he H locs ls hP hD hS hl)
theorem r_klen {G : GG} {X : XX} {Z : ZZ} {L : List LE} {M : MM} {ce sl pc : Nat} {lv : List (Nat × Value)} {st : List Value} {i : Nat} (hi : i < 28) (hd : decode (xc X) pc = .ok (.arraylength, 1)) (kk : VV G X Z L M ce sl (pc + 1) lv (.int (eI (((kCh i).length : Nat) : Int)) :: st)) : VV G X Z L M ce sl pc lv (.ref (gV G i) :: st) := by
  intro p e R s m args below meth c hc he H locs ls hP hD hS hl
  exact va_tlen hc.1 hc.2.1 (hc.2.2.2.2.2.2.2.2.1.2.2.1.1 i hi).2.2.2 hS (by rw [kLen_at hi]; rfl) hd (kk p e R s m args below meth c hc he H locs ls hP hD hS hl)
theorem r_kald {G : GG} {X : XX} {Z : ZZ} {L : List LE} {M : MM} {ce sl pc : Nat} {lv : List (Nat × Value)} {st : List Value} {i : Nat} {x x' : Int} (hi : i < 28) (hx : wI x = x') (hin : 0 ≤ x' ∧ x' < (((kCh i).length : Nat) : Int)) (hd : decode (xc X) pc = .ok (.baload, 1)) (kk : VV G X Z L M ce sl (pc + 1) lv (.int (eI ((kCh i).getD x'.toNat 0)) :: st)) : VV G X Z L M ce sl pc lv (.int (eI x) :: .ref (gV G i) :: st) := by
  subst hx
  intro p e R s m args below meth c hc he H locs ls hP hD hS hl
  refine va_tb hc.1 hc.2.1 (hc.2.2.2.2.2.2.2.2.1.2.2.1.1 i hi).2.2.2 hS (eI_in (by rw [kLen_at hi]; exact hin)) (v := .int (eI ((kCh i).getD (wI x).toNat 0))) ?_ hd (kk p e R s m args below meth c hc he H locs ls hP hD hS hl)
  rw [eI_clamp, kByt_at hi]
theorem r_getsF {G : GG} {X : XX} {Z : ZZ} {L : List LE} {M : MM} {ce sl pc : Nat} {lv : List (Nat × Value)} {st : List Value} {index : Nat} (hw : Cond.fieldLink (xy X).cls index "jdk/internal/util/Preconditions" "SIOOBE_FORMATTER" "Ljava/util/function/BiFunction;" ∈ lw_good) (hd : decode (xc X) pc = .ok (.getstatic index, 3)) (kk : ∀ n, VV G X Z L M ce sl (pc + 3) lv (va_rf n :: st)) : VV G X Z L M ce sl pc lv (st) := by
  intro p e R s m args below meth c hc he H locs ls hP hD hS hl
  rcases hc.2.2.2.2.2.2.2.2.1.2.2.2.2.2 with hZ | ⟨t, hZ⟩
  · exact va_gets hc.1 hc.2.1 hZ hS hc.2.2.2.2.1 (hT_of hc hw) (fun _ h => h) hd (kk none p e R s m args below meth c hc he H locs ls hP hD hS hl)
  · exact va_gets hc.1 hc.2.1 hZ hS hc.2.2.2.2.1 (hT_of hc hw) (fun _ h => h) hd (kk (some t) p e R s m args below meth c hc he H locs ls hP hD hS hl)
theorem r_i2c {G : GG} {X : XX} {Z : ZZ} {L : List LE} {M : MM} {ce sl pc : Nat} {lv : List (Nat × Value)} {st : List Value} {x : Int} (h : 0 ≤ x ∧ x < 65536) (hd : decode (xc X) pc = .ok (.i2c, 1)) (kk : VV G X Z L M ce sl (pc + 1) lv (.int (eI x) :: st)) : VV G X Z L M ce sl pc lv (.int (eI x) :: st) := by
  intro p e R s m args below meth c hc he H locs ls hP hD hS hl
  exact lv_i2c hc.1 hc.2.1 hd (lg_i2c_word (by rw [eI_toInt, wI_of (by omega) (by omega)]; omega) (by rw [eI_toInt, wI_of (by omega) (by omega)]; omega)) (kk p e R s m args below meth c hc he H locs ls hP hD hS hl)
theorem r_callK {G : GG} {X : XX} {Z : ZZ} {L : List LE} {M : MM} {ce sl pc : Nat} {lv : List (Nat × Value)} {st : List Value} {Y : XX} {i index n : Nat} {As rest : List Value} {v : Option Value} {L' : List LE} {M' : MM} (hk : CKV X index Y n) (hC : CO G Y (.ref (gK G i) :: As) L M v L' M') (hi : i < 28) (hcn : (xy Y).cls = "java/lang/String") (hst : st = As.reverse ++ .ref (gK G i) :: rest) (hn : As.length = n) (hcat : (rest.map fun v => v.category).sum ≤ 8) (hf : ce + xmc Y ≤ xmc X ∧ sl + xms Y ≤ xms X) (hd : decode (xc X) pc = .ok (.invokevirtual index, 3)) (kk : VV G X Z L' M' (ce + xmc Y) (sl + xms Y) (pc + 3) lv (v.toList ++ rest)) : VV G X Z L M ce sl pc lv (st) := by
  refine VV_run (av := (Value.ref (gK G i) :: As).toArray) (Y := Y) (rest := rest) (fun p e R s m args below meth c H locs ls hc hP hD hS hl => ?_) kk
  obtain ⟨⟨k1, k2, k3, k4, k5, k6⟩, k7, k8⟩ := hk
  obtain ⟨f1, f2, f3, f4⟩ := hc.2.2.2.2.2.2.2.2.2.2.2
  have hG := GoodIn_T k3
  refine va_runV (As := As) (rest := rest) (C := (xy Y).cls) (bytes := xc Y) (maxL := xn Y) (ret := xr Y) ⟨hc.1, hc.2.1, hc.2.2.2.1, hc.2.2.2.2.1, hc.2.2.2.2.2.1⟩ hC ⟨callB_of n hc.2.2.2.2.2.1 hG rfl rfl rfl (hT_of hc k2) (hT_of hc k1) k4 ⟨Nat.le_trans k5 f1, Nat.le_trans k6 f2⟩, hT_of hc k7, hT_of hc k8⟩ ⟨RS_blind, ?_, fun U hU hW => ⟨rfl, RS_at hc.2.2.2.2.2.2.2.2.2.2.1 hc.2.2.2.2.2.2.2.1 hc.2.2.2.2.2.2.2.2.1 hP hD hS hU hW⟩⟩ rfl hn hl hst (lv_room hcat) hd ⟨Nat.le_trans hf.1 f3, Nat.le_trans hf.2 f4⟩
  rw [hcn]
  exact vk_recv hc.2.2.2.2.2.2.2.2.1.2.2.1 hi hS
theorem r_cK {G : GG} {X : XX} {Z : ZZ} {L : List LE} {M : MM} {pc : Nat} {lv : List (Nat × Value)} {st : List Value} {Y : XX} {i index n : Nat} {As rest st1 : List Value} {v : Option Value} {L' : List LE} {M' : MM} (hk : CKV X index Y n) (hC : CO G Y (.ref (gK G i) :: As) L M v L' M') (hi : i < 28) (hcn : (xy Y).cls = "java/lang/String") (hst : st = As.reverse ++ .ref (gK G i) :: rest) (hn : As.length = n) (hcat : (rest.map fun v => v.category).sum ≤ 8) (hz : xmc Y = 0 ∧ xms Y = 0) (hs : v.toList ++ rest = st1) (hd : decode (xc X) pc = .ok (.invokevirtual index, 3)) (kk : VV G X Z L' M' 0 0 (pc + 3) lv st1) : VV G X Z L M 0 0 pc lv st := by
  refine r_callK hk hC hi hcn hst hn hcat ⟨by rw [hz.1]; exact Nat.zero_le _, by rw [hz.2]; exact Nat.zero_le _⟩ hd ?_
  rw [hz.1, hz.2, hs]
  exact kk
abbrev xJ3_checkIndex_8e157 : XX := (yJ3_checkIndex_8e157, cJ3_checkIndex_8e157, 3, some .int, 0, 0, 0, 0)
abbrev xJ0_checkIndex_df160 : XX := (yJ0_checkIndex_df160, cJ0_checkIndex_df160, 2, none, 1, 22, 0, 0)
abbrev xJ1_charAt_3b067 : XX := (yJ1_charAt_3b067, cJ1_charAt_3b067, 2, some .char, 2, 43, 0, 0)
abbrev xJ0_isLatin1_aae02 : XX := (yJ0_isLatin1_aae02, cJ0_isLatin1_aae02, 1, some .boolean, 0, 0, 0, 0)
abbrev xJ0_coder_7d493 : XX := (yJ0_coder_7d493, cJ0_coder_7d493, 1, some .byte, 0, 0, 0, 0)
abbrev xJ0_length_8abf5 : XX := (yJ0_length_8abf5, cJ0_length_8abf5, 1, some .int, 1, 20, 0, 0)
abbrev xJ0_charAt_5068e : XX := (yJ0_charAt_5068e, cJ0_charAt_5068e, 2, some .char, 3, 64, 0, 0)
def sJ0_length_8abf5 (s0 : Nat) : Int := ((kCh s0).length : Nat)
def sJ0_charAt_5068e (s0 : Nat) (x1 : Int) : Option Int := if 0 ≤ wI x1 ∧ wI x1 < (((kCh s0).length : Nat) : Int) then some ((kCh s0).getD (wI x1).toNat 0) else none
theorem ckJ_1 : CKS xJ0_checkIndex_df160 1059 xJ3_checkIndex_8e157 3 := ⟨⟨tb_i 742 (by decide +kernel) (by decide +kernel), tb_i 155 (by decide +kernel) (by decide +kernel), tb_i 744 (by decide +kernel) (by decide +kernel), ⟨by decide +kernel, by decide +kernel, by decide +kernel⟩, by decide, by decide⟩, tb_i 743 (by decide +kernel) (by decide +kernel)⟩
theorem ckJ_2 : CKS xJ1_charAt_3b067 9 xJ0_checkIndex_df160 2 := ⟨⟨tb_i 737 (by decide +kernel) (by decide +kernel), tb_i 153 (by decide +kernel) (by decide +kernel), tb_i 739 (by decide +kernel) (by decide +kernel), ⟨by decide +kernel, by decide +kernel, by decide +kernel⟩, by decide, by decide⟩, tb_i 738 (by decide +kernel) (by decide +kernel)⟩
theorem ckJ_3 : CKV xJ0_charAt_5068e 492 xJ0_isLatin1_aae02 0 := ⟨⟨tb_i 730 (by decide +kernel) (by decide +kernel), tb_i 153 (by decide +kernel) (by decide +kernel), tb_i 733 (by decide +kernel) (by decide +kernel), ⟨by decide +kernel, by decide +kernel, by decide +kernel⟩, by decide, by decide⟩, tb_i 731 (by decide +kernel) (by decide +kernel), tb_i 732 (by decide +kernel) (by decide +kernel)⟩
theorem ckJ_4 : CKS xJ0_charAt_5068e 495 xJ1_charAt_3b067 2 := ⟨⟨tb_i 734 (by decide +kernel) (by decide +kernel), tb_i 154 (by decide +kernel) (by decide +kernel), tb_i 736 (by decide +kernel) (by decide +kernel), ⟨by decide +kernel, by decide +kernel, by decide +kernel⟩, by decide, by decide⟩, tb_i 735 (by decide +kernel) (by decide +kernel)⟩
theorem ckJ_5 : CKV xJ0_length_8abf5 335 xJ0_coder_7d493 0 := ⟨⟨tb_i 720 (by decide +kernel) (by decide +kernel), tb_i 153 (by decide +kernel) (by decide +kernel), tb_i 723 (by decide +kernel) (by decide +kernel), ⟨by decide +kernel, by decide +kernel, by decide +kernel⟩, by decide, by decide⟩, tb_i 721 (by decide +kernel) (by decide +kernel), tb_i 722 (by decide +kernel) (by decide +kernel)⟩
theorem w1_1 : wI 1 = 1 := by decide +kernel
theorem w1_255 : wI 255 = 255 := by decide +kernel
theorem kJ3_checkIndex {G : GG} (x0 x1 : Int) (n : Option Nat) (M : MM) (h : 0 ≤ wI x0 ∧ wI x0 < wI x1) : CO G xJ3_checkIndex_8e157 [.int (eI x0), .int (eI x1), va_rf n] L0 M (some (.int (eI x0))) L0 M := by
  have hlen : (lg_sl [.int (eI x0), .int (eI x1), va_rf n]).length ≤ xn xJ3_checkIndex_8e157 := by cases n <;> exact Nat.le_of_ble_eq_true rfl
  refine CO_of (by decide +kernel) hlen ?_
  refine r_sub (lv' := [(0, .int (eI x0)), (1, .int (eI x1))]) [0, 1] (by cases n <;> rfl) ?_
  refine r_iload_n (pc := 0) (i := 0) dJ3_checkIndex_8e157_0 rfl 0 rfl ?_
  refine r_if_lt (pc := 1) (tgt := 9) dJ3_checkIndex_8e157_1 (by decide) rfl (fun c => absurd c (by omega)) (fun _ => ?_)
  refine r_iload_n (pc := 4) (i := 0) dJ3_checkIndex_8e157_4 rfl 0 rfl ?_
  refine r_iload_n (pc := 5) (i := 1) dJ3_checkIndex_8e157_5 rfl 1 rfl ?_
  refine r_icmp_lt (pc := 6) (tgt := 16) dJ3_checkIndex_8e157_6 (by decide) rfl rfl (fun _ => ?_) (fun c => absurd h.2 c)
  refine r_iload_n (pc := 16) (i := 0) dJ3_checkIndex_8e157_16 rfl 0 rfl ?_
  exact r_iret (pc := 17) rfl rfl (Nat.le_refl 0) (Nat.le_refl 0) dJ3_checkIndex_8e157_17
theorem kJ0_checkIndex {G : GG} (x0 x1 : Int) (M : MM) (h : 0 ≤ wI x0 ∧ wI x0 < wI x1) : CO G xJ0_checkIndex_df160 [.int (eI x0), .int (eI x1)] L0 M none L0 M := by
  refine CO_of (by decide +kernel) (Nat.le_of_ble_eq_true rfl) ?_
  refine r_sub (lv' := [(0, .int (eI x0)), (1, .int (eI x1))]) [0, 1] rfl ?_
  refine r_iload_n (pc := 0) (i := 0) dJ0_checkIndex_df160_0 rfl 0 rfl ?_
  refine r_iload_n (pc := 1) (i := 1) dJ0_checkIndex_df160_1 rfl 1 rfl ?_
  refine r_getsF (pc := 2) (tb_i 740 (by decide +kernel) (by decide +kernel)) dJ0_checkIndex_df160_2 (fun n => ?_)
  refine r_cS (pc := 5) (Y := xJ3_checkIndex_8e157) (As := [.int (eI x0), .int (eI x1), va_rf n]) (rest := []) (v := some (.int (eI x0))) (st1 := [.int (eI x0)]) ckJ_1 (kJ3_checkIndex x0 x1 n M h) rfl rfl (Nat.le_of_ble_eq_true rfl) ⟨rfl, rfl⟩ rfl dJ0_checkIndex_df160_5 ?_
  refine r_pop (pc := 8) dJ0_checkIndex_df160_8 rfl ?_
  exact r_vret (pc := 9) rfl (Nat.le_refl 0) (Nat.le_refl 0) dJ0_checkIndex_df160_9
theorem kJ1_charAt {G : GG} (i : Nat) (x1 : Int) (M : MM) (hi : i < 28) (h : 0 ≤ wI x1 ∧ wI x1 < (((kCh i).length : Nat) : Int)) : CO G xJ1_charAt_3b067 [.ref (gV G i), .int (eI x1)] L0 M (some (.int (eI ((kCh i).getD (wI x1).toNat 0)))) L0 M := by
  have hq := kCh_b i hi 0 (by decide)
  have hb := kCh_b i hi (wI x1).toNat (by omega)
  have hw : wI (((kCh i).length : Nat) : Int) = (((kCh i).length : Nat) : Int) := wI_of (by omega) (by omega)
  refine CO_of (by decide +kernel) (Nat.le_of_ble_eq_true rfl) ?_
  refine r_sub (lv' := [(0, .ref (gV G i)), (1, .int (eI x1))]) [0, 1] rfl ?_
  refine r_iload_n (pc := 0) (i := 1) dJ1_charAt_3b067_0 rfl 1 rfl ?_
  refine r_aload_n (pc := 1) (i := 0) dJ1_charAt_3b067_1 rfl 0 rfl ?_
  refine r_klen (pc := 2) hi dJ1_charAt_3b067_2 ?_
  refine r_cS (pc := 3) (Y := xJ0_checkIndex_df160) (As := [.int (eI x1), .int (eI (((kCh i).length : Nat) : Int))]) (rest := []) (v := none) (st1 := []) ckJ_2 (kJ0_checkIndex x1 _ M (by rw [hw]; exact h)) rfl rfl (Nat.le_of_ble_eq_true rfl) ⟨rfl, rfl⟩ rfl dJ1_charAt_3b067_3 ?_
  refine r_aload_n (pc := 6) (i := 0) dJ1_charAt_3b067_6 rfl 0 rfl ?_
  refine r_iload_n (pc := 7) (i := 1) dJ1_charAt_3b067_7 rfl 1 rfl ?_
  refine r_kald (pc := 8) hi rfl h dJ1_charAt_3b067_8 ?_
  refine r_sipush (pc := 9) (v := 255) dJ1_charAt_3b067_9 (by decide +kernel) ?_
  refine r_iand (pc := 12) 8 (by decide) w1_255 (m' := 256) rfl dJ1_charAt_3b067_12 ?_
  generalize (kCh i).getD (wI x1).toNat 0 = v at hb ⊢
  have hv : v % 256 = v := by omega
  rw [hv]
  refine r_i2c (pc := 13) (by omega) dJ1_charAt_3b067_13 ?_
  obtain ⟨n, rfl⟩ : ∃ n : Nat, v = (n : Int) := ⟨v.toNat, by omega⟩
  exact r_iret (pc := 14) (t := .char) rfl (pk_charN (q := n) (by omega)).1 (Nat.le_refl 0) (Nat.le_refl 0) dJ1_charAt_3b067_14
theorem kJ0_isLatin1 {G : GG} (i : Nat) (M : MM) (hi : i < 28) : CO G xJ0_isLatin1_aae02 [.ref (gK G i)] L0 M (some (.int (eI 1))) L0 M := by
  refine CO_of (by decide +kernel) (Nat.le_of_ble_eq_true rfl) ?_
  refine r_sub (lv' := [(0, .ref (gK G i))]) [0] rfl ?_
  refine r_getsK (pc := 0) (tb_i 724 (by decide +kernel) (by decide +kernel)) dJ0_isLatin1_aae02_0 ?_
  refine r_if_eq (pc := 3) (tgt := 17) dJ0_isLatin1_aae02_3 (by decide) w1_1 (fun c => absurd c (by decide)) (fun _ => ?_)
  refine r_aload_n (pc := 6) (i := 0) dJ0_isLatin1_aae02_6 rfl 0 rfl ?_
  refine r_getKc (pc := 7) hi (tb_i 2206 (by decide +kernel) (by decide +kernel)) dJ0_isLatin1_aae02_7 ?_
  refine r_if_ne (pc := 10) (tgt := 17) dJ0_isLatin1_aae02_10 (by decide) wI_0 (fun c => absurd rfl c) (fun _ => ?_)
  refine r_iconst (pc := 13) (v := 1) dJ0_isLatin1_aae02_13 (by decide +kernel) ?_
  refine r_goto (pc := 14) (tgt := 18) dJ0_isLatin1_aae02_14 (by decide) ?_
  exact r_iret (pc := 18) rfl (by decide +kernel) (Nat.le_refl 0) (Nat.le_refl 0) dJ0_isLatin1_aae02_18
theorem kJ0_coder {G : GG} (i : Nat) (M : MM) (hi : i < 28) : CO G xJ0_coder_7d493 [.ref (gK G i)] L0 M (some (.int (eI 0))) L0 M := by
  refine CO_of (by decide +kernel) (Nat.le_of_ble_eq_true rfl) ?_
  refine r_sub (lv' := [(0, .ref (gK G i))]) [0] rfl ?_
  refine r_getsK (pc := 0) (tb_i 724 (by decide +kernel) (by decide +kernel)) dJ0_coder_7d493_0 ?_
  refine r_if_eq (pc := 3) (tgt := 13) dJ0_coder_7d493_3 (by decide) w1_1 (fun c => absurd c (by decide)) (fun _ => ?_)
  refine r_aload_n (pc := 6) (i := 0) dJ0_coder_7d493_6 rfl 0 rfl ?_
  refine r_getKc (pc := 7) hi (tb_i 2206 (by decide +kernel) (by decide +kernel)) dJ0_coder_7d493_7 ?_
  refine r_goto (pc := 10) (tgt := 14) dJ0_coder_7d493_10 (by decide) ?_
  exact r_iret (pc := 14) rfl (by decide +kernel) (Nat.le_refl 0) (Nat.le_refl 0) dJ0_coder_7d493_14
theorem kJ0_length_8abf5 {G : GG} (i : Nat) (M : MM) (hi : i < 28) : CO G xJ0_length_8abf5 [.ref (gK G i)] L0 M (some (.int (eI (sJ0_length_8abf5 i)))) L0 M := by
  have hq := kCh_b i hi 0 (by decide)
  refine CO_of (by decide +kernel) (Nat.le_of_ble_eq_true rfl) ?_
  refine r_sub (lv' := [(0, .ref (gK G i))]) [0] rfl ?_
  refine r_aload_n (pc := 0) (i := 0) dJ0_length_8abf5_0 rfl 0 rfl ?_
  refine r_getKv (pc := 1) hi (tb_i 2205 (by decide +kernel) (by decide +kernel)) dJ0_length_8abf5_1 ?_
  refine r_klen (pc := 4) hi dJ0_length_8abf5_4 ?_
  refine r_aload_n (pc := 5) (i := 0) dJ0_length_8abf5_5 rfl 0 rfl ?_
  refine r_cK (pc := 6) (Y := xJ0_coder_7d493) (As := []) (rest := [.int (eI (((kCh i).length : Nat) : Int))]) (v := some (.int (eI 0))) (st1 := [.int (eI 0), .int (eI (((kCh i).length : Nat) : Int))]) ckJ_5 (kJ0_coder i M hi) hi rfl rfl rfl (Nat.le_of_ble_eq_true rfl) ⟨rfl, rfl⟩ rfl dJ0_length_8abf5_6 ?_
  refine r_ishr (pc := 9) rfl wI_0 ⟨by decide, by decide⟩ dJ0_length_8abf5_9 ?_
  have hv : wI (((kCh i).length : Nat) : Int) / 2 ^ (Int.toNat 0) = sJ0_length_8abf5 i := by
    rw [wI_of (by omega) (by omega)]; simp [sJ0_length_8abf5]
  rw [hv]
  exact r_iret (pc := 10) rfl rfl (Nat.le_refl 0) (Nat.le_refl 0) dJ0_length_8abf5_10
theorem kJ0_charAt_5068e {G : GG} (i : Nat) (x1 : Int) (M : MM) {res : Int} (hi : i < 28) (h : sJ0_charAt_5068e i x1 = some res) : CO G xJ0_charAt_5068e [.ref (gK G i), .int (eI x1)] L0 M (some (.int (eI res))) L0 M := by
  unfold sJ0_charAt_5068e at h
  obtain ⟨c, h⟩ := og h
  have hb := kCh_b i hi (wI x1).toNat (by have := kCh_b i hi 0 (by decide); omega)
  refine CO_of (by decide +kernel) (Nat.le_of_ble_eq_true rfl) ?_
  refine r_sub (lv' := [(0, .ref (gK G i)), (1, .int (eI x1))]) [0, 1] rfl ?_
  refine r_aload_n (pc := 0) (i := 0) dJ0_charAt_5068e_0 rfl 0 rfl ?_
  refine r_cK (pc := 1) (Y := xJ0_isLatin1_aae02) (As := []) (rest := []) (v := some (.int (eI 1))) (st1 := [.int (eI 1)]) ckJ_3 (kJ0_isLatin1 i M hi) hi rfl rfl rfl (Nat.le_of_ble_eq_true rfl) ⟨rfl, rfl⟩ rfl dJ0_charAt_5068e_1 ?_
  refine r_if_eq (pc := 4) (tgt := 16) dJ0_charAt_5068e_4 (by decide) w1_1 (fun c => absurd c (by decide)) (fun _ => ?_)
  refine r_aload_n (pc := 7) (i := 0) dJ0_charAt_5068e_7 rfl 0 rfl ?_
  refine r_getKv (pc := 8) hi (tb_i 2205 (by decide +kernel) (by decide +kernel)) dJ0_charAt_5068e_8 ?_
  refine r_iload_n (pc := 11) (i := 1) dJ0_charAt_5068e_11 rfl 1 rfl ?_
  cases h
  refine r_cS (pc := 12) (Y := xJ1_charAt_3b067) (As := [.ref (gV G i), .int (eI x1)]) (rest := []) (v := some (.int (eI ((kCh i).getD (wI x1).toNat 0)))) (st1 := [.int (eI ((kCh i).getD (wI x1).toNat 0))]) ckJ_4 (kJ1_charAt i x1 M hi c) rfl rfl (Nat.le_of_ble_eq_true rfl) ⟨rfl, rfl⟩ rfl dJ0_charAt_5068e_12 ?_
  generalize (kCh i).getD (wI x1).toNat 0 = v at hb ⊢
  obtain ⟨n, rfl⟩ : ∃ n : Nat, v = (n : Int) := ⟨v.toNat, by omega⟩
  exact r_iret (pc := 15) (t := .char) rfl (pk_charN (q := n) (by omega)).1 (Nat.le_refl 0) (Nat.le_refl 0) dJ0_charAt_5068e_15
