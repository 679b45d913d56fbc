/-- two strings at one address are one -/
theorem str_one {s : State} {H : Heap} {A : Nat → Prop} {q v v' n n' : Nat} {b b' : List Int32} (h1 : va_OF "java/lang/String" "value" "[B" (.ref v) q A s H) (h2 : va_OF "java/lang/String" "value" "[B" (.ref v') q A s H) (t1 : va_T .byte v n (fun j => .int (b.getD j 0)) A s H) (t2 : va_T .byte v' n' (fun j => .int (b'.getD j 0)) A s H) (hn : n < 100) (hn' : n' < 100) : n = n' ∧ ∀ k, k < n → b.getD k 0 = b'.getD k 0 := by
  obtain ⟨cf, k, i, f, cell, a1, a2, a3, a4, a5, a6⟩ := h1
  obtain ⟨cf', k', i', f', cell', b1, b2, b3, b4, b5, b6⟩ := h2
  have e1 := a1.symm.trans b1
  cases e1
  have e2 := a3.symm.trans b3
  cases e2
  have e3 := a5.symm.trans b5
  cases e3
  obtain ⟨c1, d1, d2, d3, d4, d5, d6, d7⟩ := t1
  obtain ⟨c2, g1, g2, g3, g4, g5, g6, g7⟩ := t2
  have e4 := d1.symm.trans g1
  cases e4
  have e5 : n = n' := by
    have e := d5.symm.trans g5
    have h1 : (Int32.ofNat n).toInt = (Int32.ofNat n').toInt := by rw [e]
    rw [Int32.toInt_ofNat_of_lt (by omega), Int32.toInt_ofNat_of_lt (by omega)] at h1
    omega
  subst e5
  refine ⟨rfl, fun k hk => ?_⟩
  have e := (d6 k hk).symm.trans (g6 k hk)
  have e7 : Value.int (b.getD k 0) = Value.int (b'.getD k 0) := Option.some.inj e
  injection e7
theorem arr_p {s : State} {args : Array Value} {ty : FieldType} (h : (Cond.arrayClass ty).before args s = true) : ∃ c : ClassId, ArrOfT s c ty ∧ s.vm.findClass ("[" ++ ty.toString) = some c := by
  obtain ⟨c, k, comp, h1, h2, h3⟩ := Cond.arrayClass_spec h
  exact ⟨c, fun n z => ⟨fun k h => (by cases h), k, h2, comp, h3⟩, h1⟩
theorem arr_o {s : State} {args : Array Value} {C : String} (h : (Cond.arrayOver (.object C)).before args s = true) : ∃ c : ClassId, ArrOfT s c (.object C) ∧ va_RA s c (.object C) := by
  obtain ⟨comp, c, k, h1, h2, h3, h4, h5⟩ := Cond.arrayOver_spec h
  exact ⟨c, fun n z => ⟨fun k h => (by cases h), k, h3, comp, h4⟩, k, comp, h3, h4, h1, h5⟩
theorem start_G (l : Launch) {s : State} {args : Array Value} (hts : ∀ w ∈ lw_tbl, w.before args s = true) (hgv : (Jvm.Cond.and given_1 narrow_1).before args s = true) : ∃ G : GG, gl G = l ∧ gB G = s.heap.size ∧ va_K (gD G) vwCl (tysO G) s ∧ ST G s ∧ AOs s := by
  have hf := flat_of_before _ hgv
  have fl : ∀ {w : Cond}, w ∈ FL → w.before args s = true := fun h => hf _ h
  have tb : ∀ {w : Cond} (i : Nat), lw_tbl[i]? = some w → w.before args s = true := fun i h => hts _ (List.mem_of_getElem? h)
  have hgood : ∀ w ∈ lw_good, w.before args s = true := fun w hw => hts w (List.mem_filter.mp hw).1
  have hA : ∀ a : Nat, a < s.heap.size → ¬ (fun q : Nat => s.heap.size ≤ q) a := fun a ha h => absurd ha (Nat.not_lt.mpr h)
  -- the tables
  have hini := tb 139 sp_6
  have arr : ∀ j, j < 5 → (Cond.laysStatic RX11 (sN j) (sD j)).before args s = true → ∃ t : Nat, va_Z RX11 (sN j) (sD j) (.ref t) (fun q : Nat => s.heap.size ≤ q) s s.heap ∧ va_T (sY j) t (sT j).length (sF j) (fun q : Nat => s.heap.size ≤ q) s s.heap := by
    intro j hj hl
    have h1 := fl (wA_m j hj _ (List.mem_cons_self ..))
    have h2 := va_eqt (fl (wA_m j hj _ (List.mem_cons_of_mem _ (List.mem_cons_self ..))))
    have hlen : (sT j).length < 2 ^ 31 := by
      rcases (show j = 0 ∨ j = 1 ∨ j = 2 ∨ j = 3 ∨ j = 4 by omega) with rfl | rfl | rfl | rfl | rfl <;> decide
    have h3 : ∀ k : Nat, k < (sT j).length → (Term.elem (tA j) (.int (Int32.ofNat k))).eval args s none [] s = some (sF j k) := by
      intro k hk
      have hm := fl (wA_m j hj _ (List.mem_cons_of_mem _ (List.mem_cons_of_mem _ (List.mem_map.mpr ⟨k, List.mem_range.mpr hk, rfl⟩))))
      by_cases h4 : j = 4
      · rw [if_pos h4] at hm
        unfold sF
        rw [if_pos h4]
        exact va_eqtl hm
      · rw [if_neg h4] at hm
        unfold sF
        rw [if_neg h4]
        exact va_eqt hm
    obtain ⟨t, e1, e2⟩ := va_Tof (A := fun q : Nat => s.heap.size ≤ q) hlen h1 h2 h3 hA
    exact ⟨t, va_Zof hl hini e1 hA, e2⟩
  obtain ⟨t0, z0⟩ := arr 0 (by omega) (tb 680 sp_4.1)
  obtain ⟨t1, z1⟩ := arr 1 (by omega) (tb 777 sp_4.2.1)
  obtain ⟨t2, z2⟩ := arr 2 (by omega) (tb 783 sp_4.2.2.1)
  obtain ⟨t3, z3⟩ := arr 3 (by omega) (tb 785 sp_4.2.2.2.1)
  obtain ⟨t4, z4⟩ := arr 4 (by omega) (tb 1076 sp_4.2.2.2.2)
  -- the strings
  have str : ∀ i : Nat, ∃ q : Nat × Nat, i < 28 → (va_O "java/lang/String" q.1 (fun q : Nat => s.heap.size ≤ q) s s.heap ∧ va_OF "java/lang/String" "coder" "B" (.int 0) q.1 (fun q : Nat => s.heap.size ≤ q) s s.heap ∧ va_OF "java/lang/String" "value" "[B" (.ref q.2) q.1 (fun q : Nat => s.heap.size ≤ q) s s.heap ∧ va_T .byte q.2 (nN.getD i 0) (fun j => .int ((nL.getD i []).getD j 0)) (fun q : Nat => s.heap.size ≤ q) s s.heap) ∧ (tS i).eval args s none [] s = some (.ref q.1) := by
    intro i
    by_cases hi : i < 28
    · have um := wS_m i hi
      have u1 := fl (um _ (List.mem_cons_self ..))
      have u2 := fl (um _ (List.mem_cons_of_mem _ (List.mem_cons_self ..)))
      have u3 := fl (um _ (List.mem_cons_of_mem _ (List.mem_cons_of_mem _ (List.mem_cons_self ..))))
      have u4 := fl (um _ (List.mem_cons_of_mem _ (List.mem_cons_of_mem _ (List.mem_cons_of_mem _ (List.mem_cons_self ..)))))
      have u5 : ∀ k : Nat, k < nN.getD i 0 → (Cond.eq (.elem (tV i) (.int (Int32.ofNat k))) (.int ((nL.getD i []).getD k 0))).before args s = true := fun k hk => fl (um _ (List.mem_cons_of_mem _ (List.mem_cons_of_mem _ (List.mem_cons_of_mem _ (List.mem_cons_of_mem _ (List.mem_map.mpr ⟨k, List.mem_range.mpr hk, rfl⟩))))))
      obtain ⟨adK, adV, w1, w2⟩ := vk_Sof (N := 1) (tm := fun _ => tS i) (len := [nN.getD i 0]) (byt := [nL.getD i []]) (A := fun q : Nat => s.heap.size ≤ q) (args := args) (s := s) (fun j hj => by rw [show j = 0 by omega]; exact Nat.lt_trans (st_4 i hi) (by decide)) (fun j hj => u1) (fun j hj => u2) (fun j hj => u3) (fun j hj => by rw [show j = 0 by omega]; exact u4) (fun j hj k hk => by rw [show j = 0 by omega] at hk ⊢; exact u5 k hk) (fun j k hj hk hjk => absurd (show j = k by omega) hjk) hA
      exact ⟨(adK 0, adV 0), fun _ => ⟨w1.1 0 (by omega), w2 0 (by omega)⟩⟩
    · exact ⟨(0, 0), fun h => absurd h hi⟩
  obtain ⟨ad, had⟩ := Classical.axiomOfChoice str
  have hS : vk_S 28 kLen kByt (fun i => (ad i).1) (fun i => (ad i).2) (fun q : Nat => s.heap.size ≤ q) s s.heap := by
    rw [kb_e, kl_e]
    refine ⟨fun i hi => (had i hi).1, fun i j hi hj e => ?_⟩
    obtain ⟨⟨-, -, v1, v2⟩, -⟩ := had i hi
    obtain ⟨⟨-, -, y1, y2⟩, -⟩ := had j hj
    have e' : (ad i).1 = (ad j).1 := e
    rw [← e'] at y1
    obtain ⟨x1, x2⟩ := str_one v1 y1 v2 y2 (st_4 i hi) (st_4 j hj)
    exact st_5 i hi j hj x1 x2
  obtain ⟨c0, i0, n0⟩ := u_known (C := RX0) (T := TX0) (N := clN 0) (n := clN 0) hgood inX0 (hgood _ (tb_i 565 (by decide +kernel) (by decide +kernel)))
  obtain ⟨c1, i1, n1⟩ := u_known (C := RX1) (T := TX1) (N := clN 1) (n := clN 1) hgood inX1 (hgood _ (tb_i 321 (by decide +kernel) (by decide +kernel)))
  obtain ⟨c2, i2, n2⟩ := u_known (C := RX2) (T := TX2) (N := clN 2) (n := clN 2) hgood inX2 (hgood _ (tb_i 513 (by decide +kernel) (by decide +kernel)))
  obtain ⟨c3, i3, n3⟩ := u_known (C := RX3) (T := TX3) (N := clN 3) (n := clN 3) hgood inX3 (hgood _ (tb_i 278 (by decide +kernel) (by decide +kernel)))
  obtain ⟨c4, i4, n4⟩ := u_known (C := RX4) (T := TX4) (N := clN 4) (n := clN 4) hgood inX4 (hgood _ (tb_i 529 (by decide +kernel) (by decide +kernel)))
  obtain ⟨c5, i5, n5⟩ := u_known (C := RX5) (T := TX5) (N := clN 5) (n := clN 5) hgood inX5 (hgood _ (tb_i 180 (by decide +kernel) (by decide +kernel)))
  obtain ⟨c6, i6, n6⟩ := u_known (C := RX6) (T := TX6) (N := clN 6) (n := clN 6) hgood inX6 (hgood _ (tb_i 464 (by decide +kernel) (by decide +kernel)))
  obtain ⟨c7, i7, n7⟩ := u_known (C := RX7) (T := TX7) (N := clN 7) (n := clN 7) hgood inX7 (hgood _ (tb_i 402 (by decide +kernel) (by decide +kernel)))
  obtain ⟨c8, i8, n8⟩ := u_known (C := RX8) (T := TX8) (N := clN 8) (n := clN 8) hgood inX8 (hgood _ (tb_i 341 (by decide +kernel) (by decide +kernel)))
  obtain ⟨c9, i9, n9⟩ := u_known (C := RX9) (T := TX9) (N := clN 9) (n := clN 9) hgood inX9 (hgood _ (tb_i 167 (by decide +kernel) (by decide +kernel)))
  obtain ⟨c10, i10, n10⟩ := u_known (C := RX10) (T := TX10) (N := clN 10) (n := clN 10) hgood inX10 (hgood _ (tb_i 551 (by decide +kernel) (by decide +kernel)))
  obtain ⟨c11, i11, n11⟩ := u_known (C := RX11) (T := TX11) (N := clN 11) (n := clN 11) hgood inX11 (hgood _ (tb_i 159 (by decide +kernel) (by decide +kernel)))
  obtain ⟨c12, i12, n12⟩ := u_known (C := RX12) (T := TX12) (N := clN 12) (n := clN 12) hgood inX12 (hgood _ (tb_i 1400 (by decide +kernel) (by decide +kernel)))
  obtain ⟨y1, p1, r1⟩ := arr_p (tb 277 sp_8.1)
  obtain ⟨y2, p2, r2⟩ := arr_p (tb 527 sp_8.2.1)
  obtain ⟨y3, p3, r3⟩ := arr_p (tb 276 sp_8.2.2.1)
  obtain ⟨y4, p4, r4⟩ := arr_p (tb 462 sp_8.2.2.2)
  obtain ⟨y5, p5, r5⟩ := arr_o (tb 177 sp_7.1)
  obtain ⟨y6, p6, r6⟩ := arr_o (tb 175 sp_7.2.1)
  obtain ⟨y7, p7, r7⟩ := arr_o (tb 173 sp_7.2.2.1)
  obtain ⟨y8, p8, r8⟩ := arr_o (tb 179 sp_7.2.2.2.1)
  obtain ⟨y9, p9, r9⟩ := arr_o (tb 400 sp_7.2.2.2.2)
  refine ⟨(l, (fun k => if k = 0 then c0 else if k = 1 then c1 else if k = 2 then c2 else if k = 3 then c3 else if k = 4 then c4 else if k = 5 then c5 else if k = 6 then c6 else if k = 7 then c7 else if k = 8 then c8 else if k = 9 then c9 else if k = 10 then c10 else if k = 11 then c11 else c12, fun k => if k = 0 then i0 else if k = 1 then i1 else if k = 2 then i2 else if k = 3 then i3 else if k = 4 then i4 else if k = 5 then i5 else if k = 6 then i6 else if k = 7 then i7 else if k = 8 then i8 else if k = 9 then i9 else if k = 10 then i10 else if k = 11 then i11 else i12), s.heap.size, (fun k => if k = 1 then y1 else if k = 2 then y2 else if k = 3 then y3 else if k = 4 then y4 else if k = 5 then y5 else if k = 6 then y6 else if k = 7 then y7 else if k = 8 then y8 else y9), (fun j => if j = 0 then t0 else if j = 1 then t1 else if j = 2 then t2 else if j = 3 then t3 else t4), (fun i => (ad i).1), (fun i => (ad i).2), (fun _ => 0)), rfl, rfl, ⟨fun k q hq => ?_, fun k q hq => ?_⟩, ⟨fun j hj => ?_, ?_, hS, fun i hi => ?_, fun w hw => ?_, ?_⟩, fun C hC => ?_⟩
  · match k, hq with
    | 0, hq => cases hq; exact n0
    | 1, hq => cases hq; exact n1
    | 2, hq => cases hq; exact n2
    | 3, hq => cases hq; exact n3
    | 4, hq => cases hq; exact n4
    | 5, hq => cases hq; exact n5
    | 6, hq => cases hq; exact n6
    | 7, hq => cases hq; exact n7
    | 8, hq => cases hq; exact n8
    | 9, hq => cases hq; exact n9
    | 10, hq => cases hq; exact n10
    | 11, hq => cases hq; exact n11
    | 12, hq => cases hq; exact n12
    | k + 13, hq => simp [vwCl] at hq
  · match k, hq with
    | 0, hq => cases hq; exact ⟨p1, r1⟩
    | 1, hq => cases hq; exact ⟨p2, r2⟩
    | 2, hq => cases hq; exact ⟨p3, r3⟩
    | 3, hq => cases hq; exact ⟨p4, r4⟩
    | 4, hq => cases hq; exact ⟨p5, r5⟩
    | 5, hq => cases hq; exact ⟨p6, r6⟩
    | 6, hq => cases hq; exact ⟨p7, r7⟩
    | 7, hq => cases hq; exact ⟨p8, r8⟩
    | 8, hq => cases hq; exact ⟨p9, r9⟩
    | k + 9, hq => simp [tysO] at hq
  · rcases (show j = 0 ∨ j = 1 ∨ j = 2 ∨ j = 3 ∨ j = 4 by omega) with rfl | rfl | rfl | rfl | rfl
    · exact z0
    · exact z1
    · exact z2
    · exact z3
    · exact z4
  · exact va_Zof (tb 725 sp_5.1.1) (tb 153 sp_5.1.2) (va_eqi (fl (sg_m sp_9 _ (List.mem_cons_self ..)))) hA
  · exact vk_R.of (A := args) (hts _ (sg_m sg_6 _ (List.mem_map.mpr ⟨i, List.mem_range.mpr hi, rfl⟩))) (had i hi).2
  · exact va_Nw.of (A := args) (nst_tab (nst_is hw)) (hts w (List.mem_filter.mp hw).1)
  · exact va_Zqof (tb 741 sp_5.2.1) (tb 155 sp_5.2.2) (fl (sg_m sp_9 _ (List.mem_cons_of_mem _ (List.mem_cons_self ..)))) hA
  · simp only [List.mem_cons, List.not_mem_nil, or_false] at hC
    rcases hC with rfl | rfl | rfl | rfl | rfl
    · exact va_AO.of (A := args) (tb 177 sp_7.1)
    · exact va_AO.of (A := args) (tb 175 sp_7.2.1)
    · exact va_AO.of (A := args) (tb 173 sp_7.2.2.1)
    · exact va_AO.of (A := args) (tb 179 sp_7.2.2.2.1)
    · exact va_AO.of (A := args) (tb 400 sp_7.2.2.2.2)
