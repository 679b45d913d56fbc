/-- the reader's own rows do not matter -/
theorem INV_x {M M' : MM} (h : INV M) (e : ∀ a, a < 79 ∨ (114 < a ∧ a < 115) ∨ (130 < a ∧ a < 359) ∨ (359 < a ∧ a < 370) ∨ a = 387 → M' a = M a) (hh : M' 91 0 = 40 ∧ M' 96 0 = 8 ∧ M' 101 0 = 25 ∧ M' 106 0 = 40 ∧ M' 110 0 = 15) : INV M' := by
  obtain ⟨q1, q2, q3, q4⟩ := h
  have hx : ∀ i, i < 4 → ∀ j, j < 76 → M' (tB i + j) = M (tB i + j) := fun i hi j hj => e _ (by have := tB_r i hi; omega)
  have hr : ∀ a, 359 < a → a < 370 → M' a = M a := fun a ha hb => e a (by omega)
  refine ⟨⟨fun i hi k hk => ?_, hh⟩, CTD_c (hx 0 (by omega)) hr q2, fun k hk => ?_, fun k hk z => ?_⟩
  · have hb := tB_r i hi
    have m := q1.1 i hi k hk
    rw [e (tB i + 19 + 34 * k) (by omega), e (tB i + 24 + 34 * k) (by omega), e (tB i + 29 + 34 * k) (by omega), e (tB i + 34 + 34 * k) (by omega), e (tB i + 38 + 34 * k) (by omega)]
    exact m
  · rw [e 78 (by omega), e 387 (by omega)]; exact q3 k hk
  · rw [e 387 (by omega)] at z; exact CTD_c (hx (k + 1) (by omega)) hr (q4 k hk z)
theorem e_text {M : MM} (h : INV M) {x1 x2 : Int} (r1 : R32 x1) (r2 : R32 x2) : ∃ v v' M1 M2, sX11_text 0 x1 x2 M = some (v, M1) ∧ sX12_text 359 x1 x2 M1 = some (v', M2) ∧ wI v = wI v' ∧ INV M2 := by
  have hI := h
  have hl := i_len h
  have ht : ∀ j, j < 600 → M 2 j = M 360 j ∧ -128 ≤ M 360 j ∧ M 360 j ≤ 127 := fun j hj => by
    have := h.2.1.2.2.1 j hj
    simpa [tB_0] using this
  rcases pla h r1 r2 with ⟨p1, p2⟩ | ⟨s, p, rfl, hs, hp, hps, p1, hx, p2⟩
  · refine ⟨-2, -2, mU (mU (mU M 1 2 0) 1 3 (-1)) 1 1 0, pre (mU (mU (mU M 1 2 0) 1 3 (-1)) 1 1 0), ?_, p2 _ (by rw [mU_row _ _ (by omega), mU_row _ _ (by omega), mU_row _ _ (by omega)]), rfl, ?_⟩
    · unfold sX11_text sX11_text_b0
      rw [p1, ob_s, if_pos (by decide +kernel), ob_s, ob_s, ob_s, g0_0]
    · have er : ∀ a, a ≠ 359 → a ≠ 1 → a < 361 ∨ 363 < a → pre (mU (mU (mU M 1 2 0) 1 3 (-1)) 1 1 0) a = M a := fun a h1 h2 h3 => by rw [pre_r h1 h3, mU_row _ _ h2, mU_row _ _ h2, mU_row _ _ h2]
      have e1 : pre (mU (mU (mU M 1 2 0) 1 3 (-1)) 1 1 0) 1 = mU (mU (mU M 1 2 0) 1 3 (-1)) 1 1 0 1 := pre_r (by omega) (by omega)
      obtain ⟨q1, q2, q3, q4⟩ := pre_0 (M := mU (mU (mU M 1 2 0) 1 3 (-1)) 1 1 0)
      refine INV_tape h (fun a ha a1 a2 a3 a4 a5 a6 => er a (by omega) a1 (by omega)) (fun i hi hi' => ?_) (fun j hj => by rw [er 360 (by omega) (by omega) (by omega)]) ⟨?_, ?_, ?_⟩ ⟨?_, ?_⟩ (fun j hj => ?_)
      · obtain ⟨s1, s2, s3⟩ := pre_i (M := mU (mU (mU M 1 2 0) 1 3 (-1)) 1 1 0) (i := i) (by omega)
        rw [s1, s2, s3]
        refine ⟨?_, ?_, ?_⟩
        all_goals rw [mU_row _ _ (by omega), mU_row _ _ (by omega), mU_row _ _ (by omega)]
      · rw [e1, mU_eq, q1]
      · rw [q1]; omega
      · rw [q1]; omega
      · rw [e1, mU_ne _ _ (by omega), mU_ne _ _ (by omega), mU_eq, q2]
      · rw [e1, mU_ne _ _ (by omega), mU_eq, q3]
      · rw [er 2 (by omega) (by omega) (by omega), er 360 (by omega) (by omega) (by omega)]; exact ht j hj
  · obtain ⟨L, hL⟩ := Int.eq_ofNat_of_zero_le hl.2.1
    have hL6 : L ≤ 600 := by omega
    have env : ∀ N : MM, N 360 = M 360 → N 361 = M 361 → ENV (M 2) L M (pre N) := fun N h1 h2 => ⟨rfl, fun j hj => by rw [(ht j hj).1]; exact (ht j hj).2, hL6, by rw [hl.1, hL], by rw [pre_0.2.2.2, h2, hL], fun j hj => by rw [pre_r (by omega) (by omega), h1]; exact ((ht j hj).1).symm⟩
    obtain ⟨v, C', Ra, a1, a2, a3, a4, a5, a6⟩ := rd_0 hs (env M rfl rfl) h.1.2
    have key : ∀ N : MM, N 360 = M 360 → N 361 = M 361 → ∃ R', sX12_readText 359 (s : Int) (pre N) = some (v, R') ∧ RD s v C' R' ∧ XC (pre N) R' := by
      intro N h1 h2
      obtain ⟨v2, C2, R2, b1, b2, b3, b4, b5, b6⟩ := rd_0 hs (env N h1 h2) h.1.2
      rw [a1] at b1
      have e1 := Option.some.inj b1
      have e2 : v = v2 := congrArg Prod.fst e1
      have e3 : C' = C2 := congrArg Prod.snd e1
      subst e2 e3
      exact ⟨R2, b2, b3, b5⟩
    have ec : sX11_text 0 (s : Int) x2 M = if wI v = 0 then some (-1, aft C') else (sX11_keepDraft 0 (s : Int) (p : Int) (aft C')).bind fun q_15 => some ((p : Int), q_15) := by
      have hp1 : ¬ wI (p : Int) = -1 := by rw [wI_of (by omega) (by omega)]; omega
      unfold sX11_text sX11_text_b0 aft
      rw [p1, ob_s, if_neg hp1, g0_0, g0_3, a1, ob_s, ob_s, ob_s, ob_s]
      dsimp only
      rw [mU_row (b := 79) (a := 1) _ _ (by omega)]
    rcases a3.2.2.1 with rfl | rfl
    · obtain ⟨R', b1, b2, b3⟩ := key (aft C') (by rw [aft_r (by omega)]; exact a4 360 (by omega)) (by rw [aft_r (by omega)]; exact a4 361 (by omega))
      refine ⟨-1, -1, aft C', R', by rw [ec, i00], ?_, rfl, ?_⟩
      · rw [p2 _ (by rw [aft_r (by omega)]; exact a4 364 (by omega))]
        unfold sX12_text_b75
        rw [b1, ob_s]
        exact i00 _ _
      · have hi1 : INV C' := INV_x h (fun a ha => a4 a (by omega)) a6.1
        have er : ∀ a, a ≠ 359 → a ≠ 1 → a ≠ 370 → a ≠ 371 → a < 361 ∨ 363 < a → R' a = C' a := fun a h1 h2 h3 h4 h5 => by
          rw [b3.1 a h1 (by omega) (by omega) h3 h4, pre_r h1 h5, aft_r h2]
        have e1 : R' 1 = aft C' 1 := by rw [b3.1 1 (by omega) (by omega) (by omega) (by omega) (by omega), pre_r (by omega) (by omega)]
        have e361 : R' 361 = pre (aft C') 361 := b3.1 361 (by omega) (by omega) (by omega) (by omega) (by omega)
        obtain ⟨q1, q2, q3, q4⟩ := pre_0 (M := aft C')
        refine INV_tape hi1 (fun a ha x1 x2 x3 x4 x5 x6 => er a (by omega) x1 (by omega) (by omega) (by omega)) (fun i hi hi' => ?_) (fun j hj => by rw [er 360 (by omega) (by omega) (by omega) (by omega) (by omega)]) ⟨?_, ?_, ?_⟩ ⟨?_, ?_⟩ (fun j hj => ?_)
        · obtain ⟨s1, s2, s3⟩ := pre_i (M := aft C') (i := i) (by omega)
          rw [e361, (b3.2 i (by omega)).1, (b3.2 i (by omega)).2, s1, s2, s3, aft_r (by omega), aft_r (by omega), aft_r (by omega)]
          exact ⟨rfl, rfl, rfl⟩
        · rw [e1, e361, q1]; exact aft_1.1
        · rw [e361, q1]; omega
        · rw [e361, q1]; omega
        · rw [e1, aft_1.2.1]; exact b2.1
        · rw [e1, aft_1.2.2]; exact b2.2.1
        · rw [er 2 (by omega) (by omega) (by omega) (by omega) (by omega), er 360 (by omega) (by omega) (by omega) (by omega) (by omega), a4 2 (by omega), a4 360 (by omega)]; exact ht j hj
    · have fin : ∃ C5, sX11_keepDraft 0 (s : Int) (p : Int) (aft C') = some C5 ∧ (∀ a, 114 < a → a < 131 ∨ 358 < a → C5 a = M a) ∧ ∀ R', XC (pre C5) R' → RD s 1 C' R' → ∃ M2, (if wI x2 = (-1) then (if 0 ≤ wI (s : Int) ∧ wI (s : Int) < 20 then (sX12_text_b100 359 (s : Int) x2 (R' 364 (wI (s : Int)).toNat) R') else none) else (sX12_text_b100 359 (s : Int) x2 x2 R')) = some ((p : Int), M2) ∧ INV M2 := by
        rcases (show s = 0 ∨ s = 1 ∨ s = 2 ∨ s = 3 ∨ s = 4 by omega) with rfl | rfl | rfl | rfl | rfl
        · exact tf_0 hI hp hps hx a4 a6
        · exact tf_1 hI hp hps hx a4 a6
        · exact tf_2 hI hp hps hx a4 a6
        · exact tf_3 hI hp hps hx a4 a6
        · exact tf_4 hI hp hps hx a4 a6
      obtain ⟨C5, f1, f2, f3⟩ := fin
      obtain ⟨R', b1, b2, b3⟩ := key C5 (f2 360 (by omega) (by omega)) (f2 361 (by omega) (by omega))
      obtain ⟨M2, g1, g2⟩ := f3 R' b3 b2
      refine ⟨(p : Int), (p : Int), C5, M2, by rw [ec, i10, f1, ob_s], ?_, rfl, g2⟩
      rw [p2 _ (f2 364 (by omega) (by omega))]
      unfold sX12_text_b75
      rw [b1, ob_s]
      dsimp only
      rw [i10, g359_5]
      exact g1
