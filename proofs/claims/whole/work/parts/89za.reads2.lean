theorem rd_0 {T : Nat → Int} {L s : Nat} {C R : MM} (hs : s < 5) (hE : ENV T L C R) (hh : C 91 0 = 40 ∧ C 96 0 = 8 ∧ C 101 0 = 25 ∧ C 106 0 = 40 ∧ C 110 0 = 15) : ∃ v C' R', sX7_reads 79 1 (s : Int) C = some (v, C') ∧ sX12_readText 359 (s : Int) R = some (v, R') ∧ RD s v C' R' ∧ XA C C' ∧ XC R R' ∧ HM C' := by
  obtain ⟨N, n1, n2, n3, n4, ⟨p0, p3, p12, p13, p14, p15, p16⟩, ⟨q7, q8, q9, q10⟩, ⟨l1, l2, l3, l4, l5⟩, lt, l6, l7, l8, l9, l10⟩ := clA (mU (mU C 79 5 0) 79 6 (-1))
  obtain ⟨Q, b1, b2, b3, b4, b5, b6, b7, b8⟩ := bgB hs R
  obtain ⟨C1, eC⟩ : ∃ C1 : MM, C1 = mU N 79 10 0 := ⟨_, rfl⟩
  obtain ⟨R1, eR⟩ : ∃ R1 : MM, R1 = mU (mU Q 359 11 0) 359 18 0 := ⟨_, rfl⟩
  have c_row : ∀ a, a ≠ 79 → C1 a = N a := fun a ha => by rw [eC, mU_row _ _ ha]
  have r_row : ∀ a, a ≠ 359 → R1 a = Q a := fun a ha => by rw [eR, mU_row _ _ ha, mU_row _ _ ha]
  have hE1 : ENV T L C1 R1 := ENV_c hE (by rw [c_row 1 (by omega), n2 1 (by omega), mU_row _ _ (by omega), mU_row _ _ (by omega)]) (by rw [c_row 2 (by omega), n2 2 (by omega), mU_row _ _ (by omega), mU_row _ _ (by omega)]) (by rw [eR, mU_ne _ _ (by omega), mU_ne _ _ (by omega), b3 12 (by omega)]) (by rw [r_row 360 (by omega), b2 360 (by omega) (by omega)])
  obtain ⟨C2, R2, f, t, kk, a1, a2, a3, a4, a5, a6, a7⟩ := tok2 (p := 0) hE1 (by rw [eC, mU_eq]; rfl) (by rw [eR, mU_ne _ _ (by omega), mU_eq]; rfl) (by omega)
  have c2r : ∀ a, a ≠ 79 → C2 a = N a := fun a ha => by rw [FA_row a5 ha, c_row a ha]
  have r2r : ∀ a, a ≠ 359 → R2 a = Q a := fun a ha => by rw [FB_row a6 ha, r_row a ha]
  have c5 : C2 79 5 = 0 := by rw [a5 79 5 (by omega), eC, mU_ne _ _ (by omega), n3 5 (by omega), mU_ne _ _ (by omega), mU_eq]
  have c6 : C2 79 6 = -1 := by rw [a5 79 6 (by omega), eC, mU_ne _ _ (by omega), n3 6 (by omega), mU_eq]
  have c12 : C2 79 12 = 0 := by rw [a5 79 12 (by omega), eC, mU_ne _ _ (by omega)]; exact n4
  have r18 : R2 359 18 = 0 := by rw [a6 359 18 (by omega), eR, mU_eq]
  have r22 : R2 359 22 = -1 := by rw [a6 359 22 (by omega), eR, mU_ne _ _ (by omega), mU_ne _ _ (by omega)]; exact b4
  have r370 : R2 370 = Q 370 := r2r 370 (by omega)
  have hC : ∀ a j, a ≠ 79 → mU (mU C 79 5 0) 79 6 (-1) a j = C a j := fun a j ha => by rw [mU_row _ _ ha, mU_row _ _ ha]
  have hF : FF f C2 R2 := ⟨by rw [c5, r18], Or.inl ⟨c5, c6⟩⟩
  have hB : RB s R2 := by
    unfold RB
    rw [r370, b5, r22]
    refine ⟨by omega, ?_, fun z => ?_, fun z => ?_, by omega, by omega⟩
    · unfold m0
      repeat' split
      all_goals omega
    · rw [b6 (by omega)]; omega
    · rw [b6 (by omega)]; omega
  have hH : HM C2 := by
    unfold HM
    rw [c2r 91 (by omega), c2r 96 (by omega), c2r 101 (by omega), c2r 106 (by omega), c2r 110 (by omega), c2r 80 (by omega), l6, l7, l8, l9, l10, hC _ _ (by omega), hC _ _ (by omega), hC _ _ (by omega), hC _ _ (by omega), hC _ _ (by omega), p0, p3, l1, l2, l3, l4, l5]
    exact ⟨hh, by omega, by omega, by omega, by omega, by omega, by omega, by omega⟩
  have hD : DR s C2 R2 := by
    unfold DR
    rw [r370, r22, c12]
    by_cases h0 : s = 0
    · rw [if_pos h0]
      obtain ⟨⟨d2, d3, d4, d5, d6⟩, e1, e2, e3⟩ := b8 h0
      have d1 := b6 (by omega)
      have ew : ∀ w, w < 8 → Q 370 (7 + w) = 1 := fun w hw => e1 w (by omega)
      have er : ∀ r, r < 3 → Q 370 (15 + r) = 1 := fun r hr => by have := e1 (8 + r) (by omega); rwa [show 7 + (8 + r) = 15 + r by omega] at this
      refine ⟨⟨⟨?_, fun w hw => ?_, fun r hr => ?_, fun j hj => ?_, fun c hc => ?_, fun c hc => ?_, fun c hc o ho => ?_⟩, ?_, fun w hw => ?_, fun r hr => ?_, fun j hj => ?_, fun c hc => ?_, fun c hc => ?_, fun c hc o ho => ?_⟩, ⟨by omega, by omega⟩, rfl⟩
      · rw [c2r 80 (by omega), p0, p3, p12, p13, p14, p15, p16, b5, d1, d2, d3, d4, d5, d6]; exact ⟨rfl, rfl, rfl, rfl, rfl, rfl, rfl⟩
      · rw [c2r _ (by omega), ew w hw]; exact q9 w hw
      · rw [c2r _ (by omega), er r hr]; exact q10 r hr
      · rw [b5] at hj; omega
      · rw [d1] at hc; omega
      · rw [c2r _ (by omega), e2 c hc]; exact q7 c hc
      · rw [c2r _ (by omega), e3 c hc o ho]; exact q8 _ (by omega)
      · rw [b5, d1, d2, d3, d4, d5, d6]; omega
      · rw [ew w hw]; omega
      · rw [er r hr]; omega
      · rw [b5] at hj; omega
      · rw [d1] at hc; omega
      · rw [e2 c hc]; omega
      · rw [e3 c hc o ho]; omega
    · rw [if_neg h0]
      by_cases h1 : s = 1
      · rw [if_pos h1]
        refine ⟨⟨by rw [c2r _ (by omega), l1, b5], fun j hj => ?_⟩, by omega, by omega, fun j hj => ?_⟩
        all_goals rw [b5] at hj; omega
      · rw [if_neg h1]
        by_cases h2 : s = 2
        · rw [if_pos h2]
          have e5 := b7 h2
          refine ⟨⟨by rw [c2r _ (by omega), b5]; exact l2, fun j hj => ?_, fun h hh => ?_⟩, by omega, by omega, fun j hj => ?_, fun h hh => ?_⟩
          · rw [b5] at hj; omega
          · rw [c2r _ (by omega), e5 h hh]; exact lt h hh
          · rw [b5] at hj; omega
          · rw [e5 h hh]; omega
        · rw [if_neg h2]
          by_cases h3 : s = 3
          · rw [if_pos h3]
            refine ⟨⟨by rw [c2r _ (by omega), l3, b5], fun j hj => ?_⟩, by omega, by omega, fun j hj => ?_⟩
            all_goals rw [b5] at hj; omega
          · rw [if_neg h3]
            have d1 := b6 h2
            refine ⟨⟨by rw [c2r _ (by omega), b5]; exact l4, by rw [c2r _ (by omega), d1]; exact l5, fun j hj => ?_, fun j hj => ?_⟩, by omega, by omega, by omega, by omega, fun j hj => ?_, fun j hj => ?_⟩
            · rw [b5] at hj; omega
            · rw [d1] at hj; omega
            · rw [b5] at hj; omega
            · rw [d1] at hj; omega
  have hBL : BL T L s f t kk C2 R2 := ⟨a7, a3, hF, hB, hH, fun _ => hD⟩
  have xA : XA C C2 := fun a ha => by rw [c2r a (by omega), n2 a (by omega), mU_row _ _ (by omega), mU_row _ _ (by omega)]
  have xB : XB R R2 := fun a h1 h2 h3 => by rw [r2r a h1, b2 a h2 h1]
  have hL := hE.2.2.1
  have e7 : sX7_reads 79 1 (s : Int) C = sX7_reads_b26 79 1 (s : Int) FU ((0 : Nat) : Int) C2 := by
    unfold sX7_reads sX7_reads_b0
    rw [ob_s, ob_s, n1, ob_s, ob_s, ← eC, a1, ob_s]; rfl
  have e12 : sX12_readText 359 (s : Int) R = (sX12_lines_b2 359 (s : Int) FU 1 R2).bind fun q_5 => (if wI (q_5.1) = 0 then (sX12_readText_b87 359 (s : Int) (q_5.1) q_5.2) else (if wI (s : Int) = 0 then (if wI (q_5.2 359 18) = 0 then (if wI (q_5.2 370 1) ≤ wI (q_5.2 359 22) then (sX12_readText_b78 359 (s : Int) (q_5.1) q_5.2) else (if wI (q_5.2 370 0) = 0 then (sX12_readText_b78 359 (s : Int) (q_5.1) q_5.2) else (if wI (q_5.2 370 1) = 0 then (sX12_readText_b78 359 (s : Int) (q_5.1) q_5.2) else ((sX12_isStill 359 q_5.2).bind fun q_15 => (if wI q_15 = 0 then (sX12_readText_b87 359 (s : Int) (q_5.1) q_5.2) else (sX12_readText_b78 359 (s : Int) (q_5.1) q_5.2)))))) else (sX12_readText_b87 359 (s : Int) (q_5.1) q_5.2)) else (sX12_readText_b87 359 (s : Int) (q_5.1) q_5.2))) := by
    unfold sX12_readText sX12_readText_b0
    rw [b1, ob_s, ob_s, ob_s, ← eR, a2, ob_s, g359_20]; rfl
  rw [e7, e12]
  rcases loop1 hs L f t kk C2 R2 0 FU FU (by omega) hBL (by omega) (by unfold FU; omega) (by unfold FU; omega) with ⟨C', R', g, h1, h2, h3, h4, h5, h6, h7, h8⟩ | ⟨C', R', f', t', h1, h2, h3, h4, h5⟩
  · rw [h1, h2, ob_s]
    dsimp only
    rw [i00]
    refine ⟨0, C', mU (mU R' 362 0 1) 363 0 (g : Int), rfl, ?_, ⟨?_, ?_, Or.inl rfl, fun z => absurd z (by decide)⟩, XA_t xA h6, XC_2 (XB_t xB h7), h8⟩
    · unfold sX12_readText_b87 sX12_readText_b104
      rw [i00, wI_0, if_pos (by omega), ob_s, if_pos rfl, g359_3, g359_4, show (0 : Int).toNat = 0 from rfl, mU_row (b := 359) _ _ (by omega), h5]
      exact b136_ (mU_eq _ _ _ _) (Or.inr ⟨by omega, rfl⟩) _
    · rw [mU_row _ _ (by omega), mU_eq]; exact h3
    · rw [mU_eq]; exact h4
  · rw [h1, h2, ob_s]
    dsimp only
    rw [i10]
    obtain ⟨v, C3, R3, g1, g2, g3, g4, g5, g6⟩ := rd_n hs h3
    have ws : wI (s : Int) = (s : Int) := wI_of (by omega) (by omega)
    rw [ws]
    refine ⟨v, C3, R3, g1, g2, g3, XA_t xA (XA_t h4 g4), ?_, g6⟩
    obtain ⟨x1, x2⟩ := g5
    have x0 := XB_t xB h5
    exact ⟨fun a h1 h2 h3 h4 h5 => (x1 a h1 h2 h3 h4 h5).trans (x0 a h1 h4 h5), fun j hj => ⟨(x2 j hj).1.trans (by rw [x0 362 (by omega) (by omega) (by omega)]), (x2 j hj).2.trans (by rw [x0 363 (by omega) (by omega) (by omega)])⟩⟩
