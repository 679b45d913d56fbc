/-- clues and a party are laid: the reference -/
theorem layC {M0 : MM} (h : INV M0) {x1 x2 : Int} (r1 : R32 x1) (r2 : R32 x2) : (∃ k kc : Nat, k < 2 ∧ kc < 2 ∧ x1 = (k : Int) ∧ x2 = (kc : Int) ∧ (k : Int) < M0 364 0 ∧ (kc : Int) < M0 364 2 ∧ ∃ N, sX12_layClues 359 x1 x2 (mU M0 359 0 0) = some (1, N) ∧ FR M0 N ∧ HD N k ∧ pP N k = pP M0 k ∧ cC N kc = cC M0 kc ∧ N 359 46 = (kc : Int) ∧ (∀ K : Nat, cC M0 kc 0 = (K : Int) → N 359 48 = alW (pP M0 k) (cC M0 kc) (-1) K 8 ∧ ∀ w, w < 8 → N 378 w = wgP (pP M0 k) (cC M0 kc) (-1) K w)) ∨ (¬ ((0 ≤ x1 ∧ x1 < M0 364 0) ∧ (0 ≤ x2 ∧ x2 < M0 364 2)) ∧ ∃ N, sX12_layClues 359 x1 x2 (mU M0 359 0 0) = some (0, N) ∧ FR M0 N) := by
  have hz0 := (i_size h (s := 0) (by omega)).2
  have hz2 := (i_size h (s := 2) (by omega)).2
  have hb := has_c (M := mU M0 359 0 0) (x := x2) (by rw [m0_364]; exact hz2) r2
  have fr1 : FR M0 (mU (mU M0 359 0 0) 359 46 x2) := FR_u (FR_0 M0) (by omega)
  have e0 : mU (mU M0 359 0 0) 359 46 x2 364 0 = M0 364 0 := by rw [mU_row _ _ (by omega), mU_row _ _ (by omega)]
  unfold sX12_layClues sX12_layClues_b0
  rw [hb, ob_s, m0_364]
  by_cases q2 : 0 ≤ x2 ∧ x2 < M0 364 2
  · rw [if_pos q2]
    by_cases q1 : 0 ≤ x1 ∧ x1 < M0 364 0
    · left
      obtain ⟨k, rfl⟩ := Int.eq_ofNat_of_zero_le q1.1
      obtain ⟨kc, rfl⟩ := Int.eq_ofNat_of_zero_le q2.1
      have hv := (i_party h q1.2).2
      have hw := (i_clues h q2.2).2
      obtain ⟨K, hK⟩ := Int.eq_ofNat_of_zero_le hw.1
      obtain ⟨N1, e1, f1, hd1⟩ := hand_t (M := mU (mU M0 359 0 0) 359 46 (kc : Int)) (k := k) (by rw [e0]; exact hz0) (by rw [e0]; exact q1.2)
      have ep1 : pP N1 k = pP M0 k := by rw [pP_c (f1.1 365 (by omega)), pP_c (mU_row _ _ (by omega)), pP_c (mU_row _ _ (by omega))]
      have ec1 : cC N1 kc = cC M0 kc := by unfold cC; rw [f1.1 367 (by omega), mU_row _ _ (by omega), mU_row _ _ (by omega)]
      have e46 : N1 359 46 = (kc : Int) := by rw [f1.2 46 (by omega), mU_eq]
      obtain ⟨N, n1, n2, n3, n4⟩ := weighB hd1 (by rw [ep1]; exact hv) (by omega) e46 (by rw [ec1]; exact hw) (but := -1) ⟨by omega, by omega⟩ (K := K) (by rw [ec1]; exact hK)
      rw [ep1, ec1] at n3 n4
      refine ⟨k, kc, by omega, by omega, rfl, rfl, q1.2, q2.2, N, ?_, FR_t (FR_t fr1 (F24_FR f1)) (F48_FR n2), F48_HD n2 hd1, (F48_p n2 k).trans ep1, (F48_c n2 kc).trans ec1, (n2.2 46 (by omega)).trans e46, fun K' hK' => ?_⟩
      · show (if wI 1 = 0 then _ else _) = _
        rw [i10]
        dsimp only
        rw [e1, ob_s]
        show (if wI 1 = 0 then _ else _) = _
        rw [i10]
        dsimp only
        rw [n1, ob_s]
      · have : K' = K := by omega
        subst this
        exact ⟨n3, n4⟩
    · right
      refine ⟨fun q => q1 q.1, mU (mU M0 359 0 0) 359 46 x2, ?_, fr1⟩
      show (if wI 1 = 0 then _ else _) = _
      rw [i10]
      dsimp only
      rw [hand_f (by rw [e0]; exact hz0) r1 (by rw [e0]; exact q1), ob_s]
      show (if wI 0 = 0 then _ else _) = _
      rw [i00]
  · right
    refine ⟨fun q => q2 q.2, mU (mU M0 359 0 0) 359 46 x2, ?_, fr1⟩
    rw [if_neg q2]
    show (if wI 0 = 0 then _ else _) = _
    rw [i00]
/-- the class finds party and clues, or not -/
theorem twoC {M : MM} (h : INV M) {x1 x2 : Int} (r1 : R32 x1) (r2 : R32 x2) {α : Type} (nn : Option α) (f : Nat → Nat → Option α) : (∃ k kc : Nat, k < 2 ∧ kc < 2 ∧ x1 = (k : Int) ∧ x2 = (kc : Int) ∧ (k : Int) < M 364 0 ∧ (kc : Int) < M 364 2 ∧ ((sX11_partyAt 0 x1 M).bind fun q_1 => (nM q_1 ((sX11_cluesAt 0 x2 M).bind fun q_3 => (nM q_3 nn fun m_4 => nn)) fun m_2 => ((sX11_cluesAt 0 x2 M).bind fun q_5 => (nM q_5 nn fun m_6 => f m_2 m_6)))) = f (9 + 34 * k) (24 + 34 * kc)) ∨ (¬ ((0 ≤ x1 ∧ x1 < M 364 0) ∧ (0 ≤ x2 ∧ x2 < M 364 2)) ∧ ((sX11_partyAt 0 x1 M).bind fun q_1 => (nM q_1 ((sX11_cluesAt 0 x2 M).bind fun q_3 => (nM q_3 nn fun m_4 => nn)) fun m_2 => ((sX11_cluesAt 0 x2 M).bind fun q_5 => (nM q_5 nn fun m_6 => f m_2 m_6)))) = nn) := by
  rcases a_party h r1 with ⟨k, hk, hx, hlt, e⟩ | ⟨hn, e⟩
  · rcases a_clues h r2 with ⟨kc, hkc, hxc, hltc, ec⟩ | ⟨hnc, ec⟩
    · left
      refine ⟨k, kc, hk, hkc, hx, hxc, hlt, hltc, ?_⟩
      rw [e, ob_s, nMs_, ec, ob_s, nMs_]
    · right
      refine ⟨fun q => hnc q.2, ?_⟩
      rw [e, ob_s, nMs_, ec, ob_s, nM0_]
  · right
    refine ⟨fun q => hn q.1, ?_⟩
    rw [e, ob_s, nM0_]
    rcases a_clues h r2 with ⟨kc, hkc, hxc, hltc, ec⟩ | ⟨hnc, ec⟩
    · rw [ec, ob_s, nMs_]
    · rw [ec, ob_s, nM0_]
theorem FC_g {M M' : MM} (h : ∀ a, a ≠ 119 → a ≠ 120 → M' a = M a) : FC M M' := fun a ha => h a (by omega) (by omega)
theorem e_hangs {M : MM} (h : INV M) {x1 x2 x3 x4 : Int} (r1 : R32 x1) (r2 : R32 x2) (r3 : R32 x3) : ∃ v v' M1 M2, sX11_hangs 0 x1 x2 x3 x4 M = some (v, M1) ∧ sX12_hangs 359 x1 x2 x3 x4 M1 = some (v', M2) ∧ wJ v = wJ v' ∧ INV M2 := by
  unfold sX11_hangs sX11_hangs_b0 sX11_hangs_b34
  rcases twoC h r1 r2 (some ((-1 : Int), M)) (fun m_2 m_6 => (if wI x3 < 0 then some (-1, M) else (if wI x3 < 8 then ((sX2_weighs (gR 0 5) m_2 m_6 (-1) M).bind fun q_10 => (if wJ (q_10 (gR 0 5) 1) = 0 then (some (((-1), q_10))) else (if 0 ≤ wI x3 ∧ wI x3 < 8 then ((sX11_fraction (q_10 (gR (gR 0 5) 0) (wI x3).toNat) (q_10 (gR 0 5) 1) x4).bind fun q_17 => (some ((q_17, q_10)))) else none))) else some (-1, M)))) with ⟨k, kc, hk, hkc, rfl, rfl, hlt, hltc, e⟩ | ⟨hno, e⟩
  · rw [e]
    obtain ⟨hc, hv⟩ := i_party h hlt
    obtain ⟨hcc, hw⟩ := i_clues h hltc
    obtain ⟨K, hK⟩ := Int.eq_ofNat_of_zero_le hw.1
    have gk := gC_k kc hkc
    have ab := alW_b hv hw (-1) (K := K) (by omega) (n := 8) (by omega)
    rw [wI_of r3.1 r3.2, g0_5, g119_0]
    by_cases z : 0 ≤ x3 ∧ x3 ≤ 7
    · obtain ⟨w, rfl⟩ := Int.eq_ofNat_of_zero_le z.1
      have wb := wg_b hv hw (-1) (w := w) (by omega) K (by omega)
      obtain ⟨M1, m1, m2, m3, m4⟩ := weighsA hc hv (PG_p k hk) (by omega) hcc hw (by have := LG_ck kc hkc; rwa [show 25 + 34 * kc = 24 + 34 * kc + 1 by omega] at this) (by rw [gk.1]; omega) (by rw [gk.2]; omega) (by omega) (but := -1) ⟨by omega, by omega⟩ hK
      have f1 := FC_g m2
      have h1 := INV_1 f1 h
      have ep1 : pP M1 k = pP M k := pP_c (m2 365 (by omega) (by omega)) k
      have ec1 : cC M1 kc = cC M kc := by unfold cC; rw [m2 367 (by omega) (by omega)]
      rcases layC h1 r1 r2 with ⟨k', kc', -, -, ek, ekc, -, -, N, n1, n2, -, -, -, -, n7⟩ | ⟨hno, -⟩
      · have : k' = k := by omega
        subst this
        have : kc' = kc := by omega
        subst this
        rw [ep1, ec1] at n7
        obtain ⟨n8, n9⟩ := n7 K hK
        rw [if_neg (show ¬ (w : Int) < 0 by omega), if_pos (show (w : Int) < 8 by omega), m1, ob_s, m3, tN, m4 w (by omega), if_pos (show 0 ≤ (w : Int) ∧ (w : Int) < 8 by omega)]
        unfold sX12_hangs sX12_hangs_b0 sX12_hangs_b51
        have z8 : 0 ≤ (w : Int) ∧ (w : Int) < 8 := ⟨by omega, by omega⟩
        generalize wgP (pP M k') (cC M kc') (-1) K = W at *
        generalize alW (pP M k') (cC M kc') (-1) K 8 = A at *
        rw [wJ_of (x := A) (by omega) (by omega)]
        have ref : sX12_hangs_b0 359 (k' : Int) (kc' : Int) (w : Int) x4 M1 = if A ≤ 0 then some (-1, N) else (sX12_least (W w) A x4).bind fun q_8 => some (q_8, N) := by
          unfold sX12_hangs_b0 sX12_hangs_b51
          rw [ob_s, n1, ob_s]
          show (if wI 1 = 0 then _ else _) = _
          rw [i10, in_1 r3.1 r3.2 (by omega) (by omega) z.1 z.2, i1z]
          dsimp only
          simp only [n8]
          rw [wJ_of (x := A) (by omega) (by omega), wI_of (x := (w : Int)) (by omega) (by omega), if_pos z8, g359_47, tN, n9 w (by omega)]
        by_cases q : A = 0
        · rw [if_pos q]
          rw [if_pos (show A ≤ 0 by omega)] at ref
          exact ⟨_, _, M1, N, rfl, ref, rfl, INV_2 n2 h1⟩
        · rw [if_neg q]
          rw [if_neg (show ¬ A ≤ 0 by omega)] at ref
          obtain ⟨v, e1, e2⟩ := fr_eqi (n := W w) (d := A) ⟨by omega, by omega⟩ ⟨by omega, by omega⟩ x4
          rw [e1]
          rw [e2] at ref
          exact ⟨_, _, M1, N, rfl, ref, rfl, INV_2 n2 h1⟩
      · exact absurd ⟨⟨by omega, by rw [m2 364 (by omega) (by omega)]; exact hlt⟩, ⟨by omega, by rw [m2 364 (by omega) (by omega)]; exact hltc⟩⟩ hno
    · have ev : ∀ X : Option (Int × MM), (if x3 < 0 then some ((-1 : Int), M) else (if x3 < 8 then X else some (-1, M))) = some (-1, M) := fun X => by
        by_cases q : x3 < 0
        · rw [if_pos q]
        · rw [if_neg q, if_neg (by omega)]
      rw [ev]
      unfold sX12_hangs sX12_hangs_b0 sX12_hangs_b51
      rcases layC h r1 r2 with ⟨k', kc', -, -, ek, ekc, -, -, N, n1, n2, -⟩ | ⟨-, N, n1, n2⟩
      · refine ⟨-1, -1, M, N, rfl, ?_, rfl, INV_2 n2 h⟩
        rw [ob_s, n1, ob_s]
        show (if wI 1 = 0 then _ else _) = _
        rw [i10, in_f r3 ⟨by omega, by omega⟩ ⟨by omega, by omega⟩ z, i00]
      · refine ⟨-1, -1, M, N, rfl, ?_, rfl, INV_2 n2 h⟩
        rw [ob_s, n1, ob_s]
        show (if wI 0 = 0 then _ else _) = _
        rw [i00]
  · rw [e]
    unfold sX12_hangs sX12_hangs_b0 sX12_hangs_b51
    rcases layC h r1 r2 with ⟨k', kc', -, -, ek, ekc, a1, a2, N, n1, n2, -⟩ | ⟨-, N, n1, n2⟩
    · exact absurd ⟨⟨by omega, by omega⟩, ⟨by omega, by omega⟩⟩ hno
    · refine ⟨-1, -1, M, N, rfl, ?_, rfl, INV_2 n2 h⟩
      rw [ob_s, n1, ob_s]
      show (if wI 0 = 0 then _ else _) = _
      rw [i00]
theorem e_luck {M : MM} (h : INV M) {x1 x2 x3 x4 : Int} (r1 : R32 x1) (r2 : R32 x2) (r3 : R32 x3) : ∃ v v' M1 M2, sX11_luck 0 x1 x2 x3 x4 M = some (v, M1) ∧ sX12_luck 359 x1 x2 x3 x4 M1 = some (v', M2) ∧ wJ v = wJ v' ∧ INV M2 := by
  unfold sX11_luck sX11_luck_b0 sX11_luck_b34
  rcases twoC h r1 r2 (some ((-1 : Int), M)) (fun m_2 m_6 => (if wI x3 < 0 then some (-1, M) else (if wI x3 < 8 then ((sX2_weighs (gR 0 5) m_2 m_6 (-1) M).bind fun q_10 => (if wJ (q_10 (gR 0 5) 1) = 0 then (some (((-1), q_10))) else (if 0 ≤ wI x3 ∧ wI x3 < 8 then ((sX2_beside (gR 0 5) x3 q_10).bind fun q_17 => ((sX11_fraction ((q_10 (gR (gR 0 5) 0) (wI x3).toNat) + q_17) (q_10 (gR 0 5) 1) x4).bind fun q_19 => (some ((q_19, q_10))))) else none))) else some (-1, M)))) with ⟨k, kc, hk, hkc, rfl, rfl, hlt, hltc, e⟩ | ⟨hno, e⟩
  · rw [e]
    obtain ⟨hc, hv⟩ := i_party h hlt
    obtain ⟨hcc, hw⟩ := i_clues h hltc
    obtain ⟨K, hK⟩ := Int.eq_ofNat_of_zero_le hw.1
    have gk := gC_k kc hkc
    have ab := alW_b hv hw (-1) (K := K) (by omega) (n := 8) (by omega)
    rw [wI_of r3.1 r3.2, g0_5, g119_0]
    by_cases z : 0 ≤ x3 ∧ x3 ≤ 7
    · obtain ⟨w, rfl⟩ := Int.eq_ofNat_of_zero_le z.1
      have wb : ∀ w, w < 8 → 0 ≤ wgP (pP M k) (cC M kc) (-1) K w ∧ wgP (pP M k) (cC M kc) (-1) K w ≤ 5188320900000000 := fun w hw8 => wg_b hv hw (-1) hw8 K (by omega)
      have rb := ar_b wb (f := 1) (Or.inl rfl) (w := w) (by omega)
      obtain ⟨M1, m1, m2, m3, m4⟩ := weighsA hc hv (PG_p k hk) (by omega) hcc hw (by have := LG_ck kc hkc; rwa [show 25 + 34 * kc = 24 + 34 * kc + 1 by omega] at this) (by rw [gk.1]; omega) (by rw [gk.2]; omega) (by omega) (but := -1) ⟨by omega, by omega⟩ hK
      have f1 := FC_g m2
      have h1 := INV_1 f1 h
      have ep1 : pP M1 k = pP M k := pP_c (m2 365 (by omega) (by omega)) k
      have ec1 : cC M1 kc = cC M kc := by unfold cC; rw [m2 367 (by omega) (by omega)]
      rcases layC h1 r1 r2 with ⟨k', kc', -, -, ek, ekc, -, -, N, n1, n2, -, -, -, -, n7⟩ | ⟨hno, -⟩
      · have : k' = k := by omega
        subst this
        have : kc' = kc := by omega
        subst this
        rw [ep1, ec1] at n7
        obtain ⟨n8, n9⟩ := n7 K hK
        have z8 : 0 ≤ (w : Int) ∧ (w : Int) < 8 := ⟨by omega, by omega⟩
        rw [if_neg (show ¬ (w : Int) < 0 by omega), if_pos (show (w : Int) < 8 by omega), m1, ob_s, m3, tN, if_pos z8, besideA M1 (by omega), ob_s, m4 w (by omega), m4 _ (show (w + 1) % 8 < 8 by omega), m4 _ (show (w + 7) % 8 < 8 by omega)]
        have er : wgP (pP M k') (cC M kc') (-1) K w + (wgP (pP M k') (cC M kc') (-1) K ((w + 1) % 8) + wgP (pP M k') (cC M kc') (-1) K ((w + 7) % 8)) = arW (wgP (pP M k') (cC M kc') (-1) K) 1 w := by unfold arW; rw [Int.one_mul]
        have er2 : arW (N 378) 1 w = arW (wgP (pP M k') (cC M kc') (-1) K) 1 w := by unfold arW; rw [n9 w (by omega), n9 _ (show (w + 1) % 8 < 8 by omega), n9 _ (show (w + 7) % 8 < 8 by omega)]
        rw [er]
        unfold sX12_luck
        have ref : sX12_luck_b0 359 (k' : Int) (kc' : Int) (w : Int) x4 M1 = if alW (pP M k') (cC M kc') (-1) K 8 ≤ 0 then some (-1, N) else (sX12_least (arW (wgP (pP M k') (cC M kc') (-1) K) 1 w) (alW (pP M k') (cC M kc') (-1) K 8) x4).bind fun q_8 => some (q_8, N) := by
          unfold sX12_luck_b0 sX12_luck_b51
          rw [ob_s, n1, ob_s]
          show (if wI 1 = 0 then _ else _) = _
          rw [i10, in_1 r3.1 r3.2 (by omega) (by omega) z.1 z.2, i1z]
          dsimp only
          simp only [n8]
          rw [wJ_of (x := alW (pP M k') (cC M kc') (-1) K 8) (by omega) (by omega), aroundB N (by omega), ob_s, er2]
        generalize arW (wgP (pP M k') (cC M kc') (-1) K) 1 w = B at *
        generalize alW (pP M k') (cC M kc') (-1) K 8 = A at *
        rw [wJ_of (x := A) (by omega) (by omega)]
        by_cases q : A = 0
        · rw [if_pos q]
          rw [if_pos (show A ≤ 0 by omega)] at ref
          exact ⟨_, _, M1, N, rfl, ref, rfl, INV_2 n2 h1⟩
        · rw [if_neg q]
          rw [if_neg (show ¬ A ≤ 0 by omega)] at ref
          obtain ⟨v, e1, e2⟩ := fr_eqi (n := B) (d := A) ⟨by omega, by omega⟩ ⟨by omega, by omega⟩ x4
          rw [e1]
          rw [e2] at ref
          exact ⟨_, _, M1, N, rfl, ref, rfl, INV_2 n2 h1⟩
      · exact absurd ⟨⟨by omega, by rw [m2 364 (by omega) (by omega)]; exact hlt⟩, ⟨by omega, by rw [m2 364 (by omega) (by omega)]; exact hltc⟩⟩ hno
    · have ev : ∀ X : Option (Int × MM), (if x3 < 0 then some ((-1 : Int), M) else (if x3 < 8 then X else some (-1, M))) = some (-1, M) := fun X => by
        by_cases q : x3 < 0
        · rw [if_pos q]
        · rw [if_neg q, if_neg (by omega)]
      rw [ev]
      unfold sX12_luck sX12_luck_b0 sX12_luck_b51
      rcases layC h r1 r2 with ⟨k', kc', -, -, ek, ekc, -, -, N, n1, n2, -⟩ | ⟨-, N, n1, n2⟩
      · refine ⟨-1, -1, M, N, rfl, ?_, rfl, INV_2 n2 h⟩
        rw [ob_s, n1, ob_s]
        show (if wI 1 = 0 then _ else _) = _
        rw [i10, in_f r3 ⟨by omega, by omega⟩ ⟨by omega, by omega⟩ z, i00]
      · refine ⟨-1, -1, M, N, rfl, ?_, rfl, INV_2 n2 h⟩
        rw [ob_s, n1, ob_s]
        show (if wI 0 = 0 then _ else _) = _
        rw [i00]
  · rw [e]
    unfold sX12_luck sX12_luck_b0 sX12_luck_b51
    rcases layC h r1 r2 with ⟨k', kc', -, -, ek, ekc, a1, a2, N, n1, n2, -⟩ | ⟨-, N, n1, n2⟩
    · exact absurd ⟨⟨by omega, by omega⟩, ⟨by omega, by omega⟩⟩ hno
    · refine ⟨-1, -1, M, N, rfl, ?_, rfl, INV_2 n2 h⟩
      rw [ob_s, n1, ob_s]
      show (if wI 0 = 0 then _ else _) = _
      rw [i00]
