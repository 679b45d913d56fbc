theorem e_chanceJ {M : MM} (h : INV M) {x1 x2 x3 x4 x5 : Int} (r1 : R32 x1) (r2 : R32 x2) (r3 : R32 x3) (r4 : R32 x4) : ∃ v v' M1 M2, sX11_chance 0 x1 x2 x3 x4 x5 M = some (v, M1) ∧ sX12_chance 359 x1 x2 x3 x4 x5 M1 = some (v', M2) ∧ wJ v = wJ v' ∧ INV M2 := by
  unfold sX11_chance sX11_chance_b0 sX11_chance_b31
  rcases a_party h r1 with ⟨kp, hkp, rfl, hlp, e1⟩ | ⟨hn, e1⟩
  · obtain ⟨hpc, hpv⟩ := i_party h hlp
    obtain ⟨n, b, hn, hb, hm, h40, hT⟩ := tpp_e hpv
    have hg := PG_p kp hkp
    have hv1 := hpv.1
    have hbel := hpv.2.2.2.2.1 0 (by omega)
    rw [show 19 + 2 * 0 = 19 from rfl] at hbel
    obtain ⟨B0, hB0⟩ := Int.eq_ofNat_of_zero_le (show 0 ≤ pP M kp 19 by omega)
    rw [hB0] at hbel
    have hb0 : 1 ≤ B0 ∧ B0 ≤ 30 := by omega
    have rp : ∀ Z : MM, INV Z → Z 364 = M 364 → pP Z kp = pP M kp → ¬ (n * b ≤ 15 ∧ (1 ≤ x3 ∧ x3 ≤ 9) ∧ (fbP (odP x2 n) n = 1 * 2 ^ n - 1 ∧ (x2 = -1 ∨ xdP x2 n = 0)) ∧ ((0 ≤ x4 ∧ x4 ≤ 2) ∨ (10 ≤ x4 ∧ x4 < 10 + (n : Int)))) → ∃ M2, sX12_chance 359 (kp : Int) x2 x3 x4 x5 Z = some (-1, M2) ∧ INV M2 := by
      intro Z hZ z4 z5 nq
      obtain ⟨N, e, f, hd, pe⟩ := hand_0 hZ (k := kp) (by rw [z4]; exact hlp)
      rw [z5] at pe
      unfold sX12_chance sX12_chance_b0 sX12_chance_b65
      rw [ob_s]
      by_cases q3 : 1 ≤ x3 ∧ x3 ≤ 9
      · rw [in_t r3 ⟨by omega, by omega⟩ ⟨by omega, by omega⟩ q3, i10, e, ob_s]
        dsimp only
        rw [i10, canB_e hd pe hm h40]
        by_cases q1 : n * b ≤ 15
        · have n26 : N 359 26 = (n : Int) := by rw [hd.2.2.2.1, pe]; exact hn
          obtain ⟨L, l1, l2, l3⟩ := ordB n26 ⟨by omega, by omega⟩ r2
          have fL : FR N L := fun a ha hb => l2 a (by omega)
          have L26 : L 359 26 = (n : Int) := by rw [l2 359 (by omega)]; exact n26
          rw [if_pos q1, i10, l1, ob_s]
          dsimp only
          by_cases q2 : fbP (odP x2 n) n = 1 * 2 ^ n - 1 ∧ (x2 = -1 ∨ xdP x2 n = 0)
          · rw [if_pos q2, i10, in_f r4 ⟨by omega, by omega⟩ ⟨by omega, by omega⟩ (fun w => nq ⟨q1, q3, q2, Or.inl w⟩), i00]
            simp only [L26]
            rw [in_f r4 ⟨by omega, by omega⟩ ⟨by omega, by omega⟩ (fun w => nq ⟨q1, q3, q2, Or.inr ⟨w.1, by omega⟩⟩), i00]
            exact ⟨L, rfl, INV_2 (FR_t f fL) hZ⟩
          · rw [if_neg q2, i00]
            exact ⟨L, rfl, INV_2 (FR_t f fL) hZ⟩
        · rw [if_neg q1, i00]
          exact ⟨N, rfl, INV_2 f hZ⟩
      · rw [in_f r3 ⟨by omega, by omega⟩ ⟨by omega, by omega⟩ q3, i00]
        exact ⟨_, rfl, INV_2 (FR_0 Z) hZ⟩
    rw [e1, ob_s, nMs_, canA_e hpc hm h40, g0_6, wI_of (x := x3) r3.1 r3.2]
    by_cases q1 : n * b ≤ 15
    · rw [if_pos q1, i10]
      by_cases q2 : x3 < 1
      · obtain ⟨M2, e3, hI⟩ := rp M h rfl rfl (fun q => by omega)
        rw [if_pos q2]
        exact ⟨_, _, _, _, rfl, e3, rfl, hI⟩
      · rw [if_neg q2]
        by_cases q3 : x3 ≤ 9
        · rw [if_pos q3]
          have hT := hT q1
          have hT0 := hT
          obtain ⟨t1, t2, t3, t4, t5, t6, t7, t8, t9⟩ := hT
          obtain ⟨lay, rfl⟩ := Int.eq_ofNat_of_zero_le (show 0 ≤ x3 by omega)
          have hlay : 1 ≤ lay ∧ lay ≤ 9 := by omega
          obtain ⟨L, l1, l2, l3⟩ := ordA hpc (by omega) hn ⟨t3, t4⟩ (N := M) rfl r2
          have fL : FC M L := fun a ha => l2 a (by omega)
          rw [l1, ob_s]
          dsimp only
          by_cases q4 : fbP (odP x2 n) n = 1 * 2 ^ n - 1 ∧ (x2 = -1 ∨ xdP x2 n = 0)
          · rw [if_pos q4, i10]
            have ho : ORD (fun i => odP x2 n (n - 1 - i)) n := rev_ord (fb_ord t4 (fun j hj => od_b t4 hj) q4.1)
            obtain ⟨o, hoo⟩ : ∃ o, o = fun i => odP x2 n (n - 1 - i) := ⟨_, rfl⟩
            rw [← hoo] at ho
            obtain ⟨Y, y1, y2⟩ := whaA hpc hpv hg (by omega) hT0 l2 ho (fun i hi => by rw [hoo]; exact l3 i hi) hB0 hb0 hlay r4
            have fY : FC M Y := fun a ha => by rw [y2 a (by omega) (by omega)]; exact fL a ha
            have h1 := INV_1 fY h
            have c4 : Y 364 = M 364 := fY 364 (by omega)
            have c5 : pP Y kp = pP M kp := pP_c (fY 365 (by omega)) kp
            rw [y1, ob_s]
            dsimp only
            by_cases q5 : (0 ≤ x4 ∧ x4 ≤ 2) ∨ (10 ≤ x4 ∧ x4 < 10 + (n : Int))
            · have wb := whW_b hT0 ho (B := B0 * lay) (Nat.mul_pos hb0.1 hlay.1) q5
              have pl := p10_l (n * b) (by omega)
              have pp := p10_p (n * b)
              obtain ⟨v, g1, g2⟩ := fr_eqi (n := whW (pP M kp) b n (B0 * lay) o x4) (d := 10 ^ (n * b)) ⟨wb.1, by omega⟩ ⟨by omega, by omega⟩ x5
              obtain ⟨N2, w1, w2⟩ : ∃ N2, sX12_chance 359 (kp : Int) x2 (lay : Int) x4 x5 Y = some (v, N2) ∧ INV N2 := by
                obtain ⟨N, e, f, hd, pe⟩ := hand_0 h1 (k := kp) (by rw [c4]; exact hlp)
                rw [c5] at pe
                have n26 : N 359 26 = (n : Int) := by rw [hd.2.2.2.1, pe]; exact hn
                obtain ⟨L', k1, k2, k3⟩ := ordB n26 ⟨by omega, by omega⟩ r2
                have L26 : L' 359 26 = (n : Int) := by rw [k2 359 (by omega)]; exact n26
                have hdL : HD L' kp := HD_c hd (k2 365 (by omega)) (fun j _ _ => by rw [k2 359 (by omega)])
                have peL : pP L' kp = pP M kp := (pP_c (k2 365 (by omega)) kp).trans pe
                obtain ⟨W, f1, f2, f3, f4, f5, f6, f7⟩ := findB hdL peL hpv hT0 ho (fun i hi => by rw [hoo]; exact k3 q4 i hi) hB0 hb0 hlay
                have hI : INV W := INV_2 (FR_t f (FR_t (fun a ha hb => k2 a (by omega)) (FQ_FR f2))) h1
                refine ⟨W, ?_, hI⟩
                have rest : sX12_chance_b69 359 (kp : Int) x2 (lay : Int) x4 x5 L' = some (v, W) := by
                  unfold sX12_chance_b69 sX12_chance_b122
                  rw [f1, ob_s, f3, f4, f5, f6, wI_of (x := x4) r4.1 r4.2, g359_51]
                  unfold whW at g2
                  by_cases a0 : x4 = 0
                  · rw [if_pos a0] at g2 ⊢; rw [g2, ob_s]
                  · rw [if_neg a0] at g2 ⊢
                    by_cases a1 : x4 = 1
                    · rw [if_pos a1] at g2 ⊢; rw [g2, ob_s]
                    · rw [if_neg a1] at g2 ⊢
                      by_cases a2 : x4 = 2
                      · rw [if_pos a2] at g2 ⊢; rw [g2, ob_s]
                      · rw [if_neg a2] at g2 ⊢
                        rw [wI_of (x := x4 - 10) (by omega) (by omega), if_pos (show 0 ≤ x4 - 10 ∧ x4 - 10 < 8 by omega), f7 _ (by omega), g2, ob_s]
                unfold sX12_chance sX12_chance_b0
                rw [ob_s, in_t r3 ⟨by omega, by omega⟩ ⟨by omega, by omega⟩ ⟨by omega, by omega⟩, i10, e, ob_s]
                dsimp only
                rw [i10, canB_e hd pe hm h40, if_pos q1, i10, k1, ob_s]
                dsimp only
                rw [if_pos q4, i10]
                simp only [L26]
                by_cases a0 : 0 ≤ x4 ∧ x4 ≤ 2
                · rw [in_t r4 ⟨by omega, by omega⟩ ⟨by omega, by omega⟩ a0, i10]; exact rest
                · rw [in_f r4 ⟨by omega, by omega⟩ ⟨by omega, by omega⟩ a0, i00, in_t r4 ⟨by omega, by omega⟩ ⟨by omega, by omega⟩ (by omega), i10]; exact rest
              rw [if_pos q5, wJ_of (x := whW (pP M kp) b n (B0 * lay) o x4) (by omega) (by omega), if_pos wb.1]
              unfold sX4_ofAll sX4_ofAll_b0
              rw [fY (9 + 34 * kp) (by omega), hpc.1.2.1, hpc.1.2.2.1, hm, tenA rfl (by omega), ob_s, ob_s, g1, ob_s]
              exact ⟨v, v, Y, N2, rfl, w1, rfl, w2⟩
            · obtain ⟨M2, e3, hI⟩ := rp Y h1 c4 c5 (fun q => q5 q.2.2.2)
              rw [if_neg q5, wJ_of (x := -1) (by omega) (by omega), if_neg (by omega)]
              exact ⟨_, _, Y, M2, rfl, e3, rfl, hI⟩
          · obtain ⟨M2, e3, hI⟩ := rp L (INV_1 fL h) (l2 364 (by omega)) (pP_c (l2 365 (by omega)) kp) (fun q => q4 q.2.2.1)
            rw [if_neg q4, i00]
            exact ⟨_, _, L, M2, rfl, e3, rfl, hI⟩
        · obtain ⟨M2, e3, hI⟩ := rp M h rfl rfl (fun q => by omega)
          rw [if_neg q3]
          exact ⟨_, _, _, _, rfl, e3, rfl, hI⟩
    · obtain ⟨M2, e3, hI⟩ := rp M h rfl rfl (fun q => q1 q.1)
      rw [if_neg q1, i00]
      exact ⟨_, _, _, _, rfl, e3, rfl, hI⟩
  · rw [e1, ob_s, nM0_]
    obtain ⟨M2, e3, hI⟩ : ∃ M2, sX12_chance 359 x1 x2 x3 x4 x5 M = some (-1, M2) ∧ INV M2 := by
      unfold sX12_chance sX12_chance_b0 sX12_chance_b65
      rw [ob_s]
      by_cases q3 : 1 ≤ x3 ∧ x3 ≤ 9
      · rw [in_t r3 ⟨by omega, by omega⟩ ⟨by omega, by omega⟩ q3, i10, hand_0f h r1 hn, ob_s]
        dsimp only
        rw [i00]
        exact ⟨_, rfl, INV_2 (FR_0 M) h⟩
      · rw [in_f r3 ⟨by omega, by omega⟩ ⟨by omega, by omega⟩ q3, i00]
        exact ⟨_, rfl, INV_2 (FR_0 M) h⟩
    exact ⟨_, _, _, _, rfl, e3, rfl, hI⟩

theorem e_uncleJ {M : MM} (h : INV M) {x1 x2 : Int} (r1 : R32 x1) : ∃ v v' M1 M2, sX11_uncle 0 x1 x2 M = some (v, M1) ∧ sX12_uncle 359 x1 x2 M1 = some (v', M2) ∧ wJ v = wJ v' ∧ INV M2 := by
  unfold sX11_uncle sX11_uncle_b0 sX11_uncle_b17
  rcases a_party h r1 with ⟨kp, hkp, rfl, hlp, e1⟩ | ⟨hn, e1⟩
  · obtain ⟨hpc, hpv⟩ := i_party h hlp
    obtain ⟨n, b, hn, hb, hm, h40, hT⟩ := tpp_e hpv
    have hg := PG_p kp hkp
    rw [e1, ob_s, nMs_, canA_e hpc hm h40, g0_6]
    by_cases q : n * b ≤ 15
    · rw [if_pos q, i10]
      have hT := hT q
      obtain ⟨M1, a1, a2, a3⟩ := knoA hpc hg (by omega) hT
      have h1 := INV_1 (F126_FC a2) h
      have c4 : M1 364 = M 364 := a2 364 (by omega)
      have c5 : pP M1 kp = pP M kp := pP_c (a2 365 (by omega)) kp
      obtain ⟨N, e, f, hd, pe⟩ := hand_0 h1 (k := kp) (by rw [c4]; exact hlp)
      rw [c5] at pe
      obtain ⟨N', w1, w2, w3⟩ := finB hd (n := n) (b := b) (by rw [pe]; exact hT)
      have hd' : HD N' kp := HD_c hd (w2 365 (by omega)) (fun j _ _ => by rw [w2 359 (by omega)])
      have pe' : pP N' kp = pP M kp := by rw [pP_c (w2 365 (by omega)), pe]
      have hbel := hpv.2.2.2.2.1 0 (by have := hpv.1.1; omega)
      have cbel := (hpc.2.2.2.1 0 (by have := hpv.1.1; omega)).2
      obtain ⟨B, hB⟩ := Int.eq_ofNat_of_zero_le (show 0 ≤ pP M kp 19 by have := hbel.2.2.1; rw [show 19 + 2 * 0 = 19 from rfl] at this; omega)
      rw [show 19 + 2 * 0 = 19 from rfl, hB] at hbel cbel
      have ebel : sX12_belly 359 N' = some (B : Int) := by
        unfold sX12_belly sX12_belly_b0
        rw [of_e hd' ⟨by omega, by omega⟩, ob_s, pe', show (19 : Int).toNat = 19 from rfl, hB]
      have b1 := wr_b (b := b) hT.2.2.2.2.2.2.2.2 (n * b) (B : Int) (Nat.le_refl _)
      have p1 := p10_p (n * b)
      have p2 := p10_l (n * b) (by omega)
      rw [a1, ob_s, hg.2.1, a2 (9 + 34 * kp + 2) (by omega), cbel, show (0 : Int) = ((0 : Nat) : Int) from rfl, atA (by omega) (by omega), ob_s, show 31 * 0 + B = 31 * (n * b - n * b) + B by omega, a3 (n * b) (Nat.le_refl _) B (by omega) (by omega)]
      unfold sX4_ofAll sX4_ofAll_b0
      rw [a2 (9 + 34 * kp) (by omega), hpc.1.2.1, hpc.1.2.2.1, hm, tenA rfl (by omega), ob_s, ob_s]
      obtain ⟨v, g1, g2⟩ := fr_eqi (n := wrP (pP M kp) n b (n * b) (B : Int)) (d := 10 ^ (n * b)) ⟨b1.1, by omega⟩ ⟨by omega, by omega⟩ x2
      rw [g1, ob_s]
      refine ⟨v, v, M1, N', rfl, ?_, rfl, INV_2 (FR_t f (F383_FR w2)) h1⟩
      unfold sX12_uncle sX12_uncle_b0
      rw [ob_s, e, ob_s]
      dsimp only
      rw [i10, canB_e hd pe hm h40, if_pos q, i10, w1, ob_s, ebel, ob_s, wI_of (x := (B : Int)) (by omega) (by omega), if_pos (show 0 ≤ (B : Int) ∧ (B : Int) < 496 by omega), hd'.2.2.2.1, hd'.2.2.2.2.1, pe', hm, tenB rfl (by omega), ob_s, g359_57, tN, show B = 31 * (n * b - n * b) + B by omega, w3 (n * b) (Nat.le_refl _) B (by omega) (by omega), pe, g2, ob_s]
    · rw [if_neg q, i00]
      obtain ⟨N, e, f, hd, pe⟩ := hand_0 h (k := kp) hlp
      refine ⟨-1, -1, M, N, rfl, ?_, rfl, INV_2 f h⟩
      unfold sX12_uncle sX12_uncle_b0 sX12_uncle_b20
      rw [ob_s, e, ob_s]
      dsimp only
      rw [i10, canB_e hd pe hm h40, if_neg q, i00]
  · rw [e1, ob_s, nM0_]
    refine ⟨-1, -1, M, mU M 359 0 0, rfl, ?_, rfl, INV_2 (FR_0 M) h⟩
    unfold sX12_uncle sX12_uncle_b0 sX12_uncle_b20
    rw [ob_s, hand_0f h r1 hn, ob_s]
    dsimp only
    rw [i00]
