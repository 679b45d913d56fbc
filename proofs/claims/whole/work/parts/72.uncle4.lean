theorem tpp_e {P : Nat → Int} (hv : PV P) : ∃ n b : Nat, P 1 = (n : Int) ∧ P 2 = (b : Int) ∧ P 1 * P 2 = ((n * b : Nat) : Int) ∧ n * b ≤ 40 ∧ (n * b ≤ 15 → TPP P n b) := by
  have hv1 := hv.1
  obtain ⟨n, hn⟩ := Int.eq_ofNat_of_zero_le (show 0 ≤ P 1 by omega)
  obtain ⟨b, hb⟩ := Int.eq_ofNat_of_zero_le (show 0 ≤ P 2 by omega)
  refine ⟨n, b, hn, hb, by rw [hn, hb]; simp, Nat.mul_le_mul (show n ≤ 8 by omega) (show b ≤ 5 by omega), fun h => ⟨hn, hb, by omega, by omega, by omega, by omega, h, fun c hc => ?_, fun c hc => ?_⟩⟩
  · have := hv.2.2.2.2.2.1 c (by omega); omega
  · have := hv.2.2.2.2.2.1 c (by omega); omega
theorem canA_e {M : MM} {p : Nat} {P : Nat → Int} (hc : PC M p P) {n b : Nat} (h : P 1 * P 2 = ((n * b : Nat) : Int)) (h40 : n * b ≤ 40) : sX5_canBeTold p M = if n * b ≤ 15 then 1 else 0 := by
  unfold sX5_canBeTold sX5_canBeTold_b0
  rw [hc.1.2.1, hc.1.2.2.1, h, wI_of (by omega) (by omega)]
  by_cases q : n * b ≤ 15
  · rw [if_pos q, if_neg (by omega)]
  · rw [if_neg q, if_pos (by omega)]
theorem canB_e {M : MM} {kp : Nat} {P : Nat → Int} (hd : HD M kp) (pe : pP M kp = P) {n b : Nat} (h : P 1 * P 2 = ((n * b : Nat) : Int)) (h40 : n * b ≤ 40) : sX12_canTell 359 M = if n * b ≤ 15 then 1 else 0 := by
  unfold sX12_canTell sX12_canTell_b0
  rw [hd.2.2.2.1, hd.2.2.2.2.1, pe, h, wI_of (by omega) (by omega)]
  by_cases q : n * b ≤ 15
  · rw [if_pos q, if_neg (by omega)]
  · rw [if_neg q, if_pos (by omega)]
theorem F126_FC {M M' : MM} (h : ∀ a, a ≠ 126 → M' a = M a) : FC M M' := fun a ha => h a (by omega)
theorem F383_FR {M M' : MM} (h : ∀ a, a ≠ 383 → M' a = M a) : FR M M' := fun a _ hb => h a (by omega)
theorem e_uncle {M : MM} (h : INV M) {x1 x2 : Int} (r1 : R32 x1) : ∃ v v' M1 M2, sX11_uncle 0 x1 x2 M = some (v, M1) ∧ sX12_uncle 359 x1 x2 M1 = some (v', M2) ∧ wI v = wI v' ∧ INV M2 := by
  unfold sX11_uncle sX11_uncle_b0 sX11_uncle_b17
  rcases a_party h r1 with ⟨kp, hkp, rfl, hlp, e1⟩ | ⟨hn, e1⟩
  · obtain ⟨hpc, hpv⟩ := i_party h hlp
    obtain ⟨n, b, hn, hb, hm, h40, hT⟩ := tpp_e hpv
    have hg := PG_p kp hkp
    rw [e1, ob_s, nMs_, canA_e hpc hm h40, g0_6]
    by_cases q : n * b ≤ 15
    · rw [if_pos q, i10]
      have hT := hT q
      obtain ⟨M1, a1, a2, a3⟩ := knoA hpc hg (by omega) hT
      have h1 := INV_1 (F126_FC a2) h
      have c4 : M1 364 = M 364 := a2 364 (by omega)
      have c5 : pP M1 kp = pP M kp := pP_c (a2 365 (by omega)) kp
      obtain ⟨N, e, f, hd, pe⟩ := hand_0 h1 (k := kp) (by rw [c4]; exact hlp)
      rw [c5] at pe
      obtain ⟨N', w1, w2, w3⟩ := finB hd (n := n) (b := b) (by rw [pe]; exact hT)
      have hd' : HD N' kp := HD_c hd (w2 365 (by omega)) (fun j _ _ => by rw [w2 359 (by omega)])
      have pe' : pP N' kp = pP M kp := by rw [pP_c (w2 365 (by omega)), pe]
      have hbel := hpv.2.2.2.2.1 0 (by have := hpv.1.1; omega)
      have cbel := (hpc.2.2.2.1 0 (by have := hpv.1.1; omega)).2
      obtain ⟨B, hB⟩ := Int.eq_ofNat_of_zero_le (show 0 ≤ pP M kp 19 by have := hbel.2.2.1; rw [show 19 + 2 * 0 = 19 from rfl] at this; omega)
      rw [show 19 + 2 * 0 = 19 from rfl, hB] at hbel cbel
      have ebel : sX12_belly 359 N' = some (B : Int) := by
        unfold sX12_belly sX12_belly_b0
        rw [of_e hd' ⟨by omega, by omega⟩, ob_s, pe', show (19 : Int).toNat = 19 from rfl, hB]
      have b1 := wr_b (b := b) hT.2.2.2.2.2.2.2.2 (n * b) (B : Int) (Nat.le_refl _)
      have p1 := p10_p (n * b)
      have p2 := p10_l (n * b) (by omega)
      rw [a1, ob_s, hg.2.1, a2 (9 + 34 * kp + 2) (by omega), cbel, show (0 : Int) = ((0 : Nat) : Int) from rfl, atA (by omega) (by omega), ob_s, show 31 * 0 + B = 31 * (n * b - n * b) + B by omega, a3 (n * b) (Nat.le_refl _) B (by omega) (by omega)]
      unfold sX4_ofAll sX4_ofAll_b0
      rw [a2 (9 + 34 * kp) (by omega), hpc.1.2.1, hpc.1.2.2.1, hm, tenA rfl (by omega), ob_s, ob_s]
      obtain ⟨v, g1, g2⟩ := fr_eqi (n := wrP (pP M kp) n b (n * b) (B : Int)) (d := 10 ^ (n * b)) ⟨b1.1, by omega⟩ ⟨by omega, by omega⟩ x2
      rw [g1, ob_s]
      refine ⟨v, v, M1, N', rfl, ?_, rfl, INV_2 (FR_t f (F383_FR w2)) h1⟩
      unfold sX12_uncle sX12_uncle_b0
      rw [ob_s, e, ob_s]
      dsimp only
      rw [i10, canB_e hd pe hm h40, if_pos q, i10, w1, ob_s, ebel, ob_s, wI_of (x := (B : Int)) (by omega) (by omega), if_pos (show 0 ≤ (B : Int) ∧ (B : Int) < 496 by omega), hd'.2.2.2.1, hd'.2.2.2.2.1, pe', hm, tenB rfl (by omega), ob_s, g359_57, tN, show B = 31 * (n * b - n * b) + B by omega, w3 (n * b) (Nat.le_refl _) B (by omega) (by omega), pe, g2, ob_s]
    · rw [if_neg q, i00]
      obtain ⟨N, e, f, hd, pe⟩ := hand_0 h (k := kp) hlp
      refine ⟨-1, -1, M, N, rfl, ?_, rfl, INV_2 f h⟩
      unfold sX12_uncle sX12_uncle_b0 sX12_uncle_b20
      rw [ob_s, e, ob_s]
      dsimp only
      rw [i10, canB_e hd pe hm h40, if_neg q, i00]
  · rw [e1, ob_s, nM0_]
    refine ⟨-1, -1, M, mU M 359 0 0, rfl, ?_, rfl, INV_2 (FR_0 M) h⟩
    unfold sX12_uncle sX12_uncle_b0 sX12_uncle_b20
    rw [ob_s, hand_0f h r1 hn, ob_s]
    dsimp only
    rw [i00]
theorem e_lifts {M : MM} (h : INV M) {x1 x2 x3 x4 : Int} (r1 : R32 x1) (r2 : R32 x2) (r3 : R32 x3) (r4 : R32 x4) : ∃ v v' M1 M2, sX11_lifts 0 x1 x2 x3 x4 M = some (v, M1) ∧ sX12_lifts 359 x1 x2 x3 x4 M1 = some (v', M2) ∧ wI v = wI v' ∧ INV M2 := by
  unfold sX11_lifts sX11_lifts_b0
  rcases a_party h r1 with ⟨kp, hkp, rfl, hlp, e1⟩ | ⟨hn, e1⟩
  · obtain ⟨hpc, hpv⟩ := i_party h hlp
    obtain ⟨n, b, hn, hb, hm, h40, hT⟩ := tpp_e hpv
    have hg := PG_p kp hkp
    have hv1 := hpv.1
    rw [e1, ob_s, nMs_, canA_e hpc hm h40, g0_6, has_e hpc.1.2.1 ⟨by omega, by omega⟩ r2, hpc.1.2.2.1, hb, wI_of (x := x3) r3.1 r3.2, wI_of (x := x4) r4.1 r4.2, wI_of (x := (b : Int)) (by omega) (by omega)]
    have rp : ∀ Z : MM, INV Z → Z 364 = M 364 → pP Z kp = pP M kp → ¬ (n * b ≤ 15 ∧ (0 ≤ x2 ∧ x2 < pP M kp 1) ∧ (0 ≤ x3 ∧ x3 < (b : Int)) ∧ 1 ≤ x4 ∧ x4 ≤ 30) → ∃ M2, sX12_lifts 359 (kp : Int) x2 x3 x4 Z = some (-1, M2) ∧ INV M2 := by
      intro Z hZ z4 z5 nq
      obtain ⟨N, e, f, hd, pe⟩ := hand_0 hZ (k := kp) (by rw [z4]; exact hlp)
      rw [z5] at pe
      unfold sX12_lifts sX12_lifts_b0
      rw [ob_s, e, ob_s]
      dsimp only
      have e27 : N 359 27 = (b : Int) := by rw [hd.2.2.2.2.1, pe]; exact hb
      rw [i10, canB_e hd pe hm h40, chi_e (n := pP M kp 1) (by rw [← pe]; exact hd.2.2.2.1) ⟨by omega, by omega⟩ r2]
      simp only [e27]
      by_cases q1 : n * b ≤ 15
      · rw [if_pos q1, i10, ob_s]
        by_cases q2 : 0 ≤ x2 ∧ x2 < pP M kp 1
        · rw [if_pos q2, i10]
          by_cases q3 : 0 ≤ x3 ∧ x3 ≤ (b : Int) - 1
          · rw [in_t r3 ⟨by omega, by omega⟩ ⟨by omega, by omega⟩ q3, i10, in_f r4 ⟨by omega, by omega⟩ ⟨by omega, by omega⟩ (fun q4 => nq ⟨q1, q2, ⟨q3.1, by omega⟩, q4⟩), i00]
            exact ⟨N, rfl, INV_2 f hZ⟩
          · rw [in_f r3 ⟨by omega, by omega⟩ ⟨by omega, by omega⟩ q3, i00]
            exact ⟨N, rfl, INV_2 f hZ⟩
        · rw [if_neg q2, i00]
          exact ⟨N, rfl, INV_2 f hZ⟩
      · rw [if_neg q1, i00]
        exact ⟨N, rfl, INV_2 f hZ⟩
    by_cases q1 : n * b ≤ 15
    · rw [if_pos q1, i10]
      by_cases q2 : 0 ≤ x2 ∧ x2 < pP M kp 1
      · rw [if_pos q2, i10]
        by_cases q3 : x3 < 0
        · obtain ⟨M2, e3, hI⟩ := rp M h rfl rfl (fun q => by omega)
          rw [if_pos q3]
          exact ⟨_, _, _, _, rfl, e3, rfl, hI⟩
        · rw [if_neg q3]
          by_cases q4 : x3 < (b : Int)
          · rw [if_pos q4]
            by_cases q5 : x4 < 1
            · obtain ⟨M2, e3, hI⟩ := rp M h rfl rfl (fun q => by omega)
              rw [if_pos q5]
              exact ⟨_, _, _, _, rfl, e3, rfl, hI⟩
            · rw [if_neg q5]
              by_cases q6 : x4 ≤ 30
              · rw [if_pos q6]
                have hT := hT q1
                obtain ⟨c, rfl⟩ := Int.eq_ofNat_of_zero_le q2.1
                obtain ⟨j, rfl⟩ := Int.eq_ofNat_of_zero_le (show 0 ≤ x3 by omega)
                obtain ⟨x, rfl⟩ := Int.eq_ofNat_of_zero_le (show 0 ≤ x4 by omega)
                have hcn : c < n := by omega
                have hjb : j < b := by omega
                have hkb : c * b + j + 1 ≤ n * b := by
                  have : (c + 1) * b ≤ n * b := Nat.mul_le_mul_right b (by omega)
                  rw [Nat.add_mul, Nat.one_mul] at this
                  omega
                have hmc : (c : Int) * (b : Int) = ((c * b : Nat) : Int) := by simp
                obtain ⟨D, hD⟩ : ∃ D, D = n * b - (c * b + j + 1) := ⟨_, rfl⟩
                obtain ⟨M1, a1, a2, a3⟩ := knoA hpc hg (by omega) hT
                have h1 := INV_1 (F126_FC a2) h
                have c4 : M1 364 = M 364 := a2 364 (by omega)
                have c5 : pP M1 kp = pP M kp := pP_c (a2 365 (by omega)) kp
                obtain ⟨N, e, f, hd, pe⟩ := hand_0 h1 (k := kp) (by rw [c4]; exact hlp)
                rw [c5] at pe
                obtain ⟨N', w1, w2, w3⟩ := finB hd (n := n) (b := b) (by rw [pe]; exact hT)
                have hd' : HD N' kp := HD_c hd (w2 365 (by omega)) (fun j _ _ => by rw [w2 359 (by omega)])
                have pe' : pP N' kp = pP M kp := by rw [pP_c (w2 365 (by omega)), pe]
                have tk := takB hd (by rw [pe]; exact hT) w2 (D := D) (by omega) (fun d hd2 => w3 d (by omega)) (x := x) ⟨by omega, by omega⟩ hcn
                have tkA := notA hpc hg (by omega) hT a2 (D := D) (by omega) (fun d hd2 => a3 d (by omega)) (x := x) ⟨by omega, by omega⟩ hcn
                rw [pe] at tk w3
                have b1 := wr_b (b := b) hT.2.2.2.2.2.2.2.2 D (x : Int) (by omega)
                have b2 := tk_b (b := b) hT.2.2.2.2.2.2.2.2 (show D ≤ n * b by omega) c (x : Int)
                have pl := p10_l D (by omega)
                have ek : ((n * b - (D + 1) : Nat) : Int) = ((c * b : Nat) : Int) + (j : Int) := by omega
                rw [ek] at tk tkA
                have rf : sX12_lifts 359 (kp : Int) (c : Int) (j : Int) (x : Int) M1 = if wrP (pP M kp) n b D (x : Int) ≤ tkP (pP M kp) n b D c (x : Int) then some (0, N') else some (1, N') := by
                  have e27 : N 359 27 = (b : Int) := by rw [hd.2.2.2.2.1, pe]; exact hb
                  unfold sX12_lifts sX12_lifts_b0
                  rw [ob_s, e, ob_s]
                  dsimp only
                  rw [i10, canB_e hd pe hm h40, if_pos q1, i10, chi_e (n := pP M kp 1) (by rw [← pe]; exact hd.2.2.2.1) ⟨by omega, by omega⟩ r2, ob_s, if_pos q2, i10]
                  simp only [e27]
                  rw [in_t r3 ⟨by omega, by omega⟩ ⟨by omega, by omega⟩ ⟨by omega, by omega⟩, i10, in_t r4 ⟨by omega, by omega⟩ ⟨by omega, by omega⟩ ⟨by omega, by omega⟩, i10, w1, ob_s]
                  have e27' : N' 359 27 = (b : Int) := by rw [hd'.2.2.2.2.1, pe']; exact hb
                  simp only [e27']
                  rw [hmc, wI_of (x := 31 * (((c * b : Nat) : Int) + (j : Int) + 1) + (x : Int)) (by omega) (by omega), if_pos (show 0 ≤ 31 * (((c * b : Nat) : Int) + (j : Int) + 1) + (x : Int) ∧ 31 * (((c * b : Nat) : Int) + (j : Int) + 1) + (x : Int) < 496 by omega), g359_57, show (31 * (((c * b : Nat) : Int) + (j : Int) + 1) + (x : Int)).toNat = 31 * (n * b - D) + x by omega, w3 D (by omega) x (by omega) (by omega), tk, ob_s, wJ_of (x := wrP (pP M kp) n b D (x : Int)) (by omega) (by omega), wJ_of (x := tkP (pP M kp) n b D c (x : Int)) (by omega) (by omega)]
                unfold sX4_isBetterLifted sX4_isBetterLifted_b0
                rw [a1, ob_s, has_e ((a2 (9 + 34 * kp) (by omega) ▸ hpc.1.2.1 : M1 (9 + 34 * kp) 3 = pP M kp 1)) ⟨by omega, by omega⟩ r2, if_pos q2, i10, a2 (9 + 34 * kp) (by omega), hpc.1.2.2.1, hb, hmc, tkA, show ((c * b : Nat) : Int) + (j : Int) + 1 = ((n * b - D : Nat) : Int) by omega, atA (by omega) (by omega), ob_s, ob_s, a3 D (by omega) x (by omega) (by omega), wJ_of (x := wrP (pP M kp) n b D (x : Int)) (by omega) (by omega), wJ_of (x := tkP (pP M kp) n b D c (x : Int)) (by omega) (by omega)]
                have hI := INV_2 (FR_t f (F383_FR w2)) h1
                by_cases y : wrP (pP M kp) n b D (x : Int) ≤ tkP (pP M kp) n b D c (x : Int)
                · rw [if_pos y] at rf ⊢
                  rw [ob_s, i00]
                  exact ⟨_, _, _, _, rfl, rf, rfl, hI⟩
                · rw [if_neg y] at rf ⊢
                  rw [ob_s, i10]
                  exact ⟨_, _, _, _, rfl, rf, rfl, hI⟩
              · obtain ⟨M2, e3, hI⟩ := rp M h rfl rfl (fun q => by omega)
                rw [if_neg q6]
                exact ⟨_, _, _, _, rfl, e3, rfl, hI⟩
          · obtain ⟨M2, e3, hI⟩ := rp M h rfl rfl (fun q => by omega)
            rw [if_neg q4]
            exact ⟨_, _, _, _, rfl, e3, rfl, hI⟩
      · obtain ⟨M2, e3, hI⟩ := rp M h rfl rfl (fun q => q2 q.2.1)
        rw [if_neg q2, i00]
        exact ⟨_, _, _, _, rfl, e3, rfl, hI⟩
    · obtain ⟨M2, e3, hI⟩ := rp M h rfl rfl (fun q => q1 q.1)
      rw [if_neg q1, i00]
      exact ⟨_, _, _, _, rfl, e3, rfl, hI⟩
  · rw [e1, ob_s, nM0_]
    refine ⟨-1, -1, M, mU M 359 0 0, rfl, ?_, rfl, INV_2 (FR_0 M) h⟩
    unfold sX12_lifts sX12_lifts_b0
    rw [ob_s, hand_0f h r1 hn, ob_s]
    dsimp only
    rw [i00]
