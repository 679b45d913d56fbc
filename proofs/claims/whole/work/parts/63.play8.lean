/-- the calls stop, state, did -/
theorem F115_FC {M M' : MM} (h : F115 M M') : FC M M' := fun a ha => h a (by omega)
theorem handB {M : MM} (h : INV M) {kp kb : Nat} (hp : (kp : Int) < M 364 0) (hb : (kb : Int) < M 364 1) : ∃ N, sX12_hand 359 (kp : Int) (mU (mU M 359 0 0) 359 29 (kb : Int)) = some (1, N) ∧ FR M N ∧ HD N kp ∧ pP N kp = pP M kp ∧ bB N kb = bB M kb ∧ N 359 29 = (kb : Int) := by
  have e4 : mU (mU M 359 0 0) 359 29 (kb : Int) 364 0 = M 364 0 := by rw [mU_ne _ _ (by omega), mU_ne _ _ (by omega)]
  obtain ⟨N, e, f, hd⟩ := hand_t (M := mU (mU M 359 0 0) 359 29 (kb : Int)) (k := kp) (by rw [e4]; exact (i_size h (s := 0) (by omega)).2) (by rw [e4]; exact hp)
  refine ⟨N, e, FR_t (FR_u (FR_0 M) (by omega)) (F24_FR f), hd, pP_c ((f.1 365 (by omega)).trans ((mU_row _ _ (by omega)).trans (mU_row _ _ (by omega)))) kp, ?_, (f.2 29 (by omega)).trans (mU_eq _ _ _ _)⟩
  unfold bB
  rw [f.1 366 (by omega), mU_row _ _ (by omega), mU_row _ _ (by omega)]
theorem layB {M : MM} (h : INV M) {x1 x2 x3 : Int} (r1 : R32 x1) (r2 : R32 x2) (r3 : R32 x3) : (∀ kp kb n : Nat, (kp : Int) < M 364 0 → (kb : Int) < M 364 1 → x1 = (kp : Int) → x2 = (kb : Int) → x3 = (n : Int) → (n : Int) ≤ bB M kb 0 → (rnP (pP M kp) (bB M kb) n 0 (s0P (pP M kp) (pP M kp 19))).1 = n → ∃ N, sX12_layState 359 x1 x2 x3 (mU M 359 0 0) = some (1, N) ∧ FR M N ∧ HD N kp ∧ pP N kp = pP M kp ∧ RRL (pP M kp) N (rnP (pP M kp) (bB M kb) n 0 (s0P (pP M kp) (pP M kp 19))).2) ∧ ((∀ kp kb n : Nat, (kp : Int) < M 364 0 → (kb : Int) < M 364 1 → x1 = (kp : Int) → x2 = (kb : Int) → x3 = (n : Int) → (n : Int) ≤ bB M kb 0 → ¬ (rnP (pP M kp) (bB M kb) n 0 (s0P (pP M kp) (pP M kp 19))).1 = n) → ∃ N, sX12_layState 359 x1 x2 x3 (mU M 359 0 0) = some (0, N) ∧ FR M N) := by
  have hb := has_b (M := mU M 359 0 0) (x := x2) (by rw [m0_364]; exact (i_size h (s := 1) (by omega)).2) r2
  have hm0 := (i_size h (s := 0) (by omega)).2
  rw [m0_364] at hb
  unfold sX12_layState sX12_layState_b0
  rw [hb, ob_s]
  by_cases z2 : 0 ≤ x2 ∧ x2 < M 364 1
  · rw [if_pos z2]
    dsimp only
    rw [i10]
    obtain ⟨kb, rfl⟩ := Int.eq_ofNat_of_zero_le z2.1
    by_cases z1 : 0 ≤ x1 ∧ x1 < M 364 0
    · obtain ⟨kp, rfl⟩ := Int.eq_ofNat_of_zero_le z1.1
      obtain ⟨N, e, f, hd, pe, be, n29⟩ := handB h z1.2 z2.2
      obtain ⟨hpc, hpv⟩ := i_party h z1.2
      obtain ⟨hbc, hbv⟩ := i_book h z2.2
      have hb2 := (i_size h (s := 1) (by omega)).2
      have hk2 : kb < 2 := by omega
      have h40 := hbv.2.1
      have h00 := hbv.1
      rw [e, ob_s]
      dsimp only
      rw [i10, deeds_e hk2 n29, ob_s, be]
      by_cases z3 : 0 ≤ x3 ∧ x3 ≤ bB M kb 0
      · obtain ⟨n, rfl⟩ := Int.eq_ofNat_of_zero_le z3.1
        have hv' : PV (pP N kp) := by rw [pe]; exact hpv
        have hw' : BV (bB N kb) := by rw [be]; exact hbv
        have hbel := hpv.2.2.2.2.1 0 (by have := hpv.1.1; omega)
        have ebel : sX12_belly 359 N = some (pP M kp 19) := by
          unfold sX12_belly sX12_belly_b0
          rw [of_e hd ⟨by omega, by omega⟩, ob_s, pe]
          rfl
        obtain ⟨N', e', w1, w2, w3, w4⟩ := playB hd hk2 n29 hv' hw' (FPL_r N) (belly := pP M kp 19) ⟨hbel.2.2.1, hbel.2.2.2⟩ (n := n) (by rw [be]; exact z3.2)
        rw [in_t ⟨by omega, by omega⟩ ⟨by omega, by omega⟩ ⟨by omega, by omega⟩ z3, i10, ebel, ob_s, e', ob_s]
        rw [pe, be] at w2 ⊢
        have rb := rn_b (P := pP M kp) (R := bB M kb) n 0 (s0P (pP M kp) (pP M kp 19))
        dsimp only
        obtain ⟨q, hq⟩ : ∃ q, rnP (pP M kp) (bB M kb) n 0 (s0P (pP M kp) (pP M kp 19)) = q := ⟨_, rfl⟩
        rw [hq] at rb w2 ⊢
        rw [wI_of (x := (q.1 : Int)) (by omega) (by omega), wI_of (x := (n : Int)) (by omega) (by omega)]
        refine ⟨fun kp' kb' n' _ _ a1 a2 a3 a4 a5 => ?_, fun a => ?_⟩
        · obtain rfl : kp = kp' := by omega
          obtain rfl : kb = kb' := by omega
          obtain rfl : n = n' := by omega
          rw [hq] at a5 ⊢
          rw [if_pos (by omega)]
          exact ⟨N', rfl, FR_t f (FPL_FR w1), FPL_HD w1 hd, (FPL_p w1 kp).trans pe, w2⟩
        · rw [if_neg (fun z => a kp kb n z1.2 z2.2 rfl rfl rfl z3.2 (by rw [hq]; omega))]
          exact ⟨N', rfl, FR_t f (FPL_FR w1)⟩
      · rw [in_f ⟨by omega, by omega⟩ ⟨by omega, by omega⟩ ⟨by omega, by omega⟩ z3, i00]
        refine ⟨fun kp' kb' n' _ _ a1 a2 a3 a4 a5 => ?_, fun _ => ⟨N, rfl, f⟩⟩
        obtain rfl : kb = kb' := by omega
        exact absurd ⟨by omega, by omega⟩ z3
    · rw [hand_f (by rw [mU_ne _ _ (by omega), m0_364]; exact hm0) r1 (by rw [mU_ne _ _ (by omega), m0_364]; exact z1), ob_s]
      dsimp only
      rw [i00]
      exact ⟨fun kp' kb' n' b1 _ a1 a2 a3 a4 a5 => absurd ⟨by omega, by omega⟩ z1, fun _ => ⟨_, rfl, FR_u (FR_0 M) (by omega)⟩⟩
  · rw [if_neg z2]
    dsimp only
    rw [i00]
    exact ⟨fun kp' kb' n' _ b2 a1 a2 a3 a4 a5 => absurd ⟨by omega, by omega⟩ z2, fun _ => ⟨_, rfl, FR_u (FR_0 M) (by omega)⟩⟩
theorem ansA {P : Nat → Int} {M M0 : MM} {p : Nat} {s : PS} (hc : PC M0 p P) (hv : PV P) (hg : PG p) (hp : p < 66) (hf : F115 M0 M) (hM : RCL P M s) {N : MM} {kp : Nat} (hd : HD N kp) (pe : pP N kp = P) (hN : RRL P N s) {x : Int} (r : R32 x) : ∃ v v', sX6_answer 115 p x M = some v ∧ (if wI (sX12_in x 10 (9 + (N 359 25))) = 0 then (if wI x = 0 then (some (((N 359 30), N))) else (if wI x = 1 then (some (((N 359 31), N))) else (if wI x = 2 then (some (((N 359 32), N))) else (if wI x = 3 then (some (((N 359 33), N))) else (if wI x = 4 then (some (((N 359 34), N))) else (if wI x = 5 then (if wI (N 359 36) = 0 then (some ((0, N))) else (some ((1, N)))) else (if wI x = 6 then (some (((N 359 37), N))) else (if wI x = 7 then (some (((N 359 38), N))) else (if wI x = 8 then (some (((N 359 39), N))) else (some (((-2), N)))))))))))) else (if 0 ≤ wI (x - 10) ∧ wI (x - 10) < 5 then (some (((N (gR 359 40) (wI (x - 10)).toNat), N))) else none)) = some (v', N) ∧ wI v = wI v' := by
  have hv1 := hv.1
  have hc0 := (F115_PC hf (by omega) hc).1.1
  obtain ⟨⟨m0, m1, m2, m3, m4, m5, m6, m7, m8⟩, mL, mD⟩ := hN
  obtain ⟨k0, k1, k2, k3, k4⟩ := hM
  unfold sX6_answer sX6_answer_b0 sX6_answer_b27
  rw [hd.2.2.1, pe, hc0, wI_of (x := x) r.1 r.2, wI_of (x := 10 + P 0) (by omega) (by omega), g115_9, g359_40]
  have low : ∃ v v', (if x = 0 then (some (M 115 0)) else (if x = 1 then (some ((M 115 1))) else (if x = 2 then (some ((M 115 2))) else (if x = 3 then (some ((M 115 3))) else (if x = 4 then (some ((M 115 4))) else (if x = 5 then (if wI (M 115 5) = 0 then (some (0)) else (some (1))) else (if x = 6 then (some ((M 115 6))) else (if x = 7 then (some ((M 115 7))) else (if x = 8 then (some ((M 115 8))) else (some ((-2)))))))))))) = some v ∧ (if x = 0 then (some (((N 359 30), N))) else (if x = 1 then (some (((N 359 31), N))) else (if x = 2 then (some (((N 359 32), N))) else (if x = 3 then (some (((N 359 33), N))) else (if x = 4 then (some (((N 359 34), N))) else (if x = 5 then (if wI (N 359 36) = 0 then (some ((0, N))) else (some ((1, N)))) else (if x = 6 then (some (((N 359 37), N))) else (if x = 7 then (some (((N 359 38), N))) else (if x = 8 then (some (((N 359 39), N))) else (some (((-2), N)))))))))))) = some (v', N) ∧ wI v = wI v' := by
    rw [m0, m1, m2, m3, m4, m5, m6, m7, m8, k0 0 (by omega), k0 1 (by omega), k0 2 (by omega), k0 3 (by omega), k0 4 (by omega), k0 5 (by omega), k0 6 (by omega), k0 7 (by omega), k0 8 (by omega)]
    by_cases q0 : x = 0
    · rw [if_pos q0, if_pos q0]; exact ⟨_, _, rfl, rfl, rfl⟩
    rw [if_neg q0, if_neg q0]
    by_cases q0 : x = 1
    · rw [if_pos q0, if_pos q0]; exact ⟨_, _, rfl, rfl, rfl⟩
    rw [if_neg q0, if_neg q0]
    by_cases q0 : x = 2
    · rw [if_pos q0, if_pos q0]; exact ⟨_, _, rfl, rfl, rfl⟩
    rw [if_neg q0, if_neg q0]
    by_cases q0 : x = 3
    · rw [if_pos q0, if_pos q0]; exact ⟨_, _, rfl, rfl, rfl⟩
    rw [if_neg q0, if_neg q0]
    by_cases q0 : x = 4
    · rw [if_pos q0, if_pos q0]; exact ⟨_, _, rfl, rfl, rfl⟩
    rw [if_neg q0, if_neg q0]
    by_cases q0 : x = 5
    · rw [if_pos q0, if_pos q0]
      by_cases q1 : wI (s.1 5) = 0
      · rw [if_pos q1, if_pos q1]; exact ⟨_, _, rfl, rfl, rfl⟩
      · rw [if_neg q1, if_neg q1]; exact ⟨_, _, rfl, rfl, rfl⟩
    rw [if_neg q0, if_neg q0]
    by_cases q0 : x = 6
    · rw [if_pos q0, if_pos q0]; exact ⟨_, _, rfl, rfl, rfl⟩
    rw [if_neg q0, if_neg q0]
    by_cases q0 : x = 7
    · rw [if_pos q0, if_pos q0]; exact ⟨_, _, rfl, rfl, rfl⟩
    rw [if_neg q0, if_neg q0]
    by_cases q0 : x = 8
    · rw [if_pos q0, if_pos q0]; exact ⟨_, _, rfl, rfl, rfl⟩
    rw [if_neg q0, if_neg q0]
    exact ⟨_, _, rfl, rfl, rfl⟩
  by_cases a : x < 10
  · rw [if_pos a, in_f r ⟨by omega, by omega⟩ ⟨by omega, by omega⟩ (by omega), if_pos wI_0]; exact low
  · by_cases b : 10 + P 0 ≤ x
    · rw [if_neg a, if_pos b, in_f r ⟨by omega, by omega⟩ ⟨by omega, by omega⟩ (by omega), if_pos wI_0]; exact low
    · obtain ⟨i, hi⟩ := Int.eq_ofNat_of_zero_le (show 0 ≤ x - 10 by omega)
      rw [if_neg a, if_neg b, in_t r ⟨by omega, by omega⟩ ⟨by omega, by omega⟩ (by omega), if_neg (show ¬ wI 1 = 0 by rw [wI_1]; omega), hi, wI_of (x := (i : Int)) (by omega) (by omega), if_pos (show 0 ≤ (i : Int) ∧ (i : Int) < 5 by omega), if_pos (show 0 ≤ (i : Int) ∧ (i : Int) < 5 by omega), tN, mL i (by omega), k2 i (by omega)]
      exact ⟨_, _, rfl, rfl, rfl⟩
