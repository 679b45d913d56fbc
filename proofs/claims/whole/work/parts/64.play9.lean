theorem e_stop {M : MM} (h : INV M) {x1 x2 : Int} (r1 : R32 x1) (r2 : R32 x2) : ∃ v v' M1 M2, sX11_stop 0 x1 x2 M = some (v, M1) ∧ sX12_stop 359 x1 x2 M1 = some (v', M2) ∧ wI v = wI v' ∧ INV M2 := by
  unfold sX11_stop sX11_stop_b0
  have bad : ∀ Z : MM, INV Z → (¬ (0 ≤ x1 ∧ x1 < Z 364 0) ∨ ¬ (0 ≤ x2 ∧ x2 < Z 364 1)) → ∃ M2, sX12_stop 359 x1 x2 Z = some (-1, M2) ∧ INV M2 := by
    intro Z hZ hq
    have hb := has_b (M := mU Z 359 0 0) (x := x2) (by rw [m0_364]; exact (i_size hZ (s := 1) (by omega)).2) r2
    have hm0 := (i_size hZ (s := 0) (by omega)).2
    rw [m0_364] at hb
    unfold sX12_stop sX12_stop_b0
    rw [ob_s, hb, ob_s]
    have hI : INV (mU (mU Z 359 0 0) 359 29 x2) := INV_2 (FR_u (FR_0 Z) (by omega)) hZ
    by_cases z2 : 0 ≤ x2 ∧ x2 < Z 364 1
    · rw [if_pos z2]
      dsimp only
      rw [i10, hand_f (by rw [mU_ne _ _ (by omega), m0_364]; exact hm0) r1 (by rw [mU_ne _ _ (by omega), m0_364]; omega), ob_s]
      dsimp only
      rw [i00]
      exact ⟨_, rfl, hI⟩
    · rw [if_neg z2]
      dsimp only
      rw [i00]
      exact ⟨_, rfl, hI⟩
  rcases a_party h r1 with ⟨kp, hkp, rfl, hlp, e1⟩ | ⟨hn, e1⟩
  · rcases a_book h r2 with ⟨kb, hkb, rfl, hlb, e2⟩ | ⟨hn, e2⟩
    · obtain ⟨hpc, hpv⟩ := i_party h hlp
      obtain ⟨hbc, hbv⟩ := i_book h hlb
      obtain ⟨K, hK⟩ := Int.eq_ofNat_of_zero_le hbv.1
      have h40 := hbv.2.1
      have hbel := hpv.2.2.2.2.1 0 (by have := hpv.1.1; omega)
      obtain ⟨M1, a1, a2, a3⟩ := runsA hpc hpv (PG_p kp hkp) (by omega) hbc hbv (LG_bk kb hkb) (by omega) hK (n := K) (by omega)
      rw [e1, ob_s, nMs_, e2, ob_s, nMs_, g0_4, hbc.1, hK, a1, ob_s]
      have h1 := INV_1 (F115_FC a2) h
      have c4 : M1 364 = M 364 := a2 364 (by omega)
      have c5 : pP M1 kp = pP M kp := pP_c (a2 365 (by omega)) kp
      have c6 : bB M1 kb = bB M kb := by unfold bB; rw [a2 366 (by omega)]
      have hb := has_b (M := mU M1 359 0 0) (x := (kb : Int)) (by rw [m0_364]; exact (i_size h1 (s := 1) (by omega)).2) r2
      rw [m0_364, c4] at hb
      obtain ⟨N, e, f, hd, pe, be, n29⟩ := handB h1 (kp := kp) (kb := kb) (by rw [c4]; exact hlp) (by rw [c4]; exact hlb)
      rw [c5] at pe
      rw [c6] at be
      have hv' : PV (pP N kp) := by rw [pe]; exact hpv
      have hw' : BV (bB N kb) := by rw [be]; exact hbv
      have ebel : sX12_belly 359 N = some (pP M kp 19) := by
        unfold sX12_belly sX12_belly_b0
        rw [of_e hd ⟨by omega, by omega⟩, ob_s, pe]
        rfl
      obtain ⟨N', e', w1, w2, w3, w4⟩ := playB hd hkb n29 hv' hw' (FPL_r N) (belly := pP M kp 19) ⟨hbel.2.2.1, hbel.2.2.2⟩ (n := K) (by rw [be, hK]; exact Int.le_refl _)
      obtain ⟨v', M2, q1, q2, q3⟩ : ∃ v' M2, sX12_stop 359 (kp : Int) (kb : Int) M1 = some (v', M2) ∧ wI ((rnP (pP M kp) (bB M kb) (min K K) 0 (s0P (pP M kp) (pP M kp 19))).1 : Int) = wI v' ∧ INV M2 := by
        unfold sX12_stop sX12_stop_b0
        rw [ob_s, hb, ob_s, if_pos (show 0 ≤ (kb : Int) ∧ (kb : Int) < M 364 1 by omega)]
        dsimp only
        rw [i10, e, ob_s]
        dsimp only
        rw [i10, deeds_e hkb n29, ob_s, be, hK, ebel, ob_s, e', ob_s, pe, be, Nat.min_self]
        exact ⟨_, _, rfl, rfl, INV_2 (FR_t f (FPL_FR w1)) h1⟩
      exact ⟨_, v', M1, M2, rfl, q1, q2, q3⟩
    · obtain ⟨M2, e3, hI⟩ := bad M h (Or.inr hn)
      rw [e1, ob_s, nMs_, e2, ob_s, nM0_]
      exact ⟨_, _, _, _, rfl, e3, rfl, hI⟩
  · obtain ⟨M2, e3, hI⟩ := bad M h (Or.inl hn)
    rw [e1, ob_s, nM0_]
    rcases a_book h r2 with ⟨kb, hkb, rfl, hlb, e2⟩ | ⟨hn, e2⟩
    · rw [e2, ob_s, nMs_]; exact ⟨_, _, _, _, rfl, e3, rfl, hI⟩
    · rw [e2, ob_s, nM0_]; exact ⟨_, _, _, _, rfl, e3, rfl, hI⟩
theorem e_state {M : MM} (h : INV M) {x1 x2 x3 x4 : Int} (r1 : R32 x1) (r2 : R32 x2) (r3 : R32 x3) (r4 : R32 x4) : ∃ v v' M1 M2, sX11_state 0 x1 x2 x3 x4 M = some (v, M1) ∧ sX12_state 359 x1 x2 x3 x4 M1 = some (v', M2) ∧ wI v = wI v' ∧ INV M2 := by
  unfold sX11_state sX11_state_b0
  have bad : ∀ Z : MM, INV Z → (∀ kp kb n : Nat, (kp : Int) < Z 364 0 → (kb : Int) < Z 364 1 → x1 = (kp : Int) → x2 = (kb : Int) → x3 = (n : Int) → (n : Int) ≤ bB Z kb 0 → ¬ (rnP (pP Z kp) (bB Z kb) n 0 (s0P (pP Z kp) (pP Z kp 19))).1 = n) → ∃ M2, sX12_state 359 x1 x2 x3 x4 Z = some (-2, M2) ∧ INV M2 := by
    intro Z hZ hq
    obtain ⟨N, e, f⟩ := (layB hZ r1 r2 r3).2 hq
    unfold sX12_state sX12_state_b0
    rw [ob_s, e, ob_s]
    dsimp only
    rw [i00]
    exact ⟨_, rfl, INV_2 f hZ⟩
  rcases a_party h r1 with ⟨kp, hkp, rfl, hlp, e1⟩ | ⟨hn, e1⟩
  · rcases a_book h r2 with ⟨kb, hkb, rfl, hlb, e2⟩ | ⟨hn, e2⟩
    · obtain ⟨hpc, hpv⟩ := i_party h hlp
      obtain ⟨hbc, hbv⟩ := i_book h hlb
      obtain ⟨K, hK⟩ := Int.eq_ofNat_of_zero_le hbv.1
      have h40 := hbv.2.1
      rw [e1, ob_s, nMs_, e2, ob_s, nMs_, g0_4, wI_of (x := x3) r3.1 r3.2]
      by_cases z3 : x3 < 0
      · obtain ⟨M2, e3, hI⟩ := bad M h (fun kp' kb' n' _ _ a1 a2 a3 a4 a5 => by omega)
        rw [if_pos z3]
        exact ⟨_, _, _, _, rfl, e3, rfl, hI⟩
      · obtain ⟨n, rfl⟩ := Int.eq_ofNat_of_zero_le (show 0 ≤ x3 by omega)
        obtain ⟨M1, a1, a2, a3⟩ := runsA hpc hpv (PG_p kp hkp) (by omega) hbc hbv (LG_bk kb hkb) (by omega) hK (n := n) (by omega)
        have h1 := INV_1 (F115_FC a2) h
        have c4 : M1 364 = M 364 := a2 364 (by omega)
        have c5 : pP M1 kp = pP M kp := pP_c (a2 365 (by omega)) kp
        have c6 : bB M1 kb = bB M kb := by unfold bB; rw [a2 366 (by omega)]
        have rb := rn_b (P := pP M kp) (R := bB M kb) (min n K) 0 (s0P (pP M kp) (pP M kp 19))
        rw [if_neg z3, a1, ob_s]
        dsimp only
        have hmin : min n K ≤ n := Nat.min_le_left _ _
        rw [wI_of (x := ((rnP (pP M kp) (bB M kb) (min n K) 0 (s0P (pP M kp) (pP M kp 19))).1 : Int)) (by omega) (by omega)]
        by_cases z : (((rnP (pP M kp) (bB M kb) (min n K) 0 (s0P (pP M kp) (pP M kp 19))).1 : Int)) = (n : Int)
        · rw [if_pos z]
          have hmn : min n K = n := by omega
          have hnK : n ≤ K := by have := Nat.min_le_right n K; omega
          rw [hmn] at z a3
          obtain ⟨N, e, f, hd, pe, w⟩ := (layB h1 r1 r2 r3).1 kp kb n (by rw [c4]; exact hlp) (by rw [c4]; exact hlb) rfl rfl rfl (by rw [c6]; omega) (by rw [c5, c6]; omega)
          rw [c5] at pe w
          rw [c6] at w
          obtain ⟨v, v', b1, b2, b3⟩ := ansA hpc hpv (PG_p kp hkp) (by omega) a2 a3 hd pe w r4
          rw [b1, ob_s]
          refine ⟨v, v', M1, N, rfl, ?_, b3, INV_2 f h1⟩
          unfold sX12_state sX12_state_b0
          rw [ob_s, e, ob_s]
          dsimp only
          rw [i10]
          exact b2
        · rw [if_neg z]
          obtain ⟨M2, e3, hI⟩ := bad M1 h1 (fun kp' kb' n' _ _ q1 q2 q3 q4 q5 => by
            obtain rfl : kp = kp' := by omega
            obtain rfl : kb = kb' := by omega
            obtain rfl : n = n' := by omega
            rw [c6, hK] at q4
            rw [c5, c6] at q5
            apply z
            rw [Nat.min_eq_left (by omega)]
            omega)
          exact ⟨_, _, _, _, rfl, e3, rfl, hI⟩
    · obtain ⟨M2, e3, hI⟩ := bad M h (fun kp' kb' n' _ _ a1 a2 a3 a4 a5 => hn ⟨by omega, by omega⟩)
      rw [e1, ob_s, nMs_, e2, ob_s, nM0_]
      exact ⟨_, _, _, _, rfl, e3, rfl, hI⟩
  · obtain ⟨M2, e3, hI⟩ := bad M h (fun kp' kb' n' _ _ a1 a2 a3 a4 a5 => hn ⟨by omega, by omega⟩)
    rw [e1, ob_s, nM0_]
    rcases a_book h r2 with ⟨kb, hkb, rfl, hlb, e2⟩ | ⟨hn, e2⟩
    · rw [e2, ob_s, nMs_]; exact ⟨_, _, _, _, rfl, e3, rfl, hI⟩
    · rw [e2, ob_s, nM0_]; exact ⟨_, _, _, _, rfl, e3, rfl, hI⟩
theorem e_did {M : MM} (h : INV M) {x1 x2 x3 x4 x5 : Int} (r1 : R32 x1) (r2 : R32 x2) (r3 : R32 x3) (r4 : R32 x4) (r5 : R32 x5) : ∃ v v' M1 M2, sX11_did 0 x1 x2 x3 x4 x5 M = some (v, M1) ∧ sX12_did 359 x1 x2 x3 x4 x5 M1 = some (v', M2) ∧ wI v = wI v' ∧ INV M2 := by
  unfold sX11_did sX11_did_b0
  have bad : ∀ Z : MM, INV Z → (∀ kp kb n : Nat, (kp : Int) < Z 364 0 → (kb : Int) < Z 364 1 → x1 = (kp : Int) → x2 = (kb : Int) → x3 = (n : Int) → (n : Int) ≤ bB Z kb 0 → (rnP (pP Z kp) (bB Z kb) n 0 (s0P (pP Z kp) (pP Z kp 19))).1 = n → ¬ (0 ≤ x4 ∧ x4 < pP Z kp 1) ∧ 1 ≤ pP Z kp 1 ∧ pP Z kp 1 ≤ 8) → ∃ M2, sX12_did 359 x1 x2 x3 x4 x5 Z = some (-2, M2) ∧ INV M2 := by
    intro Z hZ hq
    unfold sX12_did sX12_did_b0
    by_cases t : ∃ kp kb n : Nat, (kp : Int) < Z 364 0 ∧ (kb : Int) < Z 364 1 ∧ x1 = (kp : Int) ∧ x2 = (kb : Int) ∧ x3 = (n : Int) ∧ (n : Int) ≤ bB Z kb 0 ∧ (rnP (pP Z kp) (bB Z kb) n 0 (s0P (pP Z kp) (pP Z kp 19))).1 = n
    · obtain ⟨kp, kb, n, t1, t2, t3, t4, t5, t6, t7⟩ := t
      obtain ⟨N, e, f, hd, pe, w⟩ := (layB hZ r1 r2 r3).1 kp kb n t1 t2 t3 t4 t5 t6 t7
      have q := hq kp kb n t1 t2 t3 t4 t5 t6 t7
      rw [ob_s, e, ob_s]
      dsimp only
      rw [i10, chi_e (n := pP Z kp 1) (by rw [← pe]; exact hd.2.2.2.1) ⟨by omega, by omega⟩ r4, ob_s, if_neg q.1, i00]
      exact ⟨_, rfl, INV_2 f hZ⟩
    · obtain ⟨N, e, f⟩ := (layB hZ r1 r2 r3).2 (fun kp kb n t1 t2 t3 t4 t5 t6 t7 => t ⟨kp, kb, n, t1, t2, t3, t4, t5, t6, t7⟩)
      rw [ob_s, e, ob_s]
      dsimp only
      rw [i00]
      exact ⟨_, rfl, INV_2 f hZ⟩
  rcases a_party h r1 with ⟨kp, hkp, rfl, hlp, e1⟩ | ⟨hn, e1⟩
  · rcases a_book h r2 with ⟨kb, hkb, rfl, hlb, e2⟩ | ⟨hn, e2⟩
    · obtain ⟨hpc, hpv⟩ := i_party h hlp
      obtain ⟨hbc, hbv⟩ := i_book h hlb
      obtain ⟨K, hK⟩ := Int.eq_ofNat_of_zero_le hbv.1
      have h40 := hbv.2.1
      have hpv1 := hpv.1
      rw [e1, ob_s, nMs_, e2, ob_s, nMs_, g0_4, wI_of (x := x3) r3.1 r3.2, has_e hpc.1.2.1 ⟨by omega, by omega⟩ r4]
      by_cases z3 : x3 < 0
      · obtain ⟨M2, e3, hI⟩ := bad M h (fun kp' kb' n' _ _ a1 a2 a3 a4 a5 => by omega)
        rw [if_pos z3]
        exact ⟨_, _, _, _, rfl, e3, rfl, hI⟩
      · rw [if_neg z3]
        by_cases z4 : 0 ≤ x4 ∧ x4 < pP M kp 1
        · rw [if_pos z4, i10]
          obtain ⟨n, rfl⟩ := Int.eq_ofNat_of_zero_le (show 0 ≤ x3 by omega)
          obtain ⟨c, rfl⟩ := Int.eq_ofNat_of_zero_le z4.1
          obtain ⟨M1, a1, a2, a3⟩ := runsA hpc hpv (PG_p kp hkp) (by omega) hbc hbv (LG_bk kb hkb) (by omega) hK (n := n) (by omega)
          have h1 := INV_1 (F115_FC a2) h
          have c4 : M1 364 = M 364 := a2 364 (by omega)
          have c5 : pP M1 kp = pP M kp := pP_c (a2 365 (by omega)) kp
          have c6 : bB M1 kb = bB M kb := by unfold bB; rw [a2 366 (by omega)]
          have rb := rn_b (P := pP M kp) (R := bB M kb) (min n K) 0 (s0P (pP M kp) (pP M kp 19))
          rw [a1, ob_s]
          dsimp only
          have hmin : min n K ≤ n := Nat.min_le_left _ _
          rw [wI_of (x := ((rnP (pP M kp) (bB M kb) (min n K) 0 (s0P (pP M kp) (pP M kp 19))).1 : Int)) (by omega) (by omega)]
          by_cases z : (((rnP (pP M kp) (bB M kb) (min n K) 0 (s0P (pP M kp) (pP M kp 19))).1 : Int)) = (n : Int)
          · rw [if_pos z]
            have hmn : min n K = n := by omega
            have hnK : n ≤ K := by have := Nat.min_le_right n K; omega
            rw [hmn] at z a3
            obtain ⟨N, e, f, hd, pe, w⟩ := (layB h1 r1 r2 r3).1 kp kb n (by rw [c4]; exact hlp) (by rw [c4]; exact hlb) rfl rfl rfl (by rw [c6]; omega) (by rw [c5, c6]; omega)
            rw [c5] at pe w
            rw [c6] at w
            have d1 := a3.2.2.2.1 c (by omega)
            have d2 := a3.2.2.2.2 c (by omega)
            have d3 := w.2.2
            generalize (rnP (pP M kp) (bB M kb) n 0 (s0P (pP M kp) (pP M kp 19))).2 = s at *
            have cp : sX6_answerOf 115 (c : Int) x5 M1 = some (if 0 ≤ x5 ∧ x5 ≤ 3 then s.2.2 (4 * c + x5.toNat) else -2) := by
              unfold sX6_answerOf sX6_answerOf_b0
              rw [wI_of (x := (c : Int)) (by omega) (by omega), wI_of (x := x5) r5.1 r5.2, if_neg (show ¬ (c : Int) < 0 by omega), if_pos (show (c : Int) < 8 by omega), if_pos (show 0 ≤ (c : Int) ∧ (c : Int) < 8 by omega), g115_11, g115_10, tN, d2]
              by_cases z5 : 0 ≤ x5 ∧ x5 ≤ 3
              · obtain ⟨t, rfl⟩ := Int.eq_ofNat_of_zero_le z5.1
                rw [if_pos z5, tN]
                by_cases z6 : (t : Int) = 3
                · obtain rfl : t = 3 := by omega
                  rw [if_pos z6]
                · rw [if_neg z6, if_neg (show ¬ (t : Int) < 0 by omega), if_neg (show ¬ 3 ≤ (t : Int) by omega), wI_of (x := (t : Int) * 8 + (c : Int)) (by omega) (by omega), if_pos (show 0 ≤ (t : Int) * 8 + (c : Int) ∧ (t : Int) * 8 + (c : Int) < 24 by omega), show ((t : Int) * 8 + (c : Int)).toNat = 8 * t + c by omega, d1 t (by omega)]
              · rw [if_neg z5, if_neg (show ¬ x5 = 3 by omega)]
                by_cases z6 : x5 < 0
                · rw [if_pos z6]
                · rw [if_neg z6, if_pos (show 3 ≤ x5 by omega)]
            have rp : sX12_did 359 (kp : Int) (kb : Int) (n : Int) (c : Int) x5 M1 = some (if 0 ≤ x5 ∧ x5 ≤ 3 then s.2.2 (4 * c + x5.toNat) else -2, N) := by
              unfold sX12_did sX12_did_b0
              rw [ob_s, e, ob_s]
              dsimp only
              rw [i10, chi_e (n := pP M kp 1) (by rw [← pe]; exact hd.2.2.2.1) ⟨by omega, by omega⟩ r4, ob_s, if_pos z4, i10, g359_41]
              by_cases z5 : 0 ≤ x5 ∧ x5 ≤ 3
              · obtain ⟨t, rfl⟩ := Int.eq_ofNat_of_zero_le z5.1
                rw [in_t r5 ⟨by omega, by omega⟩ ⟨by omega, by omega⟩ z5, i10, wI_of (x := 4 * (c : Int) + (t : Int)) (by omega) (by omega), if_pos (show 0 ≤ 4 * (c : Int) + (t : Int) ∧ 4 * (c : Int) + (t : Int) < 32 by omega), show (4 * (c : Int) + (t : Int)).toNat = 4 * c + t by omega, d3 (4 * c + t) (by omega), if_pos z5, tN]
              · rw [in_f r5 ⟨by omega, by omega⟩ ⟨by omega, by omega⟩ z5, i00, if_neg z5]
            rw [cp, ob_s]
            exact ⟨_, _, M1, N, rfl, rp, rfl, INV_2 f h1⟩
          · rw [if_neg z]
            obtain ⟨M2, e3, hI⟩ := bad M1 h1 (fun kp' kb' n' _ _ q1 q2 q3 q4 q5 => by
              obtain rfl : kp = kp' := by omega
              obtain rfl : kb = kb' := by omega
              obtain rfl : n = n' := by omega
              rw [c6, hK] at q4
              rw [c5, c6] at q5
              exfalso
              apply z
              rw [Nat.min_eq_left (by omega)]
              omega)
            exact ⟨_, _, _, _, rfl, e3, rfl, hI⟩
        · obtain ⟨M2, e3, hI⟩ := bad M h (fun kp' kb' n' _ _ a1 a2 a3 a4 a5 => by
            obtain rfl : kp = kp' := by omega
            exact ⟨z4, by omega, by omega⟩)
          rw [if_neg z4, i00]
          exact ⟨_, _, _, _, rfl, e3, rfl, hI⟩
    · obtain ⟨M2, e3, hI⟩ := bad M h (fun kp' kb' n' _ _ a1 a2 a3 a4 a5 => absurd ⟨by omega, by omega⟩ hn)
      rw [e1, ob_s, nMs_, e2, ob_s, nM0_]
      exact ⟨_, _, _, _, rfl, e3, rfl, hI⟩
  · obtain ⟨M2, e3, hI⟩ := bad M h (fun kp' kb' n' _ _ a1 a2 a3 a4 a5 => absurd ⟨by omega, by omega⟩ hn)
    rw [e1, ob_s, nM0_]
    rcases a_book h r2 with ⟨kb, hkb, rfl, hlb, e2⟩ | ⟨hn, e2⟩
    · rw [e2, ob_s, nMs_]; exact ⟨_, _, _, _, rfl, e3, rfl, hI⟩
    · rw [e2, ob_s, nM0_]; exact ⟨_, _, _, _, rfl, e3, rfl, hI⟩
