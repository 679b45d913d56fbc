/-- the reference does one deed of a book, and plays a whole book -/
theorem RRL_u {P : Nat → Int} {N : MM} {g L D : Nat → Int} (h : RRL P N (g, L, D)) (i r : Nat) (v : Int) (hi : i ≤ 8) (hr : (i ≤ 4 ∧ r = 30 + i) ∨ (4 < i ∧ r = 31 + i)) : RRL P (mU N 359 r v) (uF g i v, L, D) := by
  obtain ⟨⟨h0, h1, h2, h3, h4, h5, h6, h7, h8⟩, hL, hD⟩ := h
  dsimp only at *
  have key : ∀ j q : Nat, (j ≤ 4 ∧ q = 30 + j) ∨ (4 < j ∧ q = 31 + j) → N 359 q = g j → mU N 359 r v 359 q = uF g i v j := fun j q hq e => by
    by_cases z : j = i
    · have : q = r := by omega
      subst z; subst this; rw [mU_eq, uF_e]
    · rw [mU_ne _ _ (by omega), uF_n _ _ z, e]
  refine ⟨⟨key 0 30 (by omega) h0, key 1 31 (by omega) h1, key 2 32 (by omega) h2, key 3 33 (by omega) h3, key 4 34 (by omega) h4, key 5 36 (by omega) h5, key 6 37 (by omega) h6, key 7 38 (by omega) h7, key 8 39 (by omega) h8⟩, fun p hp => ?_, fun j hj => ?_⟩
  · rw [mU_row _ _ (by omega)]; exact hL p hp
  · rw [mU_row _ _ (by omega)]; exact hD j hj
theorem ifu {x y v w : Int} (h : v = -1) (e : w = x) : w = if v = -1 then x else y := by rw [if_pos h, e]
theorem hasB_e {x y : Int} (hx : 0 ≤ x ∧ x < 256) {a : Nat} (ha : a < 8) (hy : y = (a : Int)) : sX12_has x y = some (x / 2 ^ a % 2) := by
  unfold sX12_has sX12_has_b0
  subst hy
  have bb := bit_b x (2 ^ a)
  rw [wI_of (x := (a : Int)) (by omega) (by omega), if_pos ⟨by omega, by omega⟩, tN, wI_of (x := x) (by omega) (by omega), wI_of (x := x / 2 ^ a % 2) (by omega) (by omega)]
  by_cases q : x / 2 ^ a % 2 = 1
  · rw [if_pos q, q]
  · rw [if_neg q, show x / 2 ^ a % 2 = 0 by omega]
theorem doB {N0 N : MM} {kp kb : Nat} (hd : HD N0 kp) (hkb : kb < 2) (h29 : N0 359 29 = (kb : Int)) (hv : PV (pP N0 kp)) {K : Nat} {s : PS} (hs : SV (pP N0 kp) K s) (hr : FPL N0 N) (hN : RRL (pP N0 kp) N s) {j : Nat} (hj : j < 40) {k a b : Int} (ek : bB N0 kb (1 + 3 * j) = k) (ea : bB N0 kb (2 + 3 * j) = a) (eb : bB N0 kb (3 + 3 * j) = b) (hk : 0 ≤ k ∧ k ≤ 5) (ha : -1 ≤ a ∧ a ≤ 9) (hb : -1 ≤ b ∧ b ≤ 9) (ha2 : k ≤ 2 → 0 ≤ a ∧ a ≤ 7) (hb2 : k = 2 → 0 ≤ b) : (dePb (pP N0 kp) s k a → ∃ N', sX12_does 359 (j : Int) N = some (1, N') ∧ FPL N0 N' ∧ RRL (pP N0 kp) N' (deP (pP N0 kp) s k a b) ∧ (∀ i, i ≠ j → N' 374 i = N 374 i ∧ N' 375 i = N 375 i) ∧ (k = 2 → N' 374 j = (deP (pP N0 kp) s k a b).1 7 ∧ N' 375 j = (deP (pP N0 kp) s k a b).1 8) ∧ N' 359 35 = (if (deP (pP N0 kp) s k a b).1 4 = -1 then N 359 35 else (j : Int))) ∧ (¬ dePb (pP N0 kp) s k a → ∃ N', sX12_does 359 (j : Int) N = some (0, N') ∧ FPL N0 N' ∧ RRL (pP N0 kp) N' s ∧ (∀ i, N' 374 i = N 374 i ∧ N' 375 i = N 375 i) ∧ N' 359 35 = N 359 35) := by
  have hv1 := hv.1
  have hs0 := hs
  have hN0 := hN
  have hd' := FPL_HD hr hd
  have hpe := FPL_p hr kp
  have h29' : N 359 29 = (kb : Int) := (hr.2 29 (by omega)).trans h29
  have hbe := FPL_b hr kb
  obtain ⟨f, L, D⟩ := s
  obtain ⟨s0, s1, s2, s3, s4, s5, s6, s7, s8, s9, s10, s11, s12⟩ := hs
  obtain ⟨⟨m0, m1, m2, m3, m4, m5, m6, m7, m8⟩, mL, mD⟩ := hN
  dsimp only at *
  have refuse : ∃ N', (some ((0 : Int), N) : Option (Int × MM)) = some (0, N') ∧ FPL N0 N' ∧ RRL (pP N0 kp) N' (f, L, D) ∧ (∀ i, N' 374 i = N 374 i ∧ N' 375 i = N 375 i) ∧ N' 359 35 = N 359 35 := ⟨N, rfl, hr, hN0, fun _ => ⟨rfl, rfl⟩, rfl⟩
  unfold sX12_does sX12_does_b0
  rw [m4, m5, wI_of (x := f 4) (by omega) (by omega), wI_of (x := f 5) (by omega) (by omega)]
  by_cases z4 : f 4 = -1
  · by_cases z5 : f 5 = 0
    · rw [if_pos z4, if_pos z5, deedOf_e hkb h29' (x := (j : Int)) (y := 1) ⟨by omega, by omega⟩ ⟨by omega, by omega⟩, ob_s, deedOf_e hkb h29' (x := (j : Int)) (y := 0) ⟨by omega, by omega⟩ ⟨by omega, by omega⟩, ob_s, hbe, show (1 + 3 * (j : Int) + 1).toNat = 2 + 3 * j by omega, show (1 + 3 * (j : Int) + 0).toNat = 1 + 3 * j by omega, ek, ea, wI_of (x := k) (by omega) (by omega)]
      have k6 : k = 0 ∨ k = 1 ∨ k = 2 ∨ k = 3 ∨ k = 4 ∨ k = 5 := by omega
      unfold dePb deP
      dsimp only
      rcases k6 with rfl | rfl | rfl | rfl | rfl | rfl
      · -- go
        obtain ⟨c, rfl⟩ := Int.eq_ofNat_of_zero_le (ha2 (by omega)).1
        have hc7 := (ha2 (by omega)).2
        have bb := bit_b (f 6) (2 ^ c)
        rw [if_pos rfl, if_pos rfl, if_pos rfl, tN]
        unfold sX12_goes sX12_goes_b0 sX12_goes_b40
        rw [chi_e (n := pP N kp 1) hd'.2.2.2.1 (by rw [hpe]; omega) (x := (c : Int)) ⟨by omega, by omega⟩, ob_s, hpe, m6, hasB_e s6 (a := c) (by omega) rfl, ob_s, hd'.2.2.2.2.1, hpe, m0, m1, wI_of (x := (c : Int)) (by omega) (by omega), wI_of (x := f 6 / 2 ^ c % 2) (by omega) (by omega), wI_of (x := f 0) (by omega) (by omega), wI_of (x := pP N0 kp 2) (by omega) (by omega), wI_of (x := f 1) (by omega) (by omega)]
        simp only [if_pos (show 0 ≤ (c : Int) ∧ (c : Int) < 32 by omega), ob_s, tN]
        have go : ∃ N', (some ((1 : Int), mU (mU (mU (mU N 359 30 (c : Int)) 359 31 0) 359 32 (-1)) 359 37 (oI (mU (mU (mU N 359 30 (c : Int)) 359 31 0) 359 32 (-1) 359 37) (1 * 2 ^ c))) : Option (Int × MM)) = some (1, N') ∧ FPL N0 N' ∧ RRL (pP N0 kp) N' (uF (uF (uF (uF f 0 (c : Int)) 1 0) 2 (-1)) 6 (oI (f 6) (1 * 2 ^ c)), L, D) ∧ (∀ i, i ≠ j → N' 374 i = N 374 i ∧ N' 375 i = N 375 i) ∧ ((0 : Int) = 2 → N' 374 j = (uF (uF (uF (uF f 0 (c : Int)) 1 0) 2 (-1)) 6 (oI (f 6) (1 * 2 ^ c))) 7 ∧ N' 375 j = (uF (uF (uF (uF f 0 (c : Int)) 1 0) 2 (-1)) 6 (oI (f 6) (1 * 2 ^ c))) 8) ∧ N' 359 35 = (if (uF (uF (uF (uF f 0 (c : Int)) 1 0) 2 (-1)) 6 (oI (f 6) (1 * 2 ^ c))) 4 = -1 then N 359 35 else (j : Int)) := by
          have e6 : mU (mU (mU N 359 30 (c : Int)) 359 31 0) 359 32 (-1) 359 37 = f 6 := by rw [mU_ne _ _ (by omega), mU_ne _ _ (by omega), mU_ne _ _ (by omega)]; exact m6
          rw [e6]
          clear e6
          refine ⟨_, rfl, FPL_u (FPL_u (FPL_u (FPL_u hr (by omega)) (by omega)) (by omega)) (by omega), RRL_u (RRL_u (RRL_u (RRL_u hN0 0 30 _ (by omega) (by omega)) 1 31 _ (by omega) (by omega)) 2 32 _ (by omega) (by omega)) 6 37 _ (by omega) (by omega), fun i _ => ⟨?_, ?_⟩, fun q => by omega, ?_⟩
          · rw [mU_row _ _ (by omega), mU_row _ _ (by omega), mU_row _ _ (by omega), mU_row _ _ (by omega)]
          · rw [mU_row _ _ (by omega), mU_row _ _ (by omega), mU_row _ _ (by omega), mU_row _ _ (by omega)]
          · rw [uF_n _ _ (by omega), uF_n _ _ (by omega), uF_n _ _ (by omega), uF_n _ _ (by omega), if_pos z4, mU_ne _ _ (by omega), mU_ne _ _ (by omega), mU_ne _ _ (by omega), mU_ne _ _ (by omega)]
        refine ⟨fun hd => ?_, fun hd => ?_⟩
        · obtain ⟨-, -, d1, d2, d3, d4⟩ := hd
          rw [if_pos (show 0 ≤ (c : Int) ∧ (c : Int) < pP N0 kp 1 from ⟨d1, d2⟩), i10, d3, if_pos rfl]
          by_cases q : f 0 = -1
          · rw [if_pos q, ob_s, if_pos (Or.inr rfl)]; exact go
          · rw [if_neg q, if_pos (show pP N0 kp 2 ≤ f 1 by omega), ob_s, if_pos (Or.inr rfl)]; exact go
        · by_cases q1 : 0 ≤ (c : Int) ∧ (c : Int) < pP N0 kp 1
          · rw [if_pos q1, i10]
            by_cases q2 : f 6 / 2 ^ c % 2 = 0
            · rw [if_pos q2, if_neg (fun q => hd ⟨z4, z5, q1.1, q1.2, q2, Or.inl q⟩), if_neg (fun q => hd ⟨z4, z5, q1.1, q1.2, q2, Or.inr q⟩), ob_s, if_pos (Or.inl rfl)]; exact refuse
            · rw [if_neg q2, ob_s, if_pos (Or.inl rfl)]; exact refuse
          · rw [if_neg q1, i00, ob_s, if_pos (Or.inl rfl)]; exact refuse
      · -- face
        rw [if_neg (show ¬ (1 : Int) = 0 by omega), if_neg (show ¬ (1 : Int) = 0 by omega), if_neg (show ¬ (1 : Int) = 0 by omega), if_pos rfl, if_pos rfl, if_pos rfl, m0, m1, wI_of (x := f 0) (by omega) (by omega), wI_of (x := f 1) (by omega) (by omega)]
        refine ⟨fun hd => ?_, fun hd => ?_⟩
        · rw [if_neg hd.2.2.1, if_pos hd.2.2.2, ob_s]
          refine ⟨_, rfl, FPL_u hr (by omega), RRL_u hN0 2 32 _ (by omega) (by omega), fun i _ => ⟨?_, ?_⟩, fun q => by omega, ?_⟩
          · rw [mU_row _ _ (by omega)]
          · rw [mU_row _ _ (by omega)]
          · exact ifu ((uF_n f (k := 2) (j := 4) a (by omega)).trans z4) (mU_ne _ _ (by omega))
        · by_cases q1 : f 0 = -1
          · rw [if_pos q1]; exact refuse
          · rw [if_neg q1, if_neg (fun q => hd ⟨z4, z5, q1, q⟩)]; exact refuse
      · -- strike
        have ha3 := ha2 (by omega)
        have hb3 := hb2 rfl
        rw [if_neg (show ¬ (2 : Int) = 0 by omega), if_neg (show ¬ (2 : Int) = 0 by omega), if_neg (show ¬ (2 : Int) = 0 by omega), if_neg (show ¬ (2 : Int) = 1 by omega), if_neg (show ¬ (2 : Int) = 1 by omega), if_neg (show ¬ (2 : Int) = 1 by omega), if_pos rfl, if_pos rfl, if_pos rfl, deedOf_e hkb h29' (x := (j : Int)) (y := 2) ⟨by omega, by omega⟩ ⟨by omega, by omega⟩, ob_s, hbe, show (1 + 3 * (j : Int) + 2).toNat = 3 + 3 * j by omega, eb]
        unfold sX12_strikes sX12_strikes_b0
        rw [m0, m1, m2, hd'.2.2.2.2.1, hpe, wI_of (x := f 0) (by omega) (by omega), wI_of (x := f 1) (by omega) (by omega), wI_of (x := f 2) (by omega) (by omega), wI_of (x := pP N0 kp 2) (by omega) (by omega)]
        refine ⟨fun hd2 => ?_, fun hd2 => ?_⟩
        · obtain ⟨-, -, d0, d2, d1⟩ := hd2
          rw [if_neg d0, if_neg d2, if_pos d1]
          obtain ⟨c, hc⟩ := Int.eq_ofNat_of_zero_le (show 0 ≤ f 0 by omega)
          obtain ⟨N1, eN1⟩ : ∃ N1, N1 = mU N 359 31 (f 1 + 1) := ⟨_, rfl⟩
          have r1 : FPL N0 N1 := by rw [eN1]; exact FPL_u hr (by omega)
          have p1 := FPL_p r1 kp
          have v1 : PV (pP N1 kp) := by rw [p1]; exact hv
          have n1 : ∀ i, i ≠ 31 → N1 359 i = N 359 i := fun i hi => by rw [eN1, mU_ne _ _ (by omega)]
          have n1r : ∀ i, i ≠ 359 → N1 i = N i := fun i hi => by rw [eN1, mU_row _ _ hi]
          rw [ob_s, ← eN1, n1 30 (by omega), m0, ofC_e (FPL_HD r1 hd) ⟨by omega, by omega⟩ ⟨by omega, by omega⟩, ob_s, p1, show (28 + 13 * f 0 + 1).toNat = 29 + 13 * (f 0).toNat by omega]
          obtain ⟨F, hF⟩ : ∃ F : Int → Int, ∀ off, suN (pP N0 kp) f L a b off (pP N0 kp 0).toNat = F off := ⟨_, fun _ => rfl⟩
          have st0 : ∀ off, (off = 0 ∨ off = 1) → ∀ Z : MM, FPL N0 Z → Z 359 32 = f 2 → Z 359 33 = f 3 → Z 372 = N 372 → sX12_struck 359 a b off Z = some (F off) := fun off ho Z rZ z2 z3 zL => by
            have pZ := FPL_p rZ kp
            have := firstB (FPL_HD rZ hd) (by rw [pZ]; exact hv) (f := f) (L := L) z2 z3 (fun i hi => by rw [zL]; exact mL i (by rw [pZ] at hi; exact hi)) ⟨by omega, by omega⟩ s3 (fun i hi => s9 i (by rw [pZ] at hi; exact hi)) (w := a) (h := b) (off := off) ⟨by omega, by omega⟩ ⟨by omega, by omega⟩ ho
            rw [pZ, hF] at this
            exact this
          rw [st0 0 (Or.inl rfl) N1 r1 ((n1 32 (by omega)).trans m2) ((n1 33 (by omega)).trans m3) (n1r 372 (by omega)), ob_s, ob_s, mU_eq]
          have i0 : F 0 = -1 ∨ (0 ≤ F 0 ∧ F 0 < ((pP N0 kp 0).toNat : Int)) := by
            have := su_i (pP N0 kp) f L a b 0 (pP N0 kp 0).toNat
            rw [hF] at this
            rcases this with q | q
            · exact Or.inl q
            · exact Or.inr ⟨q.1, q.2.1⟩
          have i1 : F 1 = -1 ∨ (0 ≤ F 1 ∧ F 1 < ((pP N0 kp 0).toNat : Int)) := by
            have := su_i (pP N0 kp) f L a b 1 (pP N0 kp 0).toNat
            rw [hF] at this
            rcases this with q | q
            · exact Or.inl q
            · exact Or.inr ⟨q.1, q.2.1⟩
          have n0 := hv1.1
          -- behind the choice of what is hit
          have fin : ∀ (l pt : Int) (Z : MM), laP (pP N0 kp) f L a b = (l, pt) → FPL N0 Z → (∀ i, i ≠ 31 → i ≠ 38 → i ≠ 39 → Z 359 i = N 359 i) → Z 359 31 = f 1 + 1 → Z 359 38 = l → Z 359 39 = pt → (∀ i, i ≠ 359 → Z i = N i) → ∃ N', ((sX12_strikes_b114 359 a b (j : Int) (pP N0 kp (29 + 13 * (f 0).toNat)) Z).bind fun q_14 => (if (q_14.1) = 0 ∨ (q_14.1) = 1 then (some (((q_14.1), q_14.2))) else none)) = some (1, N') ∧ FPL N0 N' ∧ RRL (pP N0 kp) N' (stP (pP N0 kp) (f, L, D) a b) ∧ (∀ i, i ≠ j → N' 374 i = N 374 i ∧ N' 375 i = N 375 i) ∧ ((2 : Int) = 2 → N' 374 j = (stP (pP N0 kp) (f, L, D) a b).1 7 ∧ N' 375 j = (stP (pP N0 kp) (f, L, D) a b).1 8) ∧ N' 359 35 = (if (stP (pP N0 kp) (f, L, D) a b).1 4 = -1 then N 359 35 else (j : Int)) := by
            intro l pt Z hl rZ z1 z31 z38 z39 zr
            have la := la_i (pP N0 kp) f L a b
            rw [hl] at la
            dsimp only at la
            have hl' : (l = 0 ∧ pt = -1) ∨ ((l = 1 ∨ l = 2) ∧ 0 ≤ pt ∧ pt < pP N0 kp 0 ∧ 0 < L pt.toNat) := by omega
            rw [stP_q]
            dsimp only
            rw [hl]
            obtain ⟨N', e, w1, w2, w3, w4, w5, w6⟩ := strB hd hv hs0 rZ ((z1 30 (by omega) (by omega) (by omega)).trans m0) z31 ((z1 32 (by omega) (by omega) (by omega)).trans m2) ((z1 33 (by omega) (by omega) (by omega)).trans m3) ((z1 34 (by omega) (by omega) (by omega)).trans m4) ((z1 36 (by omega) (by omega) (by omega)).trans m5) ((z1 37 (by omega) (by omega) (by omega)).trans m6) z38 z39 hl' (fun i hi => by rw [zr 372 (by omega)]; exact mL i hi) (fun i hi => by rw [zr 373 (by omega)]; exact mD i hi) (by dsimp only; omega) z4 hj a b
            have e78 : (stQ (pP N0 kp) (f, L, D) (l, pt)).1 7 = l ∧ (stQ (pP N0 kp) (f, L, D) (l, pt)).1 8 = pt := by
              unfold stQ
              dsimp only
              by_cases q : pt = -1
              · rw [if_pos q]
                dsimp only
                rw [uF_n _ _ (by omega), uF_n _ _ (by omega), uF_e, uF_n _ _ (by omega), uF_e]
                omega
              · rw [if_neg q]
                dsimp only
                rw [uF_n _ _ (by omega), uF_n _ _ (by omega), uF_n _ _ (by omega), uF_n _ _ (by omega), uF_n _ _ (by omega), uF_e, uF_n _ _ (by omega), uF_n _ _ (by omega), uF_n _ _ (by omega), uF_n _ _ (by omega), uF_e]
                exact ⟨rfl, rfl⟩
            rw [e, ob_s, if_pos (Or.inr rfl)]
            refine ⟨N', rfl, w1, w2, fun i hi => ?_, fun _ => ?_, ?_⟩
            · rw [(w5 i hi).1, (w5 i hi).2, zr 374 (by omega), zr 375 (by omega)]; exact ⟨rfl, rfl⟩
            · rw [e78.1, e78.2]; exact ⟨w3, w4⟩
            · rw [w6, z1 35 (by omega) (by omega) (by omega)]
          have laE : laP (pP N0 kp) f L a b = if F 0 = -1 then (if F 1 = -1 then (0, -1) else (1, F 1)) else (2, F 0) := by rw [← hF 0, ← hF 1]; rfl
          have z2 : ∀ (v0 v1 : Int), ∀ i, i ≠ 31 → i ≠ 38 → i ≠ 39 → mU (mU N1 359 39 v0) 359 38 v1 359 i = N 359 i := fun v0 v1 i a1 a2 a3 => by rw [mU_ne _ _ (by omega), mU_ne _ _ (by omega)]; exact n1 i a1
          have n31 : N1 359 31 = f 1 + 1 := by rw [eN1, mU_eq]
          generalize F 0 = t0 at *
          rw [wI_of (x := t0) (by omega) (by omega)]
          by_cases q0 : t0 = -1
          · rw [if_pos q0] at laE
            unfold sX12_strikes_b75
            rw [if_pos q0, ob_s, mU_ne _ _ (show (359 : Nat) ≠ 359 ∨ (39 : Nat) ≠ 38 by omega), mU_eq, wI_of (x := t0) (by omega) (by omega), if_pos q0, st0 1 (Or.inr rfl) _ (FPL_u (FPL_u r1 (by omega)) (by omega)) (by rw [z2 _ _ 32 (by omega) (by omega) (by omega)]; exact m2) (by rw [z2 _ _ 33 (by omega) (by omega) (by omega)]; exact m3) (by rw [mU_row _ _ (by omega), mU_row _ _ (by omega)]; exact n1r 372 (by omega)), ob_s, ob_s, mU_eq]
            unfold sX12_strikes_b111
            generalize F 1 = t1 at *
            rw [wI_of (x := t1) (by omega) (by omega)]
            by_cases q1 : t1 = -1
            · rw [if_pos q1] at laE
              rw [if_pos q1, ob_s]
              refine fin 0 (-1) _ laE ?_ ?_ ?_ ?_ ?_ ?_
              · exact FPL_u (FPL_u (FPL_u (FPL_u r1 (by omega)) (by omega)) (by omega)) (by omega)
              · exact fun i b1 b2 b3 => by rw [mU_ne _ _ (by omega), mU_ne _ _ (by omega)]; exact z2 _ _ i b1 b2 b3
              · rw [mU_ne _ _ (by omega), mU_ne _ _ (by omega), mU_ne _ _ (by omega), mU_ne _ _ (by omega)]; exact n31
              · exact mU_eq _ _ _ _
              · rw [mU_ne _ _ (by omega), mU_eq]; exact q1
              · exact fun i hi => by rw [mU_row _ _ hi, mU_row _ _ hi, mU_row _ _ hi, mU_row _ _ hi]; exact n1r i hi
            · rw [if_neg q1] at laE
              rw [if_neg q1, ob_s]
              refine fin 1 t1 _ laE ?_ ?_ ?_ ?_ ?_ ?_
              · exact FPL_u (FPL_u (FPL_u (FPL_u r1 (by omega)) (by omega)) (by omega)) (by omega)
              · exact fun i b1 b2 b3 => by rw [mU_ne _ _ (by omega), mU_ne _ _ (by omega)]; exact z2 _ _ i b1 b2 b3
              · rw [mU_ne _ _ (by omega), mU_ne _ _ (by omega), mU_ne _ _ (by omega), mU_ne _ _ (by omega)]; exact n31
              · exact mU_eq _ _ _ _
              · rw [mU_ne _ _ (by omega), mU_eq]
              · exact fun i hi => by rw [mU_row _ _ hi, mU_row _ _ hi, mU_row _ _ hi, mU_row _ _ hi]; exact n1r i hi
          · rw [if_neg q0] at laE
            unfold sX12_strikes_b75
            rw [if_neg q0, ob_s, mU_ne _ _ (show (359 : Nat) ≠ 359 ∨ (39 : Nat) ≠ 38 by omega), mU_eq, wI_of (x := t0) (by omega) (by omega), if_neg q0]
            refine fin 2 t0 _ laE ?_ ?_ ?_ ?_ ?_ ?_
            · exact FPL_u (FPL_u r1 (by omega)) (by omega)
            · exact z2 _ _
            · rw [mU_ne _ _ (by omega), mU_ne _ _ (by omega)]; exact n31
            · exact mU_eq _ _ _ _
            · rw [mU_ne _ _ (by omega), mU_eq]
            · exact fun i hi => by rw [mU_row _ _ hi, mU_row _ _ hi]; exact n1r i hi
        · by_cases q1 : f 0 = -1
          · rw [if_pos q1, ob_s, if_pos (Or.inl rfl)]; exact refuse
          · rw [if_neg q1]
            by_cases q2 : f 2 = -1
            · rw [if_pos q2, ob_s, if_pos (Or.inl rfl)]; exact refuse
            · rw [if_neg q2, if_neg (fun q => hd2 ⟨z4, z5, q1, q2, q⟩), ob_s, if_pos (Or.inl rfl)]; exact refuse
      · -- raise
        rw [if_neg (show ¬ (3 : Int) = 0 by omega), if_neg (show ¬ (3 : Int) = 0 by omega), if_neg (show ¬ (3 : Int) = 0 by omega), if_neg (show ¬ (3 : Int) = 1 by omega), if_neg (show ¬ (3 : Int) = 1 by omega), if_neg (show ¬ (3 : Int) = 1 by omega), if_neg (show ¬ (3 : Int) = 2 by omega), if_neg (show ¬ (3 : Int) = 2 by omega), if_neg (show ¬ (3 : Int) = 2 by omega), if_pos rfl, if_pos rfl, if_pos rfl]
        unfold sX12_rises sX12_rises_b0
        rw [m3]
        refine ⟨fun hd => ?_, fun hd => ?_⟩
        · rw [in_1 (by omega) (by omega) (by omega) (by omega) hd.2.2.1 hd.2.2.2, if_neg (show ¬ (1 : Int) = 0 by omega), ob_s, ob_s, if_pos (Or.inr rfl)]
          refine ⟨mU N 359 33 (f 3 + a), rfl, FPL_u hr (by omega), RRL_u hN0 3 33 _ (by omega) (by omega), fun i _ => ⟨?_, ?_⟩, fun q => by omega, ?_⟩
          · rw [mU_row _ _ (by omega)]
          · rw [mU_row _ _ (by omega)]
          · exact ifu ((uF_n f (k := 3) (j := 4) (f 3 + a) (by omega)).trans z4) (mU_ne _ _ (by omega))
        · rw [in_f ⟨by omega, by omega⟩ ⟨by omega, by omega⟩ ⟨by omega, by omega⟩ (fun q => hd ⟨z4, z5, q.1, q.2⟩), i00, ob_s, if_pos (Or.inl rfl)]; exact refuse
      · -- lower
        rw [if_neg (show ¬ (4 : Int) = 0 by omega), if_neg (show ¬ (4 : Int) = 0 by omega), if_neg (show ¬ (4 : Int) = 0 by omega), if_neg (show ¬ (4 : Int) = 1 by omega), if_neg (show ¬ (4 : Int) = 1 by omega), if_neg (show ¬ (4 : Int) = 1 by omega), if_neg (show ¬ (4 : Int) = 2 by omega), if_neg (show ¬ (4 : Int) = 2 by omega), if_neg (show ¬ (4 : Int) = 2 by omega), if_neg (show ¬ (4 : Int) = 3 by omega), if_neg (show ¬ (4 : Int) = 3 by omega), if_neg (show ¬ (4 : Int) = 3 by omega), if_pos rfl, if_pos rfl, if_pos rfl]
        unfold sX12_rises sX12_rises_b0
        rw [m3, show f 3 + -a = f 3 - a by omega]
        refine ⟨fun hd => ?_, fun hd => ?_⟩
        · rw [in_1 (by omega) (by omega) (by omega) (by omega) hd.2.2.1 hd.2.2.2, if_neg (show ¬ (1 : Int) = 0 by omega), ob_s, ob_s, if_pos (Or.inr rfl)]
          refine ⟨mU N 359 33 (f 3 - a), rfl, FPL_u hr (by omega), RRL_u hN0 3 33 _ (by omega) (by omega), fun i _ => ⟨?_, ?_⟩, fun q => by omega, ?_⟩
          · rw [mU_row _ _ (by omega)]
          · rw [mU_row _ _ (by omega)]
          · exact ifu ((uF_n f (k := 3) (j := 4) (f 3 - a) (by omega)).trans z4) (mU_ne _ _ (by omega))
        · rw [in_f ⟨by omega, by omega⟩ ⟨by omega, by omega⟩ ⟨by omega, by omega⟩ (fun q => hd ⟨z4, z5, q.1, q.2⟩), i00, ob_s, if_pos (Or.inl rfl)]; exact refuse
      · -- end
        obtain ⟨n, hn⟩ := Int.eq_ofNat_of_zero_le (show 0 ≤ pP N0 kp 1 by omega)
        have pw := p2n n (by omega)
        rw [if_neg (show ¬ (5 : Int) = 0 by omega), if_neg (show ¬ (5 : Int) = 0 by omega), if_neg (show ¬ (5 : Int) = 0 by omega), if_neg (show ¬ (5 : Int) = 1 by omega), if_neg (show ¬ (5 : Int) = 1 by omega), if_neg (show ¬ (5 : Int) = 1 by omega), if_neg (show ¬ (5 : Int) = 2 by omega), if_neg (show ¬ (5 : Int) = 2 by omega), if_neg (show ¬ (5 : Int) = 2 by omega), if_neg (show ¬ (5 : Int) = 3 by omega), if_neg (show ¬ (5 : Int) = 3 by omega), if_neg (show ¬ (5 : Int) = 3 by omega), if_neg (show ¬ (5 : Int) = 4 by omega), if_neg (show ¬ (5 : Int) = 4 by omega), if_neg (show ¬ (5 : Int) = 4 by omega), hd'.2.2.2.1, hpe, hn, m6, wI_of (x := (n : Int)) (by omega) (by omega), if_pos (show 0 ≤ (n : Int) ∧ (n : Int) < 32 by omega), tN, wI_of (x := f 6) (by omega) (by omega), Int.one_mul, wI_of (x := (2 : Int) ^ n - 1) (by omega) (by omega)]
        unfold sX12_does_b141
        refine ⟨fun hd => ?_, fun hd => ?_⟩
        · rw [if_pos hd.2.2, if_pos (Or.inr rfl), ob_s, mU_eq, if_pos (Or.inr rfl)]
          refine ⟨_, rfl, FPL_u hr (by omega), RRL_u hN0 5 36 _ (by omega) (by omega), fun i _ => ⟨?_, ?_⟩, fun q => by omega, ?_⟩
          · rw [mU_row _ _ (by omega)]
          · rw [mU_row _ _ (by omega)]
          · exact ifu ((uF_n f (k := 5) (j := 4) 1 (by omega)).trans z4) (mU_ne _ _ (by omega))
        · rw [if_neg (fun q => hd ⟨z4, z5, q⟩), if_pos (Or.inl rfl), ob_s, mU_eq, if_pos (Or.inl rfl)]
          have hu : uF f 5 0 = f := funext fun i => by
            by_cases e : i = 5
            · subst e; rw [uF_e, z5]
            · rw [uF_n _ _ e]
          have := RRL_u hN0 5 36 0 (by omega) (by omega)
          rw [hu] at this
          exact ⟨_, rfl, FPL_u hr (by omega), this, fun i => ⟨by rw [mU_row _ _ (by omega)], by rw [mU_row _ _ (by omega)]⟩, mU_ne _ _ (by omega)⟩
    · rw [if_pos z4, if_neg z5]
      exact ⟨fun q => absurd q.2.1 z5, fun _ => refuse⟩
  · rw [if_neg z4]
    exact ⟨fun q => absurd q.1 z4, fun _ => refuse⟩
