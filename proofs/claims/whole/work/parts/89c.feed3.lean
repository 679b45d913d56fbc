theorem e_feed {M : MM} (h : INV M) {x1 x2 x3 x4 x5 : Int} (r1 : R32 x1) (r2 : R32 x2) (r3 : R32 x3) (r4 : R32 x4) (r5 : R32 x5) : ∃ v v' M1 M2, sX11_feed 0 x1 x2 x3 x4 x5 M = some (v, M1) ∧ sX12_feed 359 x1 x2 x3 x4 x5 M1 = some (v', M2) ∧ wI v = wI v' ∧ INV M2 := by
  have hl := i_len h
  have hf := i_flt h
  obtain ⟨L, hL⟩ := Int.eq_ofNat_of_zero_le hl.2.1
  unfold sX11_feed sX11_feed_b0
  rw [g0_0, hl.1, hL, wI_of (x := (L : Int) + 20) (by omega) (by omega)]
  by_cases q : (L : Int) + 20 ≤ 600
  · rw [if_pos q]
    obtain ⟨A1, a1, b1, c1, d1, f1⟩ := appA r1 (T := M) (L := L) (by rw [hl.1]; exact hL) (by omega)
    obtain ⟨A2, a2, b2, c2, d2, f2⟩ := appA r2 d1 (by omega)
    obtain ⟨A3, a3, b3, c3, d3, f3⟩ := appA r3 d2 (by omega)
    obtain ⟨A4, a4, b4, c4, d4, f4⟩ := appA r4 d3 (by omega)
    obtain ⟨A5, a5, b5, c5, d5, f5⟩ := appA r5 d4 (by omega)
    have fA : ∀ a, a ≠ 1 → a ≠ 2 → A5 a = M a := fun a x y => by rw [b5 a x y, b4 a x y, b3 a x y, b2 a x y, b1 a x y]
    have fA1 : ∀ i, i ≠ 1 → A5 1 i = M 1 i := fun i x => by rw [c5 i x, c4 i x, c3 i x, c2 i x, c1 i x]
    obtain ⟨B1, p1, s1, u1, w1, z1⟩ := fouB r1 (T := mU A5 359 0 0) (L := L) (by rw [mU_row _ _ (by omega), fA 361 (by omega) (by omega)]; exact hL) (by omega)
    obtain ⟨B2, p2, s2, u2, w2, z2⟩ := fouB r2 w1 (by omega)
    obtain ⟨B3, p3, s3, u3, w3, z3⟩ := fouB r3 w2 (by omega)
    obtain ⟨B4, p4, s4, u4, w4, z4⟩ := fouB r4 w3 (by omega)
    obtain ⟨B5, p5, s5, u5, w5, z5⟩ := fouB r5 w4 (by omega)
    have fB : ∀ a, a ≠ 359 → a ≠ 360 → a ≠ 361 → B5 a = A5 a := fun a w x y => by rw [s5 a x y, s4 a x y, s3 a x y, s2 a x y, s1 a x y, mU_row _ _ w]
    have fB1 : ∀ i, i ≠ 0 → B5 361 i = M 361 i := fun i x => by rw [u5 i x, u4 i x, u3 i x, u2 i x, u1 i x, mU_row _ _ (by omega), fA 361 (by omega) (by omega)]
    have e6 : (mU A5 359 0 0) 360 = M 360 := by rw [mU_row _ _ (by omega), fA 360 (by omega) (by omega)]
    have t2 : ∀ j, A5 2 j = wrW (L + 4 + 4 + 4 + 4) x5 (wrW (L + 4 + 4 + 4) x4 (wrW (L + 4 + 4) x3 (wrW (L + 4) x2 (wrW L x1 (M 2))))) j := fun j => by
      rw [f5, show A4 2 = _ from funext f4, show A3 2 = _ from funext f3, show A2 2 = _ from funext f2, show A1 2 = _ from funext f1]
    have t6 : ∀ j, B5 360 j = wrW (L + 4 + 4 + 4 + 4) x5 (wrW (L + 4 + 4 + 4) x4 (wrW (L + 4 + 4) x3 (wrW (L + 4) x2 (wrW L x1 (M 360))))) j := fun j => by
      rw [z5, show B4 360 = _ from funext z4, show B3 360 = _ from funext z3, show B2 360 = _ from funext z2, show B1 360 = _ from funext z1, e6]
    have one : ∀ (K : Nat) (x : Int) (g g' : Nat → Int), (∀ j, j < 600 → g j = g' j ∧ -128 ≤ g' j ∧ g' j ≤ 127) → ∀ j, j < 600 → wrW K x g j = wrW K x g' j ∧ -128 ≤ wrW K x g' j ∧ wrW K x g' j ≤ 127 := fun K x g g' hg j hj => by
      have y0 := by_b x 0
      have y8 := by_b x 8
      have y6 := by_b x 16
      have y4 := by_b x 24
      have gj := hg j hj
      unfold wrW
      by_cases e3 : j = K + 3
      · rw [if_pos e3, if_pos e3]; exact ⟨rfl, y0⟩
      · rw [if_neg e3, if_neg e3]
        by_cases e2 : j = K + 2
        · rw [if_pos e2, if_pos e2]; exact ⟨rfl, y8⟩
        · rw [if_neg e2, if_neg e2]
          by_cases e1 : j = K + 1
          · rw [if_pos e1, if_pos e1]; exact ⟨rfl, y6⟩
          · rw [if_neg e1, if_neg e1]
            by_cases e0 : j = K
            · rw [if_pos e0, if_pos e0]; exact ⟨rfl, y4⟩
            · rw [if_neg e0, if_neg e0]; exact gj
    have far : ∀ (K : Nat) (x : Int) (g : Nat → Int) (j : Nat), K + 4 ≤ j → wrW K x g j = g j := fun K x g j hj => by
      unfold wrW
      rw [if_neg (by omega), if_neg (by omega), if_neg (by omega), if_neg (by omega)]
    have base : ∀ j, j < 600 → M 2 j = M 360 j ∧ -128 ≤ M 360 j ∧ M 360 j ≤ 127 := fun j hj => by
      have := h.2.1.2.2.1 j hj
      rw [tB_0, Nat.mul_zero, Nat.zero_add] at this
      exact this
    have hI : INV B5 := by
      refine INV_tape h (fun a ha n1 n2 n3 n4 n5 n6 => by rw [fB a (by omega) n3 n4, fA a n1 n2]) (fun i i1 i2 => ⟨fB1 i (by omega), by rw [fB 362 (by omega) (by omega) (by omega), fA 362 (by omega) (by omega)], by rw [fB 363 (by omega) (by omega) (by omega), fA 363 (by omega) (by omega)]⟩) (fun j hj => by rw [t6, far _ _ _ _ (by omega), far _ _ _ _ (by omega), far _ _ _ _ (by omega), far _ _ _ _ (by omega), far _ _ _ _ (by omega)]) ⟨by rw [fB 1 (by omega) (by omega) (by omega), d5, w5], by rw [w5]; omega, by rw [w5]; omega⟩ ⟨by rw [fB 1 (by omega) (by omega) (by omega), fA1 2 (by omega), fB 362 (by omega) (by omega) (by omega), fA 362 (by omega) (by omega)]; exact hf.1, by rw [fB 1 (by omega) (by omega) (by omega), fA1 3 (by omega), fB 363 (by omega) (by omega) (by omega), fA 363 (by omega) (by omega)]; exact hf.2⟩ (fun j hj => ?_)
      rw [fB 2 (by omega) (by omega) (by omega), t2, t6]
      exact one _ _ _ _ (one _ _ _ _ (one _ _ _ _ (one _ _ _ _ (one _ _ _ _ base)))) j hj
    rw [a1, ob_s, a2, ob_s, a3, ob_s, a4, ob_s, a5, ob_s]
    refine ⟨_, ((L + 4 + 4 + 4 + 4 + 4 : Nat) : Int), A5, B5, rfl, ?_, by rw [d5], hI⟩
    unfold sX12_feed sX12_feed_b0
    rw [ob_s, g359_2, mU_row _ _ (show (361 : Nat) ≠ 359 by omega), fA 361 (by omega) (by omega), hL, wI_of (x := (L : Int) + 20) (by omega) (by omega), if_pos q, p1, ob_s, p2, ob_s, p3, ob_s, p4, ob_s, p5, ob_s, w5]
  · rw [if_neg q]
    refine ⟨-1, -1, M, mU M 359 0 0, rfl, ?_, rfl, INV_2 (FR_0 M) h⟩
    unfold sX12_feed sX12_feed_b0
    rw [ob_s, g359_2, mU_row _ _ (show (361 : Nat) ≠ 359 by omega), hL, wI_of (x := (L : Int) + 20) (by omega) (by omega), if_neg q]
