/-- the call span -/
theorem goB {N0 N : MM} {kp kb : Nat} (hd : HD N0 kp) (hkb : kb < 2) (h29 : N0 359 29 = (kb : Int)) (hv : PV (pP N0 kp)) (hw : BV (bB N0 kb)) (hr : FPL N0 N) {v : Int} (hb : 1 ≤ v ∧ v ≤ 30) {r : Nat} (hn : (r : Int) ≤ bB N0 kb 0) {s0 : PS} (h76 : ∀ i, i < r → bB N0 kb (1 + 3 * i) = 2 → N0 376 i = (itP (pP N0 kp) (bB N0 kb) s0 (i + 1)).1 7 ∧ N0 377 i = (itP (pP N0 kp) (bB N0 kb) s0 (i + 1)).1 8) (hsv : ∀ i, i < r → bB N0 kb (1 + 3 * i) = 2 → (-1 ≤ (itP (pP N0 kp) (bB N0 kb) s0 (i + 1)).1 7 ∧ (itP (pP N0 kp) (bB N0 kb) s0 (i + 1)).1 7 ≤ 2) ∧ -1 ≤ (itP (pP N0 kp) (bB N0 kb) s0 (i + 1)).1 8 ∧ (itP (pP N0 kp) (bB N0 kb) s0 (i + 1)).1 8 < pP N0 kp 0) : ∃ g N', sX12_goesSo 359 v (r : Int) (buP (pP N0 kp) (bB N0 kb) s0 r) N = some (g, N') ∧ FPL N0 N' ∧ (goP (pP N0 kp) (bB N0 kb) s0 (s0P (pP N0 kp) v) r → g = 1) ∧ (¬ goP (pP N0 kp) (bB N0 kb) s0 (s0P (pP N0 kp) v) r → g = 0) := by
  have hv1 := hv.1
  have hw1 := hw.1
  have hw2 := hw.2.1
  obtain ⟨N', e, w1, w2, w3, w4⟩ := playB hd hkb h29 hv hw hr hb hn
  have rb := rn_b (P := pP N0 kp) (R := bB N0 kb) r 0 (s0P (pP N0 kp) v)
  have itc := rn_it (pP N0 kp) (bB N0 kb) (s0P (pP N0 kp) v) r 0
  rw [show itP (pP N0 kp) (bB N0 kb) (s0P (pP N0 kp) v) 0 = s0P (pP N0 kp) v from rfl] at itc
  unfold sX12_goesSo sX12_goesSo_b0
  rw [e, ob_s]
  dsimp only
  unfold goP
  have bu1 : ∀ s : PS, -1 ≤ buP (pP N0 kp) (bB N0 kb) s r ∧ buP (pP N0 kp) (bB N0 kb) s r < (r : Int) := fun s => by unfold buP; split <;> omega
  have b1 := bu1 s0
  by_cases z : (rnP (pP N0 kp) (bB N0 kb) r 0 (s0P (pP N0 kp) v)).1 = r
  · rw [z] at w3 w4 itc ⊢
    have b2 := bu1 (s0P (pP N0 kp) v)
    simp only [w4]
    have vC := it_v hv hw (s0_v hv hb) hn (fun i hi => itc.2.1 i (by omega) hi)
    obtain ⟨A, hA⟩ : ∃ A : Nat → PS, ∀ j, itP (pP N0 kp) (bB N0 kb) s0 j = A j := ⟨_, fun _ => rfl⟩
    obtain ⟨C, hC⟩ : ∃ C : Nat → PS, ∀ j, itP (pP N0 kp) (bB N0 kb) (s0P (pP N0 kp) v) j = C j := ⟨_, fun _ => rfl⟩
    simp only [hA] at h76 hsv ⊢
    simp only [hC] at w3 vC ⊢
    generalize buP (pP N0 kp) (bB N0 kb) (s0P (pP N0 kp) v) r = p at *
    generalize buP (pP N0 kp) (bB N0 kb) s0 r = q at *
    rw [wI_of (x := p) (by omega) (by omega), wI_of (x := q) (by omega) (by omega), wI_of (x := (r : Int)) (by omega) (by omega), if_neg (show ¬ (r : Int) < (r : Int) by omega)]
    by_cases y : p = q
    · rw [if_pos y]
      refine loopC (fun f y (_ : Unit) => sX12_goesSo_b23 359 v (r : Int) q f y N') r (fun i _ => ∀ j, j < i → bB N0 kb (1 + 3 * j) = 2 → (C (j + 1)).1 7 = (A (j + 1)).1 7 ∧ (C (j + 1)).1 8 = (A (j + 1)).1 8) (fun o => ∃ g N'_1, o = some (g, N'_1) ∧ FPL N0 N'_1 ∧ (True ∧ p = q ∧ (∀ i, i < r → bB N0 kb (1 + 3 * i) = 2 → (C (i + 1)).1 7 = (A (i + 1)).1 7 ∧ (C (i + 1)).1 8 = (A (i + 1)).1 8) → g = 1) ∧ (¬ (True ∧ p = q ∧ (∀ i, i < r → bB N0 kb (1 + 3 * i) = 2 → (C (i + 1)).1 7 = (A (i + 1)).1 7 ∧ (C (i + 1)).1 8 = (A (i + 1)).1 8)) → g = 0)) ?_ ?_ FU 0 () (by omega) (fun j hj => by omega) (by unfold FU; omega)
      · intro f _ hi
        show ∃ g N'_1, sX12_goesSo_b23 359 v (r : Int) q (f + 1) (r : Int) N' = some (g, N'_1) ∧ _
        rw [sX12_goesSo_b23, if_pos (Int.le_refl _)]
        exact ⟨1, N', rfl, w1, fun _ => rfl, fun h => absurd ⟨trivial, y, hi⟩ h⟩
      · intro f i _ hi hI
        have bk := bv_k hw (k := i) (by omega)
        have h29' : N' 359 29 = (kb : Int) := (w1.2 29 (by omega)).trans h29
        have e0 : sX12_goesSo_b23 359 v (r : Int) q (f + 1) (i : Int) N' = if bB N0 kb (1 + 3 * i) = 2 then (if wI (N' 374 i) = wI (N0 376 i) then (if wI (N' 375 i) = wI (N0 377 i) then sX12_goesSo_b23 359 v (r : Int) q f ((i : Int) + 1) N' else some (0, N')) else some (0, N')) else sX12_goesSo_b23 359 v (r : Int) q f ((i : Int) + 1) N' := by
          rw [sX12_goesSo_b23, wI_of (x := (r : Int)) (by omega) (by omega), wI_of (x := (i : Int)) (by omega) (by omega), if_neg (show ¬ (r : Int) ≤ (i : Int) by omega), deedOf_e hkb h29' (x := (i : Int)) (y := 0) ⟨by omega, by omega⟩ ⟨by omega, by omega⟩, ob_s, FPL_b w1, show (1 + 3 * (i : Int) + 0).toNat = 1 + 3 * i by omega, wI_of (x := bB N0 kb (1 + 3 * i)) (by omega) (by omega), if_pos (show 0 ≤ (i : Int) ∧ (i : Int) < 40 by omega), if_pos (show 0 ≤ (i : Int) ∧ (i : Int) < 40 by omega), if_pos (show 0 ≤ (i : Int) ∧ (i : Int) < 40 by omega), if_pos (show 0 ≤ (i : Int) ∧ (i : Int) < 40 by omega), g359_42, g359_43, g359_44, g359_45, tN, w1.1 376 (by omega) (by omega), w1.1 377 (by omega) (by omega)]
          rfl
        show (∃ g N'_1, sX12_goesSo_b23 359 v (r : Int) q (f + 1) (i : Int) N' = some (g, N'_1) ∧ _) ∨ ∃ s' : Unit, sX12_goesSo_b23 359 v (r : Int) q (f + 1) (i : Int) N' = sX12_goesSo_b23 359 v (r : Int) q f ((i : Int) + 1) N' ∧ _
        rw [e0]
        by_cases k2 : bB N0 kb (1 + 3 * i) = 2
        · have t1 := w3 i hi k2
          have t2 := h76 i hi k2
          have t3 := hsv i hi k2
          have t4 := vC (i + 1) (by omega)
          have t5 := t4.2.2.2.2.2.2.2.1
          have t6 := t4.2.2.2.2.2.2.2.2.1
          clear t4
          rw [if_pos k2, t1.1, t1.2, t2.1, t2.2]
          have stay : (∀ j, j < i + 1 → bB N0 kb (1 + 3 * j) = 2 → (C (j + 1)).1 7 = (A (j + 1)).1 7 ∧ (C (j + 1)).1 8 = (A (j + 1)).1 8) ∨ ¬ ((C (i + 1)).1 7 = (A (i + 1)).1 7 ∧ (C (i + 1)).1 8 = (A (i + 1)).1 8) := by
            by_cases d : (C (i + 1)).1 7 = (A (i + 1)).1 7 ∧ (C (i + 1)).1 8 = (A (i + 1)).1 8
            · left
              intro j hj hk
              by_cases e : j = i
              · subst e; exact d
              · exact hI j (by omega) hk
            · exact Or.inr d
          have bad : ¬ ((C (i + 1)).1 7 = (A (i + 1)).1 7 ∧ (C (i + 1)).1 8 = (A (i + 1)).1 8) → ∃ g N'_1, some ((0 : Int), N') = some (g, N'_1) ∧ FPL N0 N'_1 ∧ (True ∧ p = q ∧ (∀ i, i < r → bB N0 kb (1 + 3 * i) = 2 → (C (i + 1)).1 7 = (A (i + 1)).1 7 ∧ (C (i + 1)).1 8 = (A (i + 1)).1 8) → g = 1) ∧ (¬ (True ∧ p = q ∧ (∀ i, i < r → bB N0 kb (1 + 3 * i) = 2 → (C (i + 1)).1 7 = (A (i + 1)).1 7 ∧ (C (i + 1)).1 8 = (A (i + 1)).1 8)) → g = 0) := fun hb => ⟨0, N', rfl, w1, fun h => absurd (h.2.2 i hi k2) hb, fun _ => rfl⟩
          generalize (C (i + 1)).1 7 = c7 at *
          generalize (C (i + 1)).1 8 = c8 at *
          generalize (A (i + 1)).1 7 = a7 at *
          generalize (A (i + 1)).1 8 = a8 at *
          rw [wI_of (x := c7) (by omega) (by omega), wI_of (x := c8) (by omega) (by omega), wI_of (x := a7) (by omega) (by omega), wI_of (x := a8) (by omega) (by omega)]
          by_cases d7 : c7 = a7
          · by_cases d8 : c8 = a8
            · rw [if_pos d7, if_pos d8]
              exact Or.inr ⟨(), rfl, stay.resolve_right (fun h => h ⟨d7, d8⟩)⟩
            · rw [if_pos d7, if_neg d8]
              exact Or.inl (bad (fun h => d8 h.2))
          · rw [if_neg d7]
            exact Or.inl (bad (fun h => d7 h.1))
        · rw [if_neg k2]
          right
          refine ⟨(), rfl, fun j hj hk => ?_⟩
          by_cases e : j = i
          · subst e; exact absurd hk k2
          · exact hI j (by omega) hk
    · rw [if_neg y]
      exact ⟨0, N', rfl, w1, fun h => absurd h.2.1 y, fun _ => rfl⟩
  · rw [wI_of (x := ((rnP (pP N0 kp) (bB N0 kb) r 0 (s0P (pP N0 kp) v)).1 : Int)) (by omega) (by omega), wI_of (x := (r : Int)) (by omega) (by omega), if_pos (by omega)]
    exact ⟨0, N', rfl, w1, fun h => absurd h.1 z, fun _ => rfl⟩
