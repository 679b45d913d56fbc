theorem CTD_d {M M' : MM} {i : Nat} (h : ∀ j, 2 ≤ j → j < 76 → M' (tB i + j) = M (tB i + j)) (hr : ∀ a, 364 ≤ a → a < 370 → M' a = M a) (h1 : M' (tB i) 1 = M' 361 i ∧ 0 ≤ M' 361 i ∧ M' 361 i ≤ 600) (h2 : M' (tB i) 2 = M' 362 i ∧ M' (tB i) 3 = M' 363 i) (h3 : ∀ j, j < 600 → M' (tB i + 1) j = M' 360 (600 * i + j) ∧ -128 ≤ M' 360 (600 * i + j) ∧ M' 360 (600 * i + j) ≤ 127) (q : CTD M i) : CTD M' i := by
  obtain ⟨q1, q2, q3, q4, q5, q6, q7, q8, q9⟩ := q
  have hs := (q4 0 (by omega)).2.2
  have hs1 := (q4 1 (by omega)).2.2
  have hs2 := (q4 2 (by omega)).2.2
  have hs3 := (q4 3 (by omega)).2.2
  have hs4 := (q4 4 (by omega)).2.2
  rw [Nat.add_zero] at hs
  refine ⟨h1, h2, h3, ?_⟩
  rw [h 2 (by omega) (by omega), hr 364 (by omega) (by omega), hr 365 (by omega) (by omega), hr 366 (by omega) (by omega), hr 367 (by omega) (by omega), hr 368 (by omega) (by omega), hr 369 (by omega) (by omega)]
  refine ⟨q4, fun k hk => ⟨PC_c (fun j hj => ?_) (q5 k hk).1, (q5 k hk).2⟩, fun k hk => ⟨BC_c (fun j hj => ?_) (q6 k hk).1, (q6 k hk).2⟩, fun k hk => ⟨CC_c (fun j hj => ?_) (q7 k hk).1, (q7 k hk).2⟩, fun k hk => ⟨DC_c (fun j hj => ?_) (q8 k hk).1, (q8 k hk).2⟩, fun k hk => ⟨RC_c (fun j hj => ?_) (q9 k hk).1, (q9 k hk).2⟩⟩
  · have := h (8 + 34 * k + j) (by omega) (by omega); rwa [show tB i + (8 + 34 * k + j) = tB i + 8 + 34 * k + j by omega] at this
  · have := h (19 + 34 * k + j) (by omega) (by omega); rwa [show tB i + (19 + 34 * k + j) = tB i + 19 + 34 * k + j by omega] at this
  · have := h (23 + 34 * k + j) (by omega) (by omega); rwa [show tB i + (23 + 34 * k + j) = tB i + 23 + 34 * k + j by omega] at this
  · have := h (29 + 34 * k + j) (by omega) (by omega); rwa [show tB i + (29 + 34 * k + j) = tB i + 29 + 34 * k + j by omega] at this
  · have := h (33 + 34 * k + j) (by omega) (by omega); rwa [show tB i + (33 + 34 * k + j) = tB i + 33 + 34 * k + j by omega] at this
theorem INV_tape {M M' : MM} (h : INV M) (hK : ∀ a, a < 115 ∨ (130 < a ∧ a < 359) ∨ (359 < a ∧ a < 370) ∨ a = 387 → a ≠ 1 → a ≠ 2 → a ≠ 360 → a ≠ 361 → a ≠ 362 → a ≠ 363 → M' a = M a) (h1 : ∀ i, 1 ≤ i → i < 4 → M' 361 i = M 361 i ∧ M' 362 i = M 362 i ∧ M' 363 i = M 363 i) (h0 : ∀ j, 600 ≤ j → M' 360 j = M 360 j) (hl : M' 1 1 = M' 361 0 ∧ 0 ≤ M' 361 0 ∧ M' 361 0 ≤ 600) (hf : M' 1 2 = M' 362 0 ∧ M' 1 3 = M' 363 0) (ht : ∀ j, j < 600 → M' 2 j = M' 360 j ∧ -128 ≤ M' 360 j ∧ M' 360 j ≤ 127) : INV M' := by
  obtain ⟨q1, q2, q3, q4⟩ := h
  refine ⟨?_, ?_, ?_, ?_⟩
  · unfold MOS
    rw [hK 91 (by omega) (by omega) (by omega) (by omega) (by omega) (by omega) (by omega), hK 96 (by omega) (by omega) (by omega) (by omega) (by omega) (by omega) (by omega), hK 101 (by omega) (by omega) (by omega) (by omega) (by omega) (by omega) (by omega), hK 106 (by omega) (by omega) (by omega) (by omega) (by omega) (by omega) (by omega), hK 110 (by omega) (by omega) (by omega) (by omega) (by omega) (by omega) (by omega)]
    refine ⟨fun i hi k hk => ?_, q1.2⟩
    have hb := tB_r i hi
    rw [hK (tB i + 19 + 34 * k) (by omega) (by omega) (by omega) (by omega) (by omega) (by omega) (by omega), hK (tB i + 24 + 34 * k) (by omega) (by omega) (by omega) (by omega) (by omega) (by omega) (by omega), hK (tB i + 29 + 34 * k) (by omega) (by omega) (by omega) (by omega) (by omega) (by omega) (by omega), hK (tB i + 34 + 34 * k) (by omega) (by omega) (by omega) (by omega) (by omega) (by omega) (by omega), hK (tB i + 38 + 34 * k) (by omega) (by omega) (by omega) (by omega) (by omega) (by omega) (by omega)]
    exact q1.1 i hi k hk
  · refine CTD_d (fun j hj hj' => hK _ (by rw [tB_0]; omega) (by rw [tB_0]; omega) (by rw [tB_0]; omega) (by rw [tB_0]; omega) (by rw [tB_0]; omega) (by rw [tB_0]; omega) (by rw [tB_0]; omega)) (fun a ha hb => hK a (by omega) (by omega) (by omega) (by omega) (by omega) (by omega) (by omega)) hl hf (fun j hj => ?_) q2
    have := ht j hj
    simpa [tB_0] using this
  · intro k hk
    rw [hK 78 (by omega) (by omega) (by omega) (by omega) (by omega) (by omega) (by omega), hK 387 (by omega) (by omega) (by omega) (by omega) (by omega) (by omega) (by omega)]
    exact q3 k hk
  · intro k hk e
    rw [hK 387 (by omega) (by omega) (by omega) (by omega) (by omega) (by omega) (by omega)] at e
    have q := q4 k hk e
    have hb : 131 ≤ tB (k + 1) ∧ tB (k + 1) ≤ 283 := by
      have := tB_r (k + 1) (by omega)
      rcases this with h | h
      · unfold tB at h; simp at h; omega
      · exact h
    have hz := h1 (k + 1) (by omega) (by omega)
    refine CTD_d (fun j hj hj' => hK _ (by omega) (by omega) (by omega) (by omega) (by omega) (by omega) (by omega)) (fun a ha hb => hK a (by omega) (by omega) (by omega) (by omega) (by omega) (by omega) (by omega)) ?_ ?_ (fun j hj => ?_) q
    · rw [hK (tB (k + 1)) (by omega) (by omega) (by omega) (by omega) (by omega) (by omega) (by omega), hz.1]; exact q.1
    · rw [hK (tB (k + 1)) (by omega) (by omega) (by omega) (by omega) (by omega) (by omega) (by omega), hz.2.1, hz.2.2]; exact q.2.1
    · rw [hK (tB (k + 1) + 1) (by omega) (by omega) (by omega) (by omega) (by omega) (by omega) (by omega), h0 _ (by omega)]; exact q.2.2.1 j hj
theorem e_fault {M : MM} (h : INV M) {x : Int} : ∃ v v' M2, sX11_fault 0 x M = v ∧ sX12_fault 359 x M = some (v', M2) ∧ wI v = wI v' ∧ INV M2 := by
  have hf := i_flt h
  have hi : INV (mU M 359 0 0) := INV_2 (FR_u (FR_r M) (by omega)) h
  unfold sX11_fault sX11_fault_b0 sX12_fault sX12_fault_b0
  rw [g0_0, g359_3, g359_4, ob_s, hf.1, hf.2, mU_ne M 0 (show 362 ≠ 359 ∨ 0 ≠ 0 by omega), mU_ne M 0 (show 363 ≠ 359 ∨ 0 ≠ 0 by omega)]
  by_cases h0 : wI x = 0
  · rw [if_pos h0, if_pos h0]; exact ⟨_, _, _, rfl, rfl, rfl, hi⟩
  · rw [if_neg h0, if_neg h0]
    by_cases h1 : wI x = 1
    · rw [if_pos h1, if_pos h1]; exact ⟨_, _, _, rfl, rfl, rfl, hi⟩
    · rw [if_neg h1, if_neg h1]; exact ⟨_, _, _, rfl, rfl, rfl, hi⟩
theorem e_end {M : MM} (h : INV M) {x : Int} (r : R32 x) : ∃ v v' M1 M2, sX11_end 0 x M = some (v, M1) ∧ sX12_end 359 x M1 = some (v', M2) ∧ wI v = wI v' ∧ INV M2 := by
  have hl := i_len h
  unfold sX11_end sX11_end_b0
  rw [g0_0, hl.1, wI_of r.1 r.2, wI_of (x := M 361 0) (by omega) (by omega)]
  by_cases h1 : 0 ≤ x ∧ x ≤ M 361 0
  · rw [if_neg (by omega), if_pos h1.2, ob_s]
    refine ⟨x, x, _, mU (mU (mU M 1 1 x) 359 0 0) 361 0 x, rfl, ?_, rfl, ?_⟩
    · unfold sX12_end sX12_end_b0
      rw [ob_s, g359_2, in_t r ⟨by omega, by omega⟩ ?_ ?_, wI_1, i1z]
      · rfl
      · simp [mU, R32]; omega
      · simp [mU]; omega
    · refine INV_tape h (fun a ha a1 a2 a3 a4 a5 a6 => ?_) (fun i hi hi' => ?_) (fun j hj => ?_) ?_ ?_ (fun j hj => ?_)
      · rw [mU_row _ _ a4, mU_row _ _ (by omega), mU_row _ _ a1]
      · simp [mU]; omega
      · simp [mU]
      · simp [mU]; omega
      · simp [mU]; exact i_flt h
      · have := h.2.1.2.2.1 j hj
        simp [mU]; simpa [tB_0] using this
  · have e : (if x < 0 then some ((-1 : Int), M) else if x ≤ M 361 0 then (some (mU M 1 1 x)).bind fun M_5 => some (x, M_5) else some (-1, M)) = some (-1, M) := by
      by_cases h2 : x < 0
      · rw [if_pos h2]
      · rw [if_neg h2, if_neg (by omega)]
    rw [e]
    refine ⟨-1, -1, M, mU M 359 0 0, rfl, ?_, rfl, INV_2 (FR_u (FR_r M) (by omega)) h⟩
    unfold sX12_end sX12_end_b0
    rw [ob_s, g359_2, mU_ne M 0 (show 361 ≠ 359 ∨ 0 ≠ 0 by omega), in_f r ⟨by omega, by omega⟩ ⟨by omega, by omega⟩ h1]
    rfl
theorem e_count {M : MM} (h : INV M) {x : Int} (r : R32 x) : ∃ v v' M2, sX11_count 0 x M = some v ∧ sX12_count 359 x M = some (v', M2) ∧ wI v = wI v' ∧ INV M2 := by
  have hi : INV (mU M 359 0 0) := INV_2 (FR_u (FR_r M) (by omega)) h
  unfold sX11_count sX11_count_b0 sX12_count sX12_count_b0
  rw [g0_0, g1_4, ob_s, g359_5, wI_of r.1 r.2]
  by_cases h1 : 0 ≤ x ∧ x ≤ 4
  · obtain ⟨s, rfl⟩ := Int.eq_ofNat_of_zero_le h1.1
    have hs := i_size h (s := s) (by omega)
    rw [if_neg (by omega), if_pos (by omega), if_pos (by omega), in_t r ⟨by omega, by omega⟩ ⟨by omega, by omega⟩ h1, wI_1, i1z, if_pos (by omega), tN]
    refine ⟨_, _, _, rfl, rfl, ?_, hi⟩
    rw [mU_ne _ _ (by omega), hs.1]
  · rw [in_f r ⟨by omega, by omega⟩ ⟨by omega, by omega⟩ h1, wI_0, if_pos rfl]
    refine ⟨-2, _, _, ?_, rfl, rfl, hi⟩
    by_cases h2 : x < 0
    · rw [if_pos h2]
    · rw [if_neg h2, if_neg (by omega)]
