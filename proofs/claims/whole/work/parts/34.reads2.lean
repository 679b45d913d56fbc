theorem in_1 {x a b : Int} (h1 : -2147483648 ≤ x) (h2 : x ≤ 2147483647) (h3 : -2147483648 ≤ a) (h4 : b ≤ 2147483647) (h : a ≤ x) (h' : x ≤ b) : wI (sX12_in x a b) = 1 := by rw [in_t ⟨h1, h2⟩ ⟨h3, by omega⟩ ⟨by omega, h4⟩ ⟨h, h'⟩, wI_1]
theorem in_0a {x a b : Int} (h1 : -2147483648 ≤ x) (h2 : x ≤ 2147483647) (h3 : -2147483648 ≤ a) (h4 : a ≤ 2147483647) (h5 : -2147483648 ≤ b) (h6 : b ≤ 2147483647) (h : x < a) : wI (sX12_in x a b) = 0 := by rw [in_f ⟨h1, h2⟩ ⟨h3, h4⟩ ⟨h5, h6⟩ (by omega), wI_0]
theorem in_0b {x a b : Int} (h1 : -2147483648 ≤ x) (h2 : x ≤ 2147483647) (h3 : -2147483648 ≤ a) (h4 : a ≤ 2147483647) (h5 : -2147483648 ≤ b) (h6 : b ≤ 2147483647) (h : b < x) : wI (sX12_in x a b) = 0 := by rw [in_f ⟨h1, h2⟩ ⟨h3, h4⟩ ⟨h5, h6⟩ (by omega), wI_0]
def aP (P : Nat → Int) (x : Int) : Int := if 10 ≤ x ∧ x < 18 then P (x - 3).toNat else if 20 ≤ x ∧ x < 23 then P (x - 5).toNat else if 30 ≤ x ∧ x < 30 + P 0 then P (18 + 2 * (x - 30)).toNat else if 40 ≤ x ∧ x < 40 + P 0 then P (19 + 2 * (x - 40)).toNat else if 0 ≤ x ∧ x ≤ 6 then P x.toNat else -1
theorem cA_party {M : MM} {p : Nat} {P : Nat → Int} (hc : PC M p P) (hv : PV P) (hg : PG p) {x : Int} (r : R32 x) : sX5_answer p x M = some (aP P x) := by
  obtain ⟨r1, r2⟩ := r
  obtain ⟨⟨v1, v2, v3⟩, -⟩ := hv
  obtain ⟨⟨c1, c2, c3, c4, c5, c6, c7⟩, d1, d2, d3, -⟩ := hc
  obtain ⟨g1, g2, -, -, -, -, -, -, g9, g10⟩ := hg
  unfold sX5_answer sX5_answer_b0 aP
  by_cases a1 : 10 ≤ x ∧ x < 18
  · obtain ⟨w, rfl⟩ : ∃ w : Nat, x = 10 + (w : Int) := ⟨(x - 10).toNat, by omega⟩
    have e1 : (10 + (w : Int) - 10).toNat = w := by omega
    have e2 : (10 + (w : Int) - 3).toNat = 7 + w := by omega
    simp (disch := omega) only [wI_of, if_pos, if_neg, it_T, it_F, g9, e1, e2, d1]
  by_cases a2 : 20 ≤ x ∧ x < 23
  · obtain ⟨w, rfl⟩ : ∃ w : Nat, x = 20 + (w : Int) := ⟨(x - 20).toNat, by omega⟩
    have e1 : (20 + (w : Int) - 20).toNat = w := by omega
    have e2 : (20 + (w : Int) - 5).toNat = 15 + w := by omega
    simp (disch := omega) only [wI_of, if_pos, if_neg, it_T, it_F, g10, e1, e2, d2, sX5_answer_b22]
  by_cases a3 : 30 ≤ x ∧ x < 30 + P 0
  · obtain ⟨w, rfl⟩ : ∃ w : Nat, x = 30 + (w : Int) := ⟨(x - 30).toNat, by omega⟩
    have e1 : (30 + (w : Int) - 30).toNat = w := by omega
    have e2 : (18 + 2 * (30 + (w : Int) - 30)).toNat = 18 + 2 * w := by omega
    have e3 := (d3 w (by omega)).1
    simp (disch := omega) only [wI_of, if_pos, if_neg, it_T, it_F, g1, e1, e2, e3, c1, sX5_answer_b22, sX5_answer_b44]
  by_cases a4 : 40 ≤ x ∧ x < 40 + P 0
  · obtain ⟨w, rfl⟩ : ∃ w : Nat, x = 40 + (w : Int) := ⟨(x - 40).toNat, by omega⟩
    have e1 : (40 + (w : Int) - 40).toNat = w := by omega
    have e2 : (19 + 2 * (40 + (w : Int) - 40)).toNat = 19 + 2 * w := by omega
    have e3 := (d3 w (by omega)).2
    simp (disch := omega) only [wI_of, if_pos, if_neg, it_T, it_F, g2, e1, e2, e3, c1, sX5_answer_b22, sX5_answer_b44, sX5_answer_b71]
  have hb : (if wI x < 10 then sX5_answer_b22 p x M else if 18 ≤ wI x then sX5_answer_b22 p x M else if 0 ≤ wI (x - 10) ∧ wI (x - 10) < 8 then some (M (gR p 10) (wI (x - 10)).toNat) else none) = sX5_answer_b98 p x M := by
    have h1 : sX5_answer_b71 p x M = sX5_answer_b98 p x M := by
      unfold sX5_answer_b71
      rw [c1, wI_of r1 r2, wI_of (x := 40 + P 0) (by omega) (by omega)]
      by_cases h : x < 40
      · rw [if_pos h]
      · rw [if_neg h, if_pos (by omega)]
    have h2 : sX5_answer_b44 p x M = sX5_answer_b98 p x M := by
      unfold sX5_answer_b44
      rw [c1, wI_of r1 r2, wI_of (x := 30 + P 0) (by omega) (by omega), h1]
      by_cases h : x < 30
      · rw [if_pos h]
      · rw [if_neg h, if_pos (by omega)]
    have h3 : sX5_answer_b22 p x M = sX5_answer_b98 p x M := by
      unfold sX5_answer_b22
      rw [wI_of r1 r2, h2]
      by_cases h : x < 20
      · rw [if_pos h]
      · rw [if_neg h, if_pos (by omega)]
    rw [wI_of r1 r2, h3]
    by_cases h : x < 10
    · rw [if_pos h]
    · rw [if_neg h, if_pos (by omega)]
  rw [hb, if_neg a1, if_neg a2, if_neg a3, if_neg a4]
  unfold sX5_answer_b98
  rw [wI_of r1 r2, c1, c2, c3, c4, c5, c6, c7]
  by_cases a5 : 0 ≤ x ∧ x ≤ 6
  · rw [if_pos a5]
    have : x = 0 ∨ x = 1 ∨ x = 2 ∨ x = 3 ∨ x = 4 ∨ x = 5 ∨ x = 6 := by omega
    rcases this with rfl | rfl | rfl | rfl | rfl | rfl | rfl <;> rfl
  · simp (disch := omega) only [if_neg]
theorem mA_party {M : MM} {k : Nat} (h : INV M) (hk : (k : Int) < M 364 0) {x : Int} (r : R32 x) : ∃ M', sX12_party 359 (k : Int) x M = some (aP (pP M k) x, M') ∧ FR M M' := by
  have hi : INV (mU M 359 0 0) := INV_2 (FR_u (FR_r M) (by omega)) h
  obtain ⟨M', e, f, hd⟩ := hand_t (M := mU M 359 0 0) (k := k) (i_size hi (s := 0) (by omega)).2 hk
  have hv := (i_party h hk).2
  have ep : pP M' k = pP M k := pP_c ((f.1 365 (by omega)).trans (mU_row _ _ (by omega))) k
  have hf : FR M M' := FR_t (FR_u (FR_r M) (by omega)) (F24_FR f)
  obtain ⟨r1, r2⟩ := r
  obtain ⟨⟨v1, v2, v3⟩, -⟩ := hv
  have h25 := hd.2.2.1
  rw [ep] at h25
  have ho : ∀ {y : Int}, 0 ≤ y → y < 132 → sX12_of 359 y M' = some (pP M k y.toNat) := fun {y} a b => by rw [of_e hd ⟨a, b⟩, ep]
  refine ⟨M', ?_, hf⟩
  unfold sX12_party sX12_party_b0 aP
  rw [ob_s, e, ob_s]
  by_cases a1 : 10 ≤ x ∧ x < 18
  · simp (disch := omega) only [wI_of, if_pos, if_neg, it_T, it_F, in_1, ho, ob_s]
    rw [show 7 + x - 10 = x - 3 by omega]
  by_cases a2 : 20 ≤ x ∧ x < 23
  · have i1 : wI (sX12_in x 10 17) = 0 := in_0b r1 r2 (by omega) (by omega) (by omega) (by omega) (by omega)
    have i2 : wI (sX12_in x 30 (29 + pP M k 0)) = 0 := in_0a r1 r2 (by omega) (by omega) (by omega) (by omega) (by omega)
    have i3 : wI (sX12_in x 40 (39 + pP M k 0)) = 0 := in_0a r1 r2 (by omega) (by omega) (by omega) (by omega) (by omega)
    have i4 : wI (sX12_in x 0 6) = 0 := in_0b r1 r2 (by omega) (by omega) (by omega) (by omega) (by omega)
    simp (disch := omega) only [h25, i1, i2, i3, i4, wI_of, if_pos, if_neg, it_T, it_F, in_1, ho, ob_s]
    rw [show 15 + x - 20 = x - 5 by omega]
  by_cases a3 : 30 ≤ x ∧ x < 30 + pP M k 0
  · have i1 : wI (sX12_in x 10 17) = 0 := in_0b r1 r2 (by omega) (by omega) (by omega) (by omega) (by omega)
    have i2 : wI (sX12_in x 30 (29 + pP M k 0)) = 1 := in_1 r1 r2 (by omega) (by omega) (by omega) (by omega)
    have t1 : Int.tmod x 10 = x - 30 := by
      obtain ⟨w, rfl⟩ : ∃ w : Nat, x = 30 + (w : Int) := ⟨(x - 30).toNat, by omega⟩
      rw [Int.tmod_eq_emod_of_nonneg (by omega)]; omega
    simp (disch := omega) only [h25, i1, i2, wI_of, if_pos, if_neg, it_T, it_F, sX12_party_b70, sX12_party_b91, t1, ho, ob_s]
    rw [show 18 + 2 * (x - 30) + 0 = 18 + 2 * (x - 30) by omega]
  by_cases a4 : 40 ≤ x ∧ x < 40 + pP M k 0
  · have i1 : wI (sX12_in x 10 17) = 0 := in_0b r1 r2 (by omega) (by omega) (by omega) (by omega) (by omega)
    have i2 : wI (sX12_in x 30 (29 + pP M k 0)) = 0 := in_0b r1 r2 (by omega) (by omega) (by omega) (by omega) (by omega)
    have i3 : wI (sX12_in x 40 (39 + pP M k 0)) = 1 := in_1 r1 r2 (by omega) (by omega) (by omega) (by omega)
    have t1 : Int.tmod x 10 = x - 40 := by
      obtain ⟨w, rfl⟩ : ∃ w : Nat, x = 40 + (w : Int) := ⟨(x - 40).toNat, by omega⟩
      rw [Int.tmod_eq_emod_of_nonneg (by omega)]; omega
    simp (disch := omega) only [h25, i1, i2, i3, wI_of, if_pos, if_neg, it_T, it_F, sX12_party_b70, sX12_party_b91, t1, ho, ob_s]
    rw [show 18 + 2 * (x - 40) + 1 = 19 + 2 * (x - 40) by omega]
  have i1 : wI (sX12_in x 10 17) = 0 := by rw [in_f ⟨r1, r2⟩ ⟨by omega, by omega⟩ ⟨by omega, by omega⟩ (by omega), wI_0]
  have i2 : wI (sX12_in x 30 (29 + pP M k 0)) = 0 := by rw [in_f ⟨r1, r2⟩ ⟨by omega, by omega⟩ ⟨by omega, by omega⟩ (by omega), wI_0]
  have i3 : wI (sX12_in x 40 (39 + pP M k 0)) = 0 := by rw [in_f ⟨r1, r2⟩ ⟨by omega, by omega⟩ ⟨by omega, by omega⟩ (by omega), wI_0]
  by_cases a5 : 0 ≤ x ∧ x ≤ 6
  · simp (disch := omega) only [h25, i1, i2, i3, wI_of, if_pos, if_neg, it_T, it_F, in_1, ho, ob_s]
  have i4 : wI (sX12_in x 0 6) = 0 := by rw [in_f ⟨r1, r2⟩ ⟨by omega, by omega⟩ ⟨by omega, by omega⟩ (by omega), wI_0]
  have i5 : wI (sX12_in x 20 22) = 0 := by rw [in_f ⟨r1, r2⟩ ⟨by omega, by omega⟩ ⟨by omega, by omega⟩ (by omega), wI_0]
  simp (disch := omega) only [h25, i1, i2, i3, i4, i5, wI_of, if_pos, if_neg, it_T, it_F]
theorem PG_p (k : Nat) (hk : k < 2) : PG (9 + 34 * k) := by have := PG_t 0 (by omega) k hk; rwa [tB_0] at this
theorem e_party {M : MM} (h : INV M) {x1 x2 : Int} (r1 : R32 x1) (r2 : R32 x2) : ∃ v v' M2, sX11_party 0 x1 x2 M = some v ∧ sX12_party 359 x1 x2 M = some (v', M2) ∧ wI v = wI v' ∧ INV M2 := by
  rcases a_party h r1 with ⟨k, hk, rfl, hlt, e⟩ | ⟨hn, e⟩
  · obtain ⟨M', e', f⟩ := mA_party h hlt r2
    refine ⟨aP (pP M k) x2, _, M', ?_, e', rfl, INV_2 f h⟩
    unfold sX11_party sX11_party_b0
    rw [e, ob_s, nMs_, cA_party (i_party h hlt).1 (i_party h hlt).2 (PG_p k hk) r2]
    rfl
  · refine ⟨-1, -1, mU M 359 0 0, ?_, ?_, rfl, INV_2 (FR_u (FR_r M) (by omega)) h⟩
    · unfold sX11_party sX11_party_b0
      rw [e, ob_s, nM0_]
    · unfold sX12_party sX12_party_b0
      rw [ob_s, hand_f (M := mU M 359 0 0) (i_size h (s := 0) (by omega)).2 r1 hn, ob_s]
      rfl
