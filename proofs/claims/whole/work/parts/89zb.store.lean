def mT (R : MM) (b q w : Nat) : MM := fun a j => if a = b ∧ q ≤ j ∧ j < q + w then R 370 (j - q) else R a j
theorem mT_r {R : MM} {b q w a : Nat} (h : a ≠ b) : mT R b q w a = R a := by funext j; unfold mT; rw [if_neg (by omega)]
theorem mT_i {R : MM} {b q w j : Nat} (h : j < w) : mT R b q w b (q + j) = R 370 j := by unfold mT; rw [if_pos ⟨rfl, by omega, by omega⟩, show q + j - q = j by omega]
theorem mT_o {R : MM} {b q w j : Nat} (h : j < q ∨ q + w ≤ j) : mT R b q w b j = R b j := by unfold mT; rw [if_neg (by omega)]
theorem mT_s {R : MM} {b q w : Nat} : mU (mT R b q w) b (q + w) (R 370 w) = mT R b q (w + 1) := by
  funext a j
  unfold mU mT
  by_cases ha : a = b
  · subst ha
    by_cases hj : j = q + w
    · subst hj; rw [if_pos rfl, if_pos rfl, if_pos ⟨rfl, by omega, by omega⟩, show q + w - q = w by omega]
    · rw [if_pos rfl, if_neg hj]
      by_cases h2 : q ≤ j ∧ j < q + w
      · rw [if_pos ⟨rfl, h2.1, h2.2⟩, if_pos ⟨rfl, h2.1, by omega⟩]
      · rw [if_neg (by omega), if_neg (by omega)]
  · rw [if_neg ha, if_neg (by omega), if_neg (by omega)]
theorem stB {R : MM} {b w p q : Nat} (hq : (w : Int) * (p : Int) = (q : Int)) (hw : w ≤ 132) (hb : b ≠ 370) (hl : q + w ≤ ln b) (h5 : q + w ≤ 5000) : sX12_store 359 b (w : Int) (p : Int) R = some (mT R b q w) := by
  have i2 : ∀ k, k < w → 0 ≤ ((q + k : Nat) : Int) ∧ ((q + k : Nat) : Int) < (ln b : Int) := fun k hk => ⟨Int.natCast_nonneg _, Int.ofNat_lt.mpr (Nat.lt_of_lt_of_le (Nat.add_lt_add_left hk q) hl)⟩
  clear hl
  have ew : Unit → wI (w : Int) = (w : Int) := fun _ => wI_of (by omega) (by omega)
  unfold sX12_store sX12_store_b0
  refine loopC (sX12_store_b3 359 b (w : Int) (p : Int)) w (fun k N => N = mT R b q k) (fun r => r = some (mT R b q w)) ?_ ?_ FU 0 R (by omega) ?_ (by unfold FU; omega)
  · intro f N hN
    rw [sX12_store_b3, ew (), if_pos (Int.le_refl _), hN]
  · intro f k N hk hN
    right
    have d1 : ¬ (w : Int) ≤ (k : Int) := by omega
    have d2 : (0 : Int) ≤ (k : Int) ∧ (k : Int) < 132 := ⟨by omega, by omega⟩
    have d4 : Unit → wI (k : Int) = (k : Int) := fun _ => wI_of (by omega) (by omega)
    have d5 : Unit → wI ((w : Int) * (p : Int) + (k : Int)) = ((q + k : Nat) : Int) := fun _ => by rw [hq, wI_of (by omega) (by omega)]; omega
    refine ⟨_, ?_, rfl⟩
    rw [sX12_store_b3, ew (), d4 (), if_neg d1, if_pos d2, d5 (), if_pos (i2 k hk), ob_s, ob_s, g359_20, tN, tN, hN, mT_r (Ne.symm hb), mT_s]
  · funext a j; unfold mT; rw [if_neg (by omega)]
theorem tx_0 {M C M2 : MM} {p : Nat} {D : Nat → Int} (h : INV M) (hp : p < 2) (hps : (p : Int) ≤ M 364 0) (hc : ∀ a, a < 359 → M2 a = C a) (cM : ∀ a, a < 79 ∨ 114 < a → a < 359 → a ≠ 1 → a ≠ 3 → a < 9 + 34 * p ∨ 19 + 34 * p < a → C a = M a) (heads : ∀ _ : Unit, C 91 0 = 40 ∧ C 96 0 = 8 ∧ C 101 0 = 25 ∧ C 106 0 = 40 ∧ C 110 0 = 15) (c1 : ∀ _ : Unit, C 1 1 = 0) (c2 : ∀ _ : Unit, C 1 2 = M2 362 0) (c3 : ∀ _ : Unit, C 1 3 = M2 363 0) (r361 : ∀ _ : Unit, M2 361 0 = 0) (rr : ∀ i, i ≠ 0 → M2 361 i = M 361 i ∧ M2 362 i = M 362 i ∧ M2 363 i = M 363 i) (rM : ∀ a, a = 360 ∨ (364 < a ∧ a < 370 ∧ a ≠ 365) → M2 a = M a) (r387 : M2 387 = M 387) (r364 : ∀ j, j ≠ 0 → M2 364 j = M 364 j) (hn : ∀ _ : Unit, (M2 364 0 = (p : Int) + 1 ∧ (p : Int) = M 364 0) ∨ (M2 364 0 = M 364 0 ∧ (p : Int) < M 364 0)) (c3r : ∀ j, j ≠ 0 → C 3 j = M 3 j) (c3s : ∀ _ : Unit, C 3 0 = M2 364 0) (seg : ∀ j, j < 132 → M2 365 (132 * p + j) = D j) (sego : ∀ j, j < 132 * p ∨ 132 * p + 132 ≤ j → M2 365 j = M 365 j) (item : PC C (9 + 34 * p) D ∧ PV D) : INV M2 := by
  have hI := h
  obtain ⟨q1, q2, q3, q4⟩ := h
  have hh : ∀ a, a < 79 ∨ 114 < a → a < 359 → a ≠ 1 → a ≠ 3 → a < 9 + 34 * p ∨ 19 + 34 * p < a → M2 a = M a := fun a h1 h2 h3 h4 h5 => (hc a h2).trans (cM a h1 h2 h3 h4 h5)
  have hz : ∀ k, k < 5 → 0 ≤ M 364 k ∧ M 364 k ≤ 2 := fun k hk => (i_size hI hk).2
  refine ⟨⟨fun i hi k hk => ?_, ?_⟩, ?_, fun k hk => ?_, fun k hk e => ?_⟩
  · have hb := tB_r i hi
    have m := q1.1 i hi k hk
    clear hps
    obtain ⟨b, eb⟩ : ∃ b, tB i = b := ⟨_, rfl⟩
    rw [eb] at hb m ⊢
    clear eb
    refine ⟨?_, ?_, ?_, ?_, ?_⟩
    · rw [hh (b + 19 + 34 * k) (by omega) (by omega) (by omega) (by omega) (by omega)]; exact m.1
    · rw [hh (b + 24 + 34 * k) (by omega) (by omega) (by omega) (by omega) (by omega)]; exact m.2.1
    · rw [hh (b + 29 + 34 * k) (by omega) (by omega) (by omega) (by omega) (by omega)]; exact m.2.2.1
    · rw [hh (b + 34 + 34 * k) (by omega) (by omega) (by omega) (by omega) (by omega)]; exact m.2.2.2.1
    · rw [hh (b + 38 + 34 * k) (by omega) (by omega) (by omega) (by omega) (by omega)]; exact m.2.2.2.2
  · rw [hc 91 (by omega), hc 96 (by omega), hc 101 (by omega), hc 106 (by omega), hc 110 (by omega)]; exact heads ()
  · unfold CTD
    rw [tB_0]
    simp only [Nat.mul_zero, Nat.zero_add]
    have hl := hI.2.1.2.2.1
    simp only [tB_0, Nat.mul_zero, Nat.zero_add] at hl
    refine ⟨⟨?_, ?_, ?_⟩, ⟨?_, ?_⟩, fun j hj => ?_, fun j hj => ?_, fun k hk => ?_, fun k hk => ?_, fun k hk => ?_, fun k hk => ?_, fun k hk => ?_⟩
    · rw [hc 1 (by omega), c1 (), r361 ()]
    · rw [r361 ()]; omega
    · rw [r361 ()]; omega
    · rw [hc 1 (by omega)]; exact c2 ()
    · rw [hc 1 (by omega)]; exact c3 ()
    · rw [show 1 + 1 = 2 from rfl, hh 2 (by omega) (by omega) (by omega) (by omega) (by omega), rM 360 (by omega)]
      exact hl j hj
    · rw [show 1 + 2 = 3 from rfl, hc 3 (by omega)]
      by_cases z : j = 0
      · subst z
        have h1 := hz 0 hj
        have h2 := hn ()
        exact ⟨c3s (), by omega, by omega⟩
      · rw [c3r j z, r364 j z]; exact i_size hI hj
    · rw [show 1 + 8 + 34 * k = 9 + 34 * k by omega]
      by_cases z : k = p
      · subst z
        obtain ⟨x1, x2⟩ := item
        exact PC_P (P := D) (fun j hj => seg j (by omega)) x2 (PC_c (fun j hj => hc _ (by omega)) x1)
      · have hk' : (k : Int) < M 364 0 := by have h2 := hn (); omega
        have hk2 : k < 2 := by have := hz 0 (by omega); omega
        obtain ⟨x1, x2⟩ := i_party hI hk'
        exact PC_P (P := pP M k) (fun j hj => sego (132 * k + j) (by omega)) x2 (PC_c (fun j hj => hh _ (by omega) (by omega) (by omega) (by omega) (by omega)) x1)
    · rw [show 1 + 19 + 34 * k = 20 + 34 * k by omega]
      have hk' : (k : Int) < M 364 1 := by rw [r364 1 (by omega)] at hk; exact hk
      have hk2 : k < 2 := by have := hz 1 (by omega); omega
      obtain ⟨x1, x2⟩ := i_book hI hk'
      exact BC_P (P := bB M k) (fun j hj => by rw [rM 366 (by omega)]; rfl) x2 (BC_c (fun j hj => hh _ (by omega) (by omega) (by omega) (by omega) (by omega)) x1)
    · rw [show 1 + 23 + 34 * k = 24 + 34 * k by omega]
      have hk' : (k : Int) < M 364 2 := by rw [r364 2 (by omega)] at hk; exact hk
      have hk2 : k < 2 := by have := hz 2 (by omega); omega
      obtain ⟨x1, x2⟩ := i_clues hI hk'
      exact CC_P (P := cC M k) (fun j hj => by rw [rM 367 (by omega)]; rfl) x2 (CC_c (fun j hj => hh _ (by omega) (by omega) (by omega) (by omega) (by omega)) x1)
    · rw [show 1 + 29 + 34 * k = 30 + 34 * k by omega]
      have hk' : (k : Int) < M 364 3 := by rw [r364 3 (by omega)] at hk; exact hk
      have hk2 : k < 2 := by have := hz 3 (by omega); omega
      obtain ⟨x1, x2⟩ := i_ground hI hk'
      exact DC_P (P := dD M k) (fun j hj => by rw [rM 368 (by omega)]; rfl) x2 (DC_c (fun j hj => hh _ (by omega) (by omega) (by omega) (by omega) (by omega)) x1)
    · rw [show 1 + 33 + 34 * k = 34 + 34 * k by omega]
      have hk' : (k : Int) < M 364 4 := by rw [r364 4 (by omega)] at hk; exact hk
      have hk2 : k < 2 := by have := hz 4 (by omega); omega
      obtain ⟨x1, x2⟩ := i_record hI hk'
      exact RC_P (P := rR M k) (fun j hj => by rw [rM 369 (by omega)]; rfl) x2 (RC_c (fun j hj => hh _ (by omega) (by omega) (by omega) (by omega) (by omega)) x1)
  · rw [hh 78 (by omega) (by omega) (by omega) (by omega) (by omega), r387]; exact q3 k hk
  · rw [r387] at e
    have hb : 131 ≤ tB (k + 1) ∧ tB (k + 1) ≤ 283 := by
      rcases tB_r (k + 1) (by omega) with z | z
      · unfold tB at z; simp at z; omega
      · exact z
    have hx : ∀ a, tB (k + 1) ≤ a → a < tB (k + 1) + 76 → M2 a = M a := fun a h1 h2 => hh a (by omega) (by omega) (by omega) (by omega) (by omega)
    refine CTD_k ?_ (fun j hj => ?_) (fun j hj => ?_) (KK_f KK_r (fun a h1 h2 => hx a (by omega) (by omega))) (KK_f KK_r (fun a h1 h2 => hx a (by omega) (by omega))) ⟨fun j hj => ?_, rr (k + 1) (by omega), fun j hj => r364 _ (by omega), fun j hj => ?_, fun j hj => ?_, fun j hj => ?_, fun j hj => ?_, fun j hj => ?_⟩ (q4 k hk e)
    · rw [hx _ (by omega) (by omega)]; exact ⟨rfl, rfl, rfl⟩
    · rw [hx _ (by omega) (by omega)]
    · rw [hx _ (by omega) (by omega)]
    · rw [rM 360 (by omega)]
    · exact sego (264 * (k + 1) + j) (by omega)
    · rw [rM 366 (by omega)]
    · rw [rM 367 (by omega)]
    · rw [rM 368 (by omega)]
    · rw [rM 369 (by omega)]
theorem tx_1 {M C M2 : MM} {p : Nat} {D : Nat → Int} (h : INV M) (hp : p < 2) (hps : (p : Int) ≤ M 364 1) (hc : ∀ a, a < 359 → M2 a = C a) (cM : ∀ a, a < 79 ∨ 114 < a → a < 359 → a ≠ 1 → a ≠ 3 → a < 20 + 34 * p ∨ 23 + 34 * p < a → C a = M a) (heads : ∀ _ : Unit, C 91 0 = 40 ∧ C 96 0 = 8 ∧ C 101 0 = 25 ∧ C 106 0 = 40 ∧ C 110 0 = 15) (hd20 : C (20 + 34 * p) 0 = 40) (c1 : ∀ _ : Unit, C 1 1 = 0) (c2 : ∀ _ : Unit, C 1 2 = M2 362 0) (c3 : ∀ _ : Unit, C 1 3 = M2 363 0) (r361 : ∀ _ : Unit, M2 361 0 = 0) (rr : ∀ i, i ≠ 0 → M2 361 i = M 361 i ∧ M2 362 i = M 362 i ∧ M2 363 i = M 363 i) (rM : ∀ a, a = 360 ∨ (364 < a ∧ a < 370 ∧ a ≠ 366) → M2 a = M a) (r387 : M2 387 = M 387) (r364 : ∀ j, j ≠ 1 → M2 364 j = M 364 j) (hn : ∀ _ : Unit, (M2 364 1 = (p : Int) + 1 ∧ (p : Int) = M 364 1) ∨ (M2 364 1 = M 364 1 ∧ (p : Int) < M 364 1)) (c3r : ∀ j, j ≠ 1 → C 3 j = M 3 j) (c3s : ∀ _ : Unit, C 3 1 = M2 364 1) (seg : ∀ j, j < 121 → M2 366 (121 * p + j) = D j) (sego : ∀ j, j < 121 * p ∨ 121 * p + 121 ≤ j → M2 366 j = M 366 j) (item : BC C (20 + 34 * p) D ∧ BV D) : INV M2 := by
  have hI := h
  obtain ⟨q1, q2, q3, q4⟩ := h
  have hh : ∀ a, a < 79 ∨ 114 < a → a < 359 → a ≠ 1 → a ≠ 3 → a < 20 + 34 * p ∨ 23 + 34 * p < a → M2 a = M a := fun a h1 h2 h3 h4 h5 => (hc a h2).trans (cM a h1 h2 h3 h4 h5)
  have hz : ∀ k, k < 5 → 0 ≤ M 364 k ∧ M 364 k ≤ 2 := fun k hk => (i_size hI hk).2
  refine ⟨⟨fun i hi k hk => ?_, ?_⟩, ?_, fun k hk => ?_, fun k hk e => ?_⟩
  · have hb := tB_r i hi
    have m := q1.1 i hi k hk
    clear hps
    obtain ⟨b, eb⟩ : ∃ b, tB i = b := ⟨_, rfl⟩
    rw [eb] at hb m ⊢
    clear eb
    refine ⟨?_, ?_, ?_, ?_, ?_⟩
    · by_cases z : b = 1 ∧ k = p
      · obtain ⟨z1, z2⟩ := z
        rw [z1, z2, show 1 + 19 + 34 * p = 20 + 34 * p by omega, hc _ (by omega)]; exact hd20
      · rw [hh (b + 19 + 34 * k) (by omega) (by omega) (by omega) (by omega) (by omega)]; exact m.1
    · rw [hh (b + 24 + 34 * k) (by omega) (by omega) (by omega) (by omega) (by omega)]; exact m.2.1
    · rw [hh (b + 29 + 34 * k) (by omega) (by omega) (by omega) (by omega) (by omega)]; exact m.2.2.1
    · rw [hh (b + 34 + 34 * k) (by omega) (by omega) (by omega) (by omega) (by omega)]; exact m.2.2.2.1
    · rw [hh (b + 38 + 34 * k) (by omega) (by omega) (by omega) (by omega) (by omega)]; exact m.2.2.2.2
  · rw [hc 91 (by omega), hc 96 (by omega), hc 101 (by omega), hc 106 (by omega), hc 110 (by omega)]; exact heads ()
  · unfold CTD
    rw [tB_0]
    simp only [Nat.mul_zero, Nat.zero_add]
    have hl := hI.2.1.2.2.1
    simp only [tB_0, Nat.mul_zero, Nat.zero_add] at hl
    refine ⟨⟨?_, ?_, ?_⟩, ⟨?_, ?_⟩, fun j hj => ?_, fun j hj => ?_, fun k hk => ?_, fun k hk => ?_, fun k hk => ?_, fun k hk => ?_, fun k hk => ?_⟩
    · rw [hc 1 (by omega), c1 (), r361 ()]
    · rw [r361 ()]; omega
    · rw [r361 ()]; omega
    · rw [hc 1 (by omega)]; exact c2 ()
    · rw [hc 1 (by omega)]; exact c3 ()
    · rw [show 1 + 1 = 2 from rfl, hh 2 (by omega) (by omega) (by omega) (by omega) (by omega), rM 360 (by omega)]
      exact hl j hj
    · rw [show 1 + 2 = 3 from rfl, hc 3 (by omega)]
      by_cases z : j = 1
      · subst z
        have h1 := hz 1 hj
        have h2 := hn ()
        exact ⟨c3s (), by omega, by omega⟩
      · rw [c3r j z, r364 j z]; exact i_size hI hj
    · rw [show 1 + 8 + 34 * k = 9 + 34 * k by omega]
      have hk' : (k : Int) < M 364 0 := by rw [r364 0 (by omega)] at hk; exact hk
      have hk2 : k < 2 := by have := hz 0 (by omega); omega
      obtain ⟨x1, x2⟩ := i_party hI hk'
      exact PC_P (P := pP M k) (fun j hj => by rw [rM 365 (by omega)]; rfl) x2 (PC_c (fun j hj => hh _ (by omega) (by omega) (by omega) (by omega) (by omega)) x1)
    · rw [show 1 + 19 + 34 * k = 20 + 34 * k by omega]
      by_cases z : k = p
      · subst z
        obtain ⟨x1, x2⟩ := item
        exact BC_P (P := D) (fun j hj => seg j (by omega)) x2 (BC_c (fun j hj => hc _ (by omega)) x1)
      · have hk' : (k : Int) < M 364 1 := by have h2 := hn (); omega
        have hk2 : k < 2 := by have := hz 1 (by omega); omega
        obtain ⟨x1, x2⟩ := i_book hI hk'
        exact BC_P (P := bB M k) (fun j hj => sego (121 * k + j) (by omega)) x2 (BC_c (fun j hj => hh _ (by omega) (by omega) (by omega) (by omega) (by omega)) x1)
    · rw [show 1 + 23 + 34 * k = 24 + 34 * k by omega]
      have hk' : (k : Int) < M 364 2 := by rw [r364 2 (by omega)] at hk; exact hk
      have hk2 : k < 2 := by have := hz 2 (by omega); omega
      obtain ⟨x1, x2⟩ := i_clues hI hk'
      exact CC_P (P := cC M k) (fun j hj => by rw [rM 367 (by omega)]; rfl) x2 (CC_c (fun j hj => hh _ (by omega) (by omega) (by omega) (by omega) (by omega)) x1)
    · rw [show 1 + 29 + 34 * k = 30 + 34 * k by omega]
      have hk' : (k : Int) < M 364 3 := by rw [r364 3 (by omega)] at hk; exact hk
      have hk2 : k < 2 := by have := hz 3 (by omega); omega
      obtain ⟨x1, x2⟩ := i_ground hI hk'
      exact DC_P (P := dD M k) (fun j hj => by rw [rM 368 (by omega)]; rfl) x2 (DC_c (fun j hj => hh _ (by omega) (by omega) (by omega) (by omega) (by omega)) x1)
    · rw [show 1 + 33 + 34 * k = 34 + 34 * k by omega]
      have hk' : (k : Int) < M 364 4 := by rw [r364 4 (by omega)] at hk; exact hk
      have hk2 : k < 2 := by have := hz 4 (by omega); omega
      obtain ⟨x1, x2⟩ := i_record hI hk'
      exact RC_P (P := rR M k) (fun j hj => by rw [rM 369 (by omega)]; rfl) x2 (RC_c (fun j hj => hh _ (by omega) (by omega) (by omega) (by omega) (by omega)) x1)
  · rw [hh 78 (by omega) (by omega) (by omega) (by omega) (by omega), r387]; exact q3 k hk
  · rw [r387] at e
    have hb : 131 ≤ tB (k + 1) ∧ tB (k + 1) ≤ 283 := by
      rcases tB_r (k + 1) (by omega) with z | z
      · unfold tB at z; simp at z; omega
      · exact z
    have hx : ∀ a, tB (k + 1) ≤ a → a < tB (k + 1) + 76 → M2 a = M a := fun a h1 h2 => hh a (by omega) (by omega) (by omega) (by omega) (by omega)
    refine CTD_k ?_ (fun j hj => ?_) (fun j hj => ?_) (KK_f KK_r (fun a h1 h2 => hx a (by omega) (by omega))) (KK_f KK_r (fun a h1 h2 => hx a (by omega) (by omega))) ⟨fun j hj => ?_, rr (k + 1) (by omega), fun j hj => r364 _ (by omega), fun j hj => ?_, fun j hj => ?_, fun j hj => ?_, fun j hj => ?_, fun j hj => ?_⟩ (q4 k hk e)
    · rw [hx _ (by omega) (by omega)]; exact ⟨rfl, rfl, rfl⟩
    · rw [hx _ (by omega) (by omega)]
    · rw [hx _ (by omega) (by omega)]
    · rw [rM 360 (by omega)]
    · rw [rM 365 (by omega)]
    · exact sego (242 * (k + 1) + j) (by omega)
    · rw [rM 367 (by omega)]
    · rw [rM 368 (by omega)]
    · rw [rM 369 (by omega)]
theorem tx_2 {M C M2 : MM} {p : Nat} {D : Nat → Int} (h : INV M) (hp : p < 2) (hps : (p : Int) ≤ M 364 2) (hc : ∀ a, a < 359 → M2 a = C a) (cM : ∀ a, a < 79 ∨ 114 < a → a < 359 → a ≠ 1 → a ≠ 3 → a < 24 + 34 * p ∨ 29 + 34 * p < a → C a = M a) (heads : ∀ _ : Unit, C 91 0 = 40 ∧ C 96 0 = 8 ∧ C 101 0 = 25 ∧ C 106 0 = 40 ∧ C 110 0 = 15) (hd25 : C (25 + 34 * p) 0 = 8) (c1 : ∀ _ : Unit, C 1 1 = 0) (c2 : ∀ _ : Unit, C 1 2 = M2 362 0) (c3 : ∀ _ : Unit, C 1 3 = M2 363 0) (r361 : ∀ _ : Unit, M2 361 0 = 0) (rr : ∀ i, i ≠ 0 → M2 361 i = M 361 i ∧ M2 362 i = M 362 i ∧ M2 363 i = M 363 i) (rM : ∀ a, a = 360 ∨ (364 < a ∧ a < 370 ∧ a ≠ 367) → M2 a = M a) (r387 : M2 387 = M 387) (r364 : ∀ j, j ≠ 2 → M2 364 j = M 364 j) (hn : ∀ _ : Unit, (M2 364 2 = (p : Int) + 1 ∧ (p : Int) = M 364 2) ∨ (M2 364 2 = M 364 2 ∧ (p : Int) < M 364 2)) (c3r : ∀ j, j ≠ 2 → C 3 j = M 3 j) (c3s : ∀ _ : Unit, C 3 2 = M2 364 2) (seg : ∀ j, j < 33 → M2 367 (33 * p + j) = D j) (sego : ∀ j, j < 33 * p ∨ 33 * p + 33 ≤ j → M2 367 j = M 367 j) (item : CC C (24 + 34 * p) D ∧ CV D) : INV M2 := by
  have hI := h
  obtain ⟨q1, q2, q3, q4⟩ := h
  have hh : ∀ a, a < 79 ∨ 114 < a → a < 359 → a ≠ 1 → a ≠ 3 → a < 24 + 34 * p ∨ 29 + 34 * p < a → M2 a = M a := fun a h1 h2 h3 h4 h5 => (hc a h2).trans (cM a h1 h2 h3 h4 h5)
  have hz : ∀ k, k < 5 → 0 ≤ M 364 k ∧ M 364 k ≤ 2 := fun k hk => (i_size hI hk).2
  refine ⟨⟨fun i hi k hk => ?_, ?_⟩, ?_, fun k hk => ?_, fun k hk e => ?_⟩
  · have hb := tB_r i hi
    have m := q1.1 i hi k hk
    clear hps
    obtain ⟨b, eb⟩ : ∃ b, tB i = b := ⟨_, rfl⟩
    rw [eb] at hb m ⊢
    clear eb
    refine ⟨?_, ?_, ?_, ?_, ?_⟩
    · rw [hh (b + 19 + 34 * k) (by omega) (by omega) (by omega) (by omega) (by omega)]; exact m.1
    · by_cases z : b = 1 ∧ k = p
      · obtain ⟨z1, z2⟩ := z
        rw [z1, z2, show 1 + 24 + 34 * p = 25 + 34 * p by omega, hc _ (by omega)]; exact hd25
      · rw [hh (b + 24 + 34 * k) (by omega) (by omega) (by omega) (by omega) (by omega)]; exact m.2.1
    · rw [hh (b + 29 + 34 * k) (by omega) (by omega) (by omega) (by omega) (by omega)]; exact m.2.2.1
    · rw [hh (b + 34 + 34 * k) (by omega) (by omega) (by omega) (by omega) (by omega)]; exact m.2.2.2.1
    · rw [hh (b + 38 + 34 * k) (by omega) (by omega) (by omega) (by omega) (by omega)]; exact m.2.2.2.2
  · rw [hc 91 (by omega), hc 96 (by omega), hc 101 (by omega), hc 106 (by omega), hc 110 (by omega)]; exact heads ()
  · unfold CTD
    rw [tB_0]
    simp only [Nat.mul_zero, Nat.zero_add]
    have hl := hI.2.1.2.2.1
    simp only [tB_0, Nat.mul_zero, Nat.zero_add] at hl
    refine ⟨⟨?_, ?_, ?_⟩, ⟨?_, ?_⟩, fun j hj => ?_, fun j hj => ?_, fun k hk => ?_, fun k hk => ?_, fun k hk => ?_, fun k hk => ?_, fun k hk => ?_⟩
    · rw [hc 1 (by omega), c1 (), r361 ()]
    · rw [r361 ()]; omega
    · rw [r361 ()]; omega
    · rw [hc 1 (by omega)]; exact c2 ()
    · rw [hc 1 (by omega)]; exact c3 ()
    · rw [show 1 + 1 = 2 from rfl, hh 2 (by omega) (by omega) (by omega) (by omega) (by omega), rM 360 (by omega)]
      exact hl j hj
    · rw [show 1 + 2 = 3 from rfl, hc 3 (by omega)]
      by_cases z : j = 2
      · subst z
        have h1 := hz 2 hj
        have h2 := hn ()
        exact ⟨c3s (), by omega, by omega⟩
      · rw [c3r j z, r364 j z]; exact i_size hI hj
    · rw [show 1 + 8 + 34 * k = 9 + 34 * k by omega]
      have hk' : (k : Int) < M 364 0 := by rw [r364 0 (by omega)] at hk; exact hk
      have hk2 : k < 2 := by have := hz 0 (by omega); omega
      obtain ⟨x1, x2⟩ := i_party hI hk'
      exact PC_P (P := pP M k) (fun j hj => by rw [rM 365 (by omega)]; rfl) x2 (PC_c (fun j hj => hh _ (by omega) (by omega) (by omega) (by omega) (by omega)) x1)
    · rw [show 1 + 19 + 34 * k = 20 + 34 * k by omega]
      have hk' : (k : Int) < M 364 1 := by rw [r364 1 (by omega)] at hk; exact hk
      have hk2 : k < 2 := by have := hz 1 (by omega); omega
      obtain ⟨x1, x2⟩ := i_book hI hk'
      exact BC_P (P := bB M k) (fun j hj => by rw [rM 366 (by omega)]; rfl) x2 (BC_c (fun j hj => hh _ (by omega) (by omega) (by omega) (by omega) (by omega)) x1)
    · rw [show 1 + 23 + 34 * k = 24 + 34 * k by omega]
      by_cases z : k = p
      · subst z
        obtain ⟨x1, x2⟩ := item
        exact CC_P (P := D) (fun j hj => seg j (by omega)) x2 (CC_c (fun j hj => hc _ (by omega)) x1)
      · have hk' : (k : Int) < M 364 2 := by have h2 := hn (); omega
        have hk2 : k < 2 := by have := hz 2 (by omega); omega
        obtain ⟨x1, x2⟩ := i_clues hI hk'
        exact CC_P (P := cC M k) (fun j hj => sego (33 * k + j) (by omega)) x2 (CC_c (fun j hj => hh _ (by omega) (by omega) (by omega) (by omega) (by omega)) x1)
    · rw [show 1 + 29 + 34 * k = 30 + 34 * k by omega]
      have hk' : (k : Int) < M 364 3 := by rw [r364 3 (by omega)] at hk; exact hk
      have hk2 : k < 2 := by have := hz 3 (by omega); omega
      obtain ⟨x1, x2⟩ := i_ground hI hk'
      exact DC_P (P := dD M k) (fun j hj => by rw [rM 368 (by omega)]; rfl) x2 (DC_c (fun j hj => hh _ (by omega) (by omega) (by omega) (by omega) (by omega)) x1)
    · rw [show 1 + 33 + 34 * k = 34 + 34 * k by omega]
      have hk' : (k : Int) < M 364 4 := by rw [r364 4 (by omega)] at hk; exact hk
      have hk2 : k < 2 := by have := hz 4 (by omega); omega
      obtain ⟨x1, x2⟩ := i_record hI hk'
      exact RC_P (P := rR M k) (fun j hj => by rw [rM 369 (by omega)]; rfl) x2 (RC_c (fun j hj => hh _ (by omega) (by omega) (by omega) (by omega) (by omega)) x1)
  · rw [hh 78 (by omega) (by omega) (by omega) (by omega) (by omega), r387]; exact q3 k hk
  · rw [r387] at e
    have hb : 131 ≤ tB (k + 1) ∧ tB (k + 1) ≤ 283 := by
      rcases tB_r (k + 1) (by omega) with z | z
      · unfold tB at z; simp at z; omega
      · exact z
    have hx : ∀ a, tB (k + 1) ≤ a → a < tB (k + 1) + 76 → M2 a = M a := fun a h1 h2 => hh a (by omega) (by omega) (by omega) (by omega) (by omega)
    refine CTD_k ?_ (fun j hj => ?_) (fun j hj => ?_) (KK_f KK_r (fun a h1 h2 => hx a (by omega) (by omega))) (KK_f KK_r (fun a h1 h2 => hx a (by omega) (by omega))) ⟨fun j hj => ?_, rr (k + 1) (by omega), fun j hj => r364 _ (by omega), fun j hj => ?_, fun j hj => ?_, fun j hj => ?_, fun j hj => ?_, fun j hj => ?_⟩ (q4 k hk e)
    · rw [hx _ (by omega) (by omega)]; exact ⟨rfl, rfl, rfl⟩
    · rw [hx _ (by omega) (by omega)]
    · rw [hx _ (by omega) (by omega)]
    · rw [rM 360 (by omega)]
    · rw [rM 365 (by omega)]
    · rw [rM 366 (by omega)]
    · exact sego (66 * (k + 1) + j) (by omega)
    · rw [rM 368 (by omega)]
    · rw [rM 369 (by omega)]
theorem tx_3 {M C M2 : MM} {p : Nat} {D : Nat → Int} (h : INV M) (hp : p < 2) (hps : (p : Int) ≤ M 364 3) (hc : ∀ a, a < 359 → M2 a = C a) (cM : ∀ a, a < 79 ∨ 114 < a → a < 359 → a ≠ 1 → a ≠ 3 → a < 30 + 34 * p ∨ 33 + 34 * p < a → C a = M a) (heads : ∀ _ : Unit, C 91 0 = 40 ∧ C 96 0 = 8 ∧ C 101 0 = 25 ∧ C 106 0 = 40 ∧ C 110 0 = 15) (hd30 : C (30 + 34 * p) 0 = 25) (c1 : ∀ _ : Unit, C 1 1 = 0) (c2 : ∀ _ : Unit, C 1 2 = M2 362 0) (c3 : ∀ _ : Unit, C 1 3 = M2 363 0) (r361 : ∀ _ : Unit, M2 361 0 = 0) (rr : ∀ i, i ≠ 0 → M2 361 i = M 361 i ∧ M2 362 i = M 362 i ∧ M2 363 i = M 363 i) (rM : ∀ a, a = 360 ∨ (364 < a ∧ a < 370 ∧ a ≠ 368) → M2 a = M a) (r387 : M2 387 = M 387) (r364 : ∀ j, j ≠ 3 → M2 364 j = M 364 j) (hn : ∀ _ : Unit, (M2 364 3 = (p : Int) + 1 ∧ (p : Int) = M 364 3) ∨ (M2 364 3 = M 364 3 ∧ (p : Int) < M 364 3)) (c3r : ∀ j, j ≠ 3 → C 3 j = M 3 j) (c3s : ∀ _ : Unit, C 3 3 = M2 364 3) (seg : ∀ j, j < 51 → M2 368 (51 * p + j) = D j) (sego : ∀ j, j < 51 * p ∨ 51 * p + 51 ≤ j → M2 368 j = M 368 j) (item : DC C (30 + 34 * p) D ∧ DV D) : INV M2 := by
  have hI := h
  obtain ⟨q1, q2, q3, q4⟩ := h
  have hh : ∀ a, a < 79 ∨ 114 < a → a < 359 → a ≠ 1 → a ≠ 3 → a < 30 + 34 * p ∨ 33 + 34 * p < a → M2 a = M a := fun a h1 h2 h3 h4 h5 => (hc a h2).trans (cM a h1 h2 h3 h4 h5)
  have hz : ∀ k, k < 5 → 0 ≤ M 364 k ∧ M 364 k ≤ 2 := fun k hk => (i_size hI hk).2
  refine ⟨⟨fun i hi k hk => ?_, ?_⟩, ?_, fun k hk => ?_, fun k hk e => ?_⟩
  · have hb := tB_r i hi
    have m := q1.1 i hi k hk
    clear hps
    obtain ⟨b, eb⟩ : ∃ b, tB i = b := ⟨_, rfl⟩
    rw [eb] at hb m ⊢
    clear eb
    refine ⟨?_, ?_, ?_, ?_, ?_⟩
    · rw [hh (b + 19 + 34 * k) (by omega) (by omega) (by omega) (by omega) (by omega)]; exact m.1
    · rw [hh (b + 24 + 34 * k) (by omega) (by omega) (by omega) (by omega) (by omega)]; exact m.2.1
    · by_cases z : b = 1 ∧ k = p
      · obtain ⟨z1, z2⟩ := z
        rw [z1, z2, show 1 + 29 + 34 * p = 30 + 34 * p by omega, hc _ (by omega)]; exact hd30
      · rw [hh (b + 29 + 34 * k) (by omega) (by omega) (by omega) (by omega) (by omega)]; exact m.2.2.1
    · rw [hh (b + 34 + 34 * k) (by omega) (by omega) (by omega) (by omega) (by omega)]; exact m.2.2.2.1
    · rw [hh (b + 38 + 34 * k) (by omega) (by omega) (by omega) (by omega) (by omega)]; exact m.2.2.2.2
  · rw [hc 91 (by omega), hc 96 (by omega), hc 101 (by omega), hc 106 (by omega), hc 110 (by omega)]; exact heads ()
  · unfold CTD
    rw [tB_0]
    simp only [Nat.mul_zero, Nat.zero_add]
    have hl := hI.2.1.2.2.1
    simp only [tB_0, Nat.mul_zero, Nat.zero_add] at hl
    refine ⟨⟨?_, ?_, ?_⟩, ⟨?_, ?_⟩, fun j hj => ?_, fun j hj => ?_, fun k hk => ?_, fun k hk => ?_, fun k hk => ?_, fun k hk => ?_, fun k hk => ?_⟩
    · rw [hc 1 (by omega), c1 (), r361 ()]
    · rw [r361 ()]; omega
    · rw [r361 ()]; omega
    · rw [hc 1 (by omega)]; exact c2 ()
    · rw [hc 1 (by omega)]; exact c3 ()
    · rw [show 1 + 1 = 2 from rfl, hh 2 (by omega) (by omega) (by omega) (by omega) (by omega), rM 360 (by omega)]
      exact hl j hj
    · rw [show 1 + 2 = 3 from rfl, hc 3 (by omega)]
      by_cases z : j = 3
      · subst z
        have h1 := hz 3 hj
        have h2 := hn ()
        exact ⟨c3s (), by omega, by omega⟩
      · rw [c3r j z, r364 j z]; exact i_size hI hj
    · rw [show 1 + 8 + 34 * k = 9 + 34 * k by omega]
      have hk' : (k : Int) < M 364 0 := by rw [r364 0 (by omega)] at hk; exact hk
      have hk2 : k < 2 := by have := hz 0 (by omega); omega
      obtain ⟨x1, x2⟩ := i_party hI hk'
      exact PC_P (P := pP M k) (fun j hj => by rw [rM 365 (by omega)]; rfl) x2 (PC_c (fun j hj => hh _ (by omega) (by omega) (by omega) (by omega) (by omega)) x1)
    · rw [show 1 + 19 + 34 * k = 20 + 34 * k by omega]
      have hk' : (k : Int) < M 364 1 := by rw [r364 1 (by omega)] at hk; exact hk
      have hk2 : k < 2 := by have := hz 1 (by omega); omega
      obtain ⟨x1, x2⟩ := i_book hI hk'
      exact BC_P (P := bB M k) (fun j hj => by rw [rM 366 (by omega)]; rfl) x2 (BC_c (fun j hj => hh _ (by omega) (by omega) (by omega) (by omega) (by omega)) x1)
    · rw [show 1 + 23 + 34 * k = 24 + 34 * k by omega]
      have hk' : (k : Int) < M 364 2 := by rw [r364 2 (by omega)] at hk; exact hk
      have hk2 : k < 2 := by have := hz 2 (by omega); omega
      obtain ⟨x1, x2⟩ := i_clues hI hk'
      exact CC_P (P := cC M k) (fun j hj => by rw [rM 367 (by omega)]; rfl) x2 (CC_c (fun j hj => hh _ (by omega) (by omega) (by omega) (by omega) (by omega)) x1)
    · rw [show 1 + 29 + 34 * k = 30 + 34 * k by omega]
      by_cases z : k = p
      · subst z
        obtain ⟨x1, x2⟩ := item
        exact DC_P (P := D) (fun j hj => seg j (by omega)) x2 (DC_c (fun j hj => hc _ (by omega)) x1)
      · have hk' : (k : Int) < M 364 3 := by have h2 := hn (); omega
        have hk2 : k < 2 := by have := hz 3 (by omega); omega
        obtain ⟨x1, x2⟩ := i_ground hI hk'
        exact DC_P (P := dD M k) (fun j hj => sego (51 * k + j) (by omega)) x2 (DC_c (fun j hj => hh _ (by omega) (by omega) (by omega) (by omega) (by omega)) x1)
    · rw [show 1 + 33 + 34 * k = 34 + 34 * k by omega]
      have hk' : (k : Int) < M 364 4 := by rw [r364 4 (by omega)] at hk; exact hk
      have hk2 : k < 2 := by have := hz 4 (by omega); omega
      obtain ⟨x1, x2⟩ := i_record hI hk'
      exact RC_P (P := rR M k) (fun j hj => by rw [rM 369 (by omega)]; rfl) x2 (RC_c (fun j hj => hh _ (by omega) (by omega) (by omega) (by omega) (by omega)) x1)
  · rw [hh 78 (by omega) (by omega) (by omega) (by omega) (by omega), r387]; exact q3 k hk
  · rw [r387] at e
    have hb : 131 ≤ tB (k + 1) ∧ tB (k + 1) ≤ 283 := by
      rcases tB_r (k + 1) (by omega) with z | z
      · unfold tB at z; simp at z; omega
      · exact z
    have hx : ∀ a, tB (k + 1) ≤ a → a < tB (k + 1) + 76 → M2 a = M a := fun a h1 h2 => hh a (by omega) (by omega) (by omega) (by omega) (by omega)
    refine CTD_k ?_ (fun j hj => ?_) (fun j hj => ?_) (KK_f KK_r (fun a h1 h2 => hx a (by omega) (by omega))) (KK_f KK_r (fun a h1 h2 => hx a (by omega) (by omega))) ⟨fun j hj => ?_, rr (k + 1) (by omega), fun j hj => r364 _ (by omega), fun j hj => ?_, fun j hj => ?_, fun j hj => ?_, fun j hj => ?_, fun j hj => ?_⟩ (q4 k hk e)
    · rw [hx _ (by omega) (by omega)]; exact ⟨rfl, rfl, rfl⟩
    · rw [hx _ (by omega) (by omega)]
    · rw [hx _ (by omega) (by omega)]
    · rw [rM 360 (by omega)]
    · rw [rM 365 (by omega)]
    · rw [rM 366 (by omega)]
    · rw [rM 367 (by omega)]
    · exact sego (102 * (k + 1) + j) (by omega)
    · rw [rM 369 (by omega)]
theorem tx_4 {M C M2 : MM} {p : Nat} {D : Nat → Int} (h : INV M) (hp : p < 2) (hps : (p : Int) ≤ M 364 4) (hc : ∀ a, a < 359 → M2 a = C a) (cM : ∀ a, a < 79 ∨ 114 < a → a < 359 → a ≠ 1 → a ≠ 3 → a < 34 + 34 * p ∨ 42 + 34 * p < a → C a = M a) (heads : ∀ _ : Unit, C 91 0 = 40 ∧ C 96 0 = 8 ∧ C 101 0 = 25 ∧ C 106 0 = 40 ∧ C 110 0 = 15) (hd35 : C (35 + 34 * p) 0 = 40) (hd39 : C (39 + 34 * p) 0 = 15) (c1 : ∀ _ : Unit, C 1 1 = 0) (c2 : ∀ _ : Unit, C 1 2 = M2 362 0) (c3 : ∀ _ : Unit, C 1 3 = M2 363 0) (r361 : ∀ _ : Unit, M2 361 0 = 0) (rr : ∀ i, i ≠ 0 → M2 361 i = M 361 i ∧ M2 362 i = M 362 i ∧ M2 363 i = M 363 i) (rM : ∀ a, a = 360 ∨ (364 < a ∧ a < 370 ∧ a ≠ 369) → M2 a = M a) (r387 : M2 387 = M 387) (r364 : ∀ j, j ≠ 4 → M2 364 j = M 364 j) (hn : ∀ _ : Unit, (M2 364 4 = (p : Int) + 1 ∧ (p : Int) = M 364 4) ∨ (M2 364 4 = M 364 4 ∧ (p : Int) < M 364 4)) (c3r : ∀ j, j ≠ 4 → C 3 j = M 3 j) (c3s : ∀ _ : Unit, C 3 4 = M2 364 4) (seg : ∀ j, j < 97 → M2 369 (97 * p + j) = D j) (sego : ∀ j, j < 97 * p ∨ 97 * p + 97 ≤ j → M2 369 j = M 369 j) (item : RC C (34 + 34 * p) D ∧ RV D) : INV M2 := by
  have hI := h
  obtain ⟨q1, q2, q3, q4⟩ := h
  have hh : ∀ a, a < 79 ∨ 114 < a → a < 359 → a ≠ 1 → a ≠ 3 → a < 34 + 34 * p ∨ 42 + 34 * p < a → M2 a = M a := fun a h1 h2 h3 h4 h5 => (hc a h2).trans (cM a h1 h2 h3 h4 h5)
  have hz : ∀ k, k < 5 → 0 ≤ M 364 k ∧ M 364 k ≤ 2 := fun k hk => (i_size hI hk).2
  refine ⟨⟨fun i hi k hk => ?_, ?_⟩, ?_, fun k hk => ?_, fun k hk e => ?_⟩
  · have hb := tB_r i hi
    have m := q1.1 i hi k hk
    clear hps
    obtain ⟨b, eb⟩ : ∃ b, tB i = b := ⟨_, rfl⟩
    rw [eb] at hb m ⊢
    clear eb
    refine ⟨?_, ?_, ?_, ?_, ?_⟩
    · rw [hh (b + 19 + 34 * k) (by omega) (by omega) (by omega) (by omega) (by omega)]; exact m.1
    · rw [hh (b + 24 + 34 * k) (by omega) (by omega) (by omega) (by omega) (by omega)]; exact m.2.1
    · rw [hh (b + 29 + 34 * k) (by omega) (by omega) (by omega) (by omega) (by omega)]; exact m.2.2.1
    · by_cases z : b = 1 ∧ k = p
      · obtain ⟨z1, z2⟩ := z
        rw [z1, z2, show 1 + 34 + 34 * p = 35 + 34 * p by omega, hc _ (by omega)]; exact hd35
      · rw [hh (b + 34 + 34 * k) (by omega) (by omega) (by omega) (by omega) (by omega)]; exact m.2.2.2.1
    · by_cases z : b = 1 ∧ k = p
      · obtain ⟨z1, z2⟩ := z
        rw [z1, z2, show 1 + 38 + 34 * p = 39 + 34 * p by omega, hc _ (by omega)]; exact hd39
      · rw [hh (b + 38 + 34 * k) (by omega) (by omega) (by omega) (by omega) (by omega)]; exact m.2.2.2.2
  · rw [hc 91 (by omega), hc 96 (by omega), hc 101 (by omega), hc 106 (by omega), hc 110 (by omega)]; exact heads ()
  · unfold CTD
    rw [tB_0]
    simp only [Nat.mul_zero, Nat.zero_add]
    have hl := hI.2.1.2.2.1
    simp only [tB_0, Nat.mul_zero, Nat.zero_add] at hl
    refine ⟨⟨?_, ?_, ?_⟩, ⟨?_, ?_⟩, fun j hj => ?_, fun j hj => ?_, fun k hk => ?_, fun k hk => ?_, fun k hk => ?_, fun k hk => ?_, fun k hk => ?_⟩
    · rw [hc 1 (by omega), c1 (), r361 ()]
    · rw [r361 ()]; omega
    · rw [r361 ()]; omega
    · rw [hc 1 (by omega)]; exact c2 ()
    · rw [hc 1 (by omega)]; exact c3 ()
    · rw [show 1 + 1 = 2 from rfl, hh 2 (by omega) (by omega) (by omega) (by omega) (by omega), rM 360 (by omega)]
      exact hl j hj
    · rw [show 1 + 2 = 3 from rfl, hc 3 (by omega)]
      by_cases z : j = 4
      · subst z
        have h1 := hz 4 hj
        have h2 := hn ()
        exact ⟨c3s (), by omega, by omega⟩
      · rw [c3r j z, r364 j z]; exact i_size hI hj
    · rw [show 1 + 8 + 34 * k = 9 + 34 * k by omega]
      have hk' : (k : Int) < M 364 0 := by rw [r364 0 (by omega)] at hk; exact hk
      have hk2 : k < 2 := by have := hz 0 (by omega); omega
      obtain ⟨x1, x2⟩ := i_party hI hk'
      exact PC_P (P := pP M k) (fun j hj => by rw [rM 365 (by omega)]; rfl) x2 (PC_c (fun j hj => hh _ (by omega) (by omega) (by omega) (by omega) (by omega)) x1)
    · rw [show 1 + 19 + 34 * k = 20 + 34 * k by omega]
      have hk' : (k : Int) < M 364 1 := by rw [r364 1 (by omega)] at hk; exact hk
      have hk2 : k < 2 := by have := hz 1 (by omega); omega
      obtain ⟨x1, x2⟩ := i_book hI hk'
      exact BC_P (P := bB M k) (fun j hj => by rw [rM 366 (by omega)]; rfl) x2 (BC_c (fun j hj => hh _ (by omega) (by omega) (by omega) (by omega) (by omega)) x1)
    · rw [show 1 + 23 + 34 * k = 24 + 34 * k by omega]
      have hk' : (k : Int) < M 364 2 := by rw [r364 2 (by omega)] at hk; exact hk
      have hk2 : k < 2 := by have := hz 2 (by omega); omega
      obtain ⟨x1, x2⟩ := i_clues hI hk'
      exact CC_P (P := cC M k) (fun j hj => by rw [rM 367 (by omega)]; rfl) x2 (CC_c (fun j hj => hh _ (by omega) (by omega) (by omega) (by omega) (by omega)) x1)
    · rw [show 1 + 29 + 34 * k = 30 + 34 * k by omega]
      have hk' : (k : Int) < M 364 3 := by rw [r364 3 (by omega)] at hk; exact hk
      have hk2 : k < 2 := by have := hz 3 (by omega); omega
      obtain ⟨x1, x2⟩ := i_ground hI hk'
      exact DC_P (P := dD M k) (fun j hj => by rw [rM 368 (by omega)]; rfl) x2 (DC_c (fun j hj => hh _ (by omega) (by omega) (by omega) (by omega) (by omega)) x1)
    · rw [show 1 + 33 + 34 * k = 34 + 34 * k by omega]
      by_cases z : k = p
      · subst z
        obtain ⟨x1, x2⟩ := item
        exact RC_P (P := D) (fun j hj => seg j (by omega)) x2 (RC_c (fun j hj => hc _ (by omega)) x1)
      · have hk' : (k : Int) < M 364 4 := by have h2 := hn (); omega
        have hk2 : k < 2 := by have := hz 4 (by omega); omega
        obtain ⟨x1, x2⟩ := i_record hI hk'
        exact RC_P (P := rR M k) (fun j hj => sego (97 * k + j) (by omega)) x2 (RC_c (fun j hj => hh _ (by omega) (by omega) (by omega) (by omega) (by omega)) x1)
  · rw [hh 78 (by omega) (by omega) (by omega) (by omega) (by omega), r387]; exact q3 k hk
  · rw [r387] at e
    have hb : 131 ≤ tB (k + 1) ∧ tB (k + 1) ≤ 283 := by
      rcases tB_r (k + 1) (by omega) with z | z
      · unfold tB at z; simp at z; omega
      · exact z
    have hx : ∀ a, tB (k + 1) ≤ a → a < tB (k + 1) + 76 → M2 a = M a := fun a h1 h2 => hh a (by omega) (by omega) (by omega) (by omega) (by omega)
    refine CTD_k ?_ (fun j hj => ?_) (fun j hj => ?_) (KK_f KK_r (fun a h1 h2 => hx a (by omega) (by omega))) (KK_f KK_r (fun a h1 h2 => hx a (by omega) (by omega))) ⟨fun j hj => ?_, rr (k + 1) (by omega), fun j hj => r364 _ (by omega), fun j hj => ?_, fun j hj => ?_, fun j hj => ?_, fun j hj => ?_, fun j hj => ?_⟩ (q4 k hk e)
    · rw [hx _ (by omega) (by omega)]; exact ⟨rfl, rfl, rfl⟩
    · rw [hx _ (by omega) (by omega)]
    · rw [hx _ (by omega) (by omega)]
    · rw [rM 360 (by omega)]
    · rw [rM 365 (by omega)]
    · rw [rM 366 (by omega)]
    · rw [rM 367 (by omega)]
    · rw [rM 368 (by omega)]
    · exact sego (194 * (k + 1) + j) (by omega)
