def fiM (M : MM) (a n : Nat) (v : Int) : MM := fun q j => if q = a ∧ j < n then v else M q j
theorem fiM_0 {M : MM} {a : Nat} {v : Int} : fiM M a 0 v = M := by funext q j; unfold fiM; rw [if_neg (by omega)]
theorem fiM_s {M : MM} {a k : Nat} {v : Int} : mU (fiM M a k v) a k v = fiM M a (k + 1) v := by
  funext q j
  unfold mU fiM
  by_cases hq : q = a
  · subst hq
    by_cases hj : j = k
    · subst hj; rw [if_pos rfl, if_pos rfl, if_pos ⟨rfl, by omega⟩]
    · rw [if_pos rfl, if_neg hj]
      by_cases h2 : j < k
      · rw [if_pos ⟨rfl, h2⟩, if_pos ⟨rfl, by omega⟩]
      · rw [if_neg (by omega), if_neg (by omega)]
  · rw [if_neg hq, if_neg (by omega), if_neg (by omega)]
theorem fiM_r {M : MM} {a n q : Nat} {v : Int} (h : q ≠ a) : fiM M a n v q = M q := by funext j; unfold fiM; rw [if_neg (by omega)]
theorem fiM_i {M : MM} {a n j : Nat} {v : Int} (h : j < n) : fiM M a n v a j = v := by unfold fiM; rw [if_pos ⟨rfl, h⟩]
theorem fiL {β : Type} (F : Nat → Int → MM → β) (X : MM → β) (a n : Nat) (v : Int) (hx : ∀ f M, F (f + 1) (n : Int) M = X M) (hs : ∀ f k M, k < n → F (f + 1) (k : Int) M = F f ((k : Int) + 1) (mU M a k v)) (hn : n < 99999) (M : MM) : F FU 0 M = X (fiM M a n v) := by
  refine loopC F n (fun k N => N = fiM M a k v) (fun r => r = X (fiM M a n v)) ?_ ?_ FU 0 M (by omega) fiM_0.symm (by unfold FU; omega)
  · intro f N hN; rw [hx, hN]
  · intro f k N hk hN
    right
    exact ⟨_, hs f k N hk, by rw [hN, fiM_s]⟩
/-- the class's drafts empty -/
theorem clA (C : MM) : ∃ N, sX7_clearDrafts 79 C = some N ∧ (∀ a, a < 79 ∨ 110 < a → N a = C a) ∧ (∀ j, j ≠ 12 → N 79 j = C 79 j) ∧ N 79 12 = 0 ∧ (N 80 0 = 0 ∧ N 80 3 = 0 ∧ N 80 12 = 3 ∧ N 80 13 = 16 ∧ N 80 14 = 20 ∧ N 80 15 = 2 ∧ N 80 16 = 1) ∧ ((∀ c, c < 8 → N 87 c = 0) ∧ (∀ c, c < 64 → N 88 c = 1) ∧ (∀ c, c < 8 → N 89 c = 1) ∧ (∀ c, c < 3 → N 90 c = 1)) ∧ (N 91 4 = 0 ∧ N 96 4 = 0 ∧ N 101 4 = 0 ∧ N 106 4 = 0 ∧ N 110 4 = 0) ∧ (∀ c, c < 8 → N 100 c = 5) ∧ N 91 0 = C 91 0 ∧ N 96 0 = C 96 0 ∧ N 101 0 = C 101 0 ∧ N 106 0 = C 106 0 ∧ N 110 0 = C 110 0 := by
  have c8 : ∀ k : Nat, k < 8 → wI (k : Int) = (k : Int) ∧ ¬ (8 : Int) ≤ (k : Int) ∧ (0 : Int) ≤ (k : Int) ∧ (k : Int) < 8 := fun k hk => ⟨wI_of (by omega) (by omega), by omega, by omega, by omega⟩
  have e12 : ∀ M : MM, sX5_clear_b12 80 FU 0 M = sX5_clear_b33 80 FU 0 (fiM M 87 8 0) := by
    refine fiL (fun f y M => sX5_clear_b12 80 f y M) (fun M => sX5_clear_b33 80 FU 0 M) 87 8 0 (fun f M => ?_) (fun f k M hk => ?_) (by omega)
    · show sX5_clear_b12 80 (f + 1) ((8 : Nat) : Int) M = _
      rw [sX5_clear_b12, if_pos (by decide +kernel)]
    · obtain ⟨d1, d2, d3⟩ := c8 k hk
      show sX5_clear_b12 80 (f + 1) (k : Int) M = _
      rw [sX5_clear_b12, d1, if_neg d2, if_pos d3, tN, show gR 80 8 = 87 from PG_80.2.2.2.2.2.2.1, ob_s, ob_s]
  have e33 : ∀ M : MM, sX5_clear_b33 80 FU 0 M = sX5_clear_b54 80 FU 0 (fiM M 88 64 1) := by
    refine fiL (fun f y M => sX5_clear_b33 80 f y M) (fun M => sX5_clear_b54 80 FU 0 M) 88 64 1 (fun f M => ?_) (fun f k M hk => ?_) (by omega)
    · show sX5_clear_b33 80 (f + 1) ((64 : Nat) : Int) M = _
      rw [sX5_clear_b33, if_pos (by decide +kernel)]
    · have d2 : ¬ (64 : Int) ≤ (k : Int) := by omega
      have d3 : (0 : Int) ≤ (k : Int) ∧ (k : Int) < 64 := ⟨by omega, by omega⟩
      have d1 : wI (k : Int) = (k : Int) := wI_of (by omega) (by omega)
      show sX5_clear_b33 80 (f + 1) (k : Int) M = _
      rw [sX5_clear_b33, d1, if_neg d2, if_pos d3, tN, show gR 80 9 = 88 from PG_80.2.2.2.2.2.2.2.1, ob_s, ob_s]
  have e54 : ∀ M : MM, sX5_clear_b54 80 FU 0 M = sX5_clear_b75 80 FU 0 (fiM M 89 8 1) := by
    refine fiL (fun f y M => sX5_clear_b54 80 f y M) (fun M => sX5_clear_b75 80 FU 0 M) 89 8 1 (fun f M => ?_) (fun f k M hk => ?_) (by omega)
    · show sX5_clear_b54 80 (f + 1) ((8 : Nat) : Int) M = _
      rw [sX5_clear_b54, if_pos (by decide +kernel)]
    · obtain ⟨d1, d2, d3⟩ := c8 k hk
      show sX5_clear_b54 80 (f + 1) (k : Int) M = _
      rw [sX5_clear_b54, d1, if_neg d2, if_pos d3, tN, show gR 80 10 = 89 from PG_80.2.2.2.2.2.2.2.2.1, ob_s, ob_s]
  have e75 : ∀ M : MM, sX5_clear_b75 80 FU 0 M = some (mU (mU (mU (mU (mU (fiM M 90 3 1) 80 12 3) 80 13 16) 80 14 20) 80 15 2) 80 16 1) := by
    refine fiL (fun f y M => sX5_clear_b75 80 f y M) (fun M => some (mU (mU (mU (mU (mU M 80 12 3) 80 13 16) 80 14 20) 80 15 2) 80 16 1)) 90 3 1 (fun f M => ?_) (fun f k M hk => ?_) (by omega)
    · show sX5_clear_b75 80 (f + 1) ((3 : Nat) : Int) M = _
      rw [sX5_clear_b75, if_pos (by decide +kernel)]; rfl
    · have d2 : ¬ (3 : Int) ≤ (k : Int) := by omega
      have d3 : (0 : Int) ≤ (k : Int) ∧ (k : Int) < 3 := ⟨by omega, by omega⟩
      have d1 : wI (k : Int) = (k : Int) := wI_of (by omega) (by omega)
      show sX5_clear_b75 80 (f + 1) (k : Int) M = _
      rw [sX5_clear_b75, d1, if_neg d2, if_pos d3, tN, show gR 80 11 = 90 from PG_80.2.2.2.2.2.2.2.2.2, ob_s, ob_s]
  have e10 : ∀ M : MM, sX1_clear_b10 95 FU 0 M = some (fiM M 100 8 5) := by
    refine fiL (fun f y M => sX1_clear_b10 95 f y M) (fun M => some M) 100 8 5 (fun f M => ?_) (fun f k M hk => ?_) (by omega)
    · show sX1_clear_b10 95 (f + 1) ((8 : Nat) : Int) M = _
      rw [sX1_clear_b10, if_pos (by decide +kernel)]
    · obtain ⟨d1, d2, d3⟩ := c8 k hk
      show sX1_clear_b10 95 (f + 1) (k : Int) M = _
      rw [sX1_clear_b10, d1, if_neg d2, if_pos d3, tN, g95_1, ob_s, ob_s]
  unfold sX7_clearDrafts sX7_clearDrafts_b0 sX5_clear sX5_clear_b0 sX1_clear sX1_clear_b0 sX8_clear sX8_clear_b0
  rw [g79_0, g79_1, g79_2, g79_3, g79_4, g95_0, g105_0, g105_1, ob_s, ob_s, e12, e33, e54, e75, ob_s, ob_s, ob_s, ob_s, e10, ob_s, ob_s, ob_s, ob_s, ob_s]
  refine ⟨_, rfl, fun a ha => ?_, fun j hj => ?_, ?_, ⟨?_, ?_, ?_, ?_, ?_, ?_, ?_⟩, ⟨fun c hc => ?_, fun c hc => ?_, fun c hc => ?_, fun c hc => ?_⟩, ⟨?_, ?_, ?_, ?_, ?_⟩, fun c hc => ?_, ?_, ?_, ?_, ?_, ?_⟩
  all_goals simp (disch := omega) only [mU_row, mU_ne, mU_eq, fiM_r, fiM_i]
/-- the reference's draft empty -/
theorem bgB {s : Nat} (hs : s < 5) (R : MM) : ∃ N, sX12_begin 359 (s : Int) R = some N ∧ (∀ a, a ≠ 370 → a ≠ 359 → N a = R a) ∧ (∀ j, j ≠ 22 → N 359 j = R 359 j) ∧ N 359 22 = -1 ∧ N 370 0 = 0 ∧ (s ≠ 2 → N 370 1 = 0) ∧ (s = 2 → ∀ c, c < 8 → N 370 (1 + c) = 5) ∧ (s = 0 → (N 370 2 = 3 ∧ N 370 3 = 16 ∧ N 370 4 = 20 ∧ N 370 5 = 2 ∧ N 370 6 = 1) ∧ (∀ w, w < 11 → N 370 (7 + w) = 1) ∧ (∀ c, c < 8 → N 370 (32 + 13 * c) = 0) ∧ ∀ c, c < 8 → ∀ o, o < 8 → N 370 (33 + 13 * c + o) = 1) := by
  have ws : wI (s : Int) = (s : Int) := wI_of (by omega) (by omega)
  have e2 : ∀ M : MM, sX12_begin_b2 359 (s : Int) FU 0 M = sX12_begin_b29 359 (s : Int) FU 0 (mU (fiM M 370 132 0) 359 22 (-1)) := by
    refine fiL (fun f y M => sX12_begin_b2 359 (s : Int) f y M) (fun M => sX12_begin_b29 359 (s : Int) FU 0 (mU M 359 22 (-1))) 370 132 0 (fun f M => ?_) (fun f k M hk => ?_) (by omega)
    · show sX12_begin_b2 359 (s : Int) (f + 1) ((132 : Nat) : Int) M = _
      rw [sX12_begin_b2, if_pos (by decide +kernel), ob_s]
    · have d2 : ¬ (132 : Int) ≤ (k : Int) := by omega
      have d3 : (0 : Int) ≤ (k : Int) ∧ (k : Int) < 132 := ⟨by omega, by omega⟩
      have d1 : wI (k : Int) = (k : Int) := wI_of (by omega) (by omega)
      show sX12_begin_b2 359 (s : Int) (f + 1) (k : Int) M = _
      rw [sX12_begin_b2, d1, if_neg d2, if_pos d3, tN, g359_20, ob_s, ob_s]
  unfold sX12_begin sX12_begin_b0
  rw [e2]
  obtain ⟨G, eG⟩ : ∃ G : MM, G = mU (fiM R 370 132 0) 359 22 (-1) := ⟨_, rfl⟩
  rw [← eG]
  have g1 : ∀ a, a ≠ 370 → a ≠ 359 → G a = R a := fun a h1 h2 => by rw [eG, mU_row _ _ h2, fiM_r h1]
  have g2 : ∀ j, j ≠ 22 → G 359 j = R 359 j := fun j hj => by rw [eG, mU_ne _ _ (by omega), fiM_r (by omega)]
  have g3 : G 359 22 = -1 := by rw [eG, mU_eq]
  have g4 : ∀ j, j < 132 → G 370 j = 0 := fun j hj => by rw [eG, mU_row _ _ (by omega), fiM_i hj]
  by_cases h2 : s = 2
  · subst h2
    have e55 : ∀ M : MM, sX12_begin_b55 359 ((2 : Nat) : Int) M = some M := by
      intro M
      unfold sX12_begin_b55
      rw [if_neg (by decide +kernel)]
    have hl : ∃ N, sX12_begin_b29 359 ((2 : Nat) : Int) FU 0 G = some N ∧ (∀ i, i < 8 → N 370 (1 + i) = 5) ∧ (∀ j, j < 1 ∨ 9 ≤ j → N 370 j = G 370 j) ∧ ∀ a, a ≠ 370 → N a = G a := by
      refine loopC (fun f y M => sX12_begin_b29 359 ((2 : Nat) : Int) f y M) 8 (fun k N => (∀ i, i < k → N 370 (1 + i) = 5) ∧ (∀ j, j < 1 ∨ 9 ≤ j → N 370 j = G 370 j) ∧ ∀ a, a ≠ 370 → N a = G a) (fun r => ∃ N, r = some N ∧ (∀ i, i < 8 → N 370 (1 + i) = 5) ∧ (∀ j, j < 1 ∨ 9 ≤ j → N 370 j = G 370 j) ∧ ∀ a, a ≠ 370 → N a = G a) ?_ ?_ FU 0 G (by omega) ⟨fun i hi => by omega, fun _ _ => rfl, fun _ _ => rfl⟩ (by unfold FU; omega)
      · rintro f N hN
        refine ⟨N, ?_, hN⟩
        show sX12_begin_b29 359 ((2 : Nat) : Int) (f + 1) ((8 : Nat) : Int) N = _
        rw [sX12_begin_b29, if_pos (by decide +kernel), e55]
      · rintro f k N hk ⟨n1, n2, n3⟩
        right
        have d2 : ¬ (8 : Int) ≤ (k : Int) := by omega
        have d3 : (0 : Int) ≤ ((1 + k : Nat) : Int) ∧ ((1 + k : Nat) : Int) < 132 := ⟨by omega, by omega⟩
        have d4 : Unit → wI (1 + (k : Int)) = ((1 + k : Nat) : Int) := fun _ => by rw [wI_of (by omega) (by omega)]; omega
        refine ⟨mU N 370 (1 + k) 5, ?_, fun i hi => ?_, fun j hj => ?_, fun a ha => ?_⟩
        · show sX12_begin_b29 359 ((2 : Nat) : Int) (f + 1) (k : Int) N = _
          rw [sX12_begin_b29, wI_of (x := (k : Int)) (by omega) (by omega), if_neg d2, if_pos (show wI ((2 : Nat) : Int) = 2 by decide +kernel), d4 (), if_pos d3, tN, g359_20, ob_s, ob_s]
        · by_cases z : i = k
          · subst z; rw [mU_eq]
          · rw [mU_ne _ _ (by omega)]; exact n1 i (by omega)
        · rw [mU_ne _ _ (by omega)]; exact n2 j hj
        · rw [mU_row _ _ ha]; exact n3 a ha
    obtain ⟨N, n0, n1, n2, n3⟩ := hl
    exact ⟨N, n0, fun a h1 h2 => by rw [n3 a h1]; exact g1 a h1 h2, fun j hj => by rw [n3 359 (by omega)]; exact g2 j hj, by rw [n3 359 (by omega)]; exact g3, by rw [n2 0 (by omega)]; exact g4 0 (by omega), fun z => absurd rfl z, fun _ => n1, fun z => absurd z (by omega)⟩
  · have e29 : sX12_begin_b29 359 (s : Int) FU 0 G = sX12_begin_b55 359 (s : Int) G := by
      rw [show FU = 99999 + 1 from rfl, sX12_begin_b29, if_neg (by rw [wI_0]; omega), ws, if_neg (by omega)]
    rw [e29]
    unfold sX12_begin_b55
    rw [ws]
    by_cases h0 : s = 0
    · subst h0
      rw [if_pos (show ((0 : Nat) : Int) = 0 from rfl), g359_20, ob_s, ob_s, ob_s, ob_s, ob_s]
      obtain ⟨H, eH⟩ : ∃ H : MM, H = mU (mU (mU (mU (mU G 370 2 3) 370 3 16) 370 4 20) 370 5 2) 370 6 1 := ⟨_, rfl⟩
      rw [← eH]
      have k1 : ∀ a, a ≠ 370 → H a = G a := fun a ha => by rw [eH]; simp (disch := omega) only [mU_row]
      have k2 : H 370 2 = 3 ∧ H 370 3 = 16 ∧ H 370 4 = 20 ∧ H 370 5 = 2 ∧ H 370 6 = 1 := by
        rw [eH]
        refine ⟨?_, ?_, ?_, ?_, ?_⟩
        all_goals simp (disch := omega) only [mU_ne, mU_eq]
      have k3 : ∀ j, j < 2 ∨ 6 < j → H 370 j = G 370 j := fun j hj => by rw [eH]; simp (disch := omega) only [mU_ne]
      have hl : ∃ N, sX12_begin_b100 359 ((0 : Nat) : Int) FU 7 H = sX12_begin_b121 359 ((0 : Nat) : Int) FU 0 N ∧ (∀ i, 7 ≤ i → i < 18 → N 370 i = 1) ∧ (∀ j, j < 7 ∨ 18 ≤ j → N 370 j = H 370 j) ∧ ∀ a, a ≠ 370 → N a = H a := by
        refine loopC (fun f y M => sX12_begin_b100 359 ((0 : Nat) : Int) f y M) 18 (fun k N => 7 ≤ k ∧ (∀ i, 7 ≤ i → i < k → N 370 i = 1) ∧ (∀ j, j < 7 ∨ 18 ≤ j → N 370 j = H 370 j) ∧ ∀ a, a ≠ 370 → N a = H a) (fun r => ∃ N, r = sX12_begin_b121 359 ((0 : Nat) : Int) FU 0 N ∧ (∀ i, 7 ≤ i → i < 18 → N 370 i = 1) ∧ (∀ j, j < 7 ∨ 18 ≤ j → N 370 j = H 370 j) ∧ ∀ a, a ≠ 370 → N a = H a) ?_ ?_ FU 7 H (by omega) ⟨by omega, fun i hi hi' => by omega, fun _ _ => rfl, fun _ _ => rfl⟩ (by unfold FU; omega)
        · rintro f N hN
          refine ⟨N, ?_, hN.2⟩
          show sX12_begin_b100 359 ((0 : Nat) : Int) (f + 1) ((18 : Nat) : Int) N = _
          rw [sX12_begin_b100, if_pos (by decide +kernel)]
        · rintro f k N hk ⟨h7, n1, n2, n3⟩
          right
          have d2 : ¬ (18 : Int) ≤ (k : Int) := by omega
          have d3 : (0 : Int) ≤ (k : Int) ∧ (k : Int) < 132 := ⟨by omega, by omega⟩
          refine ⟨mU N 370 k 1, ?_, by omega, fun i hi hi' => ?_, fun j hj => ?_, fun a ha => ?_⟩
          · show sX12_begin_b100 359 ((0 : Nat) : Int) (f + 1) (k : Int) N = _
            rw [sX12_begin_b100, wI_of (x := (k : Int)) (by omega) (by omega), if_neg d2, if_pos d3, tN, g359_20, ob_s, ob_s]
          · by_cases z : i = k
            · subst z; rw [mU_eq]
            · rw [mU_ne _ _ (by omega)]; exact n1 i hi (by omega)
          · rw [mU_ne _ _ (by omega)]; exact n2 j hj
          · rw [mU_row _ _ ha]; exact n3 a ha
      obtain ⟨J, j0, j1, j2, j3⟩ := hl
      rw [j0]
      have hl : ∃ N, sX12_begin_b121 359 ((0 : Nat) : Int) FU 0 J = some N ∧ (∀ i, i < 64 → N 370 (33 + 13 * (i / 8) + i % 8) = 1) ∧ (∀ j, (∀ i, i < 64 → j ≠ 33 + 13 * (i / 8) + i % 8) → N 370 j = J 370 j) ∧ ∀ a, a ≠ 370 → N a = J a := by
        refine loopC (fun f y M => sX12_begin_b121 359 ((0 : Nat) : Int) f y M) 64 (fun k N => (∀ i, i < k → N 370 (33 + 13 * (i / 8) + i % 8) = 1) ∧ (∀ j, (∀ i, i < 64 → j ≠ 33 + 13 * (i / 8) + i % 8) → N 370 j = J 370 j) ∧ ∀ a, a ≠ 370 → N a = J a) (fun r => ∃ N, r = some N ∧ (∀ i, i < 64 → N 370 (33 + 13 * (i / 8) + i % 8) = 1) ∧ (∀ j, (∀ i, i < 64 → j ≠ 33 + 13 * (i / 8) + i % 8) → N 370 j = J 370 j) ∧ ∀ a, a ≠ 370 → N a = J a) ?_ ?_ FU 0 J (by omega) ⟨fun i hi => by omega, fun _ _ => rfl, fun _ _ => rfl⟩ (by unfold FU; omega)
        · rintro f N hN
          refine ⟨N, ?_, hN⟩
          show sX12_begin_b121 359 ((0 : Nat) : Int) (f + 1) ((64 : Nat) : Int) N = _
          rw [sX12_begin_b121, if_pos (by decide +kernel)]
        · rintro f k N hk ⟨n1, n2, n3⟩
          right
          have d2 : ¬ (64 : Int) ≤ (k : Int) := by omega
          have d3 : (0 : Int) ≤ ((33 + 13 * (k / 8) + k % 8 : Nat) : Int) ∧ ((33 + 13 * (k / 8) + k % 8 : Nat) : Int) < 132 := ⟨by omega, by omega⟩
          have d4 : Unit → wI (28 + 13 * Int.tdiv (k : Int) 8 + 5 + Int.tmod (k : Int) 8) = ((33 + 13 * (k / 8) + k % 8 : Nat) : Int) := fun _ => by
            rw [Int.tdiv_eq_ediv_of_nonneg (by omega), Int.tmod_eq_emod_of_nonneg (by omega), wI_of (by omega) (by omega)]; omega
          refine ⟨mU N 370 (33 + 13 * (k / 8) + k % 8) 1, ?_, fun i hi => ?_, fun j hj => ?_, fun a ha => ?_⟩
          · show sX12_begin_b121 359 ((0 : Nat) : Int) (f + 1) (k : Int) N = _
            rw [sX12_begin_b121, wI_of (x := (k : Int)) (by omega) (by omega), if_neg d2, d4 (), if_pos d3, tN, g359_20, ob_s, ob_s]
          · by_cases z : 33 + 13 * (i / 8) + i % 8 = 33 + 13 * (k / 8) + k % 8
            · rw [z, mU_eq]
            · rw [mU_ne _ _ (by omega)]; exact n1 i (by omega)
          · rw [mU_ne _ _ (Or.inr (hj k hk))]; exact n2 j hj
          · rw [mU_row _ _ ha]; exact n3 a ha
      obtain ⟨N, n0, n1, n2, n3⟩ := hl
      have low : ∀ j, j < 33 → N 370 j = J 370 j := fun j hj => n2 j (fun i hi => by omega)
      refine ⟨N, n0, fun a h1 h2 => by rw [n3 a h1, j3 a h1, k1 a h1]; exact g1 a h1 h2, fun j hj => by rw [n3 359 (by omega), j3 359 (by omega), k1 359 (by omega)]; exact g2 j hj, by rw [n3 359 (by omega), j3 359 (by omega), k1 359 (by omega)]; exact g3, ?_, fun _ => ?_, fun z => absurd z (by omega), fun _ => ⟨?_, fun w hw => ?_, fun c hc => ?_, fun c hc o ho => ?_⟩⟩
      · rw [low 0 (by omega), j2 0 (by omega), k3 0 (by omega)]; exact g4 0 (by omega)
      · rw [low 1 (by omega), j2 1 (by omega), k3 1 (by omega)]; exact g4 1 (by omega)
      · rw [low 2 (by omega), low 3 (by omega), low 4 (by omega), low 5 (by omega), low 6 (by omega), j2 2 (by omega), j2 3 (by omega), j2 4 (by omega), j2 5 (by omega), j2 6 (by omega)]; exact k2
      · rw [low _ (by omega)]; exact j1 _ (by omega) (by omega)
      · rw [n2 _ (fun i hi => by omega), j2 _ (by omega), k3 _ (by omega)]; exact g4 _ (by omega)
      · have := n1 (8 * c + o) (by omega)
        rw [show (8 * c + o) / 8 = c by omega, show (8 * c + o) % 8 = o by omega] at this
        exact this
    · rw [if_neg (show ¬ (s : Int) = 0 by omega)]
      exact ⟨G, rfl, g1, g2, g3, g4 0 (by omega), fun _ => g4 1 (by omega), fun z => absurd z h2, fun z => absurd z h0⟩
