theorem gz {lo up bu v c c' g g' : Int} (h : (lo ≤ v ∧ v ≤ up ∧ v ≠ bu ∧ c' = c ∧ g' = g) ∨ (¬ (lo ≤ v ∧ v ≤ up ∧ v ≠ bu) ∧ c' ≠ 0 ∧ g' = 0)) : (c' = 0 → (lo ≤ v ∧ v ≤ up ∧ v ≠ bu) ∧ c = 0) ∧ (g' ≠ 0 → (lo ≤ v ∧ v ≤ up ∧ v ≠ bu) ∧ g' = g) := by
  rcases h with ⟨d1, d2, d3, d4, d5⟩ | ⟨d1, d2, d3⟩
  · exact ⟨fun z => ⟨⟨d1, d2, d3⟩, by rw [← d4]; exact z⟩, fun _ => ⟨⟨d1, d2, d3⟩, d5⟩⟩
  · exact ⟨fun z => absurd z d2, fun z => absurd d3 z⟩
theorem trE {T : Nat → Int} {L : Nat} {C R R' : MM} (e : ∀ a, a ≠ 371 → R' a = R a) (h : ENV T L C R) : ENV T L C R' := ENV_c h rfl rfl (by rw [e 359 (by omega)]) (e 360 (by omega))
theorem trT {T : Nat → Int} {L f t : Nat} {k : Int} {C R R' : MM} (e : ∀ a, a ≠ 371 → R' a = R a) (h : TT T L f t k C R) : TT T L f t k C R' := by
  unfold TT
  rw [e 359 (by omega)]; exact h
theorem trF {b : Nat} {C R R' : MM} (e : ∀ a, a ≠ 371 → R' a = R a) (h : FF b C R) : FF b C R' := FF_c h (Nat.le_refl _) rfl rfl (by rw [e 359 (by omega)]) (by rw [e 359 (by omega)])
theorem trW {R0 R R' : MM} (e : ∀ a, a ≠ 371 → R' a = R a) (h : WB R0 R) : WB R0 R' := ⟨fun a h1 h2 => by rw [e a h2]; exact h.1 a h1 h2, by rw [e 359 (by omega)]; exact h.2⟩
theorem keepN {R : MM} {c : Nat} {fr w most : Int} (hc : c < 132) (h : R 370 c = most) : sX12_keep 359 (c : Int) fr w most R = some R := by
  have c1 : (0 : Int) ≤ (c : Int) ∧ (c : Int) < 132 := ⟨by omega, by omega⟩
  unfold sX12_keep sX12_keep_b0
  rw [wI_of (x := (c : Int)) (by omega) (by omega), if_pos c1, g359_20, tN, h, if_pos rfl]
theorem outG {T : Nat → Int} {L s k f0 f t : Nat} {kk : Int} {C0 R0 C2 R2 R' : MM} {rc rr : Option (Int × MM)} (hrc : rc = sX7_readsLine_b123 79 1 (s : Int) (k : Int) C2) (hrr : rr = some (1, R')) (cE : ENV T L C2 R2) (cT : TT T L f t kk C2 R2) (cF : FF f C2 R2) (hf : f0 < f) (e : ∀ a, a ≠ 359 → a ≠ 370 → a ≠ 371 → R' a = R2 a) (e' : ∀ j, j ≠ 22 → R' 359 j = R2 359 j) (hB : RB s R') (wA : WA C0 C2) (wX : XB R0 R2) (hH : HM C0) (K : C2 79 5 = 0 → ∀ C'' : MM, (∀ a, a ≠ 79 → a ≠ 114 → C'' a = C0 a) → C'' 79 12 = C0 79 12 → C'' 114 = C2 114 → ∃ C3, sX7_keep 79 (k : Int) C'' = some C3 ∧ DR s C3 R' ∧ HM C3 ∧ XA C'' C3 ∧ ∀ j, j ≠ 12 → C3 79 j = C'' 79 j) : OUT T L s k f0 C0 R0 rc rr := by
  refine Or.inr ⟨C2, R', f, t, kk, hrc, hrr, ENV_c cE rfl rfl (e' 12 (by omega)) (e 360 (by omega) (by omega) (by omega)), ?_, FF_c cF (Nat.le_refl _) rfl rfl (e' 18 (by omega)) (e' 19 (by omega)), hf, hB, WA_X wA, fun a h1 h2 h3 => (e a h1 h2 h3).trans (wX a h1 h2 h3), HM_c hH (fun a ha hb => wA.1 a (by omega) (by omega)), fun z C'' hC => K z C'' (fun a h1 h2 => by rw [FA_row hC h1]; exact wA.1 a h1 h2) (by rw [hC 79 12 (by omega)]; exact wA.2) (FA_row hC (by omega))⟩
  unfold TT
  rw [e' 13 (by omega), e' 11 (by omega), e' 14 (by omega), e' 16 (by omega), e' 15 (by omega)]
  exact cT
theorem HM_91 {C : MM} {n : Nat} {x y z : Int} (h : HM C) (hn : n < 40) : HM (aL C 91 n x y z) := by
  obtain ⟨⟨q1, q2, q3, q4, q5⟩, q6, q7, q8, q9, q10, q11, q12⟩ := h
  unfold HM
  rw [aL_f (a := 101) (by omega), aL_f (a := 96) (by omega), aL_f (a := 106) (by omega), aL_f (a := 110) (by omega), aL_f (a := 80) (by omega), aL_0 (by omega), aL_4]
  exact ⟨⟨q1, q2, q3, q4, q5⟩, q6, q7, by omega, q9, q10, q11, q12⟩
theorem HM_96 {C : MM} {n : Nat} {x y z : Int} (h : HM C) (hn : n < 8) : HM (aL C 96 n x y z) := by
  obtain ⟨⟨q1, q2, q3, q4, q5⟩, q6, q7, q8, q9, q10, q11, q12⟩ := h
  unfold HM
  rw [aL_f (a := 101) (by omega), aL_f (a := 91) (by omega), aL_f (a := 106) (by omega), aL_f (a := 110) (by omega), aL_f (a := 80) (by omega), aL_0 (by omega), aL_4]
  exact ⟨⟨q1, q2, q3, q4, q5⟩, q6, q7, q8, by omega, q10, q11, q12⟩
theorem HM_106 {C : MM} {n : Nat} {x y z : Int} (h : HM C) (hn : n < 40) : HM (aL C 106 n x y z) := by
  obtain ⟨⟨q1, q2, q3, q4, q5⟩, q6, q7, q8, q9, q10, q11, q12⟩ := h
  unfold HM
  rw [aL_f (a := 101) (by omega), aL_f (a := 91) (by omega), aL_f (a := 96) (by omega), aL_f (a := 110) (by omega), aL_f (a := 80) (by omega), aL_0 (by omega), aL_4]
  exact ⟨⟨q1, q2, q3, q4, q5⟩, q6, q7, q8, q9, q10, by omega, q12⟩
theorem HM_110 {C : MM} {n : Nat} {x y z : Int} (h : HM C) (hn : n < 15) : HM (aL C 110 n x y z) := by
  obtain ⟨⟨q1, q2, q3, q4, q5⟩, q6, q7, q8, q9, q10, q11, q12⟩ := h
  unfold HM
  rw [aL_f (a := 101) (by omega), aL_f (a := 91) (by omega), aL_f (a := 96) (by omega), aL_f (a := 106) (by omega), aL_f (a := 80) (by omega), aL_0 (by omega), aL_4]
  exact ⟨⟨q1, q2, q3, q4, q5⟩, q6, q7, q8, q9, q10, q11, by omega⟩
theorem HM_u {C : MM} {a j : Nat} {x : Int} (h : HM C) (ha : (80 < a ∧ a < 91) ∨ a = 100 ∨ (a = 80 ∧ j ≠ 0 ∧ j ≠ 3)) : HM (mU C a j x) := by
  unfold HM
  rw [mU_row (b := 91) _ _ (by omega), mU_row (b := 96) _ _ (by omega), mU_row (b := 101) _ _ (by omega), mU_row (b := 106) _ _ (by omega), mU_row (b := 110) _ _ (by omega), mU_ne (b := 80) (j := 0) _ _ (by omega), mU_ne (b := 80) (j := 3) _ _ (by omega)]
  exact h
theorem gz3 {lo up bu v c c' g g' : Int} (h : (lo ≤ v ∧ v ≤ up ∧ v ≠ bu ∧ c' = c ∧ g' = g) ∨ (¬ (lo ≤ v ∧ v ≤ up ∧ v ≠ bu) ∧ c' ≠ 0 ∧ g' = 0)) (z : c' = 0) : g' = g := by
  rcases h with ⟨d1, d2, d3, d4, d5⟩ | ⟨d1, d2, d3⟩
  · exact d5
  · exact absurd z d2
theorem gr_e {a b : Int} (ra : R32 a) (rb : R32 b) : sX12_greater a b = max a b := by
  unfold sX12_greater sX12_greater_b0
  rw [wI_of ra.1 ra.2, wI_of rb.1 rb.2]
  split <;> omega
theorem tch0 {R R' : MM} {x bu : Int} (h : sX12_takeBut 359 x 0 7 bu R = some (0, R')) : sX12_takeChild 359 x bu R = some (0, mU R' 359 22 (R' 359 22)) := by
  unfold sX12_takeChild sX12_takeChild_b0 sX12_takeChild_b35
  rw [h, ob_s]
  dsimp only
  rw [i00, ob_s]; exact if_pos (Or.inl rfl)
theorem tch1 {R R' : MM} {x : Nat} {bu : Int} (hx : x < 4) (h : sX12_takeBut 359 (x : Int) 0 7 bu R = some (1, R')) : sX12_takeChild 359 (x : Int) bu R = some (1, mU R' 359 22 (sX12_greater (R' 359 22) (R' 371 x))) := by
  have c1 : (0 : Int) ≤ (x : Int) ∧ (x : Int) < 4 := ⟨by omega, by omega⟩
  unfold sX12_takeChild sX12_takeChild_b0 sX12_takeChild_b35
  rw [h, ob_s]
  dsimp only
  rw [i10, wI_of (x := (x : Int)) (by omega) (by omega), if_pos c1, tN, g359_21, ob_s]; exact if_pos (Or.inr rfl)
theorem t2E {T : Nat → Int} {L : Nat} {C R : MM} {x : Int} (h : ENV T L C R) : ENV T L C (mU R 359 22 x) := ENV_c h rfl rfl (mU_ne _ _ (by omega)) (mU_row _ _ (by omega))
theorem t2T {T : Nat → Int} {L f t : Nat} {k : Int} {C R : MM} {x : Int} (h : TT T L f t k C R) : TT T L f t k C (mU R 359 22 x) := by
  unfold TT
  rw [mU_ne (j := 13) _ _ (by omega), mU_ne (j := 11) _ _ (by omega), mU_ne (j := 14) _ _ (by omega), mU_ne (j := 16) _ _ (by omega), mU_ne (j := 15) _ _ (by omega)]; exact h
theorem t2F {b : Nat} {C R : MM} {x : Int} (h : FF b C R) : FF b C (mU R 359 22 x) := FF_c h (Nat.le_refl _) rfl rfl (mU_ne _ _ (by omega)) (mU_ne _ _ (by omega))
theorem childB {R : MM} {n : Nat} (h : R 370 1 = (n : Int)) (hn : n < 8) : sX12_childLine_b59 359 FU 0 R = some (1, mU (kpR R (28 + 13 * n) 4) 370 1 ((n : Int) + 1)) := by
  refine loopC (fun f y t => sX12_childLine_b59 359 f y t) 4 (fun k N => N = kpR R (28 + 13 * n) k) (fun r => r = some (1, mU (kpR R (28 + 13 * n) 4) 370 1 ((n : Int) + 1))) ?_ ?_ FU 0 R (by omega) ?_ (by unfold FU; omega)
  · intro f N hN
    show sX12_childLine_b59 359 (f + 1) ((4 : Nat) : Int) N = _
    rw [sX12_childLine_b59, if_pos (by rw [wI_of (by omega) (by omega)]; omega), ob_s, g359_20, hN, kpR_out (by omega), h]
  · intro f k N hk hN
    right
    have d1 : ¬ (4 : Int) ≤ (k : Int) := by omega
    have d2 : (0 : Int) ≤ (k : Int) ∧ (k : Int) < 4 := ⟨by omega, by omega⟩
    have d3 : (0 : Int) ≤ ((28 + 13 * n + k : Nat) : Int) ∧ ((28 + 13 * n + k : Nat) : Int) < 132 := ⟨by omega, by omega⟩
    have d4 : Unit → wI (k : Int) = (k : Int) := fun _ => wI_of (by omega) (by omega)
    have d6 : N 370 1 = (n : Int) := by rw [hN, kpR_out (by omega)]; exact h
    have d5 : wI (28 + 13 * (n : Int) + (k : Int)) = ((28 + 13 * n + k : Nat) : Int) := by rw [wI_of (by omega) (by omega)]; omega
    refine ⟨_, ?_, rfl⟩
    show sX12_childLine_b59 359 (f + 1) (k : Int) N = _
    rw [sX12_childLine_b59, d4 (), if_neg d1, if_pos d2, g359_20, d6, d5, if_pos d3, ob_s, ob_s, g359_21, tN, tN, hN, kpR_row (by omega), kpR_s]
  · funext a j; unfold kpR; rw [if_neg (by omega)]
