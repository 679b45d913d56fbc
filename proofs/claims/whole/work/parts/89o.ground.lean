theorem fu_e {C : MM} (h : HM C) {k : Nat} (hk : k < 28) : sX7_isFull 79 (k : Int) C = some (if k = 0 then (if C 80 0 = 5 then 1 else 0) else if k = 1 then (if C 80 3 = 8 then 1 else 0) else if k < 12 then 0 else if k ≤ 17 then (if C 91 4 = 40 then 1 else 0) else if k ≤ 21 then (if C 96 4 = 8 then 1 else 0) else if k = 22 then 0 else if k = 23 then (if C 101 4 = 25 then 1 else 0) else if k ≤ 25 then (if C 106 4 = 40 then 1 else 0) else (if C 110 4 = 15 then 1 else 0)) := by
  obtain ⟨⟨h1, h2, h3, h4, h5⟩, h6, h7, h8, h9, h10, h11, h12⟩ := h
  have l1 := fu_l (q := 91) (m := 40) h1 h8 (by omega)
  have l2 := fu_l (q := 96) (m := 8) h2 h9 (by omega)
  have l3 := fu_l (q := 101) (m := 25) h3 h10 (by omega)
  have l4 := fu_l (q := 106) (m := 40) h4 h11 (by omega)
  have l5 := fu_l (q := 110) (m := 15) h5 h12 (by omega)
  have w1 : wI (C 80 0) = C 80 0 := wI_of (by omega) (by omega)
  have w2 : wI (C 80 3) = C 80 3 := wI_of (by omega) (by omega)
  have wk : wI (k : Int) = (k : Int) := wI_of (by omega) (by omega)
  unfold sX7_isFull sX7_isFull_b0 sX7_isFull_b64 sX7_isFull_b87 sX7_isFull_b113 sX7_isFull_b136
  rw [g79_0, g79_1, g79_2, g79_3, g79_4, g95_0, g105_0, g105_1, l1, l2, l3, l4, l5, w1, w2, wk]
  clear l1 l2 l3 l4 l5 w1 w2 wk h1 h2 h3 h4 h5
  rcases (show k = 0 ∨ k = 1 ∨ (2 ≤ k ∧ k < 12) ∨ (12 ≤ k ∧ k ≤ 17) ∨ (18 ≤ k ∧ k ≤ 21) ∨ k = 22 ∨ k = 23 ∨ k = 24 ∨ k = 25 ∨ k = 26 ∨ k = 27 by omega) with h | h | h | h | h | h | h | h | h | h | h
  · subst h
    rw [if_pos (show ((0 : Nat) : Int) = 0 from rfl), if_pos rfl]
    by_cases z : C 80 0 = 5
    · rw [if_neg (by omega), if_pos z]
    · rw [if_pos (by omega), if_neg z]
  · subst h
    rw [if_neg (show ¬ ((1 : Nat) : Int) = 0 by omega), if_pos (show ((1 : Nat) : Int) = 1 from rfl), if_neg (show ¬ (1 : Nat) = 0 by omega), if_pos rfl]
    by_cases z : C 80 3 = 8
    · rw [if_neg (by omega), if_pos z]
    · rw [if_pos (by omega), if_neg z]
  · rw [if_neg (show ¬ (k : Int) = 0 by omega), if_neg (show ¬ (k : Int) = 1 by omega), if_pos (show (k : Int) < 12 by omega), if_pos (show (k : Int) < 18 by omega), if_neg (show ¬ (k : Int) = 23 by omega), if_neg (show ¬ (k : Int) = 24 by omega), if_neg (show ¬ (k : Int) = 25 by omega), if_neg (show ¬ (k : Int) = 26 by omega), if_neg (show ¬ (k : Int) = 27 by omega), if_neg (show ¬ k = 0 by omega), if_neg (show ¬ k = 1 by omega), if_pos h.2]
  · rw [if_neg (show ¬ (k : Int) = 0 by omega), if_neg (show ¬ (k : Int) = 1 by omega), if_neg (show ¬ (k : Int) < 12 by omega), if_neg (show ¬ 17 < (k : Int) by omega), if_pos (i01 _ _), if_neg (show ¬ k = 0 by omega), if_neg (show ¬ k = 1 by omega), if_neg (show ¬ k < 12 by omega), if_pos h.2]; rfl
  · rw [if_neg (show ¬ (k : Int) = 0 by omega), if_neg (show ¬ (k : Int) = 1 by omega), if_neg (show ¬ (k : Int) < 12 by omega), if_pos (show 17 < (k : Int) by omega), if_neg (show ¬ (k : Int) < 18 by omega), if_neg (show ¬ 21 < (k : Int) by omega), if_pos (i01 _ _), if_neg (show ¬ k = 0 by omega), if_neg (show ¬ k = 1 by omega), if_neg (show ¬ k < 12 by omega), if_neg (show ¬ k ≤ 17 by omega), if_pos h.2]; rfl
  · subst h; rfl
  · subst h
    rw [if_neg (show ¬ ((23 : Nat) : Int) = 0 by omega), if_neg (show ¬ ((23 : Nat) : Int) = 1 by omega), if_neg (show ¬ ((23 : Nat) : Int) < 12 by omega), if_pos (show 17 < ((23 : Nat) : Int) by omega), if_neg (show ¬ ((23 : Nat) : Int) < 18 by omega), if_pos (show 21 < ((23 : Nat) : Int) by omega), if_pos (show ((23 : Nat) : Int) = 23 from rfl), if_pos (i01 _ _)]; rfl
  · subst h
    rw [if_neg (show ¬ ((24 : Nat) : Int) = 0 by omega), if_neg (show ¬ ((24 : Nat) : Int) = 1 by omega), if_neg (show ¬ ((24 : Nat) : Int) < 12 by omega), if_pos (show 17 < ((24 : Nat) : Int) by omega), if_neg (show ¬ ((24 : Nat) : Int) < 18 by omega), if_pos (show 21 < ((24 : Nat) : Int) by omega), if_neg (show ¬ ((24 : Nat) : Int) = 23 by omega), if_pos (show ((24 : Nat) : Int) = 24 from rfl), if_pos (i01 _ _)]; rfl
  · subst h
    rw [if_neg (show ¬ ((25 : Nat) : Int) = 0 by omega), if_neg (show ¬ ((25 : Nat) : Int) = 1 by omega), if_neg (show ¬ ((25 : Nat) : Int) < 12 by omega), if_pos (show 17 < ((25 : Nat) : Int) by omega), if_neg (show ¬ ((25 : Nat) : Int) < 18 by omega), if_pos (show 21 < ((25 : Nat) : Int) by omega), if_neg (show ¬ ((25 : Nat) : Int) = 23 by omega), if_neg (show ¬ ((25 : Nat) : Int) = 24 by omega), if_pos (show ((25 : Nat) : Int) = 25 from rfl), if_pos (i01 _ _)]; rfl
  · subst h
    rw [if_neg (show ¬ ((26 : Nat) : Int) = 0 by omega), if_neg (show ¬ ((26 : Nat) : Int) = 1 by omega), if_neg (show ¬ ((26 : Nat) : Int) < 12 by omega), if_pos (show 17 < ((26 : Nat) : Int) by omega), if_neg (show ¬ ((26 : Nat) : Int) < 18 by omega), if_pos (show 21 < ((26 : Nat) : Int) by omega), if_neg (show ¬ ((26 : Nat) : Int) = 23 by omega), if_neg (show ¬ ((26 : Nat) : Int) = 24 by omega), if_neg (show ¬ ((26 : Nat) : Int) = 25 by omega), if_pos (show ((26 : Nat) : Int) = 26 from rfl)]
    show (if wI (if C 110 4 = 15 then 1 else 0) = 0 then some (0 : Int) else some 1) = some (if C 110 4 = 15 then 1 else 0)
    by_cases z : C 110 4 = 15
    · rw [if_pos z, i10]
    · rw [if_neg z, i00]
  · subst h
    rw [if_neg (show ¬ ((27 : Nat) : Int) = 0 by omega), if_neg (show ¬ ((27 : Nat) : Int) = 1 by omega), if_neg (show ¬ ((27 : Nat) : Int) < 12 by omega), if_pos (show 17 < ((27 : Nat) : Int) by omega), if_neg (show ¬ ((27 : Nat) : Int) < 18 by omega), if_pos (show 21 < ((27 : Nat) : Int) by omega), if_neg (show ¬ ((27 : Nat) : Int) = 23 by omega), if_neg (show ¬ ((27 : Nat) : Int) = 24 by omega), if_neg (show ¬ ((27 : Nat) : Int) = 25 by omega), if_neg (show ¬ ((27 : Nat) : Int) = 26 by omega), if_pos (show ((27 : Nat) : Int) = 27 from rfl)]
    show (if wI (if C 110 4 = 15 then 1 else 0) = 0 then some (0 : Int) else some 1) = some (if C 110 4 = 15 then 1 else 0)
    by_cases z : C 110 4 = 15
    · rw [if_pos z, i10]
    · rw [if_neg z, i00]
theorem hok_p {C : MM} {k i : Nat} {lo up : Int} (ha : (sT 2).getD (4 * k + i) 0 = lo) (hb : (sT 3).getD (4 * k + i) 0 = up) (hn : ¬ ((k = 3 ∨ k = 4) ∧ i = 1)) : ∀ v : Int, 0 ≤ v → v ≤ 99 → (okC (mU C 114 i v) k i ↔ (lo ≤ v ∧ v ≤ up ∧ v ≠ -1)) := by
  intro v v1 v2
  unfold okC
  rw [ha, hb, mU_eq]
  clear ha hb
  constructor
  · intro h; exact ⟨h.1, h.2.1, by omega⟩
  · intro h; exact ⟨h.1, h.2.1, fun a b => absurd ⟨a, b⟩ hn⟩
theorem outF {T : Nat → Int} {L s k f0 g : Nat} {C0 R0 C' R' : MM} {rc rr : Option (Int × MM)} (hrc : rc = some (0, C')) (hrr : rr = some (0, R')) (h1 : C' 79 9 = (g : Int)) (h2 : R' 359 17 = (g : Int)) (hH : HM C0) (h3 : WA C0 C') (h4 : XB R0 R') : OUT T L s k f0 C0 R0 rc rr := Or.inl ⟨C', R', g, hrc, hrr, h1, h2, WA_X h3, h4, HM_c hH (fun a ha hb => h3.1 a (by omega) (by omega))⟩
theorem i1f {p : Prop} [Decidable p] : ((if p then (1 : Int) else 0) = 1 ↔ p) := by
  by_cases h : p
  · rw [if_pos h]; exact ⟨fun _ => h, fun _ => rfl⟩
  · rw [if_neg h]; exact ⟨fun z => absurd z (by decide), fun z => absurd z h⟩
theorem XB_u {R R' : MM} {j : Nat} {x : Int} (h : XB R R') : XB R (mU R' 359 j x) := fun a h1 h2 h3 => by rw [mU_row _ _ h1]; exact h a h1 h2 h3
theorem kl_23 {T : Nat → Int} {L f t : Nat} {C R : MM} (h : LNP T L 3 f t C R) : OUT T L 3 23 f C R (sX7_readsLine_b18 79 1 ((3 : Nat) : Int) ((23 : Nat) : Int) C) (sX12_groundLine 359 1717922924 (f : Int) R) := by
  obtain ⟨hE, hT, hF, hB, hH, hD, hg⟩ := h
  have hfu : sX7_isFull 79 ((23 : Nat) : Int) C = some (if C 101 4 = 25 then 1 else 0) := fu_e hH (by omega)
  have hB0 := hB.1
  have hB1 : R 370 0 ≤ 25 := hB.2.1
  have hd : C 79 5 = 0 → DC C 101 (R 370) ∧ DV (R 370) := fun z => hD z
  obtain ⟨C0, Q, R0, f0, t0, k0, a1, a2, a3, aE, aT, aF, aff, aW, aV, a23, a371, aD⟩ := headF (s := ((3 : Nat) : Int)) (k := 23) (c := 0) (most := 25) hE hT hF (by omega) hfu (i01 _ _) (fun z => by rw [i1f, (hd z).1.1]) ⟨by omega, by omega⟩ ⟨by omega, by omega⟩ (by omega)
  generalize hrr : sX12_groundLine 359 1717922924 (f : Int) R = rr
  generalize hrc : sX7_readsLine_b18 79 1 ((3 : Nat) : Int) ((23 : Nat) : Int) C = rc
  rw [a1] at hrc
  unfold sX12_groundLine sX12_groundLine_b0 at hrr
  rw [if_pos (show wJ 1717922924 = 1717922924 by decide +kernel), show sX12_full 359 0 25 (f : Int) R = some Q from a2, ob_s, a3, ob_s] at hrr
  rcases num2 aE aT aF (s := ((3 : Nat) : Int)) (k := 23) (i := 0) (r := 0) (lo := 0) (up := 24) (bu := -1) (by omega) (by decide) (by omega) (fun z => absurd rfl z) ⟨by omega, by omega⟩ ⟨by omega, by omega⟩ ⟨by omega, by omega⟩ (hok_p (by decide +kernel) (by decide +kernel) (by omega)) 99999 with ⟨x1, x2⟩ | ⟨C1, R1, f1, t1, k1, v0, x1, x2, bE, bT, bF, b1, b2, b3, b4, b5, b6, b7, b8, b9⟩
  · rw [show sX12_take 359 0 0 24 R0 = _ from take0 x2] at hrr
    exact outF (R' := mU R0 359 17 (f0 : Int)) (hrc.symm.trans x1) (hrr.symm.trans rfl) aT.1.1 (mU_eq _ _ _ _) hH aW (XB_u (WB_X aV))
  rw [show sX12_take 359 0 0 24 R0 = _ from take1 x2, ob_s] at hrr
  dsimp only at hrr
  rw [i10] at hrr
  have hrc := hrc.symm.trans x1
  rcases num2 bE bT bF (s := ((3 : Nat) : Int)) (k := 23) (i := 1) (r := 1) (lo := 1) (up := 9) (bu := -1) (by omega) (by decide) (by omega) (fun z => by rw [b5]; exact ⟨by omega, by omega⟩) ⟨by omega, by omega⟩ ⟨by omega, by omega⟩ ⟨by omega, by omega⟩ (hok_p (by decide +kernel) (by decide +kernel) (by omega)) 99998 with ⟨x1, x2⟩ | ⟨C2, R2, f2, t2, k2, v1, x1, x2, cE, cT, cF, c1, c2, c3, c4, c5, c6, c7, c8, c9⟩
  · rw [show sX12_take 359 1 1 9 R1 = _ from take0 x2] at hrr
    exact outF (R' := mU R1 359 17 (f1 : Int)) (hrc.trans x1) (hrr.symm.trans rfl) bT.1.1 (mU_eq _ _ _ _) hH (WA_t aW (WA_n b3)) (XB_u (WB_X (WB_t aV (WB_n b4))))
  rw [show sX12_take 359 1 1 9 R1 = _ from take1 x2, ob_s] at hrr
  dsimp only at hrr
  rw [i10] at hrr
  have hrc := (hrc.trans x1).trans (numE (k := 23) (by omega) 99997)
  have wA : WA C C2 := WA_t aW (WA_t (WA_n b3) (WA_n c3))
  have wB : WB R R2 := WB_t aV (WB_t (WB_n b4) (WB_n c4))
  have w370 : R2 370 = R 370 := wB.1 370 (by omega) (by omega)
  have hv0 : C2 114 0 = v0 := by rw [c3 114 0 (by omega) (by omega)]; exact b5
  have hr0 : R2 371 0 = v0 := by rw [c4 371 0 (by omega) (by omega)]; exact b6
  obtain ⟨n, hn⟩ := Int.eq_ofNat_of_zero_le hB0
  have h5 : C2 79 5 = 0 → (C 79 5 = 0 ∧ R 370 0 ≠ 25) ∧ (0 ≤ v0 ∧ v0 ≤ 24) ∧ 1 ≤ v1 ∧ v1 ≤ 9 := by
    intro z
    rcases c9 with ⟨d1, d2, d3, d4, d5⟩ | ⟨d1, d2, d3⟩
    · rw [d4] at z
      rcases b9 with ⟨e1, e2, e3, e4, e5⟩ | ⟨e1, e2, e3⟩
      · rw [e4] at z; exact ⟨aD z, ⟨e1, e2⟩, d1, d2⟩
      · exact absurd z e2
    · exact absurd z d2
  by_cases hmost : R 370 0 = 25
  · have ek : sX12_keep 359 0 1 2 25 R2 = some R2 := by
      unfold sX12_keep sX12_keep_b0
      rw [show wI 0 = 0 from wI_0, if_pos (by omega), g359_20, show (0 : Int).toNat = 0 from rfl, w370, hmost, if_pos rfl]
    rw [ek, ob_s] at hrr
    refine Or.inr ⟨C2, R2, f2, t2, k2, hrc, hrr.symm, cE, cT, cF, by omega, RB_c hB w370 wB.2, WA_X wA, WB_X wB, HM_c hH (fun a ha hb => wA.1 a (by omega) (by omega)), fun z => absurd hmost (h5 z).1.2⟩
  · have ek := keepB (R := R2) (c := 0) (n := n) (p := 1 + 2 * n) (w := 2) (fr := 1) (most := 25) (by omega) (by rw [w370]; exact hn) (by omega) (by omega) (by omega) (by omega)
    rw [show sX12_keep 359 0 1 2 25 R2 = _ from ek, ob_s] at hrr
    have hrow : ∀ a, a ≠ 370 → mU (kpR R2 (1 + 2 * n) 2) 370 0 ((n : Int) + 1) a = R2 a := fun a ha => kp_r ha
    refine Or.inr ⟨C2, _, f2, t2, k2, hrc, hrr.symm, ENV_c cE rfl rfl (by rw [hrow _ (by omega)]) (hrow _ (by omega)), ?_, FF_c cF (Nat.le_refl _) rfl rfl (by rw [hrow _ (by omega)]) (by rw [hrow _ (by omega)]), by omega, ?_, WA_X wA, ?_, HM_c hH (fun a ha hb => wA.1 a (by omega) (by omega)), fun z C'' hC => ?_⟩
    · unfold TT
      rw [hrow 359 (by omega)]; exact cT
    · refine ⟨by rw [kp_c]; omega, ?_, fun z => absurd z (by omega), fun z => absurd z (by omega), ?_⟩
      · rw [kp_c]; show (n : Int) + 1 ≤ 25; omega
      · rw [hrow 359 (by omega), wB.2]; exact hB.2.2.2.2
    · intro a g1 g2 g3
      rw [hrow a g2]; exact WB_X wB a g1 g2 g3
    · obtain ⟨⟨z1, z2⟩, z3, z4⟩ := h5 z
      have hrw : ∀ a, a ≠ 79 → a ≠ 114 → C'' a = C a := fun a g1 g2 => by rw [FA_row hC g1]; exact wA.1 a g1 g2
      have hC0 : C'' 114 0 = v0 := by rw [FA_row hC (by omega)]; exact hv0
      have hC1 : C'' 114 1 = v1 := by rw [FA_row hC (by omega)]; exact c5
      have hd0 := hd z1
      have hdc : DC C'' 101 (R 370) := DC_c (fun j hj => hrw _ (by omega) (by omega)) hd0.1
      have hcn : C'' 101 4 = (n : Int) := by rw [hdc.1]; exact hn
      have hl := addL (C := C'') (q := 101) (m := 25) (n := n) (x := 0) (y := v0) (z := v1) LG_101 (by rw [hrw _ (by omega) (by omega)]; exact hH.1.2.2.1) hcn (by omega) (by omega)
      refine ⟨aL C'' 101 n 0 v0 v1, ?_, ?_, ?_, fun a ha => aL_f (by omega), fun j hj => by rw [aL_f (by omega)]⟩
      · unfold sX7_keep sX7_keep_b0
        rw [show wI ((23 : Nat) : Int) = 23 by decide +kernel, if_pos (by omega), if_pos (by omega), if_neg (by omega), if_pos (by omega), if_neg (by omega), if_pos rfl, g79_3, g79_7, hC0, hC1, hl, ob_s]
      · show DC _ 101 _ ∧ DV _
        exact DC_a ⟨hdc, hd0.2⟩ hn (by omega) ⟨z3.1, z3.2, z4.1, z4.2⟩ kp_c ((kp_i (i := 0) (by omega) (by omega)).trans hr0) (by rw [show 2 + 2 * n = 1 + 2 * n + 1 by omega, kp_i (by omega) (by omega)]; exact c6) (fun j hj hj' => by rw [kp_o hj (by omega), w370])
      · obtain ⟨⟨q1, q2, q3, q4, q5⟩, q6, q7, q8, q9, q10, q11, q12⟩ := HM_c hH (C' := C'') (fun a ha hb => hrw a (by omega) (by omega))
        unfold HM
        rw [aL_f (a := 91) (by omega), aL_f (a := 96) (by omega), aL_f (a := 106) (by omega), aL_f (a := 110) (by omega), aL_f (a := 80) (by omega), aL_0 (by omega), aL_4]
        exact ⟨⟨q1, q2, q3, q4, q5⟩, q6, q7, q8, q9, by omega, q11, q12⟩
