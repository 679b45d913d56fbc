/-- bounds of the class's drafts -/
def HM (C : MM) : Prop := (C 91 0 = 40 ∧ C 96 0 = 8 ∧ C 101 0 = 25 ∧ C 106 0 = 40 ∧ C 110 0 = 15) ∧ (0 ≤ C 80 0 ∧ C 80 0 ≤ 5) ∧ (0 ≤ C 80 3 ∧ C 80 3 ≤ 8) ∧ (0 ≤ C 91 4 ∧ C 91 4 ≤ 40) ∧ (0 ≤ C 96 4 ∧ C 96 4 ≤ 8) ∧ (0 ≤ C 101 4 ∧ C 101 4 ≤ 25) ∧ (0 ≤ C 106 4 ∧ C 106 4 ≤ 40) ∧ 0 ≤ C 110 4 ∧ C 110 4 ≤ 15
theorem HM_c {C C' : MM} (h : HM C) (e : ∀ a, 80 ≤ a → a ≤ 113 → C' a = C a) : HM C' := by
  unfold HM
  rw [e 91 (by omega) (by omega), e 96 (by omega) (by omega), e 101 (by omega) (by omega), e 106 (by omega) (by omega), e 110 (by omega) (by omega), e 80 (by omega) (by omega)]
  exact h
def m0 (s : Nat) : Int := if s = 0 then 5 else if s = 2 then 8 else if s = 3 then 25 else 40
def RB (s : Nat) (R : MM) : Prop := 0 ≤ R 370 0 ∧ R 370 0 ≤ m0 s ∧ (s = 0 → 0 ≤ R 370 1 ∧ R 370 1 ≤ 8) ∧ (s = 4 → 0 ≤ R 370 1 ∧ R 370 1 ≤ 15) ∧ -1 ≤ R 359 22 ∧ R 359 22 ≤ 99
/-- children told of: a set of bits, and the greatest -/
def tpB (x : Int) : Int := if x < 1 then -1 else if x < 2 then 0 else if x < 4 then 1 else if x < 8 then 2 else if x < 16 then 3 else if x < 32 then 4 else if x < 64 then 5 else if x < 128 then 6 else 7
def NR (x far : Int) : Prop := (0 ≤ x ∧ x < 256) ∧ far = tpB x
theorem tp_o : ∀ x, x < 256 → ∀ v, v < 8 → tpB (oI ((x : Nat) : Int) (1 * 2 ^ v)) = max (tpB ((x : Nat) : Int)) ((v : Nat) : Int) := by decide +kernel
theorem tp_s : ∀ x, x < 256 → ∀ n, n < 9 → (((x : Nat) : Int) % 4294967296 / 2 ^ n = 0 ↔ tpB ((x : Nat) : Int) < ((n : Nat) : Int)) ∧ ((x : Nat) : Int) % 4294967296 / 2 ^ n < 256 := by decide +kernel
theorem NR_o {x far : Int} {v : Nat} (h : NR x far) (hv : v < 8) : NR (oI x (1 * 2 ^ v)) (max far (v : Int)) := by
  obtain ⟨⟨h1, h2⟩, h3⟩ := h
  obtain ⟨n, rfl⟩ := Int.eq_ofNat_of_zero_le h1
  exact ⟨oI_8 ⟨h1, h2⟩ hv, by rw [h3]; exact (tp_o n (by omega) v hv).symm⟩
theorem oI_a (x a b : Int) : oI x (oI a b) = oI (oI x a) b := by
  unfold oI
  rw [eI_of, eI_of, Int32.or_assoc]
theorem tp_r (x : Int) : -1 ≤ tpB x ∧ tpB x ≤ 7 := by
  unfold tpB
  repeat' split
  all_goals omega
def DR (s : Nat) (C R : MM) : Prop := if s = 0 then (PC C 80 (R 370) ∧ PVd (R 370)) ∧ NR (C 79 12) (R 359 22) else if s = 1 then BC C 91 (R 370) ∧ BV (R 370) else if s = 2 then CC C 95 (R 370) ∧ CV (R 370) else if s = 3 then DC C 101 (R 370) ∧ DV (R 370) else RC C 105 (R 370) ∧ RV (R 370)
theorem DR_c {s : Nat} {C R C' R' : MM} (h : DR s C R) (e : ∀ a, 80 ≤ a → a ≤ 113 → C' a = C a) (e1 : C' 79 12 = C 79 12) (e2 : R' 370 = R 370) (e3 : R' 359 22 = R 359 22) : DR s C' R' := by
  unfold DR at h ⊢
  rw [e1, e2, e3]
  by_cases h0 : s = 0
  · rw [if_pos h0] at h ⊢
    exact ⟨⟨PC_c (fun j hj => e _ (by omega) (by omega)) h.1.1, h.1.2⟩, h.2⟩
  · rw [if_neg h0] at h ⊢
    by_cases h1 : s = 1
    · rw [if_pos h1] at h ⊢; exact ⟨BC_c (fun j hj => e _ (by omega) (by omega)) h.1, h.2⟩
    · rw [if_neg h1] at h ⊢
      by_cases h2 : s = 2
      · rw [if_pos h2] at h ⊢
        refine ⟨?_, h.2⟩
        unfold CC
        rw [e (95 + 1) (by omega) (by omega), e (95 + 2) (by omega) (by omega), e (95 + 3) (by omega) (by omega), e (95 + 4) (by omega) (by omega), e (95 + 5) (by omega) (by omega)]
        exact h.1
      · rw [if_neg h2] at h ⊢
        by_cases h3 : s = 3
        · rw [if_pos h3] at h ⊢; exact ⟨DC_c (fun j hj => e _ (by omega) (by omega)) h.1, h.2⟩
        · rw [if_neg h3] at h ⊢; exact ⟨RC_c (fun j hj => e _ (by omega) (by omega)) h.1, h.2⟩
theorem RB_c {s : Nat} {R R' : MM} (h : RB s R) (e2 : R' 370 = R 370) (e3 : R' 359 22 = R 359 22) : RB s R' := by
  unfold RB
  rw [e2, e3]; exact h
/-- what a run of the reader leaves -/
def XA (C C' : MM) : Prop := ∀ a, a < 79 ∨ 114 < a → C' a = C a
def XB (R R' : MM) : Prop := ∀ a, a ≠ 359 → a ≠ 370 → a ≠ 371 → R' a = R a
theorem XA_r {C : MM} : XA C C := fun _ _ => rfl
theorem XB_r {C : MM} : XB C C := fun _ _ _ _ => rfl
theorem XA_t {C C' C'' : MM} (h : XA C C') (h' : XA C' C'') : XA C C'' := fun a ha => (h' a ha).trans (h a ha)
theorem XB_t {C C' C'' : MM} (h : XB C C') (h' : XB C' C'') : XB C C'' := fun a h1 h2 h3 => (h' a h1 h2 h3).trans (h a h1 h2 h3)
/-- within a line, before its draft is kept -/
def WA (C C' : MM) : Prop := (∀ a, a ≠ 79 → a ≠ 114 → C' a = C a) ∧ C' 79 12 = C 79 12
def WB (R R' : MM) : Prop := (∀ a, a ≠ 359 → a ≠ 371 → R' a = R a) ∧ R' 359 22 = R 359 22
theorem WA_t {C C' C'' : MM} (h : WA C C') (h' : WA C' C'') : WA C C'' := ⟨fun a h1 h2 => (h'.1 a h1 h2).trans (h.1 a h1 h2), h'.2.trans h.2⟩
theorem WB_t {C C' C'' : MM} (h : WB C C') (h' : WB C' C'') : WB C C'' := ⟨fun a h1 h2 => (h'.1 a h1 h2).trans (h.1 a h1 h2), h'.2.trans h.2⟩
theorem WA_n {i : Nat} {C C' : MM} (h : NA i C C') : WA C C' := ⟨fun a h1 h2 => funext fun j => h a j (by omega) (by omega), h 79 12 (by omega) (by omega)⟩
theorem WB_n {i : Nat} {C C' : MM} (h : NB i C C') : WB C C' := ⟨fun a h1 h2 => funext fun j => h a j (by omega) (by omega), h 359 22 (by omega) (by omega)⟩
theorem WA_f {C C' : MM} (h : FA C C') : WA C C' := ⟨fun a h1 _ => FA_row h h1, h 79 12 (by omega)⟩
theorem WB_f {C C' : MM} (h : FB C C') : WB C C' := ⟨fun a h1 _ => FB_row h h1, h 359 22 (by omega)⟩
theorem WA_g {C C' : MM} (h : GFa C C') : WA C C' := ⟨fun a h1 _ => funext fun j => h a j (by omega), h 79 12 (by omega)⟩
theorem WB_g {C C' : MM} (h : GFb C C') : WB C C' := ⟨fun a h1 _ => funext fun j => h a j (by omega), h 359 22 (by omega)⟩
theorem WA_r {C : MM} : WA C C := ⟨fun _ _ _ => rfl, rfl⟩
theorem WB_r {C : MM} : WB C C := ⟨fun _ _ _ => rfl, rfl⟩
theorem WA_X {C C' : MM} (h : WA C C') : XA C C' := fun a ha => h.1 a (by omega) (by omega)
theorem WB_X {C C' : MM} (h : WB C C') : XB C C' := fun a h1 _ h3 => h.1 a h1 h3
theorem noF {f : Nat} {C R : MM} (h : FF f C R) (hf : f ≤ 600) (h5 : C 79 5 ≠ 0) {x : Int} (hx : x = 2 ∨ x = 3) : sX7_blame 79 x (f : Int) C = some C ∧ sX12_later 359 x (f : Int) R = some R := by
  obtain ⟨h1, h2⟩ := h
  unfold sX7_blame sX7_blame_b0 sX12_later sX12_later_b0
  rw [h1]
  rcases h2 with ⟨z1, z2⟩ | ⟨z1, z2, q, z3, z4⟩
  · exact absurd z1 h5
  · have e0 : R 359 18 = 2 ∨ R 359 18 = 3 := by rw [← h1]; exact z1
    have d1 : ¬ R 359 18 = 0 := by omega
    have d2 : ¬ (f : Int) < (q : Int) := by omega
    have d3 : ¬ (f : Int) = (q : Int) := by omega
    have e1 : wI (R 359 18) = R 359 18 := wI_of (by omega) (by omega)
    rw [e1, z3, wI_of (x := (f : Int)) (by omega) (by omega), wI_of (x := (q : Int)) (by omega) (by omega), if_neg d1, if_neg d1, if_neg d2, if_neg d3]
    exact ⟨rfl, rfl⟩
theorem headF {T : Nat → Int} {L f t : Nat} {C R : MM} {s : Int} {k c : Nat} {most b : Int} (hE : ENV T L C R) (hT : TT T L f t 1 C R) (hF : FF f C R) (hk : k < 28) (hfull : sX7_isFull 79 (k : Int) C = some b) (hb : b = 0 ∨ b = 1) (hD : C 79 5 = 0 → (b = 1 ↔ R 370 c = most)) (rc : R32 (R 370 c)) (rm : R32 most) (hc : c < 132) : ∃ C' Q R' f' t' kk, sX7_readsLine_b18 79 1 s (k : Int) C = sX7_readsLine_b56 79 1 s FU (k : Int) 0 C' ∧ sX12_full 359 (c : Int) most (f : Int) R = some Q ∧ sX12_token 359 Q = some R' ∧ ENV T L C' R' ∧ TT T L f' t' kk C' R' ∧ FF f' C' R' ∧ f < f' ∧ WA C C' ∧ WB R R' ∧ R' 359 23 = R 359 23 ∧ R' 371 = R 371 ∧ (C' 79 5 = 0 → C 79 5 = 0 ∧ R 370 c ≠ most) := by
  obtain ⟨⟨t1, t2, t3⟩, ⟨u1, u2, u3⟩, _, t5, t6, t7, t8, t9⟩ := hT
  have hL := hE.2.2.1
  have hft := t7 (by omega)
  clear u3 t3
  have c1 : (0 : Int) ≤ (c : Int) ∧ (c : Int) < 132 := ⟨by omega, by omega⟩
  have c2 : ¬ (k : Int) < 0 := by omega
  have c3 : (k : Int) < 28 := by omega
  have hmid : ∃ C1 Q, (if wI b = 0 then sX7_readsLine_b48 79 1 s (k : Int) C else (sX7_blame 79 3 (C 79 9) C).bind fun q_5 => sX7_readsLine_b48 79 1 s (k : Int) q_5) = sX7_readsLine_b48 79 1 s (k : Int) C1 ∧ sX12_full 359 (c : Int) most (f : Int) R = some Q ∧ FF (f + 1) C1 Q ∧ GFa C C1 ∧ GFb R Q ∧ (C1 79 5 = 0 → C 79 5 = 0 ∧ R 370 c ≠ most) := by
    have w1 : wI (R 370 c) = R 370 c := wI_of rc.1 rc.2
    have w2 : wI most = most := wI_of rm.1 rm.2
    have w3 : wI (c : Int) = (c : Int) := wI_of (by omega) (by omega)
    unfold sX12_full sX12_full_b0
    rw [w3, if_pos c1, g359_20, tN, w1, w2, t1]
    by_cases h5 : C 79 5 = 0
    · have hd := hD h5
      rcases hb with rfl | rfl
      · have hne : ¬ R 370 c = most := fun z => absurd (hd.mpr z) (by decide)
        rw [i00, if_neg hne]
        exact ⟨C, R, rfl, rfl, FF_c hF (Nat.le_succ f) rfl rfl rfl rfl, fun _ _ _ => rfl, fun _ _ _ => rfl, fun _ => ⟨h5, hne⟩⟩
      · have he : R 370 c = most := hd.mp rfl
        obtain ⟨C1, Q, d1, d2, d3, d4, d5, d6⟩ := bl2 hF (by omega) (x := 3) (Or.inr rfl)
        rw [i10, if_pos he, d1, d2, ob_s, ob_s]
        exact ⟨C1, Q, rfl, rfl, d3, d5, d6, fun z => absurd z d4⟩
    · obtain ⟨n1, n2⟩ := noF hF (by omega) h5 (x := 3) (Or.inr rfl)
      have eA : (if wI b = 0 then sX7_readsLine_b48 79 1 s (k : Int) C else (sX7_blame 79 3 (f : Int) C).bind fun q_5 => sX7_readsLine_b48 79 1 s (k : Int) q_5) = sX7_readsLine_b48 79 1 s (k : Int) C := by
        by_cases z : wI b = 0
        · rw [if_pos z]
        · rw [if_neg z, n1, ob_s]
      have eB : (if R 370 c = most then (sX12_later 359 3 (f : Int) R).bind fun q_4 => some q_4 else some R) = some R := by
        by_cases z : R 370 c = most
        · rw [if_pos z, n2, ob_s]
        · rw [if_neg z]
      rw [eA, eB]
      exact ⟨C, R, rfl, rfl, FF_c hF (Nat.le_succ f) rfl rfl rfl rfl, fun _ _ _ => rfl, fun _ _ _ => rfl, fun z => absurd z h5⟩
  obtain ⟨C1, Q, m1, m2, m3, m4, m5, m6⟩ := hmid
  have hE1 : ENV T L C1 Q := ENV_c hE (funext fun j => m4 1 j (by omega)) (funext fun j => m4 2 j (by omega)) (m5 359 12 (by omega)) (funext fun j => m5 360 j (by omega))
  obtain ⟨C', R', f', t', kk, a1, a2, a3, a4, a5, a6, a7⟩ := tok2 (p := t) hE1 (by rw [m4 _ _ (by omega)]; exact t2) (by rw [m5 _ _ (by omega)]; exact u2) t6.2
  have e18 : sX7_readsLine_b18 79 1 s (k : Int) C = sX7_readsLine_b56 79 1 s FU (k : Int) 0 C' := by
    have w4 : wI (k : Int) = (k : Int) := wI_of (by omega) (by omega)
    unfold sX7_readsLine_b18
    rw [w4, if_neg c2, if_pos c3, hfull, ob_s, m1]
    unfold sX7_readsLine_b48
    rw [a1, ob_s]
  refine ⟨C', Q, R', f', t', kk, e18, m2, a2, a7, a3, FF_c m3 (by omega) (a5 _ _ (by omega)) (a5 _ _ (by omega)) (a6 _ _ (by omega)) (a6 _ _ (by omega)), by omega, WA_t (WA_g m4) (WA_f a5), WB_t (WB_g m5) (WB_f a6), ?_, ?_, fun z => m6 ?_⟩
  · rw [a6 _ _ (by omega), m5 _ _ (by omega)]
  · rw [FB_row a6 (by omega)]; exact funext fun j => m5 371 j (by omega)
  · rw [← a5 79 5 (by omega)]; exact z
theorem head0 {T : Nat → Int} {L f t : Nat} {C R : MM} {s : Int} {k : Nat} (hE : ENV T L C R) (hT : TT T L f t 1 C R) (hF : FF f C R) (hk : k < 28) (hfull : sX7_isFull 79 (k : Int) C = some 0) : ∃ C' R' f' t' kk, sX7_readsLine_b18 79 1 s (k : Int) C = sX7_readsLine_b56 79 1 s FU (k : Int) 0 C' ∧ sX12_token 359 R = some R' ∧ ENV T L C' R' ∧ TT T L f' t' kk C' R' ∧ FF f' C' R' ∧ f < f' ∧ WA C C' ∧ WB R R' ∧ R' 359 23 = R 359 23 ∧ R' 371 = R 371 ∧ (C' 79 5 = 0 → C 79 5 = 0) := by
  obtain ⟨⟨t1, t2, t3⟩, ⟨u1, u2, u3⟩, _, t5, t6, t7, t8, t9⟩ := hT
  have hL := hE.2.2.1
  have hft := t7 (by omega)
  clear u3 t3
  have c2 : ¬ (k : Int) < 0 := by omega
  have c3 : (k : Int) < 28 := by omega
  obtain ⟨C', R', f', t', kk, a1, a2, a3, a4, a5, a6, a7⟩ := tok2 (p := t) hE t2 u2 t6.2
  have e18 : sX7_readsLine_b18 79 1 s (k : Int) C = sX7_readsLine_b56 79 1 s FU (k : Int) 0 C' := by
    have w4 : wI (k : Int) = (k : Int) := wI_of (by omega) (by omega)
    unfold sX7_readsLine_b18
    rw [w4, if_neg c2, if_pos c3, hfull, ob_s, i00]
    unfold sX7_readsLine_b48
    rw [a1, ob_s]
  refine ⟨C', R', f', t', kk, e18, a2, a7, a3, FF_c hF (by omega) (a5 _ _ (by omega)) (a5 _ _ (by omega)) (a6 _ _ (by omega)) (a6 _ _ (by omega)), by omega, WA_f a5, WB_f a6, a6 _ _ (by omega), FB_row a6 (by omega), fun z => ?_⟩
  rw [← a5 79 5 (by omega)]; exact z
theorem numE {C : MM} {s : Int} {k : Nat} (hk : k < 28) (n : Nat) : sX7_readsLine_b56 79 1 s (n + 1) (k : Int) ((nK k : Nat) : Int) C = sX7_readsLine_b123 79 1 s (k : Int) C := by
  obtain ⟨n1, n2⟩ := nK_e k hk
  have c1 : (0 : Int) ≤ (k : Int) ∧ (k : Int) < 28 := ⟨by omega, by omega⟩
  rw [sX7_readsLine_b56, wI_of (x := (k : Int)) (by omega) (by omega), if_pos c1, tN, n1, if_pos (Int.le_refl _)]
theorem take0 {R R' : MM} {x lo up : Int} (h : sX12_takeBut 359 x lo up (-1) R = some (0, R')) : sX12_take 359 x lo up R = some (0, R') := by
  unfold sX12_take sX12_take_b0
  rw [h, ob_s]; exact if_pos (Or.inl rfl)
theorem take1 {R R' : MM} {x lo up : Int} (h : sX12_takeBut 359 x lo up (-1) R = some (1, R')) : sX12_take 359 x lo up R = some (1, R') := by
  unfold sX12_take sX12_take_b0
  rw [h, ob_s]; exact if_pos (Or.inr rfl)
/-- what a line comes to: either both fail, or both stand before what should be the semicolon -/
def OUT (T : Nat → Int) (L s k f0 : Nat) (C0 R0 : MM) (rc rr : Option (Int × MM)) : Prop := (∃ C' R', ∃ g : Nat, rc = some (0, C') ∧ rr = some (0, R') ∧ C' 79 9 = (g : Int) ∧ R' 359 17 = (g : Int) ∧ XA C0 C' ∧ XB R0 R' ∧ HM C') ∨ (∃ C' R' f t kk, rc = sX7_readsLine_b123 79 1 (s : Int) (k : Int) C' ∧ rr = some (1, R') ∧ ENV T L C' R' ∧ TT T L f t kk C' R' ∧ FF f C' R' ∧ f0 < f ∧ RB s R' ∧ XA C0 C' ∧ XB R0 R' ∧ HM C' ∧ (C' 79 5 = 0 → ∀ C'', FA C' C'' → ∃ C3, sX7_keep 79 (k : Int) C'' = some C3 ∧ DR s C3 R' ∧ HM C3 ∧ XA C'' C3 ∧ ∀ j, j ≠ 12 → C3 79 j = C'' 79 j))
/-- before a line of kind k -/
def LNP (T : Nat → Int) (L s f t : Nat) (C R : MM) : Prop := ENV T L C R ∧ TT T L f t 1 C R ∧ FF f C R ∧ RB s R ∧ HM C ∧ (C 79 5 = 0 → DR s C R) ∧ R 359 23 = 1
theorem fu_l {C : MM} {q m : Nat} (e0 : C q 0 = (m : Int)) (e4 : 0 ≤ C q 4 ∧ C q 4 ≤ (m : Int)) (hm : m ≤ 40) : sX3_isFull q C = if C q 4 = (m : Int) then 1 else 0 := by
  unfold sX3_isFull sX3_isFull_b0
  rw [e0, wI_of (x := C q 4) (by omega) (by omega), wI_of (x := (m : Int)) (by omega) (by omega)]
  by_cases h : C q 4 = (m : Int)
  · rw [if_pos h, if_neg (by omega)]
  · rw [if_neg h, if_pos (by omega)]
theorem i01 (x y : Int) : (if x = y then (1 : Int) else 0) = 0 ∨ (if x = y then (1 : Int) else 0) = 1 := by split <;> simp
