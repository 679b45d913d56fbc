theorem fa_tab : ∀ a, a < 8 → ∀ b, b < 8 → sX11_farOf ((a : Nat) : Int) ((b : Nat) : Int) = sX12_apart (a : Int) (b : Int) ∧ 0 ≤ sX12_apart (a : Int) (b : Int) ∧ sX12_apart (a : Int) (b : Int) ≤ 4 := by decide +kernel
theorem fa_e {a b : Int} (ha : 0 ≤ a ∧ a ≤ 7) (hb : 0 ≤ b ∧ b ≤ 7) : sX11_farOf a b = sX12_apart a b ∧ 0 ≤ sX12_apart a b ∧ sX12_apart a b ≤ 4 := by
  obtain ⟨x, rfl⟩ := Int.eq_ofNat_of_zero_le ha.1
  obtain ⟨y, rfl⟩ := Int.eq_ofNat_of_zero_le hb.1
  exact fa_tab x (by omega) y (by omega)
/-- what clue k makes of way w -/
def tbP (R : Nat → Int) (k : Nat) (w : Int) : Int := if R (9 + 3 * k) = 0 then (if sX12_apart (R (11 + 3 * k)) w = 0 then 7 * R (1 + (R (10 + 3 * k)).toNat) else 10 - R (1 + (R (10 + 3 * k)).toNat)) else if R (9 + 3 * k) = 1 then (if sX12_apart (R (11 + 3 * k)) w < 2 then 0 else 1) else if R (9 + 3 * k) = 2 then (if sX12_apart (R (11 + 3 * k)) w = 1 then 1 else 0) else (if sX12_apart (R (11 + 3 * k)) w = 0 then 1 else 0)
theorem tb_b {R : Nat → Int} (hv : CV R) {k : Nat} (hk : (k : Int) < R 0) (w : Int) : 0 ≤ tbP R k w ∧ tbP R k w ≤ 70 := by
  have h := hv.2.2.1 k hk
  unfold tbP
  by_cases z : R (9 + 3 * k) = 0
  · have t := hv.2.2.2 (R (10 + 3 * k)).toNat (by have := h.2.2.2.2.1 z; omega)
    rw [if_pos z]
    split <;> omega
  · rw [if_neg z]
    split
    · split <;> omega
    · split
      · split <;> omega
      · split <;> omega
theorem timesA {M : MM} {c : Nat} {R : Nat → Int} (hc : CC M c R) (hv : CV R) (hl : LG (c + 1) 8) (g0 : gR c 0 = c + 1) (g1 : gR c 1 = c + 5) {k : Nat} (hk : (k : Int) < R 0) {w : Int} (hw : 0 ≤ w ∧ w ≤ 7) : sX2_timesBy c (k : Int) w M = some (tbP R k w) := by
  have h := hv.2.2.1 k hk
  have hr := hv.2.1
  obtain ⟨l1, l2, l3, m1, m2, m3⟩ := hl
  have cc := hc.2.1 k hk
  have f := fa_e (a := R (11 + 3 * k)) (b := w) ⟨by omega, by omega⟩ hw
  have z8 : 0 ≤ (k : Int) ∧ (k : Int) < ((8 : Nat) : Int) := ⟨by omega, by omega⟩
  unfold sX2_timesBy sX2_timesBy_b0 tbP
  rw [g0, l1, l2, l3, m1, m2, m3, wI_of (x := (k : Int)) (by omega) (by omega), if_pos z8, ob_s, if_pos z8, ob_s, if_pos z8, tN, show c + 1 + 1 = c + 2 by omega, show c + 1 + 2 = c + 3 by omega, show c + 1 + 3 = c + 4 by omega, cc.1, cc.2.1, cc.2.2, f.1, wI_of (x := R (9 + 3 * k) + 18) (by omega) (by omega), wI_of (x := sX12_apart (R (11 + 3 * k)) w) (by omega) (by omega)]
  by_cases z : R (9 + 3 * k) = 0
  · have hwho := h.2.2.2.2.1 z
    have zw : 0 ≤ R (10 + 3 * k) ∧ R (10 + 3 * k) < 8 := ⟨hwho, by omega⟩
    rw [if_pos (show R (9 + 3 * k) + 18 = 18 by omega), if_pos z]
    unfold sX2_timesBySays sX2_timesBySays_b0 sX2_timesBySays_b20
    rw [wI_of (x := R (10 + 3 * k)) (by omega) (by omega), if_neg (show ¬ R (10 + 3 * k) < 0 by omega), if_neg (show ¬ 8 ≤ R (10 + 3 * k) by omega), if_pos zw, g1, hc.2.2 _ (by omega), wI_of (x := sX12_apart (R (11 + 3 * k)) w) (by omega) (by omega)]
    by_cases z2 : sX12_apart (R (11 + 3 * k)) w = 0
    · rw [if_pos z2, if_pos z2]; rfl
    · rw [if_neg z2, if_neg z2]; rfl
  rw [if_neg (show ¬ R (9 + 3 * k) + 18 = 18 by omega), if_neg z]
  by_cases z1 : R (9 + 3 * k) = 1
  · rw [if_pos (show R (9 + 3 * k) + 18 = 19 by omega), if_pos z1]
    by_cases z2 : sX12_apart (R (11 + 3 * k)) w < 2
    · rw [if_pos z2, if_pos z2]
    · rw [if_neg z2, if_neg z2]
  rw [if_neg (show ¬ R (9 + 3 * k) + 18 = 19 by omega), if_neg z1]
  by_cases z3 : R (9 + 3 * k) = 2
  · rw [if_pos (show R (9 + 3 * k) + 18 = 20 by omega), if_pos z3]
    by_cases z2 : sX12_apart (R (11 + 3 * k)) w = 1
    · rw [if_pos z2, if_pos z2]
    · rw [if_neg z2, if_neg z2]
  rw [if_neg (show ¬ R (9 + 3 * k) + 18 = 20 by omega), if_neg z3]
  by_cases z2 : sX12_apart (R (11 + 3 * k)) w = 0
  · rw [if_pos z2, if_pos z2]
  · rw [if_neg z2, if_neg z2]
theorem byB {M : MM} {kc : Nat} (hk2 : kc < 2) (h46 : M 359 46 = (kc : Int)) (hv : CV (cC M kc)) {k : Nat} (hk : (k : Int) < cC M kc 0) {w : Int} (hw : 0 ≤ w ∧ w ≤ 7) : sX12_weightBy 359 (k : Int) w M = some (tbP (cC M kc) k w) := by
  have h := hv.2.2.1 k hk
  have hr := hv.2.1
  have f := fa_e (a := cC M kc (11 + 3 * k)) (b := w) ⟨by omega, by omega⟩ hw
  unfold sX12_weightBy sX12_weightBy_b0 tbP
  rw [clueOf_e hk2 h46 ⟨by omega, by omega⟩ ⟨by omega, by omega⟩, ob_s, clueOf_e hk2 h46 ⟨by omega, by omega⟩ ⟨by omega, by omega⟩, ob_s, clueOf_e hk2 h46 ⟨by omega, by omega⟩ ⟨by omega, by omega⟩, ob_s, show (9 + 3 * (k : Int) + 2).toNat = 11 + 3 * k by omega, show (9 + 3 * (k : Int) + 0).toNat = 9 + 3 * k by omega, show (9 + 3 * (k : Int) + 1).toNat = 10 + 3 * k by omega, wI_of (x := cC M kc (9 + 3 * k)) (by omega) (by omega), wI_of (x := sX12_apart (cC M kc (11 + 3 * k)) w) (by omega) (by omega), h46]
  by_cases z : cC M kc (9 + 3 * k) = 0
  · have hwho := h.2.2.2.2.1 z
    rw [if_pos z, if_pos z, wI_of (x := 33 * (kc : Int) + 1 + cC M kc (10 + 3 * k)) (by omega) (by omega), if_pos (show 0 ≤ 33 * (kc : Int) + 1 + cC M kc (10 + 3 * k) ∧ 33 * (kc : Int) + 1 + cC M kc (10 + 3 * k) < 264 by omega), ob_s, g359_8, show (33 * (kc : Int) + 1 + cC M kc (10 + 3 * k)).toNat = 33 * kc + (1 + (cC M kc (10 + 3 * k)).toNat) by omega]
    show (if _ then some (7 * cC M kc (1 + (cC M kc (10 + 3 * k)).toNat)) else some (10 - cC M kc (1 + (cC M kc (10 + 3 * k)).toNat))) = _
    by_cases z2 : sX12_apart (cC M kc (11 + 3 * k)) w = 0
    · rw [if_pos z2, if_pos z2]
    · rw [if_neg z2, if_neg z2]
  rw [if_neg z, if_neg z]
  by_cases z1 : cC M kc (9 + 3 * k) = 1
  · rw [if_pos z1, if_pos z1]
    by_cases z2 : sX12_apart (cC M kc (11 + 3 * k)) w < 2
    · rw [if_pos z2, if_pos z2]
    · rw [if_neg z2, if_neg z2]
  rw [if_neg z1, if_neg z1]
  by_cases z3 : cC M kc (9 + 3 * k) = 2
  · rw [if_pos z3, if_pos z3]
    by_cases z2 : sX12_apart (cC M kc (11 + 3 * k)) w = 1
    · rw [if_pos z2, if_pos z2]
    · rw [if_neg z2, if_neg z2]
  rw [if_neg z3, if_neg z3]
  by_cases z2 : sX12_apart (cC M kc (11 + 3 * k)) w = 0
  · rw [if_pos z2, if_pos z2]
  · rw [if_neg z2, if_neg z2]
/-- the weight of way w by the first K clues but one -/
def wgP (P R : Nat → Int) (but : Int) (K : Nat) (w : Nat) : Int := fo (fun k y => if (k : Int) = but then y else y * tbP R k (w : Int)) K (P (7 + w))
theorem wg_s (P R : Nat → Int) (but : Int) (K : Nat) (w : Nat) : wgP P R but (K + 1) w = if (K : Int) = but then wgP P R but K w else wgP P R but K w * tbP R K (w : Int) := rfl
theorem p70 : ∀ k, k ≤ 8 → (9 : Int) * 70 ^ k ≤ 5188320900000000 := by decide
theorem wg_b {P R : Nat → Int} (hv : PV P) (hw : CV R) (but : Int) {w : Nat} (hw8 : w < 8) : ∀ K : Nat, (K : Int) ≤ R 0 → 0 ≤ wgP P R but K w ∧ wgP P R but K w ≤ 5188320900000000 := by
  have key : ∀ K : Nat, (K : Int) ≤ R 0 → 0 ≤ wgP P R but K w ∧ wgP P R but K w ≤ 9 * 70 ^ K := by
    intro K
    induction K with
    | zero => intro _; have := hv.2.1 w hw8; exact ⟨this.1, by show P (7 + w) ≤ 9; omega⟩
    | succ K ih =>
      intro hK
      have i := ih (by omega)
      have t := tb_b hw (k := K) (by omega) (w : Int)
      have m := mul_c i t
      have e : (9 : Int) * 70 ^ (K + 1) = 9 * 70 ^ K * 70 := by rw [Int.pow_succ, Int.mul_assoc]
      rw [wg_s, e]
      have pos : (0 : Int) ≤ 9 * 70 ^ K := Int.le_trans i.1 i.2
      split <;> omega
  intro K hK
  have := key K hK
  have := p70 K (by have := hw.2.1; omega)
  omega
def alW (P R : Nat → Int) (but : Int) (K n : Nat) : Int := sm (wgP P R but K) n
theorem alW_b {P R : Nat → Int} (hv : PV P) (hw : CV R) (but : Int) {K : Nat} (hK : (K : Int) ≤ R 0) {n : Nat} (hn : n ≤ 8) : 0 ≤ alW P R but K n ∧ alW P R but K n ≤ 41506567200000000 := by
  have := sm_b (f := wgP P R but K) (n := n) (B := 5188320900000000) (fun k hk => wg_b hv hw but (by omega) K hK)
  unfold alW
  omega
theorem weighsA {M0 : MM} {p c : Nat} {P R : Nat → Int} (hc : PC M0 p P) (hv : PV P) (hg : PG p) (hp : p < 66) (hcc : CC M0 c R) (hw : CV R) (hl : LG (c + 1) 8) (g0 : gR c 0 = c + 1) (g1 : gR c 1 = c + 5) (hcp : c < 70) {but : Int} (rb : R32 but) {K : Nat} (hK : R 0 = (K : Int)) : ∃ M', sX2_weighs 119 p c but M0 = some M' ∧ (∀ a, a ≠ 119 → a ≠ 120 → M' a = M0 a) ∧ M' 119 1 = alW P R but K 8 ∧ ∀ w, w < 8 → M' 120 w = wgP P R but K w := by
  have hr := hw.2.1
  unfold sX2_weighs sX2_weighs_b0
  rw [ob_s]
  refine loopC (fun f y (t : MM) => sX2_weighs_b8 119 p c but f y t) 8 (fun w t => (∀ a, a ≠ 119 → a ≠ 120 → t a = M0 a) ∧ t 119 1 = alW P R but K w ∧ ∀ i, i < w → t 120 i = wgP P R but K i) (fun o => ∃ M', o = some M' ∧ (∀ a, a ≠ 119 → a ≠ 120 → M' a = M0 a) ∧ M' 119 1 = alW P R but K 8 ∧ ∀ w, w < 8 → M' 120 w = wgP P R but K w) ?_ ?_ FU 0 (mU M0 119 1 0) (by omega) ⟨fun a ha hb => mU_row _ _ ha, mU_eq _ _ _ _, fun i hi => by omega⟩ (by unfold FU; omega)
  · intro f t ht
    show ∃ M', sX2_weighs_b8 119 p c but (f + 1) ((8 : Nat) : Int) t = some M' ∧ _
    rw [sX2_weighs_b8, wI_of (by omega) (by omega), if_pos (by omega)]
    exact ⟨t, rfl, ht⟩
  · intro f w t hw8 ht
    right
    obtain ⟨t1, t2, t3⟩ := ht
    have z8 : 0 ≤ (w : Int) ∧ (w : Int) < 8 := ⟨by omega, by omega⟩
    have tw := hv.2.1 w hw8
    have hct : PC t p P := PC_c (fun j hj => t1 _ (by omega) (by omega)) hc
    have inner : ∀ m k : Nat, k + m = K → ∀ g, m < g → ∀ T : MM, (∀ a, a ≠ 119 → a ≠ 120 → T a = M0 a) → T 119 1 = alW P R but K w → (∀ i, i < w → T 120 i = wgP P R but K i) → T 120 w = wgP P R but k w → ∃ s', sX2_weighs_b33 119 p c but (fun x4 M => sX2_weighs_b8 119 p c but f x4 M) g (w : Int) (k : Int) T = sX2_weighs_b8 119 p c but f ((w : Int) + 1) s' ∧ (∀ a, a ≠ 119 → a ≠ 120 → s' a = M0 a) ∧ s' 119 1 = alW P R but K (w + 1) ∧ ∀ i, i < w + 1 → s' 120 i = wgP P R but K i := by
      intro m
      induction m with
      | zero =>
        intro k hk g hg0 T h1 h2 h3 h4
        obtain ⟨g, rfl⟩ : ∃ q, g = q + 1 := ⟨g - 1, by omega⟩
        have ek : k = K := by omega
        subst ek
        refine ⟨mU T 119 1 (T 119 1 + T 120 w), ?_, fun a ha hb => by rw [mU_row _ _ ha]; exact h1 a ha hb, by rw [mU_eq, h2, h4]; rfl, fun i hi => ?_⟩
        · rw [sX2_weighs_b33, g0, h1 (c + 1) (by omega) (by omega), hcc.1, hK, if_pos (Int.le_refl _), wI_of (x := (w : Int)) (by omega) (by omega), if_pos z8, ob_s, ob_s, g119_0, tN]
        · rw [mU_ne _ _ (by omega)]
          by_cases e : i = w
          · subst e; exact h4
          · exact h3 i (by omega)
      | succ m ih =>
        intro k hk g hg0 T h1 h2 h3 h4
        obtain ⟨g, rfl⟩ : ∃ q, g = q + 1 := ⟨g - 1, by omega⟩
        have hcT : CC T c R := CC_c (fun j hj => h1 _ (by omega) (by omega)) hcc
        have tb := tb_b hw (k := k) (by omega) (w : Int)
        have eT := timesA hcT hw hl g0 g1 (k := k) (by omega) (w := (w : Int)) ⟨by omega, by omega⟩
        rw [sX2_weighs_b33, g0, h1 (c + 1) (by omega) (by omega), hcc.1, hK, wI_of (x := (K : Int)) (by omega) (by omega), wI_of (x := (k : Int)) (by omega) (by omega), if_neg (show ¬ (K : Int) ≤ (k : Int) by omega), wI_of rb.1 rb.2]
        unfold sX2_weighs_b70
        simp only [ob_s]
        by_cases z : (k : Int) = but
        · rw [if_pos z]
          exact ih (k + 1) (by omega) g (by omega) T h1 h2 h3 (by rw [wg_s, if_pos z]; exact h4)
        · rw [if_neg z, wI_of (x := (w : Int)) (by omega) (by omega), if_pos z8, eT, ob_s, if_pos z8, g119_0, tN, wI_of (x := tbP R k (w : Int)) (by omega) (by omega)]
          refine ih (k + 1) (by omega) g (by omega) (mU T 120 w (T 120 w * tbP R k (w : Int))) (fun a ha hb => by rw [mU_row _ _ hb]; exact h1 a ha hb) (by rw [mU_ne _ _ (by omega)]; exact h2) (fun i hi => by rw [mU_ne _ _ (by omega)]; exact h3 i hi) ?_
          rw [mU_eq, wg_s, if_neg z, h4]
    obtain ⟨s', w1, w2⟩ := inner K 0 (by omega) FU (by unfold FU; omega) (mU t 120 w (P (7 + w))) (fun a ha hb => by rw [mU_row _ _ hb]; exact t1 a ha hb) (by rw [mU_ne _ _ (by omega)]; exact t2) (fun i hi => by rw [mU_ne _ _ (by omega)]; exact t3 i hi) (mU_eq _ _ _ _)
    refine ⟨s', ?_, w2⟩
    show sX2_weighs_b8 119 p c but (f + 1) (w : Int) t = _
    rw [sX2_weighs_b8, wI_of (x := (w : Int)) (by omega) (by omega), if_neg (show ¬ 8 ≤ (w : Int) by omega), if_pos z8, if_pos z8, ob_s, g119_0, hg.2.2.2.2.2.2.2.2.1, tN, hct.2.1 w hw8, wI_of (x := P (7 + w)) (by omega) (by omega)]
    exact w1
/-- the reference: fields 48 of 359 and row 378 -/
def F48 (M M' : MM) : Prop := (∀ a, a ≠ 359 → a ≠ 378 → M' a = M a) ∧ ∀ j, j ≠ 48 → M' 359 j = M 359 j
theorem F48_HD {M M' : MM} {k : Nat} (h : F48 M M') (hd : HD M k) : HD M' k := HD_c hd (h.1 365 (by omega) (by omega)) (fun j a b => h.2 j (by omega))
theorem F48_p {M M' : MM} (h : F48 M M') (k : Nat) : pP M' k = pP M k := pP_c (h.1 365 (by omega) (by omega)) k
theorem F48_c {M M' : MM} (h : F48 M M') (k : Nat) : cC M' k = cC M k := by unfold cC; rw [h.1 367 (by omega) (by omega)]
theorem F48_t {M M' M'' : MM} (h : F48 M M') (h' : F48 M' M'') : F48 M M'' := ⟨fun a ha hb => (h'.1 a ha hb).trans (h.1 a ha hb), fun j hj => (h'.2 j hj).trans (h.2 j hj)⟩
theorem F48_FR {M M' : MM} (h : F48 M M') : FR M M' := fun a ha hb => h.1 a ha (by omega)
theorem weighB {M0 : MM} {k kc : Nat} (hd : HD M0 k) (hv : PV (pP M0 k)) (hkc : kc < 2) (h46 : M0 359 46 = (kc : Int)) (hw : CV (cC M0 kc)) {but : Int} (rb : R32 but) {K : Nat} (hK : cC M0 kc 0 = (K : Int)) : ∃ M', sX12_weigh 359 but M0 = some M' ∧ F48 M0 M' ∧ M' 359 48 = alW (pP M0 k) (cC M0 kc) but K 8 ∧ ∀ w, w < 8 → M' 378 w = wgP (pP M0 k) (cC M0 kc) but K w := by
  have hr := hw.2.1
  unfold sX12_weigh sX12_weigh_b0
  rw [ob_s]
  refine loopC (fun f y (t : MM) => sX12_weigh_b7 359 but f y t) 8 (fun w t => F48 M0 t ∧ t 359 48 = alW (pP M0 k) (cC M0 kc) but K w ∧ ∀ i, i < w → t 378 i = wgP (pP M0 k) (cC M0 kc) but K i) (fun o => ∃ M', o = some M' ∧ F48 M0 M' ∧ M' 359 48 = alW (pP M0 k) (cC M0 kc) but K 8 ∧ ∀ w, w < 8 → M' 378 w = wgP (pP M0 k) (cC M0 kc) but K w) ?_ ?_ FU 0 (mU M0 359 48 0) (by omega) ⟨⟨fun a ha hb => mU_row _ _ ha, fun j hj => mU_ne _ _ (by omega)⟩, mU_eq _ _ _ _, fun i hi => by omega⟩ (by unfold FU; omega)
  · intro f t ht
    show ∃ M', sX12_weigh_b7 359 but (f + 1) ((8 : Nat) : Int) t = some M' ∧ _
    rw [sX12_weigh_b7, wI_of (by omega) (by omega), if_pos (by omega)]
    exact ⟨t, rfl, ht⟩
  · intro f w t hw8 ht
    right
    obtain ⟨t1, t2, t3⟩ := ht
    have z8 : 0 ≤ (w : Int) ∧ (w : Int) < 8 := ⟨by omega, by omega⟩
    have tw := hv.2.1 w hw8
    have hdt := F48_HD t1 hd
    have e46 : t 359 46 = (kc : Int) := (t1.2 46 (by omega)).trans h46
    have ec := F48_c t1 kc
    have inner : ∀ m j : Nat, j + m = K → ∀ g, m < g → ∃ s', sX12_weigh_b26 359 but (fun x2 M => sX12_weigh_b7 359 but f x2 M) g (w : Int) (wgP (pP M0 k) (cC M0 kc) but j w) (j : Int) t = sX12_weigh_b7 359 but f ((w : Int) + 1) s' ∧ F48 M0 s' ∧ s' 359 48 = alW (pP M0 k) (cC M0 kc) but K (w + 1) ∧ ∀ i, i < w + 1 → s' 378 i = wgP (pP M0 k) (cC M0 kc) but K i := by
      intro m
      induction m with
      | zero =>
        intro j hj g hg0
        obtain ⟨g, rfl⟩ : ∃ q, g = q + 1 := ⟨g - 1, by omega⟩
        have ek : j = K := by omega
        subst ek
        refine ⟨mU (mU t 378 w (wgP (pP M0 k) (cC M0 kc) but j w)) 359 48 (t 359 48 + wgP (pP M0 k) (cC M0 kc) but j w), ?_, ⟨fun a ha hb => by rw [mU_row _ _ ha, mU_row _ _ hb]; exact t1.1 a ha hb, fun i hi => by rw [mU_ne _ _ (by omega), mU_ne _ _ (by omega)]; exact t1.2 i hi⟩, by rw [mU_eq, t2]; rfl, fun i hi => ?_⟩
        · rw [sX12_weigh_b26, told_e hkc e46, ob_s, ec, hK, if_pos (Int.le_refl _), wI_of (x := (w : Int)) (by omega) (by omega), if_pos z8, ob_s, ob_s, ob_s, g359_47, tN, mU_ne _ _ (show (359 : Nat) ≠ 378 ∨ (48 : Nat) ≠ w by omega)]
        · rw [mU_ne _ _ (by omega)]
          by_cases e : i = w
          · subst e; rw [mU_eq]
          · rw [mU_ne _ _ (by omega)]; exact t3 i (by omega)
      | succ m ih =>
        intro j hj g hg0
        obtain ⟨g, rfl⟩ : ∃ q, g = q + 1 := ⟨g - 1, by omega⟩
        have tb := tb_b hw (k := j) (by omega) (w : Int)
        have eT := byB hkc e46 (by rw [ec]; exact hw) (k := j) (by rw [ec]; omega) (w := (w : Int)) ⟨by omega, by omega⟩
        rw [ec] at eT
        have i := ih (j + 1) (by omega) g (by omega)
        rw [wg_s] at i
        rw [sX12_weigh_b26, told_e hkc e46, ob_s, ec, hK, wI_of (x := (K : Int)) (by omega) (by omega), wI_of (x := (j : Int)) (by omega) (by omega), if_neg (show ¬ (K : Int) ≤ (j : Int) by omega), wI_of rb.1 rb.2, eT, ob_s, wI_of (x := tbP (cC M0 kc) j (w : Int)) (by omega) (by omega)]
        unfold sX12_weigh_b55
        simp only [ob_s]
        by_cases z : (j : Int) = but
        · rw [if_pos z] at i ⊢; exact i
        · rw [if_neg z] at i ⊢; exact i
    obtain ⟨s', w1, w2⟩ := inner K 0 (by omega) FU (by unfold FU; omega)
    refine ⟨s', ?_, w2⟩
    show sX12_weigh_b7 359 but (f + 1) (w : Int) t = _
    rw [sX12_weigh_b7, wI_of (x := (w : Int)) (by omega) (by omega), if_neg (show ¬ 8 ≤ (w : Int) by omega), of_e hdt ⟨by omega, by omega⟩, ob_s, F48_p t1, show (7 + (w : Int)).toNat = 7 + w by omega, wI_of (x := pP M0 k (7 + w)) (by omega) (by omega)]
    exact w1
