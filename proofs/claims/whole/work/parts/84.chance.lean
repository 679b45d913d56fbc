/-- the call chance -/
theorem aheA {N : MM} {n : Nat} (hn : n ≤ 8) {o : Nat → Nat} (ho : ORD o n) (h : ∀ i, i < n → N 122 i = (o i : Int)) {k : Nat} (hk : k ≤ n) : sX4_bitsAhead 121 (k : Int) N = some (fbP o k) := by
  have ob := fun i (hi : i < n) => ho.1 i hi
  unfold sX4_bitsAhead sX4_bitsAhead_b0
  refine loopC (fun f y (s : Int) => sX4_bitsAhead_b4 121 (k : Int) N f s y) k (fun i s => s = fbP o i) (fun r => r = some (fbP o k)) ?_ ?_ FU 0 0 (by omega) rfl (by unfold FU; omega)
  · intro f s hs
    show sX4_bitsAhead_b4 121 (k : Int) N (f + 1) s (k : Int) = _
    rw [sX4_bitsAhead_b4, if_pos (Int.le_refl _), hs]; rfl
  · intro f i s hi hs
    right
    have := ob i (by omega)
    refine ⟨fbP o (i + 1), ?_, rfl⟩
    show sX4_bitsAhead_b4 121 (k : Int) N (f + 1) s (i : Int) = _
    rw [sX4_bitsAhead_b4, wI_of (x := (k : Int)) (by omega) (by omega), wI_of (x := (i : Int)) (by omega) (by omega), if_neg (show ¬ (k : Int) ≤ (i : Int) by omega), if_neg (show ¬ 8 ≤ (i : Int) by omega), if_pos (show 0 ≤ (i : Int) ∧ (i : Int) < 8 by omega), g121_0, tN, h i (by omega), wI_of (x := (o i : Int)) (by omega) (by omega), if_pos (show 0 ≤ (o i : Int) ∧ (o i : Int) < 32 by omega), ob_s, ob_s, tN, hs]
    rfl
theorem aheC {N : MM} {p n : Nat} (hN : N p 3 = (n : Int)) (hn : n ≤ 8) {o : Nat → Nat} (ho : ORD o n) (h : ∀ i, i < n → N 122 i = (o i : Int)) {j : Nat} (hj : j < n) : sX4_bitsAheadOf 121 p (o j : Int) N = some (fbP o j) := by
  have ob := fun i (hi : i < n) => ho.1 i hi
  have oj := ob j hj
  unfold sX4_bitsAheadOf sX4_bitsAheadOf_b0
  refine loopC (fun f y (s : Int) => sX4_bitsAheadOf_b5 121 p (o j : Int) N f s y) j (fun i s => s = fbP o i) (fun r => r = some (fbP o j)) ?_ ?_ FU 0 0 (by omega) rfl (by unfold FU; omega)
  · intro f s hs
    show sX4_bitsAheadOf_b5 121 p (o j : Int) N (f + 1) s (j : Int) = _
    rw [sX4_bitsAheadOf_b5, hN, wI_of (x := (n : Int)) (by omega) (by omega), wI_of (x := (j : Int)) (by omega) (by omega), if_neg (show ¬ (n : Int) ≤ (j : Int) by omega), if_pos (show 0 ≤ (j : Int) ∧ (j : Int) < 8 by omega), g121_0, tN, h j hj, if_pos rfl, hs]; rfl
  · intro f i s hi hs
    right
    have oi := ob i (by omega)
    have ne : ¬ (o i : Int) = (o j : Int) := fun e => by have := ho.2 i j (by omega) hj (by omega); omega
    refine ⟨fbP o (i + 1), ?_, rfl⟩
    show sX4_bitsAheadOf_b5 121 p (o j : Int) N (f + 1) s (i : Int) = _
    rw [sX4_bitsAheadOf_b5, hN, wI_of (x := (n : Int)) (by omega) (by omega), wI_of (x := (i : Int)) (by omega) (by omega), if_neg (show ¬ (n : Int) ≤ (i : Int) by omega), if_pos (show 0 ≤ (i : Int) ∧ (i : Int) < 8 by omega), g121_0, tN, h i (by omega), wI_of (x := (o i : Int)) (by omega) (by omega), wI_of (x := (o j : Int)) (by omega) (by omega), if_neg ne, if_pos (show 0 ≤ (i : Int) ∧ (i : Int) < 8 by omega), if_pos (show 0 ≤ (o i : Int) ∧ (o i : Int) < 32 by omega), ob_s, ob_s, tN, hs]
    rfl
/-- what is asked of an order -/
def whW (P : Nat → Int) (b n B : Nat) (o : Nat → Nat) (x : Int) : Int := if x = 0 then wW P b n B o (n - 1) * 10 ^ b else if x = 1 then wW P b n B o n else if x = 2 then chW P b n B o n (o (n - 1)) else chW P b n B o n (x - 10).toNat
theorem whW_b {P : Nat → Int} {n b : Nat} (hT : TPP P n b) {o : Nat → Nat} (ho : ORD o n) {B : Nat} (hB : 1 ≤ B) {x : Int} (hx : (0 ≤ x ∧ x ≤ 2) ∨ (10 ≤ x ∧ x < 10 + (n : Int))) : 0 ≤ whW P b n B o x ∧ whW P b n B o x ≤ 1000000000000000 := by
  have t3 := hT.2.2.1
  have nb := hT.2.2.2.2.2.2.1
  unfold whW
  by_cases q0 : x = 0
  · rw [if_pos q0]
    obtain ⟨a1, a2, -⟩ := wW_b hT ho hB (n - 1) (by omega)
    have pk := p10_p b
    have m := mul_c (b := 10 ^ b) (B := 10 ^ b) ⟨a1, a2⟩ ⟨by omega, by omega⟩
    rw [← Int.pow_add, show (n - 1) * b + b = n * b by obtain ⟨k, rfl⟩ : ∃ k, n = k + 1 := ⟨n - 1, by omega⟩; rw [Nat.add_mul, Nat.one_mul]; rfl] at m
    have := p10_l (n * b) (by omega)
    omega
  · rw [if_neg q0]
    by_cases q1 : x = 1
    · rw [if_pos q1]
      obtain ⟨a1, a2, -⟩ := wW_b hT ho hB n (Nat.le_refl n)
      have := p10_l (n * b) (by omega)
      omega
    · rw [if_neg q1]
      by_cases q2 : x = 2
      · rw [if_pos q2]; exact chW_b hT ho hB (by omega)
      · rw [if_neg q2]
        obtain ⟨j, hj, e⟩ := (pf_e o n _).1 (pf_all ho (x - 10).toNat (by omega))
        rw [e]
        exact chW_b hT ho hB hj
theorem whaA {M0 N : MM} {p : Nat} {P : Nat → Int} (hc : PC M0 p P) (hv : PV P) (hg : PG p) (hp : p < 66) {n b : Nat} (hT : TPP P n b) (hr : ∀ a, a ≠ 122 → N a = M0 a) {o : Nat → Nat} (ho : ORD o n) (h22 : ∀ i, i < n → N 122 i = (o i : Int)) {B lay : Nat} (hB : P 19 = (B : Int)) (hB1 : 1 ≤ B ∧ B ≤ 30) (hlay : 1 ≤ lay ∧ lay ≤ 9) {x : Int} (r : R32 x) : ∃ N', sX4_ofWhat 121 p (lay : Int) x N = some (if (0 ≤ x ∧ x ≤ 2) ∨ (10 ≤ x ∧ x < 10 + (n : Int)) then whW P b n (B * lay) o x else -1, N') ∧ F34 N N' := by
  have hT0 := hT
  obtain ⟨t1, t2, t3, t4, t5, t6, t7, t8, t9⟩ := hT
  have hcN : PC N p P := PC_c (fun j hj => hr _ (by omega)) hc
  have p1 := p2n n (by omega)
  obtain ⟨Z, z1, z2⟩ := holdA hcN hv hg hp hT0 (F34_r N) hB hB1 hlay (x := 1 * 2 ^ n - 1) ⟨by omega, by omega⟩
  have z22 : ∀ i, i < n → Z 122 i = (o i : Int) := fun i hi => by rw [z2 122 (by omega) (by omega)]; exact h22 i hi
  have o8 : ∀ e, e ≤ n → ∀ j, j < e → o j < 8 := fun e he j hj => by have := ho.1 j (by omega); omega
  have fS : ∀ e, e ≤ n → ∀ c, c < n → btS (fbP o e) c = pfS o e c := fun e he c hc => fb_p e (o8 e he) c (by omega)
  have fullS : ∀ c, c < n → btS (1 * 2 ^ n - 1) c = pfS o n c := fun c hc => by
    rw [bt_full (i := n) t4 t4 c hc, pf_id, pf_all ho c hc, decide_eq_true hc]
  have hfull : hoP P n b B lay (btS (1 * 2 ^ n - 1)) = wW P b n (B * lay) o n := by
    rw [ho_p hT0 ho B lay (i := n) (Nat.le_refl n) fullS, Nat.sub_self, Nat.zero_mul, Int.pow_zero, Int.mul_one]
  unfold sX4_ofWhat sX4_ofWhat_b0 sX4_ofWhat_b87
  rw [hcN.1.2.1, t1, wI_of (x := (n : Int)) (by omega) (by omega), if_pos (show 0 ≤ (n : Int) ∧ (n : Int) < 32 by omega), tN, z1, ob_s, wI_of r.1 r.2]
  dsimp only
  have zn : Z p 3 = (n : Int) := by rw [z2 p (by omega) (by omega), hcN.1.2.1]; exact t1
  have e1 : (n : Int) - 1 = ((n - 1 : Nat) : Int) := by omega
  have f8 := fb_b (n - 1) (o8 (n - 1) (by omega))
  obtain ⟨Y, y1, y2⟩ := holdA hcN hv hg hp hT0 z2 hB hB1 hlay (x := fbP o (n - 1)) f8
  have hpre : hoP P n b B lay (btS (fbP o (n - 1))) = wW P b n (B * lay) o (n - 1) * 10 ^ b := by
    rw [ho_p hT0 ho B lay (i := n - 1) (by omega) (fS (n - 1) (by omega)), show n - (n - 1) = 1 by omega, Nat.one_mul]
  rw [e1, aheA (by omega) ho z22 (k := n - 1) (by omega)]
  unfold whW
  by_cases q1 : x = 1
  · rw [if_pos q1, if_pos (Or.inl ⟨by omega, by omega⟩), if_neg (show ¬ x = 0 by omega), if_pos q1, hfull]
    exact ⟨Z, rfl, z2⟩
  · rw [if_neg q1]
    by_cases q0 : x = 0
    · rw [if_pos q0, if_pos (Or.inl ⟨by omega, by omega⟩), if_pos q0, ob_s, y1, ob_s]
      dsimp only
      rw [hpre]
      exact ⟨Y, rfl, y2⟩
    · rw [if_neg q0]
      by_cases q2 : x = 2
      · rw [if_pos q2, if_pos (Or.inl ⟨by omega, by omega⟩), if_neg q0, if_neg q1, if_pos q2, ob_s, y1, ob_s]
        dsimp only
        rw [ch_ho hT0 ho B lay (j := n - 1) (by omega) (fS (n - 1) (by omega)) (S' := btS (1 * 2 ^ n - 1)) (by rw [show n - 1 + 1 = n by omega]; exact fullS)]
        exact ⟨Y, rfl, y2⟩
      · rw [if_neg q2]
        by_cases q3 : x < 10
        · rw [if_pos q3, if_neg (by omega)]
          exact ⟨Z, rfl, z2⟩
        · rw [if_neg q3]
          simp only [zn]
          rw [wI_of (x := 10 + (n : Int)) (by omega) (by omega)]
          by_cases q4 : x < 10 + (n : Int)
          · obtain ⟨c, hc'⟩ := Int.eq_ofNat_of_zero_le (show 0 ≤ x - 10 by omega)
            obtain ⟨j, hj, ej⟩ := (pf_e o n c).1 (pf_all ho c (by omega))
            have g8 := fb_b j (o8 j (by omega))
            have k8 := fb_b (j + 1) (o8 (j + 1) (by omega))
            obtain ⟨W, w1, w2⟩ := holdA hcN hv hg hp hT0 z2 hB hB1 hlay (x := fbP o j) g8
            obtain ⟨V, v1, v2⟩ := holdA hcN hv hg hp hT0 w2 hB hB1 hlay (x := fbP o (j + 1)) k8
            have fold : oI (fbP o j) (1 * 2 ^ c) = fbP o (j + 1) := by rw [ej]; rfl
            rw [if_pos q4, if_pos (Or.inr ⟨by omega, q4⟩), if_neg q0, if_neg q1, if_neg q2, hc', ej, aheC zn (by omega) ho z22 hj, ob_s, w1, ob_s, ← ej, wI_of (x := (c : Int)) (by omega) (by omega), if_pos (show 0 ≤ (c : Int) ∧ (c : Int) < 32 by omega), tN, fold]
            dsimp only
            rw [v1, ob_s]
            dsimp only
            rw [ch_ho hT0 ho B lay hj (fS j (by omega)) (fS (j + 1) (by omega)), ← ej]
            exact ⟨V, rfl, v2⟩
          · rw [if_neg q4, if_neg (by omega)]
            exact ⟨Z, rfl, z2⟩
theorem e_chance {M : MM} (h : INV M) {x1 x2 x3 x4 x5 : Int} (r1 : R32 x1) (r2 : R32 x2) (r3 : R32 x3) (r4 : R32 x4) : ∃ v v' M1 M2, sX11_chance 0 x1 x2 x3 x4 x5 M = some (v, M1) ∧ sX12_chance 359 x1 x2 x3 x4 x5 M1 = some (v', M2) ∧ wI v = wI v' ∧ INV M2 := by
  unfold sX11_chance sX11_chance_b0 sX11_chance_b31
  rcases a_party h r1 with ⟨kp, hkp, rfl, hlp, e1⟩ | ⟨hn, e1⟩
  · obtain ⟨hpc, hpv⟩ := i_party h hlp
    obtain ⟨n, b, hn, hb, hm, h40, hT⟩ := tpp_e hpv
    have hg := PG_p kp hkp
    have hv1 := hpv.1
    have hbel := hpv.2.2.2.2.1 0 (by omega)
    rw [show 19 + 2 * 0 = 19 from rfl] at hbel
    obtain ⟨B0, hB0⟩ := Int.eq_ofNat_of_zero_le (show 0 ≤ pP M kp 19 by omega)
    rw [hB0] at hbel
    have hb0 : 1 ≤ B0 ∧ B0 ≤ 30 := by omega
    have rp : ∀ Z : MM, INV Z → Z 364 = M 364 → pP Z kp = pP M kp → ¬ (n * b ≤ 15 ∧ (1 ≤ x3 ∧ x3 ≤ 9) ∧ (fbP (odP x2 n) n = 1 * 2 ^ n - 1 ∧ (x2 = -1 ∨ xdP x2 n = 0)) ∧ ((0 ≤ x4 ∧ x4 ≤ 2) ∨ (10 ≤ x4 ∧ x4 < 10 + (n : Int)))) → ∃ M2, sX12_chance 359 (kp : Int) x2 x3 x4 x5 Z = some (-1, M2) ∧ INV M2 := by
      intro Z hZ z4 z5 nq
      obtain ⟨N, e, f, hd, pe⟩ := hand_0 hZ (k := kp) (by rw [z4]; exact hlp)
      rw [z5] at pe
      unfold sX12_chance sX12_chance_b0 sX12_chance_b65
      rw [ob_s]
      by_cases q3 : 1 ≤ x3 ∧ x3 ≤ 9
      · rw [in_t r3 ⟨by omega, by omega⟩ ⟨by omega, by omega⟩ q3, i10, e, ob_s]
        dsimp only
        rw [i10, canB_e hd pe hm h40]
        by_cases q1 : n * b ≤ 15
        · have n26 : N 359 26 = (n : Int) := by rw [hd.2.2.2.1, pe]; exact hn
          obtain ⟨L, l1, l2, l3⟩ := ordB n26 ⟨by omega, by omega⟩ r2
          have fL : FR N L := fun a ha hb => l2 a (by omega)
          have L26 : L 359 26 = (n : Int) := by rw [l2 359 (by omega)]; exact n26
          rw [if_pos q1, i10, l1, ob_s]
          dsimp only
          by_cases q2 : fbP (odP x2 n) n = 1 * 2 ^ n - 1 ∧ (x2 = -1 ∨ xdP x2 n = 0)
          · rw [if_pos q2, i10, in_f r4 ⟨by omega, by omega⟩ ⟨by omega, by omega⟩ (fun w => nq ⟨q1, q3, q2, Or.inl w⟩), i00]
            simp only [L26]
            rw [in_f r4 ⟨by omega, by omega⟩ ⟨by omega, by omega⟩ (fun w => nq ⟨q1, q3, q2, Or.inr ⟨w.1, by omega⟩⟩), i00]
            exact ⟨L, rfl, INV_2 (FR_t f fL) hZ⟩
          · rw [if_neg q2, i00]
            exact ⟨L, rfl, INV_2 (FR_t f fL) hZ⟩
        · rw [if_neg q1, i00]
          exact ⟨N, rfl, INV_2 f hZ⟩
      · rw [in_f r3 ⟨by omega, by omega⟩ ⟨by omega, by omega⟩ q3, i00]
        exact ⟨_, rfl, INV_2 (FR_0 Z) hZ⟩
    rw [e1, ob_s, nMs_, canA_e hpc hm h40, g0_6, wI_of (x := x3) r3.1 r3.2]
    by_cases q1 : n * b ≤ 15
    · rw [if_pos q1, i10]
      by_cases q2 : x3 < 1
      · obtain ⟨M2, e3, hI⟩ := rp M h rfl rfl (fun q => by omega)
        rw [if_pos q2]
        exact ⟨_, _, _, _, rfl, e3, rfl, hI⟩
      · rw [if_neg q2]
        by_cases q3 : x3 ≤ 9
        · rw [if_pos q3]
          have hT := hT q1
          have hT0 := hT
          obtain ⟨t1, t2, t3, t4, t5, t6, t7, t8, t9⟩ := hT
          obtain ⟨lay, rfl⟩ := Int.eq_ofNat_of_zero_le (show 0 ≤ x3 by omega)
          have hlay : 1 ≤ lay ∧ lay ≤ 9 := by omega
          obtain ⟨L, l1, l2, l3⟩ := ordA hpc (by omega) hn ⟨t3, t4⟩ (N := M) rfl r2
          have fL : FC M L := fun a ha => l2 a (by omega)
          rw [l1, ob_s]
          dsimp only
          by_cases q4 : fbP (odP x2 n) n = 1 * 2 ^ n - 1 ∧ (x2 = -1 ∨ xdP x2 n = 0)
          · rw [if_pos q4, i10]
            have ho : ORD (fun i => odP x2 n (n - 1 - i)) n := rev_ord (fb_ord t4 (fun j hj => od_b t4 hj) q4.1)
            obtain ⟨o, hoo⟩ : ∃ o, o = fun i => odP x2 n (n - 1 - i) := ⟨_, rfl⟩
            rw [← hoo] at ho
            obtain ⟨Y, y1, y2⟩ := whaA hpc hpv hg (by omega) hT0 l2 ho (fun i hi => by rw [hoo]; exact l3 i hi) hB0 hb0 hlay r4
            have fY : FC M Y := fun a ha => by rw [y2 a (by omega) (by omega)]; exact fL a ha
            have h1 := INV_1 fY h
            have c4 : Y 364 = M 364 := fY 364 (by omega)
            have c5 : pP Y kp = pP M kp := pP_c (fY 365 (by omega)) kp
            rw [y1, ob_s]
            dsimp only
            by_cases q5 : (0 ≤ x4 ∧ x4 ≤ 2) ∨ (10 ≤ x4 ∧ x4 < 10 + (n : Int))
            · have wb := whW_b hT0 ho (B := B0 * lay) (Nat.mul_pos hb0.1 hlay.1) q5
              have pl := p10_l (n * b) (by omega)
              have pp := p10_p (n * b)
              obtain ⟨v, g1, g2⟩ := fr_eqi (n := whW (pP M kp) b n (B0 * lay) o x4) (d := 10 ^ (n * b)) ⟨wb.1, by omega⟩ ⟨by omega, by omega⟩ x5
              obtain ⟨N2, w1, w2⟩ : ∃ N2, sX12_chance 359 (kp : Int) x2 (lay : Int) x4 x5 Y = some (v, N2) ∧ INV N2 := by
                obtain ⟨N, e, f, hd, pe⟩ := hand_0 h1 (k := kp) (by rw [c4]; exact hlp)
                rw [c5] at pe
                have n26 : N 359 26 = (n : Int) := by rw [hd.2.2.2.1, pe]; exact hn
                obtain ⟨L', k1, k2, k3⟩ := ordB n26 ⟨by omega, by omega⟩ r2
                have L26 : L' 359 26 = (n : Int) := by rw [k2 359 (by omega)]; exact n26
                have hdL : HD L' kp := HD_c hd (k2 365 (by omega)) (fun j _ _ => by rw [k2 359 (by omega)])
                have peL : pP L' kp = pP M kp := (pP_c (k2 365 (by omega)) kp).trans pe
                obtain ⟨W, f1, f2, f3, f4, f5, f6, f7⟩ := findB hdL peL hpv hT0 ho (fun i hi => by rw [hoo]; exact k3 q4 i hi) hB0 hb0 hlay
                have hI : INV W := INV_2 (FR_t f (FR_t (fun a ha hb => k2 a (by omega)) (FQ_FR f2))) h1
                refine ⟨W, ?_, hI⟩
                have rest : sX12_chance_b69 359 (kp : Int) x2 (lay : Int) x4 x5 L' = some (v, W) := by
                  unfold sX12_chance_b69 sX12_chance_b122
                  rw [f1, ob_s, f3, f4, f5, f6, wI_of (x := x4) r4.1 r4.2, g359_51]
                  unfold whW at g2
                  by_cases a0 : x4 = 0
                  · rw [if_pos a0] at g2 ⊢; rw [g2, ob_s]
                  · rw [if_neg a0] at g2 ⊢
                    by_cases a1 : x4 = 1
                    · rw [if_pos a1] at g2 ⊢; rw [g2, ob_s]
                    · rw [if_neg a1] at g2 ⊢
                      by_cases a2 : x4 = 2
                      · rw [if_pos a2] at g2 ⊢; rw [g2, ob_s]
                      · rw [if_neg a2] at g2 ⊢
                        rw [wI_of (x := x4 - 10) (by omega) (by omega), if_pos (show 0 ≤ x4 - 10 ∧ x4 - 10 < 8 by omega), f7 _ (by omega), g2, ob_s]
                unfold sX12_chance sX12_chance_b0
                rw [ob_s, in_t r3 ⟨by omega, by omega⟩ ⟨by omega, by omega⟩ ⟨by omega, by omega⟩, i10, e, ob_s]
                dsimp only
                rw [i10, canB_e hd pe hm h40, if_pos q1, i10, k1, ob_s]
                dsimp only
                rw [if_pos q4, i10]
                simp only [L26]
                by_cases a0 : 0 ≤ x4 ∧ x4 ≤ 2
                · rw [in_t r4 ⟨by omega, by omega⟩ ⟨by omega, by omega⟩ a0, i10]; exact rest
                · rw [in_f r4 ⟨by omega, by omega⟩ ⟨by omega, by omega⟩ a0, i00, in_t r4 ⟨by omega, by omega⟩ ⟨by omega, by omega⟩ (by omega), i10]; exact rest
              rw [if_pos q5, wJ_of (x := whW (pP M kp) b n (B0 * lay) o x4) (by omega) (by omega), if_pos wb.1]
              unfold sX4_ofAll sX4_ofAll_b0
              rw [fY (9 + 34 * kp) (by omega), hpc.1.2.1, hpc.1.2.2.1, hm, tenA rfl (by omega), ob_s, ob_s, g1, ob_s]
              exact ⟨v, v, Y, N2, rfl, w1, rfl, w2⟩
            · obtain ⟨M2, e3, hI⟩ := rp Y h1 c4 c5 (fun q => q5 q.2.2.2)
              rw [if_neg q5, wJ_of (x := -1) (by omega) (by omega), if_neg (by omega)]
              exact ⟨_, _, Y, M2, rfl, e3, rfl, hI⟩
          · obtain ⟨M2, e3, hI⟩ := rp L (INV_1 fL h) (l2 364 (by omega)) (pP_c (l2 365 (by omega)) kp) (fun q => q4 q.2.2.1)
            rw [if_neg q4, i00]
            exact ⟨_, _, L, M2, rfl, e3, rfl, hI⟩
        · obtain ⟨M2, e3, hI⟩ := rp M h rfl rfl (fun q => by omega)
          rw [if_neg q3]
          exact ⟨_, _, _, _, rfl, e3, rfl, hI⟩
    · obtain ⟨M2, e3, hI⟩ := rp M h rfl rfl (fun q => q1 q.1)
      rw [if_neg q1, i00]
      exact ⟨_, _, _, _, rfl, e3, rfl, hI⟩
  · rw [e1, ob_s, nM0_]
    obtain ⟨M2, e3, hI⟩ : ∃ M2, sX12_chance 359 x1 x2 x3 x4 x5 M = some (-1, M2) ∧ INV M2 := by
      unfold sX12_chance sX12_chance_b0 sX12_chance_b65
      rw [ob_s]
      by_cases q3 : 1 ≤ x3 ∧ x3 ≤ 9
      · rw [in_t r3 ⟨by omega, by omega⟩ ⟨by omega, by omega⟩ q3, i10, hand_0f h r1 hn, ob_s]
        dsimp only
        rw [i00]
        exact ⟨_, rfl, INV_2 (FR_0 M) h⟩
      · rw [in_f r3 ⟨by omega, by omega⟩ ⟨by omega, by omega⟩ q3, i00]
        exact ⟨_, rfl, INV_2 (FR_0 M) h⟩
    exact ⟨_, _, _, _, rfl, e3, rfl, hI⟩
