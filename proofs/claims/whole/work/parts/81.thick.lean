/-- the call thick -/
theorem tc_w {B F b : Nat} {l : Int} {dr : Bool} {g : WF} (hl : 0 ≤ l ∧ l ≤ 10) (ht : Top B g) (hg : Nng g) : 0 ≤ wtF B (tcF dr l F b g) ∧ wtF B (tcF dr l F b g) ≤ 10 ^ b * wtF B g := by
  refine ⟨wt_n (tc_g hl hg), ?_⟩
  have key : ∀ k, wtF B (fun x => (itT l F k (inF dr g)).1 x + (itT l F k (inF dr g)).2 x) ≤ 10 ^ k * wtF B g := by
    intro k
    induction k with
    | zero =>
      rw [Int.pow_zero, Int.one_mul]
      have e0 : wtF B (fun x => (itT l F 0 (inF dr g)).1 x + (itT l F 0 (inF dr g)).2 x) = wtF B g := wt_x (fun x _ _ => by
        cases dr
        · show g x + 0 = g x; omega
        · show 0 + g x = g x; omega)
      omega
    | succ k ih =>
      obtain ⟨a1, a2⟩ := it_tg (F := F) hl (in_t' dr ht) (in_g' dr hg) k
      have e : wtF B (fun x => (itT l F (k + 1) (inF dr g)).1 x + (itT l F (k + 1) (inF dr g)).2 x) + bsF B F l (itT l F k (inF dr g)).2 = 10 * wtF B (fun x => (itT l F k (inF dr g)).1 x + (itT l F k (inF dr g)).2 x) := bl_w a1
      have bn := bs_n (B := B) (F := F) hl.1 a2.2
      rw [Int.pow_succ, Int.mul_comm (10 ^ k) 10, Int.mul_assoc]
      omega
  exact key b
theorem wtdl {B : Nat} (hB : 1 ≤ B) : wtF B (dlF B) = 1 := by
  obtain ⟨j, rfl⟩ : ∃ j, B = j + 1 := ⟨B - 1, by omega⟩
  unfold wtF
  rw [sm_s]
  have e : sm (fun x => dlF (j + 1) (x + 1)) j = sm (fun _ => 0) j := sm_ext (fun x hx => by unfold dlF; rw [if_neg (by omega)])
  have e3 := sm_b (f := fun _ => 0) (n := j) (B := 0) (fun _ _ => ⟨by omega, by omega⟩)
  have e4 : dlF (j + 1) (j + 1) = 1 := if_pos rfl
  omega
theorem wW_b {P : Nat → Int} {n b : Nat} (hT : TPP P n b) {o : Nat → Nat} (ho : ORD o n) {B : Nat} (hB : 1 ≤ B) : ∀ i, i ≤ n → 0 ≤ wW P b n B o i ∧ wW P b n B o i ≤ 10 ^ (i * b) ∧ (i < n → wW P b n B o (i + 1) ≤ 10 ^ b * wW P b n B o i) := by
  have stp : ∀ i, i < n → 0 ≤ wW P b n B o (i + 1) ∧ wW P b n B o (i + 1) ≤ 10 ^ b * wW P b n B o i := fun i hi => by
    unfold wW
    rw [pf_s ho hi]
    exact tc_w (hT.2.2.2.2.2.2.2.2 _ (ho.1 i hi)) (st_t n (dl_t B)) (st_g hT (dl_g B) n (Nat.le_refl n))
  intro i
  induction i with
  | zero =>
    intro _
    have : wW P b n B o 0 = 1 := by
      unfold wW
      have e : stF (opP P b) (pfS o 0) n (dlF B) = dlF B := by
        have : ∀ m, stF (opP P b) (pfS o 0) m (dlF B) = dlF B := by
          intro m
          induction m with
          | zero => rfl
          | succ m ih => rw [stF_s, ih]; rfl
        exact this n
      rw [e, wtdl hB]
    rw [this]
    exact ⟨by omega, by rw [Nat.zero_mul, Int.pow_zero]; omega, fun h => by have := (stp 0 h).2; rw [‹wW P b n B o 0 = 1›] at this; exact this⟩
  | succ i ih =>
    intro hi
    obtain ⟨h1, h2, -⟩ := ih (by omega)
    have s := stp i (by omega)
    refine ⟨s.1, ?_, fun h => (stp (i + 1) h).2⟩
    have m := Int.mul_le_mul_of_nonneg_left h2 (show (0 : Int) ≤ 10 ^ b by have := p10_p b; omega)
    rw [← Int.pow_add, show b + i * b = (i + 1) * b by rw [Nat.add_mul, Nat.one_mul]; omega] at m
    omega
theorem chW_b {P : Nat → Int} {n b : Nat} (hT : TPP P n b) {o : Nat → Nat} (ho : ORD o n) {B : Nat} (hB : 1 ≤ B) {j : Nat} (hj : j < n) : 0 ≤ chW P b n B o n (o j) ∧ chW P b n B o n (o j) ≤ 1000000000000000 := by
  have e := chW_e (P := P) (b := b) (B := B) ho hj (n - 1 - j) (by omega)
  rw [show j + 1 + (n - 1 - j) = n by omega] at e
  obtain ⟨a1, a2, a3⟩ := wW_b hT ho hB j (by omega)
  have a4 := (wW_b hT ho hB (j + 1) (by omega)).1
  have a5 := a3 hj
  have pb := p10_p b
  have m := Int.mul_le_mul_of_nonneg_left a2 (show (0 : Int) ≤ 10 ^ b by omega)
  rw [← Int.pow_add, show b + j * b = (j + 1) * b by rw [Nat.add_mul, Nat.one_mul]; omega] at m
  have pk := p10_p ((n - 1 - j) * b)
  have q := mul_c (a := 10 ^ b * wW P b n B o j - wW P b n B o (j + 1)) (A := 10 ^ ((j + 1) * b)) (b := 10 ^ ((n - 1 - j) * b)) (B := 10 ^ ((n - 1 - j) * b)) ⟨by omega, by omega⟩ ⟨by omega, by omega⟩
  rw [← Int.pow_add, ← Nat.add_mul, show j + 1 + (n - 1 - j) = n by omega] at q
  have := p10_l (n * b) (by have := hT.2.2.2.2.2.2.1; omega)
  rw [e]
  omega
theorem plaB {N : MM} : ∃ N', sX12_plain 359 N = some N' ∧ (∀ a, a ≠ 382 → N' a = N a) ∧ ∀ i, i < 8 → N' 382 i = (i : Int) := by
  unfold sX12_plain sX12_plain_b0
  refine loopC (fun f y (t : MM) => sX12_plain_b2 359 f y t) 8 (fun k t => (∀ a, a ≠ 382 → t a = N a) ∧ ∀ i, i < k → t 382 i = (i : Int)) (fun o => ∃ N', o = some N' ∧ (∀ a, a ≠ 382 → N' a = N a) ∧ ∀ i, i < 8 → N' 382 i = (i : Int)) ?_ ?_ FU 0 N (by omega) ⟨fun _ _ => rfl, fun i hi => by omega⟩ (by unfold FU; omega)
  · intro f t ⟨s1, s2⟩
    show ∃ N', sX12_plain_b2 359 (f + 1) ((8 : Nat) : Int) t = some N' ∧ _
    rw [sX12_plain_b2, wI_of (x := ((8 : Nat) : Int)) (by omega) (by omega), if_pos (by omega)]
    exact ⟨t, rfl, s1, s2⟩
  · intro f k t hk ⟨s1, s2⟩
    right
    refine ⟨mU t 382 k (k : Int), ?_, fun a ha => by rw [mU_row _ _ ha]; exact s1 a ha, fun i hi => ?_⟩
    · show sX12_plain_b2 359 (f + 1) (k : Int) t = _
      rw [sX12_plain_b2, wI_of (x := (k : Int)) (by omega) (by omega), if_neg (show ¬ 8 ≤ (k : Int) by omega), if_pos ⟨by omega, by omega⟩, ob_s, ob_s, g359_52, tN]
    · by_cases e : i = k
      · subst e; rw [mU_eq]
      · rw [mU_ne _ _ (by omega)]; exact s2 i (by omega)
theorem F34_FC {M M' : MM} (h : F34 M M') : FC M M' := fun a ha => h a (by omega) (by omega)
def thF (ch : Nat → Int) (k : Nat) : Int × Int := fo (fun j s => if ch (j + 1) ≤ s.2 then s else ((j : Int) + 1, ch (j + 1))) k (1, -1)
theorem thF_s (ch : Nat → Int) (k : Nat) : thF ch (k + 1) = if ch (k + 1) ≤ (thF ch k).2 then thF ch k else ((k : Int) + 1, ch (k + 1)) := rfl
theorem thF_b {ch : Nat → Int} (h : ∀ k, 1 ≤ k → k ≤ 9 → 0 ≤ ch k ∧ ch k ≤ 1000000000000000) : ∀ k, k ≤ 9 → -1 ≤ (thF ch k).2 ∧ (thF ch k).2 ≤ 1000000000000000 := by
  intro k
  induction k with
  | zero => intro _; exact ⟨Int.le_refl _, by show (-1 : Int) ≤ _; omega⟩
  | succ k ih =>
    intro hk
    have := h (k + 1) (by omega) (by omega)
    rw [thF_s]
    split
    · exact ih (by omega)
    · dsimp only; omega
theorem e_thick {M : MM} (h : INV M) {x1 : Int} (r1 : R32 x1) : ∃ v v' M1 M2, sX11_thick 0 x1 M = some (v, M1) ∧ sX12_thick 359 x1 M1 = some (v', M2) ∧ wI v = wI v' ∧ INV M2 := by
  unfold sX11_thick sX11_thick_b0
  rcases a_party h r1 with ⟨kp, hkp, rfl, hlp, e1⟩ | ⟨hn, e1⟩
  · obtain ⟨hpc, hpv⟩ := i_party h hlp
    obtain ⟨n, b, hn, hb, hm, h40, hT⟩ := tpp_e hpv
    have hg := PG_p kp hkp
    have hv1 := hpv.1
    have hbel := hpv.2.2.2.2.1 0 (by omega)
    rw [show 19 + 2 * 0 = 19 from rfl] at hbel
    obtain ⟨B0, hB0⟩ := Int.eq_ofNat_of_zero_le (show 0 ≤ pP M kp 19 by omega)
    rw [hB0] at hbel
    have hb0 : 1 ≤ B0 ∧ B0 ≤ 30 := by omega
    rw [e1, ob_s, nMs_, canA_e hpc hm h40, g0_6]
    by_cases q : n * b ≤ 15
    · rw [if_pos q, i10]
      have hT := hT q
      have hT0 := hT
      obtain ⟨t1, t2, t3, t4, t5, t6, t7, t8, t9⟩ := hT
      obtain ⟨ch, hch⟩ : ∃ ch : Nat → Int, ∀ lay, ch lay = chW (pP M kp) b n (B0 * lay) id n (n - 1) := ⟨_, fun _ => rfl⟩
      have chb : ∀ k, 1 ≤ k → k ≤ 9 → 0 ≤ ch k ∧ ch k ≤ 1000000000000000 := fun k k1 k2 => by
        rw [hch]
        exact chW_b hT0 (id_ord n) (Nat.mul_pos hb0.1 k1) (j := n - 1) (by omega)
      have thb := thF_b chb
      obtain ⟨M1, a1, a2⟩ : ∃ M1, sX4_bestLayers 121 (9 + 34 * kp) M = some ((thF ch 9).1, M1) ∧ F34 M M1 := by
        unfold sX4_bestLayers sX4_bestLayers_b0
        rw [hpc.1.2.1, hn, wI_of (x := (n : Int)) (by omega) (by omega), wI_of (x := (n : Int) - 1) (by omega) (by omega), if_pos (show 0 ≤ (n : Int) ∧ (n : Int) < 32 by omega), ob_s, if_pos (show 0 ≤ (n : Int) - 1 ∧ (n : Int) - 1 < 32 by omega), ob_s, tN, show ((n : Int) - 1).toNat = n - 1 by omega]
        have p1 := p2n n (by omega)
        have p2 := p2n (n - 1) (by omega)
        refine loopC (fun f y (s : (Int × Int) × MM) => sX4_bestLayers_b31 121 (9 + 34 * kp) f (1 * 2 ^ n - 1) (1 * 2 ^ (n - 1) - 1) s.1.1 s.1.2 y s.2) 10 (fun k s => 1 ≤ k ∧ s.1 = thF ch (k - 1) ∧ F34 M s.2) (fun r => ∃ M1, r = some ((thF ch 9).1, M1) ∧ F34 M M1) ?_ ?_ FU 1 ((1, -1), M) (by omega) ⟨by omega, rfl, F34_r M⟩ (by unfold FU; omega)
        · intro f s ⟨_, s1, s2⟩
          show ∃ M1, sX4_bestLayers_b31 121 (9 + 34 * kp) (f + 1) (1 * 2 ^ n - 1) (1 * 2 ^ (n - 1) - 1) s.1.1 s.1.2 ((10 : Nat) : Int) s.2 = some ((thF ch 9).1, M1) ∧ F34 M M1
          rw [sX4_bestLayers_b31, wI_of (x := ((10 : Nat) : Int)) (by omega) (by omega), if_pos (by omega), s1]
          exact ⟨s.2, rfl, s2⟩
        · intro f k s hk ⟨hk1, s1, s2⟩
          right
          obtain ⟨Z, z1, z2⟩ := holdA hpc hpv hg (by omega) hT0 s2 hB0 hb0 (lay := k) ⟨hk1, by omega⟩ (x := 1 * 2 ^ (n - 1) - 1) ⟨by omega, by omega⟩
          obtain ⟨Y, y1, y2⟩ := holdA hpc hpv hg (by omega) hT0 z2 hB0 hb0 (lay := k) ⟨hk1, by omega⟩ (x := 1 * 2 ^ n - 1) ⟨by omega, by omega⟩
          have eq := ch_ho hT0 (id_ord n) B0 k (j := n - 1) (by omega) (bt_full (i := n - 1) (by omega) (by omega)) (S' := btS (1 * 2 ^ n - 1)) (by rw [show n - 1 + 1 = n by omega]; exact bt_full (i := n) (by omega) (by omega))
          rw [show id (n - 1) = n - 1 from rfl, ← hch k] at eq
          have cb := chb k hk1 (by omega)
          have tb := thb (k - 1) (by omega)
          rw [← s1] at tb
          have ts := thF_s ch (k - 1)
          rw [show k - 1 + 1 = k by omega, ← s1] at ts
          refine ⟨(thF ch k, Y), ?_, by omega, by rw [show k + 1 - 1 = k by omega], y2⟩
          show sX4_bestLayers_b31 121 (9 + 34 * kp) (f + 1) (1 * 2 ^ n - 1) (1 * 2 ^ (n - 1) - 1) s.1.1 s.1.2 (k : Int) s.2 = sX4_bestLayers_b31 121 (9 + 34 * kp) f (1 * 2 ^ n - 1) (1 * 2 ^ (n - 1) - 1) (thF ch k).1 (thF ch k).2 ((k : Int) + 1) Y
          rw [sX4_bestLayers_b31, wI_of (x := (k : Int)) (by omega) (by omega), if_neg (show ¬ 9 < (k : Int) by omega), z1, ob_s]
          dsimp only
          rw [y1, ob_s]
          dsimp only
          unfold sX4_bestLayers_b73
          rw [eq, wJ_of (x := ch k) (by omega) (by omega), wJ_of (x := s.1.2) (by omega) (by omega), ts]
          by_cases y : ch k ≤ s.1.2
          · rw [if_pos y, if_pos y, ob_s]
          · rw [if_neg y, if_neg y, ob_s, show ((k - 1 : Nat) : Int) + 1 = (k : Int) by omega]
      have h1 := INV_1 (F34_FC a2) h
      have c4 : M1 364 = M 364 := a2 364 (by omega) (by omega)
      have c5 : pP M1 kp = pP M kp := pP_c (a2 365 (by omega) (by omega)) kp
      obtain ⟨N, e, f, hd, pe⟩ := hand_0 h1 (k := kp) (by rw [c4]; exact hlp)
      rw [c5] at pe
      obtain ⟨N1, p1, p2, p3⟩ := plaB (N := N)
      have hd1 : HD N1 kp := HD_c hd (p2 365 (by omega)) (fun j _ _ => by rw [p2 359 (by omega)])
      have pe1 : pP N1 kp = pP M kp := (pP_c (p2 365 (by omega)) kp).trans pe
      obtain ⟨N2, q1, q2⟩ : ∃ N2, sX12_thick 359 (kp : Int) M1 = some ((thF ch 9).1, N2) ∧ INV N2 := by
        unfold sX12_thick sX12_thick_b0
        rw [ob_s, e, ob_s]
        dsimp only
        rw [i10, canB_e hd pe hm h40, if_pos q, i10, p1, ob_s]
        refine loopC (fun f y (s : (Int × Int) × MM) => sX12_thick_b35 359 (kp : Int) f s.1.1 s.1.2 y s.2) 10 (fun k s => 1 ≤ k ∧ s.1 = thF ch (k - 1) ∧ FQ N1 s.2) (fun r => ∃ N2, r = some ((thF ch 9).1, N2) ∧ INV N2) ?_ ?_ FU 1 ((1, -1), N1) (by omega) ⟨by omega, rfl, FQ_r N1⟩ (by unfold FU; omega)
        · intro g s ⟨_, s1, s2⟩
          show ∃ N2, sX12_thick_b35 359 (kp : Int) (g + 1) s.1.1 s.1.2 ((10 : Nat) : Int) s.2 = some ((thF ch 9).1, N2) ∧ INV N2
          rw [sX12_thick_b35, wI_of (x := ((10 : Nat) : Int)) (by omega) (by omega), if_pos (by omega), s1]
          exact ⟨s.2, rfl, INV_2 (FR_t f (FR_t (fun a ha hb => p2 a (by omega)) (FQ_FR s2))) h1⟩
        · intro g k s hk ⟨hk1, s1, s2⟩
          right
          obtain ⟨Z, z1, z2, -, -, z5, -, -⟩ := findB (FQ_HD s2 hd1) ((FQ_p s2 kp).trans pe1) hpv hT0 (id_ord n) (fun i hi => by rw [s2.1 382 (by omega) (by omega) (by omega) (by omega)]; exact p3 i (by omega)) hB0 hb0 (lay := k) ⟨hk1, by omega⟩
          rw [show id (n - 1) = n - 1 from rfl, ← hch k] at z5
          have cb := chb k hk1 (by omega)
          have tb := thb (k - 1) (by omega)
          rw [← s1] at tb
          have ts := thF_s ch (k - 1)
          rw [show k - 1 + 1 = k by omega, ← s1] at ts
          refine ⟨(thF ch k, Z), ?_, by omega, by rw [show k + 1 - 1 = k by omega], FQ_t s2 z2⟩
          show sX12_thick_b35 359 (kp : Int) (g + 1) s.1.1 s.1.2 (k : Int) s.2 = sX12_thick_b35 359 (kp : Int) g (thF ch k).1 (thF ch k).2 ((k : Int) + 1) Z
          rw [sX12_thick_b35, wI_of (x := (k : Int)) (by omega) (by omega), if_neg (show ¬ 9 < (k : Int) by omega), z1, ob_s]
          unfold sX12_thick_b63 sX12_thick_b81
          rw [z5, wJ_of (x := ch k) (by omega) (by omega), wJ_of (x := s.1.2) (by omega) (by omega), ts]
          by_cases y : ch k ≤ s.1.2
          · rw [if_pos y, if_pos y, if_pos y, ob_s]
          · rw [if_neg y, if_neg y, if_neg y, ob_s, show ((k - 1 : Nat) : Int) + 1 = (k : Int) by omega]
      rw [a1, ob_s]
      exact ⟨_, _, M1, N2, rfl, q1, rfl, q2⟩
    · rw [if_neg q, i00]
      obtain ⟨N, e, f, hd, pe⟩ := hand_0 h (k := kp) hlp
      refine ⟨-1, -1, M, N, rfl, ?_, rfl, INV_2 f h⟩
      unfold sX12_thick sX12_thick_b0
      rw [ob_s, e, ob_s]
      dsimp only
      rw [i10, canB_e hd pe hm h40, if_neg q, i00]
  · rw [e1, ob_s, nM0_]
    refine ⟨-1, -1, M, mU M 359 0 0, rfl, ?_, rfl, INV_2 (FR_0 M) h⟩
    unfold sX12_thick sX12_thick_b0
    rw [ob_s, hand_0f h r1 hn, ob_s]
    dsimp only
    rw [i00]
