theorem p2n : ∀ n, n ≤ 8 → (2 : Int) ^ n ≤ 256 ∧ 1 ≤ (2 : Int) ^ n := by decide
theorem bit_b (x : Int) (y : Int) : 0 ≤ x / y % 2 ∧ x / y % 2 ≤ 1 := ⟨Int.emod_nonneg _ (by omega), by have := Int.emod_lt_of_pos (x / y) (show (0 : Int) < 2 by omega); omega⟩
theorem canA {M0 M : MM} {p : Nat} {P : Nat → Int} (hc : PC M0 p P) (hv : PV P) (hg : PG p) (hp : p < 66) {K : Nat} {s : PS} (hs : SV P K s) (hr : F115 M0 M) (hM : RCL P M s) {k a b : Int} (hk : 0 ≤ k ∧ k ≤ 5) (ha : -1 ≤ a ∧ a ≤ 9) (hb : -1 ≤ b ∧ b ≤ 9) (ha2 : k ≤ 2 → 0 ≤ a ∧ a ≤ 7) (hb2 : k = 2 → 0 ≤ b) : (dePb P s k a → ∃ M', sX6_canDo 115 p (k + 12) a b M = some (1, M') ∧ F115 M0 M' ∧ RCL P M' (deP P s k a b)) ∧ (¬ dePb P s k a → sX6_canDo 115 p (k + 12) a b M = some (0, M)) := by
  have hv1 := hv.1
  have hs0 := hs
  have hM0 := hM
  have hcM := F115_PC hr (by omega) hc
  obtain ⟨f, L, D⟩ := s
  obtain ⟨s0, s1, s2, s3, s4, s5, s6, s7, s8, s9, s10, s11, s12⟩ := hs
  obtain ⟨m1, m2, m3, m4, m5⟩ := hM
  dsimp only at *
  have hf := fun j h => m1 j h
  unfold sX6_canDo sX6_canDo_b0
  rw [m1 4 (by omega), m1 5 (by omega), wI_of (x := f 4) (by omega) (by omega), wI_of (x := f 5) (by omega) (by omega), wI_of (x := k + 12) (by omega) (by omega)]
  by_cases z4 : f 4 = -1
  · by_cases z5 : f 5 = 0
    · rw [if_pos z4, if_pos z5]
      -- one field more
      have fld : ∀ (T : MM) (i : Nat) (v : Int) (g : Nat → Int), i ≤ 8 → F115 M0 T → RCL P T (g, L, D) → RCL P (mU T 115 i v) (uF g i v, L, D) := fun T i v g hi _ hT => by
        refine ⟨fun j hj => ?_, ⟨?_, ?_⟩, fun j hj => ?_, fun c hc t ht => ?_, fun c hc => ?_⟩
        · dsimp only
          by_cases e : j = i
          · subst e; rw [mU_eq, uF_e]
          · rw [mU_ne _ _ (by omega), uF_n _ _ e]; exact hT.1 j hj
        · dsimp only; rw [mU_ne _ _ (by omega), uF_n _ _ (by omega)]; exact hT.2.1.1
        · dsimp only; rw [mU_ne _ _ (by omega), uF_n _ _ (by omega)]; exact hT.2.1.2
        · rw [mU_row _ _ (by omega)]; exact hT.2.2.1 j hj
        · rw [mU_row _ _ (by omega)]; exact hT.2.2.2.1 c hc t ht
        · rw [mU_row _ _ (by omega)]; exact hT.2.2.2.2 c hc
      have k6 : k = 0 ∨ k = 1 ∨ k = 2 ∨ k = 3 ∨ k = 4 ∨ k = 5 := by omega
      unfold dePb deP
      dsimp only
      rcases k6 with rfl | rfl | rfl | rfl | rfl | rfl
      · -- go
        obtain ⟨c, rfl⟩ := Int.eq_ofNat_of_zero_le (ha2 (by omega)).1
        have hc7 := (ha2 (by omega)).2
        have bb := bit_b (f 6) (2 ^ c)
        rw [if_pos (show (0 : Int) + 12 = 12 by omega), if_pos rfl, if_pos rfl, tN]
        unfold sX6_goes sX6_goes_b0 sX6_goes_b41
        rw [has_e hcM.1.2.1 ⟨by omega, by omega⟩ (x := (c : Int)) ⟨by omega, by omega⟩, m1 6 (by omega), m1 0 (by omega), m1 1 (by omega), hcM.1.2.2.1, wI_of (x := (c : Int)) (by omega) (by omega), tN, Int.emod_eq_of_lt s6.1 (show f 6 < 4294967296 by omega), wI_of (x := f 6 / 2 ^ c % 2) (by omega) (by omega), wI_of (x := f 0) (by omega) (by omega), wI_of (x := P 2) (by omega) (by omega), wI_of (x := f 1) (by omega) (by omega), if_pos (show 0 ≤ (c : Int) ∧ (c : Int) < 32 by omega)]
        simp only [ob_s]
        have go : ∃ M', (some ((1 : Int), mU (mU (mU (mU M 115 0 (c : Int)) 115 1 0) 115 2 (-1)) 115 6 (oI (mU (mU (mU M 115 0 (c : Int)) 115 1 0) 115 2 (-1) 115 6) (1 * 2 ^ c)))) = some (1, M') ∧ F115 M0 M' ∧ RCL P M' (uF (uF (uF (uF f 0 (c : Int)) 1 0) 2 (-1)) 6 (oI (f 6) (1 * 2 ^ c)), L, D) := by
          have e6 : mU (mU (mU M 115 0 (c : Int)) 115 1 0) 115 2 (-1) 115 6 = f 6 := by rw [mU_ne _ _ (by omega), mU_ne _ _ (by omega), mU_ne _ _ (by omega)]; exact m1 6 (by omega)
          rw [e6]
          have r1 := F115_u (k := 0) (x := (c : Int)) hr (b := 115) (by omega)
          have r2 := F115_u (k := 1) (x := 0) r1 (b := 115) (by omega)
          have r3 := F115_u (k := 2) (x := -1) r2 (b := 115) (by omega)
          exact ⟨_, rfl, F115_u r3 (by omega), fld _ 6 _ _ (by omega) r3 (fld _ 2 _ _ (by omega) r2 (fld _ 1 _ _ (by omega) r1 (fld _ 0 _ _ (by omega) hr hM0)))⟩
        refine ⟨fun hd => ?_, fun hd => ?_⟩
        · obtain ⟨-, -, d1, d2, d3, d4⟩ := hd
          rw [if_pos (show 0 ≤ (c : Int) ∧ (c : Int) < P 1 from ⟨d1, d2⟩), i10, if_pos (show 0 ≤ (c : Int) ∧ (c : Int) < 32 by omega), d3, if_neg (show ¬ (0 : Int) = 1 by omega)]
          by_cases q : f 0 = -1
          · rw [if_pos q, ob_s, if_pos (Or.inr rfl)]; exact go
          · rw [if_neg q, if_pos (show P 2 ≤ f 1 by omega), ob_s, if_pos (Or.inr rfl)]; exact go
        · by_cases q1 : 0 ≤ (c : Int) ∧ (c : Int) < P 1
          · rw [if_pos q1, i10, if_pos (show 0 ≤ (c : Int) ∧ (c : Int) < 32 by omega)]
            by_cases q2 : f 6 / 2 ^ c % 2 = 1
            · rw [if_pos q2, ob_s, if_pos (Or.inl rfl)]
            · rw [if_neg q2, if_neg (fun q => hd ⟨z4, z5, q1.1, q1.2, by omega, Or.inl q⟩), if_neg (fun q => hd ⟨z4, z5, q1.1, q1.2, by omega, Or.inr q⟩), ob_s, if_pos (Or.inl rfl)]
          · rw [if_neg q1, i00, ob_s, if_pos (Or.inl rfl)]
      · -- face
        rw [if_neg (show ¬ (1 : Int) + 12 = 12 by omega), if_pos (show (1 : Int) + 12 = 13 by omega), if_neg (show ¬ (1 : Int) = 0 by omega), if_pos rfl, if_neg (show ¬ (1 : Int) = 0 by omega), if_pos rfl]
        unfold sX6_faces sX6_faces_b0
        rw [m1 0 (by omega), m1 1 (by omega), wI_of (x := f 0) (by omega) (by omega), wI_of (x := f 1) (by omega) (by omega), ob_s]
        refine ⟨fun hd => ?_, fun hd => ?_⟩
        · obtain ⟨-, -, d1, d2⟩ := hd
          rw [if_neg d1, if_pos d2, ob_s, if_pos (Or.inr rfl)]
          exact ⟨_, rfl, F115_u hr (by omega), fld _ 2 _ _ (by omega) hr hM0⟩
        · by_cases q : f 0 = -1
          · rw [if_pos q, ob_s, if_pos (Or.inl rfl)]
          · rw [if_neg q, if_neg (fun q2 => hd ⟨z4, z5, q, q2⟩), ob_s, if_pos (Or.inl rfl)]
      · -- strike
        have a7 := ha2 (by omega)
        have b0 := hb2 rfl
        rw [if_neg (show ¬ (2 : Int) + 12 = 12 by omega), if_neg (show ¬ (2 : Int) + 12 = 13 by omega), if_pos (show (2 : Int) + 12 = 14 by omega), if_neg (show ¬ (2 : Int) = 0 by omega), if_neg (show ¬ (2 : Int) = 1 by omega), if_pos rfl, if_neg (show ¬ (2 : Int) = 0 by omega), if_neg (show ¬ (2 : Int) = 1 by omega), if_pos rfl]
        unfold sX6_strikes sX6_strikes_b0
        rw [m1 0 (by omega), m1 2 (by omega), m1 1 (by omega), has_e hcM.1.2.1 ⟨by omega, by omega⟩ (x := f 0) ⟨by omega, by omega⟩, hcM.1.2.2.1, wI_of (x := f 2) (by omega) (by omega), wI_of (x := f 1) (by omega) (by omega), wI_of (x := P 2) (by omega) (by omega), ob_s]
        refine ⟨fun hd => ?_, fun hd => ?_⟩
        · obtain ⟨-, -, d1, d2, d3⟩ := hd
          rw [if_pos (show 0 ≤ f 0 ∧ f 0 < P 1 by omega), i10, if_neg d2, if_pos d3]
          have r1 := F115_u (k := 7) (x := 2) hr (b := 115) (by omega)
          have e1 := firstA (F115_PC r1 (by omega) hc) hv hg (f := f) (L := L) (by rw [mU_ne _ _ (by omega)]; exact m1 2 (by omega)) (by rw [mU_ne _ _ (by omega)]; exact m1 3 (by omega)) (fun i hi => by rw [mU_row _ _ (by omega)]; exact m3 i hi) (by omega) s3 s9 a7 ⟨b0, hb.2⟩ (off := 0) (Or.inl rfl)
          have su0 := su_i P f L a b 0 (P 0).toNat
          have su1 := su_i P f L a b 1 (P 0).toNat
          rw [e1, ob_s, ob_s, mU_eq, stP_q]
          have hla : laP P f L a b = if suN P f L a b 0 (P 0).toNat = -1 then (if suN P f L a b 1 (P 0).toNat = -1 then (0, -1) else (1, suN P f L a b 1 (P 0).toNat)) else (2, suN P f L a b 0 (P 0).toNat) := rfl
          dsimp only
          rw [hla]
          generalize hS0 : suN P f L a b 0 (P 0).toNat = S0 at *
          rw [wI_of (x := S0) (by omega) (by omega)]
          by_cases q0 : S0 = -1
          · rw [if_pos q0, if_pos q0, ob_s]
            have r2 := F115_u (k := 7) (x := 1) (F115_u (k := 8) (x := S0) r1 (b := 115) (by omega)) (b := 115) (by omega)
            have e2 := firstA (F115_PC r2 (by omega) hc) hv hg (f := f) (L := L) (by rw [mU_ne _ _ (by omega), mU_ne _ _ (by omega), mU_ne _ _ (by omega)]; exact m1 2 (by omega)) (by rw [mU_ne _ _ (by omega), mU_ne _ _ (by omega), mU_ne _ _ (by omega)]; exact m1 3 (by omega)) (fun i hi => by rw [mU_row _ _ (by omega), mU_row _ _ (by omega), mU_row _ _ (by omega)]; exact m3 i hi) (by omega) s3 s9 a7 ⟨b0, hb.2⟩ (off := 1) (Or.inr rfl)
            rw [e2, ob_s, ob_s]
            obtain ⟨N', n1, n2, n3⟩ := strA hc hv hg hp hs0 (F115_u (k := 8) (x := suN P f L a b 1 (P 0).toNat) r2 (b := 115) (by omega)) (fun j hj j7 j8 => by rw [mU_ne _ _ (by omega), mU_ne _ _ (by omega), mU_ne _ _ (by omega), mU_ne _ _ (by omega)]; exact m1 j hj) ⟨by rw [mU_ne _ _ (by omega), mU_ne _ _ (by omega), mU_ne _ _ (by omega), mU_ne _ _ (by omega)]; exact m2.1, by rw [mU_ne _ _ (by omega), mU_ne _ _ (by omega), mU_ne _ _ (by omega), mU_ne _ _ (by omega)]; exact m2.2⟩ (l := 1) (pt := suN P f L a b 1 (P 0).toNat) (by rw [mU_ne _ _ (by omega), mU_eq]) (mU_eq _ _ _ _) (Or.inl rfl) (by rcases su1 with h | h; exact Or.inl h; exact Or.inr ⟨h.1, by omega, h.2.2⟩) (fun i hi => by rw [mU_row _ _ (by omega), mU_row _ _ (by omega), mU_row _ _ (by omega), mU_row _ _ (by omega)]; exact m3 i hi) (fun c hc t ht => by rw [mU_row _ _ (by omega), mU_row _ _ (by omega), mU_row _ _ (by omega), mU_row _ _ (by omega)]; exact m4 c hc t ht) (fun c hc => by rw [mU_row _ _ (by omega), mU_row _ _ (by omega), mU_row _ _ (by omega), mU_row _ _ (by omega)]; exact m5 c hc) (show (0 : Int) ≤ f 0 by omega) a b
            rw [n1, ob_s, if_pos (Or.inr rfl)]
            exact ⟨N', rfl, n2, n3⟩
          · rw [if_neg q0, if_neg q0]
            obtain ⟨N', n1, n2, n3⟩ := strA hc hv hg hp hs0 (F115_u (k := 8) (x := S0) r1 (b := 115) (by omega)) (fun j hj j7 j8 => by rw [mU_ne _ _ (by omega), mU_ne _ _ (by omega)]; exact m1 j hj) ⟨by rw [mU_ne _ _ (by omega), mU_ne _ _ (by omega)]; exact m2.1, by rw [mU_ne _ _ (by omega), mU_ne _ _ (by omega)]; exact m2.2⟩ (l := 2) (pt := S0) (by rw [mU_ne _ _ (by omega), mU_eq]) (mU_eq _ _ _ _) (Or.inr rfl) (by rcases su0 with h | h; exact Or.inl h; exact Or.inr ⟨h.1, by omega, h.2.2⟩) (fun i hi => by rw [mU_row _ _ (by omega), mU_row _ _ (by omega)]; exact m3 i hi) (fun c hc t ht => by rw [mU_row _ _ (by omega), mU_row _ _ (by omega)]; exact m4 c hc t ht) (fun c hc => by rw [mU_row _ _ (by omega), mU_row _ _ (by omega)]; exact m5 c hc) (show (0 : Int) ≤ f 0 by omega) a b
            rw [n1, ob_s, if_pos (Or.inr rfl)]
            rw [if_neg q0] at n3
            exact ⟨N', rfl, n2, n3⟩
        · by_cases q1 : 0 ≤ f 0 ∧ f 0 < P 1
          · rw [if_pos q1, i10]
            by_cases q2 : f 2 = -1
            · rw [if_pos q2, ob_s, if_pos (Or.inl rfl)]
            · rw [if_neg q2, if_neg (fun q3 => hd ⟨z4, z5, by omega, q2, q3⟩), ob_s, if_pos (Or.inl rfl)]
          · rw [if_neg q1, i00, ob_s, if_pos (Or.inl rfl)]
      · -- up
        rw [if_neg (show ¬ (3 : Int) + 12 = 12 by omega), if_neg (show ¬ (3 : Int) + 12 = 13 by omega), if_neg (show ¬ (3 : Int) + 12 = 14 by omega), if_pos (show (3 : Int) + 12 = 15 by omega), if_neg (show ¬ (3 : Int) = 0 by omega), if_neg (show ¬ (3 : Int) = 1 by omega), if_neg (show ¬ (3 : Int) = 2 by omega), if_pos rfl, if_neg (show ¬ (3 : Int) = 0 by omega), if_neg (show ¬ (3 : Int) = 1 by omega), if_neg (show ¬ (3 : Int) = 2 by omega), if_pos rfl]
        unfold sX6_raises sX6_raises_b0
        rw [m1 3 (by omega), wI_of (x := f 3 + a) (by omega) (by omega), ob_s]
        refine ⟨fun hd => ?_, fun hd => ?_⟩
        · obtain ⟨-, -, d1, d2⟩ := hd
          rw [if_neg (show ¬ f 3 + a < 0 by omega), if_pos d2, ob_s, if_pos (Or.inr rfl)]
          exact ⟨_, rfl, F115_u hr (by omega), fld _ 3 _ _ (by omega) hr hM0⟩
        · by_cases q : f 3 + a < 0
          · rw [if_pos q, ob_s, if_pos (Or.inl rfl)]
          · rw [if_neg q, if_neg (fun q2 => hd ⟨z4, z5, by omega, q2⟩), ob_s, if_pos (Or.inl rfl)]
      · -- down
        rw [if_neg (show ¬ (4 : Int) + 12 = 12 by omega), if_neg (show ¬ (4 : Int) + 12 = 13 by omega), if_neg (show ¬ (4 : Int) + 12 = 14 by omega), if_neg (show ¬ (4 : Int) + 12 = 15 by omega), if_pos (show (4 : Int) + 12 = 16 by omega), if_neg (show ¬ (4 : Int) = 0 by omega), if_neg (show ¬ (4 : Int) = 1 by omega), if_neg (show ¬ (4 : Int) = 2 by omega), if_neg (show ¬ (4 : Int) = 3 by omega), if_pos rfl, if_neg (show ¬ (4 : Int) = 0 by omega), if_neg (show ¬ (4 : Int) = 1 by omega), if_neg (show ¬ (4 : Int) = 2 by omega), if_neg (show ¬ (4 : Int) = 3 by omega), if_pos rfl]
        unfold sX6_raises sX6_raises_b0
        rw [m1 3 (by omega), show f 3 + -a = f 3 - a by omega, wI_of (x := f 3 - a) (by omega) (by omega), ob_s]
        refine ⟨fun hd => ?_, fun hd => ?_⟩
        · obtain ⟨-, -, d1, d2⟩ := hd
          rw [if_neg (show ¬ f 3 - a < 0 by omega), if_pos d2, ob_s, if_pos (Or.inr rfl)]
          exact ⟨_, rfl, F115_u hr (by omega), fld _ 3 _ _ (by omega) hr hM0⟩
        · by_cases q : f 3 - a < 0
          · rw [if_pos q, ob_s, if_pos (Or.inl rfl)]
          · rw [if_neg q, if_neg (fun q2 => hd ⟨z4, z5, by omega, q2⟩), ob_s, if_pos (Or.inl rfl)]
      · -- cut
        have p8 := p2n (P 1).toNat (by omega)
        rw [if_neg (show ¬ (5 : Int) + 12 = 12 by omega), if_neg (show ¬ (5 : Int) + 12 = 13 by omega), if_neg (show ¬ (5 : Int) + 12 = 14 by omega), if_neg (show ¬ (5 : Int) + 12 = 15 by omega), if_neg (show ¬ (5 : Int) + 12 = 16 by omega), if_neg (show ¬ (5 : Int) = 0 by omega), if_neg (show ¬ (5 : Int) = 1 by omega), if_neg (show ¬ (5 : Int) = 2 by omega), if_neg (show ¬ (5 : Int) = 3 by omega), if_neg (show ¬ (5 : Int) = 4 by omega), if_neg (show ¬ (5 : Int) = 0 by omega), if_neg (show ¬ (5 : Int) = 1 by omega), if_neg (show ¬ (5 : Int) = 2 by omega), if_neg (show ¬ (5 : Int) = 3 by omega), if_neg (show ¬ (5 : Int) = 4 by omega)]
        unfold sX6_isCutOpen sX6_isCutOpen_b0
        rw [hcM.1.2.1, m1 6 (by omega), wI_of (x := P 1) (by omega) (by omega), if_pos (show 0 ≤ P 1 ∧ P 1 < 32 by omega), Int.one_mul, wI_of (x := 2 ^ (P 1).toNat - 1) (by omega) (by omega), wI_of (x := f 6) (by omega) (by omega), ob_s]
        refine ⟨fun hd => ?_, fun hd => ?_⟩
        · rw [if_pos hd.2.2, ob_s, if_pos (Or.inr rfl)]
          exact ⟨_, rfl, F115_u hr (by omega), fld _ 5 _ _ (by omega) hr hM0⟩
        · rw [if_neg (fun q => hd ⟨z4, z5, q⟩), ob_s, if_pos (Or.inl rfl)]
    · rw [if_pos z4, if_neg z5]
      exact ⟨fun hd => absurd hd.2.1 z5, fun _ => rfl⟩
  · rw [if_neg z4]
    exact ⟨fun hd => absurd hd.1 z4, fun _ => rfl⟩
