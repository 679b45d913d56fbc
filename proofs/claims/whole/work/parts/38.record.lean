theorem pw_b {b : Nat} (hb : b ≤ 10) : ∀ e : Nat, b ^ e ≤ 10 ^ e := fun e => Nat.pow_le_pow_left hb e
theorem pw_15 {b e : Nat} (hb : b ≤ 10) (he : e ≤ 15) : b ^ e ≤ 10 ^ 15 := Nat.le_trans (pw_b hb e) (Nat.pow_le_pow_right (by omega) he)
theorem pwA {b e : Nat} (hb : b ≤ 10) (he : e ≤ 15) : sX11_power (b : Int) (e : Int) = some ((b ^ e : Nat) : Int) := by
  unfold sX11_power sX11_power_b0
  refine loopC (fun f x (s : Int) => sX11_power_b5 (b : Int) (e : Int) f s x) e (fun k s => s = ((b ^ k : Nat) : Int)) (fun o => o = some ((b ^ e : Nat) : Int)) ?_ ?_ FU 0 1 (by omega) (by simp) (by unfold FU; omega)
  · intro f s hs
    show sX11_power_b5 (b : Int) (e : Int) (f + 1) s e = _
    rw [sX11_power_b5, if_pos (Int.le_refl _), hs]
    rfl
  · intro f k s hk hs
    right
    refine ⟨s * b, ?_, by rw [hs, Nat.pow_succ, Int.natCast_mul]⟩
    show sX11_power_b5 (b : Int) (e : Int) (f + 1) s k = _
    rw [sX11_power_b5, wI_of (x := (e : Int)) (by omega) (by omega), wI_of (x := (k : Int)) (by omega) (by omega), if_neg (by omega), if_neg (by omega), ob_s, wI_of (x := (b : Int)) (by omega) (by omega)]
theorem pwB {b e : Nat} (hb : b ≤ 10) (he : e ≤ 15) : sX12_power (b : Int) (e : Int) = some ((b ^ e : Nat) : Int) := by
  unfold sX12_power sX12_power_b0
  refine loopC (fun f x (s : Int) => sX12_power_b5 (b : Int) (e : Int) f s x) e (fun k s => s = ((b ^ k : Nat) : Int)) (fun o => o = some ((b ^ e : Nat) : Int)) ?_ ?_ FU 0 1 (by omega) (by simp) (by unfold FU; omega)
  · intro f s hs
    show sX12_power_b5 (b : Int) (e : Int) (f + 1) s e = _
    rw [sX12_power_b5, if_pos (Int.le_refl _), hs]
  · intro f k s hk hs
    right
    refine ⟨s * b, ?_, by rw [hs, Nat.pow_succ, Int.natCast_mul]⟩
    show sX12_power_b5 (b : Int) (e : Int) (f + 1) s k = _
    rw [sX12_power_b5, wI_of (x := (e : Int)) (by omega) (by omega), wI_of (x := (k : Int)) (by omega) (by omega), if_neg (by omega), ob_s, wI_of (x := (b : Int)) (by omega) (by omega)]
theorem many_l {p q h : Nat} (hp : p ≤ 10) (hq : q ≤ 10) (M : MM) : ∀ n k : Nat, k + n = 16 → ∀ f, n < f → ∃ v, sX11_many_b35 0 (p : Int) (q : Int) (h : Int) f (k : Int) = some v ∧ sX12_many_b40 359 (p : Int) (q : Int) (h : Int) f (k : Int) M = some (v, M) := by
  intro n
  induction n with
  | zero =>
    intro k hk f hf
    obtain ⟨f, rfl⟩ : ∃ g, f = g + 1 := ⟨f - 1, by omega⟩
    rw [sX11_many_b35, sX12_many_b40, wI_of (by omega) (by omega), if_pos (by omega), if_pos (by omega)]
    exact ⟨_, rfl, rfl⟩
  | succ n ih =>
    intro k hk f hf
    obtain ⟨f, rfl⟩ : ∃ g, f = g + 1 := ⟨f - 1, by omega⟩
    obtain ⟨v, e1, e2⟩ := ih (k + 1) (by omega) f (by omega)
    rw [sX11_many_b35, sX12_many_b40, wI_of (x := (k : Int)) (by omega) (by omega), if_neg (by omega), if_neg (by omega), pwA hq (by omega), ob_s, pwA hp (by omega), ob_s, pwB hp (by omega), ob_s, pwB hq (by omega), ob_s]
    unfold sX11_many_b86 sX12_many_b94
    simp only [ob_s]
    rw [show (k : Int) + 1 = ((k + 1 : Nat) : Int) from rfl, e1, e2]
    by_cases h1 : wJ (((p ^ k : Nat) : Int) + ((q ^ k : Nat) : Int)) ≤ 0
    · rw [if_pos h1, if_pos h1]; exact ⟨v, rfl, rfl⟩
    · rw [if_neg h1, if_neg h1]
      by_cases h2 : wJ (100 * ((q ^ k : Nat) : Int)) < wJ (wI (h : Int) * (((p ^ k : Nat) : Int) + ((q ^ k : Nat) : Int)))
      · rw [if_pos h2, if_pos h2]; exact ⟨v, rfl, rfl⟩
      · rw [if_neg h2, if_neg h2]; exact ⟨k, rfl, rfl⟩
theorem e_many {M : MM} (h : INV M) {x1 x2 x3 : Int} (r1 : R32 x1) (r2 : R32 x2) (r3 : R32 x3) : ∃ v v' M2, sX11_many 0 x1 x2 x3 = some v ∧ sX12_many 359 x1 x2 x3 M = some (v', M2) ∧ wI v = wI v' ∧ INV M2 := by
  have hI : INV (mU M 359 0 0) := INV_2 (FR_0 M) h
  unfold sX11_many sX11_many_b0 sX12_many sX12_many_b0
  rw [ob_s, wI_of r1.1 r1.2, wI_of r2.1 r2.2, wI_of r3.1 r3.2]
  by_cases a1 : 0 ≤ x1 ∧ x1 ≤ 10
  · rw [in_1 r1.1 r1.2 (by omega) (by omega) a1.1 a1.2, i1z, if_neg (by omega), if_neg (by omega)]
    by_cases a2 : 0 ≤ x2 ∧ x2 ≤ 10
    · rw [in_1 r2.1 r2.2 (by omega) (by omega) a2.1 a2.2, i1z, if_neg (by omega), if_neg (by omega)]
      by_cases a3 : 0 ≤ x3 ∧ x3 ≤ 100
      · rw [in_1 r3.1 r3.2 (by omega) (by omega) a3.1 a3.2, i1z, if_neg (by omega), if_pos (by omega)]
        obtain ⟨p, rfl⟩ := Int.eq_ofNat_of_zero_le a1.1
        obtain ⟨q, rfl⟩ := Int.eq_ofNat_of_zero_le a2.1
        obtain ⟨w, rfl⟩ := Int.eq_ofNat_of_zero_le a3.1
        obtain ⟨v, e1, e2⟩ := many_l (p := p) (q := q) (h := w) (by omega) (by omega) (mU M 359 0 0) 16 0 (by omega) FU (by unfold FU; omega)
        exact ⟨v, v, _, e1, e2, rfl, hI⟩
      · rw [in_f r3 ⟨by omega, by omega⟩ ⟨by omega, by omega⟩ a3, wI_0, if_pos rfl]
        refine ⟨-1, _, _, ?_, rfl, rfl, hI⟩
        by_cases b : x3 < 0
        · rw [if_pos b]
        · rw [if_neg b, if_neg (by omega)]
    · rw [in_f r2 ⟨by omega, by omega⟩ ⟨by omega, by omega⟩ a2, wI_0, if_pos rfl]
      refine ⟨-1, _, _, ?_, rfl, rfl, hI⟩
      by_cases b : x2 < 0
      · rw [if_pos b]
      · rw [if_neg b, if_pos (by omega)]
  · rw [in_f r1 ⟨by omega, by omega⟩ ⟨by omega, by omega⟩ a1, wI_0, if_pos rfl]
    refine ⟨-1, _, _, ?_, rfl, rfl, hI⟩
    by_cases b : x1 < 0
    · rw [if_pos b]
    · rw [if_neg b, if_pos (by omega)]
/-- hits of a record -/
theorem hitsA {M : MM} {k : Nat} (hk : k < 2) (hc : RC M (34 + 34 * k) (rR M k)) (hv : RV (rR M k)) {n : Nat} (hn : rR M k 1 = (n : Int)) : sX8_hits (34 + 34 * k) M = some (sm (fun j => rR M k (82 + j)) n) := by
  obtain ⟨v1, v2, v3, v4, v5, v6⟩ := hv
  unfold sX8_hits sX8_hits_b0
  rw [(gT_k k hk).2, sumA (LG_rk k hk) (by omega) (n := n) (by rw [show 39 + 34 * k = 34 + 34 * k + 5 by omega, hc.2.1, hn]) (by omega) (fun j hj => ?_), ob_s]
  · exact congrArg some (sm_ext (fun j hj => by have := hc.2.2.2 j (by omega); rw [show 39 + 34 * k + 3 = 34 + 34 * k + 8 by omega, this]))
  · have := hc.2.2.2 j (by omega)
    have := v6 j (by omega)
    rw [show 39 + 34 * k + 3 = 34 + 34 * k + 8 by omega]; omega
theorem hitsB {M : MM} {k : Nat} (hk : k < 2) (h : M 359 63 = (k : Int)) (hv : RV (rR M k)) {n : Nat} (hn : rR M k 1 = (n : Int)) : sX12_hits 359 M = some (sm (fun j => rR M k (82 + j)) n) := by
  obtain ⟨v1, v2, v3, v4, v5, v6⟩ := hv
  unfold sX12_hits sX12_hits_b0
  refine loopC (fun f x (s : Int) => sX12_hits_b4 359 M f s x) n (fun j s => s = sm (fun j => rR M k (82 + j)) j) (fun o => o = some (sm (fun j => rR M k (82 + j)) n)) ?_ ?_ FU 0 0 (by omega) rfl (by unfold FU; omega)
  · intro f s hs
    show sX12_hits_b4 359 M (f + 1) s n = _
    rw [sX12_hits_b4, ofR_e hk h ⟨by omega, by omega⟩, ob_s, show (1 : Int).toNat = 1 from rfl, hn, if_pos (Int.le_refl _), hs]
  · intro f j s hj hs
    right
    refine ⟨s + rR M k (82 + j), ?_, by rw [hs, sm_s]⟩
    show sX12_hits_b4 359 M (f + 1) s j = _
    rw [sX12_hits_b4, ofR_e hk h ⟨by omega, by omega⟩, ob_s, show (1 : Int).toNat = 1 from rfl, hn, wI_of (x := (n : Int)) (by omega) (by omega), wI_of (x := (j : Int)) (by omega) (by omega), if_neg (by omega), ofR_e hk h ⟨by omega, by omega⟩, ob_s, ob_s, show (82 + (j : Int)).toNat = 82 + j by omega]
theorem sm_01 {f : Nat → Int} {n : Nat} (h : ∀ k, k < n → 0 ≤ f k ∧ f k ≤ 1) : 0 ≤ sm f n ∧ sm f n ≤ (n : Int) := by have := sm_b h; omega
theorem e_peeped {M : MM} (h : INV M) {x1 x2 x3 x4 : Int} (r1 : R32 x1) (r2 : R32 x2) (r3 : R32 x3) : ∃ v v' M2, sX11_peeped 0 x1 x2 x3 x4 M = some v ∧ sX12_peeped 359 x1 x2 x3 x4 M = some (v', M2) ∧ wJ v = wJ v' ∧ INV M2 := by
  have hI0 : INV (mU M 359 0 0) := INV_2 (FR_0 M) h
  have hb := has_r (M := mU M 359 0 0) (x := x1) (by rw [m0_364]; exact (i_size h (s := 4) (by omega)).2) r1
  have hI : INV (mU (mU M 359 0 0) 359 63 x1) := INV_2 (FR_u (FR_0 M) (by omega)) h
  unfold sX11_peeped sX11_peeped_b0 sX12_peeped sX12_peeped_b0 sX12_peeped_b33 sX11_peeped_b32
  rw [ob_s, hb, ob_s, m0_364, wI_of r2.1 r2.2, wI_of r3.1 r3.2]
  by_cases a1 : 0 ≤ x2 ∧ x2 ≤ 10
  · rw [in_1 r2.1 r2.2 (by omega) (by omega) a1.1 a1.2, i1z]
    by_cases a2 : 0 ≤ x3 ∧ x3 ≤ 10
    · rw [in_1 r3.1 r3.2 (by omega) (by omega) a2.1 a2.2, i1z]
      rcases a_record h r1 with ⟨k, hk, rfl, hlt, e⟩ | ⟨hn, e⟩
      · rw [e, ob_s, nMs_, if_neg (by omega), if_neg (by omega), if_neg (by omega), if_pos a2.2]
        obtain ⟨hc, hv⟩ := i_record h hlt
        rw [if_pos (show 0 ≤ (k : Int) ∧ (k : Int) < M 364 4 from ⟨by omega, hlt⟩)]
        show ∃ v v' M2, _ ∧ (if wI 1 = 0 then _ else _) = _ ∧ _
        rw [i10]
        have eb : rR (mU (mU M 359 0 0) 359 63 (k : Int)) k = rR M k := by unfold rR; rw [mU_row _ _ (by omega), mU_row _ _ (by omega)]
        have h63 : mU (mU M 359 0 0) 359 63 (k : Int) 359 63 = (k : Int) := mU_eq _ _ _ _
        obtain ⟨n, hn⟩ := Int.eq_ofNat_of_zero_le hv.2.2.1
        have hn15 := hv.2.2.2.1
        rw [hitsA hk hc hv hn, ob_s, hitsB hk h63 (by rw [eb]; exact hv) (by rw [eb]; exact hn), ob_s, ofR_e hk h63 ⟨by omega, by omega⟩, ob_s, eb]
        have hs : 0 ≤ sm (fun j => rR M k (82 + j)) n ∧ sm (fun j => rR M k (82 + j)) n ≤ (n : Int) := sm_01 (fun j hj => hv.2.2.2.2.2 j (by omega))
        obtain ⟨t, ht⟩ := Int.eq_ofNat_of_zero_le hs.1
        obtain ⟨p, rfl⟩ := Int.eq_ofNat_of_zero_le a1.1
        obtain ⟨q, rfl⟩ := Int.eq_ofNat_of_zero_le a2.1
        rw [ht, show (1 : Int).toNat = 1 from rfl, hn, (gT_k k hk).2, show 39 + 34 * k = 34 + 34 * k + 5 by omega, hc.2.1, hn, show (n : Int) - (t : Int) = ((n - t : Nat) : Int) by omega, show (10 : Int) - (p : Int) = ((10 - p : Nat) : Int) by omega, show (10 : Int) - (q : Int) = ((10 - q : Nat) : Int) by omega]
        rw [pwA (b := p) (e := t) (by omega) (by omega), ob_s, pwA (b := 10 - p) (e := n - t) (by omega) (by omega), ob_s, pwA (b := q) (e := t) (by omega) (by omega), ob_s, pwA (b := 10 - q) (e := n - t) (by omega) (by omega), ob_s]
        rw [pwB (b := p) (e := t) (by omega) (by omega), ob_s, pwB (b := 10 - p) (e := n - t) (by omega) (by omega), ob_s, pwB (b := q) (e := t) (by omega) (by omega), ob_s, pwB (b := 10 - q) (e := n - t) (by omega) (by omega), ob_s]
        have b1 : ∀ b : Nat, b ≤ 10 → b ^ t * (10 - b) ^ (n - t) ≤ 10 ^ 15 := fun b hb' => by
          have h1 := pw_b hb' t
          have h2 := pw_b (b := 10 - b) (by omega) (n - t)
          have h3 := Nat.mul_le_mul h1 h2
          rw [← Nat.pow_add, show t + (n - t) = n by omega] at h3
          exact Nat.le_trans h3 (Nat.pow_le_pow_right (by omega) (by omega))
        have c1 := b1 p (by omega)
        have c2 := b1 q (by omega)
        rw [← Int.natCast_mul, ← Int.natCast_mul, ← Int.natCast_add]
        generalize hA : p ^ t * (10 - p) ^ (n - t) = A at *
        generalize hB : q ^ t * (10 - q) ^ (n - t) = B at *
        by_cases z : wJ ((A + B : Nat) : Int) = 0
        · rw [if_pos z, if_pos z]; exact ⟨_, _, _, rfl, rfl, rfl, hI⟩
        · rw [if_neg z, if_neg z]
          have z' : A + B ≠ 0 := fun q => z (by rw [q]; exact wJ_00)
          obtain ⟨v, e1, e2⟩ := fr_eq (n := B) (d := A + B) (by omega) ⟨by omega, by omega⟩ x4
          rw [e1, e2]
          exact ⟨_, _, _, rfl, rfl, rfl, hI⟩
      · rw [e, ob_s, nM0_, if_neg hn]
        exact ⟨-1, -1, _, rfl, rfl, rfl, hI⟩
    · rw [in_f r3 ⟨by omega, by omega⟩ ⟨by omega, by omega⟩ a2, wI_0, if_pos rfl]
      rcases a_record h r1 with ⟨k, hk, rfl, hlt, e⟩ | ⟨hn, e⟩
      · rw [e, ob_s, nMs_, if_neg (by omega), if_neg (by omega)]
        refine ⟨-1, -1, _, ?_, rfl, rfl, hI0⟩
        by_cases b : x3 < 0
        · rw [if_pos b]
        · rw [if_neg b, if_neg (by omega)]
      · rw [e, ob_s, nM0_]
        exact ⟨-1, -1, _, rfl, rfl, rfl, hI0⟩
  · rw [in_f r2 ⟨by omega, by omega⟩ ⟨by omega, by omega⟩ a1, wI_0, if_pos rfl]
    rcases a_record h r1 with ⟨k, hk, rfl, hlt, e⟩ | ⟨hn, e⟩
    · rw [e, ob_s, nMs_]
      refine ⟨-1, -1, _, ?_, rfl, rfl, hI0⟩
      by_cases b : x2 < 0
      · rw [if_pos b]
      · rw [if_neg b, if_pos (by omega)]
    · rw [e, ob_s, nM0_]
      exact ⟨-1, -1, _, rfl, rfl, rfl, hI0⟩
