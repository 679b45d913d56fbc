theorem e_clue {M : MM} (h : INV M) {x1 x2 x3 : Int} (r1 : R32 x1) (r2 : R32 x2) (r3 : R32 x3) : ∃ v v' M2, sX11_clue 0 x1 x2 x3 M = some v ∧ sX12_clue 359 x1 x2 x3 M = some (v', M2) ∧ wI v = wI v' ∧ INV M2 := by
  have hb := has_c (M := mU M 359 0 0) (x := x1) (by rw [m0_364]; exact (i_size h (s := 2) (by omega)).2) r1
  have hI : INV (mU (mU M 359 0 0) 359 46 x1) := INV_2 (FR_u (FR_0 M) (by omega)) h
  unfold sX11_clue sX11_clue_b0 sX12_clue sX12_clue_b0
  rw [ob_s, hb, ob_s, m0_364]
  rcases a_clues h r1 with ⟨k, hk, rfl, hlt, e⟩ | ⟨hn, e⟩
  · rw [e, ob_s, nMs_]
    obtain ⟨⟨c1, c2, c3⟩, v1, v2, v3⟩ := i_clues h hlt
    rw [show 24 + 34 * k + 1 = 25 + 34 * k by omega] at c1
    have h46 : mU (mU M 359 0 0) 359 46 (k : Int) 359 46 = (k : Int) := mU_eq _ _ _ _
    have eb : cC (mU (mU M 359 0 0) 359 46 (k : Int)) k = cC M k := by unfold cC; rw [mU_row _ _ (by omega), mU_row _ _ (by omega)]
    rw [if_pos (show 0 ≤ (k : Int) ∧ (k : Int) < M 364 2 from ⟨by omega, hlt⟩)]
    show ∃ v v' M2, _ ∧ (if wI 1 = 0 then _ else _) = _ ∧ _
    rw [i10]
    rw [told_e hk h46, ob_s, ob_s, eb, (gC_k k hk).1, (gC_k k hk).2]
    rw [lineA (LG_ck k hk) c1 ⟨v1, by omega⟩ (by omega) r2 r3, ob_s, wI_of r2.1 r2.2, wI_of r3.1 r3.2, c1]
    by_cases a1 : x2 = -1
    · rw [if_pos a1, if_pos a1]
      by_cases a2 : x3 = 0
      · rw [if_pos a2, if_pos a2]; exact ⟨_, _, _, rfl, rfl, rfl, hI⟩
      · rw [if_neg a2, if_neg a2]
        by_cases a3 : 10 ≤ x3 ∧ x3 ≤ 17
        · obtain ⟨w, rfl⟩ : ∃ w : Nat, x3 = 10 + (w : Int) := ⟨(x3 - 10).toNat, by omega⟩
          rw [in_1 r3.1 r3.2 (by omega) (by omega) a3.1 a3.2, i1z, if_neg (by omega), if_neg (by omega), wI_of (x := 10 + (w : Int) - 10) (by omega) (by omega), if_pos (by omega), wI_of (x := 33 * (k : Int) + 1 + (10 + (w : Int)) - 10) (by omega) (by omega), if_pos (by omega), g359_8]
          refine ⟨_, _, _, rfl, rfl, ?_, hI⟩
          have := c3 w (by omega)
          rw [show 24 + 34 * k + 5 = 29 + 34 * k by omega] at this
          show wI (M (29 + 34 * k) _) = wI (mU (mU M 359 0 0) 359 46 (k : Int) 367 _)
          rw [show (10 + (w : Int) - 10).toNat = w by omega, this, mU_row _ _ (by omega), mU_row _ _ (by omega), show (33 * (k : Int) + 1 + (10 + (w : Int)) - 10).toNat = 33 * k + (1 + w) by omega]
          rfl
        · rw [in_f r3 ⟨by omega, by omega⟩ ⟨by omega, by omega⟩ a3, wI_0, if_pos rfl]
          refine ⟨-2, _, _, ?_, rfl, rfl, hI⟩
          by_cases a4 : x3 < 10
          · rw [if_pos a4]
          · rw [if_neg a4, if_pos (by omega)]
    · rw [if_neg a1, if_neg a1]
      by_cases a2 : 0 ≤ x2 ∧ x2 < cC M k 0
      · rw [if_pos a2, in_1 r2.1 r2.2 (by omega) (by omega) (by omega) (by omega), i1z]
        obtain ⟨j, rfl⟩ := Int.eq_ofNat_of_zero_le a2.1
        obtain ⟨w1, w2, w3⟩ := c2 j a2.2
        by_cases a3 : 0 ≤ x3 ∧ x3 ≤ 2
        · rw [in_1 r3.1 r3.2 (by omega) (by omega) a3.1 a3.2, i1z, clueOf_e hk h46 ⟨a2.1, by omega⟩ ⟨a3.1, by omega⟩, ob_s, eb, tN, show 25 + 34 * k + 1 = 24 + 34 * k + 2 by omega, show 25 + 34 * k + 2 = 24 + 34 * k + 3 by omega, show 25 + 34 * k + 3 = 24 + 34 * k + 4 by omega, w1, w2, w3]
          refine ⟨_, _, _, rfl, rfl, ?_, hI⟩
          have : x3 = 0 ∨ x3 = 1 ∨ x3 = 2 := by omega
          rcases this with rfl | rfl | rfl
          · rw [if_pos rfl, show (9 + 3 * (j : Int) + 0).toNat = 9 + 3 * j by omega]
          · rw [if_neg (by omega), if_pos rfl, show (9 + 3 * (j : Int) + 1).toNat = 10 + 3 * j by omega]
          · rw [if_neg (by omega), if_neg (by omega), if_pos rfl, show (9 + 3 * (j : Int) + 2).toNat = 11 + 3 * j by omega]
        · rw [in_f r3 ⟨by omega, by omega⟩ ⟨by omega, by omega⟩ a3, wI_0, if_pos rfl, if_neg (by omega), if_neg (by omega), if_neg (by omega)]
          exact ⟨_, _, _, rfl, rfl, rfl, hI⟩
      · rw [if_neg a2, in_f r2 ⟨by omega, by omega⟩ ⟨by omega, by omega⟩ (by omega), wI_0, if_pos rfl]
        exact ⟨_, _, _, rfl, rfl, rfl, hI⟩
  · rw [e, ob_s, nM0_, if_neg hn]
    exact ⟨-2, -2, _, rfl, rfl, rfl, hI⟩
/-- a sum over 0 .. n-1 -/
def sm (f : Nat → Int) (n : Nat) : Int := fo (fun k s => s + f k) n 0
theorem sm_s (f : Nat → Int) (n : Nat) : sm f (n + 1) = sm f n + f n := rfl
theorem sm_0 (f : Nat → Int) : sm f 0 = 0 := rfl
theorem sm_ext {f g : Nat → Int} {n : Nat} (h : ∀ k, k < n → f k = g k) : sm f n = sm g n := fo_ext (fun k hk s => by rw [h k hk]) 0
theorem sm_b {f : Nat → Int} {n : Nat} {B : Int} (h : ∀ k, k < n → 0 ≤ f k ∧ f k ≤ B) : 0 ≤ sm f n ∧ sm f n ≤ B * (n : Int) := by
  induction n with
  | zero => exact ⟨by rw [sm_0]; omega, by rw [sm_0]; simp⟩
  | succ n ih =>
    have i := ih (fun k hk => h k (by omega))
    have j := h n (by omega)
    rw [sm_s, show B * ((n + 1 : Nat) : Int) = B * (n : Int) + B by rw [Int.natCast_add, Int.mul_add]; simp]
    omega
theorem sumA {M : MM} {q m : Nat} (hg : LG q m) (hm : m ≤ 40) {n : Nat} (h4 : M q 4 = (n : Int)) (hn : n ≤ m) (hv : ∀ j, j < n → 0 ≤ M (q + 3) j ∧ M (q + 3) j ≤ 9) : sX3_sumOfSeconds q M = some (sm (M (q + 3)) n) := by
  obtain ⟨g1, g2, g3, l1, l2, l3⟩ := hg
  unfold sX3_sumOfSeconds sX3_sumOfSeconds_b0
  refine loopC (fun f x (s : Int) => sX3_sumOfSeconds_b4 q M f s x) n (fun k s => s = sm (M (q + 3)) k) (fun o => o = some (sm (M (q + 3)) n)) ?_ ?_ FU 0 0 (by omega) rfl (by unfold FU; omega)
  · intro f s hs
    show sX3_sumOfSeconds_b4 q M (f + 1) s n = _
    rw [sX3_sumOfSeconds_b4, h4, if_pos (Int.le_refl _), hs]
  · intro f k s hk hs
    right
    have := hv k hk
    refine ⟨s + M (q + 3) k, ?_, by rw [hs, sm_s]⟩
    show sX3_sumOfSeconds_b4 q M (f + 1) s k = _
    rw [sX3_sumOfSeconds_b4, h4, g3, l3, wI_of (x := (n : Int)) (by omega) (by omega), wI_of (x := (k : Int)) (by omega) (by omega), if_neg (by omega), if_pos (by omega), ob_s, ob_s, tN]
theorem e_fell {M : MM} (h : INV M) {x1 x2 x3 : Int} (r1 : R32 x1) (r2 : R32 x2) (r3 : R32 x3) : ∃ v v' M2, sX11_fell 0 x1 x2 x3 M = some v ∧ sX12_fell 359 x1 x2 x3 M = some (v', M2) ∧ wI v = wI v' ∧ INV M2 := by
  have hb := has_g (M := mU M 359 0 0) (x := x1) (by rw [m0_364]; exact (i_size h (s := 3) (by omega)).2) r1
  have hI : INV (mU (mU M 359 0 0) 359 60 x1) := INV_2 (FR_u (FR_0 M) (by omega)) h
  unfold sX11_fell sX11_fell_b0 sX12_fell sX12_fell_b0
  rw [ob_s, hb, ob_s, m0_364]
  rcases a_ground h r1 with ⟨k, hk, rfl, hlt, e⟩ | ⟨hn, e⟩
  · rw [e, ob_s, nMs_]
    obtain ⟨⟨c1, c2⟩, v1, v2, v3⟩ := i_ground h hlt
    obtain ⟨n, hn⟩ := Int.eq_ofNat_of_zero_le v1
    have hl := LG_gk k hk
    have h60 : mU (mU M 359 0 0) 359 60 (k : Int) 359 60 = (k : Int) := mU_eq _ _ _ _
    have eb : dD (mU (mU M 359 0 0) 359 60 (k : Int)) k = dD M k := by unfold dD; rw [mU_row _ _ (by omega), mU_row _ _ (by omega)]
    rw [if_pos (show 0 ≤ (k : Int) ∧ (k : Int) < M 364 3 from ⟨by omega, hlt⟩)]
    show ∃ v v' M2, _ ∧ (if wI 1 = 0 then _ else _) = _ ∧ _
    rw [i10]
    rw [falls_e hk h60, ob_s, ob_s, eb]
    rw [wI_of r2.1 r2.2, wI_of r3.1 r3.2, c1]
    by_cases a1 : x2 = -1
    · rw [if_pos a1, if_pos a1]
      by_cases a2 : x3 = 0
      · rw [if_pos a2, if_pos a2]; exact ⟨_, _, _, rfl, rfl, rfl, hI⟩
      · rw [if_neg a2, if_neg a2]
        by_cases a3 : x3 = 1
        · rw [if_pos a3, if_pos a3, sumA hl (by omega) (by rw [c1, hn]) (by omega) (fun j hj => by rw [(c2 j (by omega)).2]; have := v3 j (by omega); omega)]
          have hs : sX12_allFell 359 (mU (mU M 359 0 0) 359 60 (k : Int)) = some (sm (M (30 + 34 * k + 3)) n) := by
            unfold sX12_allFell sX12_allFell_b0
            refine loopC (fun f x (s : Int) => sX12_allFell_b4 359 _ f s x) n (fun k' s => s = sm (M (30 + 34 * k + 3)) k') (fun o => o = some (sm (M (30 + 34 * k + 3)) n)) ?_ ?_ FU 0 0 (by omega) rfl (by unfold FU; omega)
            · intro f s hs
              show sX12_allFell_b4 359 _ (f + 1) s n = _
              rw [sX12_allFell_b4, falls_e hk h60, ob_s, eb, hn, if_pos (Int.le_refl _), hs]
            · intro f j s hj hs
              right
              refine ⟨s + M (30 + 34 * k + 3) j, ?_, by rw [hs, sm_s]⟩
              show sX12_allFell_b4 359 _ (f + 1) s j = _
              rw [sX12_allFell_b4, falls_e hk h60, ob_s, eb, hn, wI_of (x := (n : Int)) (by omega) (by omega), wI_of (x := (j : Int)) (by omega) (by omega), if_neg (by omega), fallOf_e hk h60 ⟨by omega, by omega⟩ ⟨by omega, by omega⟩, ob_s, ob_s, eb, (c2 j (by omega)).2, show (1 + 2 * (j : Int) + 1).toNat = 2 + 2 * j by omega]
          rw [hs, ob_s, ob_s]
          exact ⟨_, _, _, rfl, rfl, rfl, hI⟩
        · rw [if_neg a3, if_neg a3]; exact ⟨_, _, _, rfl, rfl, rfl, hI⟩
    · rw [if_neg a1, if_neg a1]
      by_cases a2 : 0 ≤ x2 ∧ x2 < dD M k 0
      · rw [if_neg (by omega), wI_of (x := dD M k 0) (by omega) (by omega), if_pos a2.2, in_1 r2.1 r2.2 (by omega) (by omega) (by omega) (by omega), i1z]
        obtain ⟨j, rfl⟩ := Int.eq_ofNat_of_zero_le a2.1
        obtain ⟨w1, w2⟩ := c2 j a2.2
        obtain ⟨g1, g2, g3, l1, l2, l3⟩ := hl
        have h25 : 0 ≤ (j : Int) ∧ (j : Int) < ((25 : Nat) : Int) := ⟨by omega, by omega⟩
        rw [g2, g3, l2, l3, if_pos h25, if_pos h25, tN, w1, w2]
        by_cases a3 : 0 ≤ x3 ∧ x3 ≤ 1
        · rw [in_1 r3.1 r3.2 (by omega) (by omega) a3.1 a3.2, i1z, fallOf_e hk h60 ⟨a2.1, by omega⟩ ⟨a3.1, by omega⟩, ob_s, eb]
          have : x3 = 0 ∨ x3 = 1 := by omega
          rcases this with rfl | rfl
          · rw [if_pos rfl, show (1 + 2 * (j : Int) + 0).toNat = 1 + 2 * j by omega]
            exact ⟨_, _, _, rfl, rfl, rfl, hI⟩
          · rw [if_neg (by omega), if_pos rfl, show (1 + 2 * (j : Int) + 1).toNat = 2 + 2 * j by omega]
            exact ⟨_, _, _, rfl, rfl, rfl, hI⟩
        · rw [in_f r3 ⟨by omega, by omega⟩ ⟨by omega, by omega⟩ a3, wI_0, if_pos rfl, if_neg (by omega), if_neg (by omega)]
          exact ⟨_, _, _, rfl, rfl, rfl, hI⟩
      · rw [in_f r2 ⟨by omega, by omega⟩ ⟨by omega, by omega⟩ (by omega), wI_0, if_pos rfl]
        refine ⟨-2, _, _, ?_, rfl, rfl, hI⟩
        by_cases a4 : x2 < 0
        · rw [if_pos a4]
        · rw [if_neg a4, wI_of (x := dD M k 0) (by omega) (by omega), if_neg (by omega)]
  · rw [e, ob_s, nM0_, if_neg hn]
    exact ⟨-2, -2, _, rfl, rfl, rfl, hI⟩
