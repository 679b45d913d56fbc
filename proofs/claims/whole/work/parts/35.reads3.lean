/-- one field of the reference's own was written -/
def FX (j : Nat) (M M' : MM) : Prop := (∀ a, a ≠ 359 → M' a = M a) ∧ ∀ i, i ≠ j → M' 359 i = M 359 i
theorem FX_FR {j : Nat} {M M' : MM} (h : FX j M M') : FR M M' := fun a ha _ => h.1 a ha
theorem has_b {M : MM} (h : 0 ≤ M 364 1 ∧ M 364 1 ≤ 2) {x : Int} (r : R32 x) : sX12_hasBook 359 x M = some (if 0 ≤ x ∧ x < M 364 1 then 1 else 0, mU M 359 29 x) := by
  unfold sX12_hasBook sX12_hasBook_b0
  rw [ob_s]
  by_cases hx : 0 ≤ x ∧ x < M 364 1
  · rw [if_pos hx, show sX12_is 359 1 x (mU M 359 29 x) = some 1 from is_t (s := 1) (by omega) r h hx]; rfl
  · rw [if_neg hx, show sX12_is 359 1 x (mU M 359 29 x) = some 0 from is_f (s := 1) (by omega) r h hx]; rfl
theorem has_c {M : MM} (h : 0 ≤ M 364 2 ∧ M 364 2 ≤ 2) {x : Int} (r : R32 x) : sX12_hasClues 359 x M = some (if 0 ≤ x ∧ x < M 364 2 then 1 else 0, mU M 359 46 x) := by
  unfold sX12_hasClues sX12_hasClues_b0
  rw [ob_s]
  by_cases hx : 0 ≤ x ∧ x < M 364 2
  · rw [if_pos hx, show sX12_is 359 2 x (mU M 359 46 x) = some 1 from is_t (s := 2) (by omega) r h hx]; rfl
  · rw [if_neg hx, show sX12_is 359 2 x (mU M 359 46 x) = some 0 from is_f (s := 2) (by omega) r h hx]; rfl
theorem has_g {M : MM} (h : 0 ≤ M 364 3 ∧ M 364 3 ≤ 2) {x : Int} (r : R32 x) : sX12_hasGround 359 x M = some (if 0 ≤ x ∧ x < M 364 3 then 1 else 0, mU M 359 60 x) := by
  unfold sX12_hasGround sX12_hasGround_b0
  rw [ob_s]
  by_cases hx : 0 ≤ x ∧ x < M 364 3
  · rw [if_pos hx, show sX12_is 359 3 x (mU M 359 60 x) = some 1 from is_t (s := 3) (by omega) r h hx]; rfl
  · rw [if_neg hx, show sX12_is 359 3 x (mU M 359 60 x) = some 0 from is_f (s := 3) (by omega) r h hx]; rfl
theorem has_r {M : MM} (h : 0 ≤ M 364 4 ∧ M 364 4 ≤ 2) {x : Int} (r : R32 x) : sX12_hasRecord 359 x M = some (if 0 ≤ x ∧ x < M 364 4 then 1 else 0, mU M 359 63 x) := by
  unfold sX12_hasRecord sX12_hasRecord_b0
  rw [ob_s]
  by_cases hx : 0 ≤ x ∧ x < M 364 4
  · rw [if_pos hx, show sX12_is 359 4 x (mU M 359 63 x) = some 1 from is_t (s := 4) (by omega) r h hx]; rfl
  · rw [if_neg hx, show sX12_is 359 4 x (mU M 359 63 x) = some 0 from is_f (s := 4) (by omega) r h hx]; rfl
theorem deeds_e {M : MM} {k : Nat} (hk : k < 2) (h : M 359 29 = (k : Int)) : sX12_deeds 359 M = some (bB M k 0) := by
  unfold sX12_deeds sX12_deeds_b0 bB
  rw [h, wI_of (by omega) (by omega), if_pos ⟨by omega, by omega⟩, g359_7, show (121 * (k : Int)).toNat = 121 * k + 0 by omega]
theorem deedOf_e {M : MM} {k : Nat} (hk : k < 2) (h : M 359 29 = (k : Int)) {x y : Int} (hx : 0 ≤ x ∧ x < 40) (hy : 0 ≤ y ∧ y < 3) : sX12_deedOf 359 x y M = some (bB M k (1 + 3 * x + y).toNat) := by
  unfold sX12_deedOf sX12_deedOf_b0 bB
  rw [h, wI_of (by omega) (by omega), if_pos ⟨by omega, by omega⟩, g359_7, show (121 * (k : Int) + 1 + 3 * x + y).toNat = 121 * k + (1 + 3 * x + y).toNat by omega]
theorem told_e {M : MM} {k : Nat} (hk : k < 2) (h : M 359 46 = (k : Int)) : sX12_cluesTold 359 M = some (cC M k 0) := by
  unfold sX12_cluesTold sX12_cluesTold_b0 cC
  rw [h, wI_of (by omega) (by omega), if_pos ⟨by omega, by omega⟩, g359_8, show (33 * (k : Int)).toNat = 33 * k + 0 by omega]
theorem clueOf_e {M : MM} {k : Nat} (hk : k < 2) (h : M 359 46 = (k : Int)) {x y : Int} (hx : 0 ≤ x ∧ x < 8) (hy : 0 ≤ y ∧ y < 3) : sX12_clueOf 359 x y M = some (cC M k (9 + 3 * x + y).toNat) := by
  unfold sX12_clueOf sX12_clueOf_b0 cC
  rw [h, wI_of (by omega) (by omega), if_pos ⟨by omega, by omega⟩, g359_8, show (33 * (k : Int) + 9 + 3 * x + y).toNat = 33 * k + (9 + 3 * x + y).toNat by omega]
theorem falls_e {M : MM} {k : Nat} (hk : k < 2) (h : M 359 60 = (k : Int)) : sX12_falls 359 M = some (dD M k 0) := by
  unfold sX12_falls sX12_falls_b0 dD
  rw [h, wI_of (by omega) (by omega), if_pos ⟨by omega, by omega⟩, g359_9, show (51 * (k : Int)).toNat = 51 * k + 0 by omega]
theorem fallOf_e {M : MM} {k : Nat} (hk : k < 2) (h : M 359 60 = (k : Int)) {x y : Int} (hx : 0 ≤ x ∧ x < 25) (hy : 0 ≤ y ∧ y < 2) : sX12_fallOf 359 x y M = some (dD M k (1 + 2 * x + y).toNat) := by
  unfold sX12_fallOf sX12_fallOf_b0 dD
  rw [h, wI_of (by omega) (by omega), if_pos ⟨by omega, by omega⟩, g359_9, show (51 * (k : Int) + 1 + 2 * x + y).toNat = 51 * k + (1 + 2 * x + y).toNat by omega]
theorem ofR_e {M : MM} {k : Nat} (hk : k < 2) (h : M 359 63 = (k : Int)) {x : Int} (hx : 0 ≤ x ∧ x < 97) : sX12_ofRecord 359 x M = some (rR M k x.toNat) := by
  unfold sX12_ofRecord sX12_ofRecord_b0 rR
  rw [h, wI_of (by omega) (by omega), if_pos ⟨by omega, by omega⟩, g359_10, show (97 * (k : Int) + x).toNat = 97 * k + x.toNat by omega]
/-- lines of the class: kind, first, second of line k -/
theorem lineA {M : MM} {q m : Nat} (hg : LG q m) {n : Int} (h4 : M q 4 = n) (hn : 0 ≤ n ∧ n ≤ (m : Int)) (hm : m ≤ 40) {x y : Int} (rx : R32 x) (ry : R32 y) : sX3_answer q x y M = some (if 0 ≤ x ∧ x < n then (if y = 0 then M (q + 1) x.toNat else if y = 1 then M (q + 2) x.toNat else if y = 2 then M (q + 3) x.toNat else -2) else -2) := by
  obtain ⟨g1, g2, g3, l1, l2, l3⟩ := hg
  unfold sX3_answer sX3_answer_b0
  rw [h4, g1, g2, g3, l1, l2, l3, wI_of rx.1 rx.2, wI_of ry.1 ry.2, wI_of (x := n) (by omega) (by omega)]
  by_cases a1 : 0 ≤ x ∧ x < n
  · have hm' : 0 ≤ x ∧ x < (m : Int) := ⟨a1.1, by omega⟩
    rw [if_neg (by omega), if_pos a1.2, if_pos a1, if_pos hm', if_pos hm', if_pos hm']
    by_cases b0 : y = 0
    · rw [if_pos b0, if_pos b0]
    · rw [if_neg b0, if_neg b0]
      by_cases b1 : y = 1
      · rw [if_pos b1, if_pos b1]
      · rw [if_neg b1, if_neg b1]
        by_cases b2 : y = 2
        · rw [if_pos b2, if_pos b2]
        · rw [if_neg b2, if_neg b2]
  · rw [if_neg a1]
    by_cases a2 : x < 0
    · rw [if_pos a2]
    · rw [if_neg a2, if_neg (by omega)]
theorem LG_bk (k : Nat) (hk : k < 2) : LG (20 + 34 * k) 40 := by have := LG_b 0 (by omega) k hk; rwa [tB_0] at this
theorem LG_ck (k : Nat) (hk : k < 2) : LG (25 + 34 * k) 8 := by have := LG_c 0 (by omega) k hk; rwa [tB_0] at this
theorem LG_gk (k : Nat) (hk : k < 2) : LG (30 + 34 * k) 25 := by have := LG_g 0 (by omega) k hk; rwa [tB_0] at this
theorem LG_sk (k : Nat) (hk : k < 2) : LG (35 + 34 * k) 40 := by have := LG_s 0 (by omega) k hk; rwa [tB_0] at this
theorem LG_rk (k : Nat) (hk : k < 2) : LG (39 + 34 * k) 15 := by have := LG_r 0 (by omega) k hk; rwa [tB_0] at this
theorem gC_k (k : Nat) (hk : k < 2) : gR (24 + 34 * k) 0 = 25 + 34 * k ∧ gR (24 + 34 * k) 1 = 29 + 34 * k := by have := gC_t 0 (by omega) k hk; rwa [tB_0] at this
theorem gT_k (k : Nat) (hk : k < 2) : gR (34 + 34 * k) 0 = 35 + 34 * k ∧ gR (34 + 34 * k) 1 = 39 + 34 * k := by have := gT_t 0 (by omega) k hk; rwa [tB_0] at this
def aB (R : Nat → Int) (o w : Nat) (x y : Int) : Int := if 0 ≤ x ∧ x < R 0 ∧ 0 ≤ y ∧ y ≤ 2 then R (o + w * x.toNat + y.toNat) else -2
theorem m0_364 (M : MM) (s : Nat) : mU M 359 0 0 364 s = M 364 s := mU_ne _ _ (by omega)
theorem FR_0 (M : MM) : FR M (mU M 359 0 0) := FR_u (FR_r M) (by omega)
theorem e_deed {M : MM} (h : INV M) {x1 x2 x3 : Int} (r1 : R32 x1) (r2 : R32 x2) (r3 : R32 x3) : ∃ v v' M2, sX11_deed 0 x1 x2 x3 M = some v ∧ sX12_deed 359 x1 x2 x3 M = some (v', M2) ∧ wI v = wI v' ∧ INV M2 := by
  have hb := has_b (M := mU M 359 0 0) (x := x1) (by rw [m0_364]; exact (i_size h (s := 1) (by omega)).2) r1
  have hI : INV (mU (mU M 359 0 0) 359 29 x1) := INV_2 (FR_u (FR_0 M) (by omega)) h
  unfold sX11_deed sX11_deed_b0 sX12_deed sX12_deed_b0
  rw [ob_s, hb, ob_s, m0_364]
  rcases a_book h r1 with ⟨k, hk, rfl, hlt, e⟩ | ⟨hn, e⟩
  · rw [e, ob_s, nMs_]
    obtain ⟨⟨c1, c2⟩, v1, v2, v3⟩ := i_book h hlt
    have h29 : mU (mU M 359 0 0) 359 29 (k : Int) 359 29 = (k : Int) := mU_eq _ _ _ _
    have eb : bB (mU (mU M 359 0 0) 359 29 (k : Int)) k = bB M k := by unfold bB; rw [mU_row _ _ (by omega), mU_row _ _ (by omega)]
    rw [if_pos (show 0 ≤ (k : Int) ∧ (k : Int) < M 364 1 from ⟨by omega, hlt⟩)]
    show ∃ v v' M2, _ ∧ (if wI 1 = 0 then _ else _) = _ ∧ _
    rw [i10]
    rw [deeds_e hk h29, ob_s, ob_s, eb]
    unfold sX11_deed_b30
    rw [lineA (LG_bk k hk) c1 ⟨v1, by omega⟩ (by omega) r2 r3, ob_s, wI_of r2.1 r2.2, wI_of r3.1 r3.2, c1]
    by_cases a1 : x2 = -1
    · rw [if_neg (show ¬ (0 ≤ x2 ∧ x2 < bB M k 0) by omega), if_pos a1, if_pos a1]
      by_cases a2 : x3 = 0
      · rw [if_pos a2, if_pos a2]; exact ⟨_, _, _, rfl, rfl, rfl, hI⟩
      · rw [if_neg a2, if_neg a2]; exact ⟨_, _, _, rfl, rfl, rfl, hI⟩
    · rw [if_neg a1, if_neg a1]
      by_cases a2 : 0 ≤ x2 ∧ x2 < bB M k 0
      · rw [if_pos a2, in_1 r2.1 r2.2 (by omega) (by omega) (by omega) (by omega), i1z]
        obtain ⟨j, rfl⟩ := Int.eq_ofNat_of_zero_le a2.1
        obtain ⟨w1, w2, w3⟩ := c2 j a2.2
        by_cases a3 : 0 ≤ x3 ∧ x3 ≤ 2
        · rw [in_1 r3.1 r3.2 (by omega) (by omega) a3.1 a3.2, i1z, deedOf_e hk h29 ⟨a2.1, by omega⟩ ⟨a3.1, by omega⟩, ob_s, eb, tN, w1, w2, w3]
          refine ⟨_, _, _, rfl, rfl, ?_, hI⟩
          have : x3 = 0 ∨ x3 = 1 ∨ x3 = 2 := by omega
          rcases this with rfl | rfl | rfl
          · rw [if_pos rfl, show (1 + 3 * (j : Int) + 0).toNat = 1 + 3 * j by omega]
          · rw [if_neg (by omega), if_pos rfl, show (1 + 3 * (j : Int) + 1).toNat = 2 + 3 * j by omega]
          · rw [if_neg (by omega), if_neg (by omega), if_pos rfl, show (1 + 3 * (j : Int) + 2).toNat = 3 + 3 * j by omega]
        · rw [in_f r3 ⟨by omega, by omega⟩ ⟨by omega, by omega⟩ a3, wI_0, if_pos rfl, if_neg (by omega), if_neg (by omega), if_neg (by omega)]
          exact ⟨_, _, _, rfl, rfl, rfl, hI⟩
      · rw [if_neg a2, in_f r2 ⟨by omega, by omega⟩ ⟨by omega, by omega⟩ (by omega), wI_0, if_pos rfl]
        exact ⟨_, _, _, rfl, rfl, rfl, hI⟩
  · rw [e, ob_s, nM0_, if_neg hn]
    exact ⟨-2, -2, _, rfl, rfl, rfl, hI⟩
