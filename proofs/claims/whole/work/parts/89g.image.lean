def RK (M M' : MM) (i i' : Nat) : Prop := (∀ j, j < 600 → M' 360 (600 * i + j) = M 360 (600 * i' + j)) ∧ (M' 361 i = M 361 i' ∧ M' 362 i = M 362 i' ∧ M' 363 i = M 363 i') ∧ (∀ j, j < 5 → M' 364 (5 * i + j) = M 364 (5 * i' + j)) ∧ (∀ j, j < 264 → M' 365 (264 * i + j) = M 365 (264 * i' + j)) ∧ (∀ j, j < 242 → M' 366 (242 * i + j) = M 366 (242 * i' + j)) ∧ (∀ j, j < 66 → M' 367 (66 * i + j) = M 367 (66 * i' + j)) ∧ (∀ j, j < 102 → M' 368 (102 * i + j) = M 368 (102 * i' + j)) ∧ ∀ j, j < 194 → M' 369 (194 * i + j) = M 369 (194 * i' + j)
theorem CTD_k {M M' : MM} {i i' : Nat} (c1 : M' (tB i) 1 = M (tB i') 1 ∧ M' (tB i) 2 = M (tB i') 2 ∧ M' (tB i) 3 = M (tB i') 3) (c2 : ∀ j, j < 600 → M' (tB i + 1) j = M (tB i' + 1) j) (c3 : ∀ j, j < 5 → M' (tB i + 2) j = M (tB i' + 2) j) (k0 : KK M M' (tB i) (tB i') 0) (k1 : KK M M' (tB i) (tB i') 1) (r : RK M M' i i') (q : CTD M i') : CTD M' i := by
  obtain ⟨q1, q2, q3, q4, q5, q6, q7, q8, q9⟩ := q
  obtain ⟨r0, ⟨r1, r2, r3⟩, r4, r5, r6, r7, r8, r9⟩ := r
  have kk : ∀ k : Nat, (k : Int) < 2 → KK M M' (tB i) (tB i') k := by
    intro k hk
    rcases (show k = 0 ∨ k = 1 by omega) with rfl | rfl
    · exact k0
    · exact k1
  have s0 : 0 ≤ M 364 (5 * i') ∧ M 364 (5 * i') ≤ 2 := (q4 0 (by omega)).2
  have z0 : M' 364 (5 * i) = M 364 (5 * i') := r4 0 (by omega)
  refine ⟨by rw [c1.1, r1]; exact q1, by rw [c1.2.1, c1.2.2, r2, r3]; exact q2, fun j hj => by rw [c2 j hj, r0 j hj]; exact q3 j hj, fun s hs => by rw [c3 s hs, r4 s hs]; exact q4 s hs, fun k hk => ?_, fun k hk => ?_, fun k hk => ?_, fun k hk => ?_, fun k hk => ?_⟩
  · rw [z0] at hk
    have hk2 : (k : Int) < 2 := by omega
    obtain ⟨qa, qb⟩ := q5 k hk
    exact PC_P (P := fun j => M 365 (264 * i' + 132 * k + j)) (fun j hj => by have := r5 (132 * k + j) (by omega); rw [← Nat.add_assoc, ← Nat.add_assoc] at this; exact this) qb (PC_m (kk k hk2).1 qb qa)
  · rw [r4 1 (by omega)] at hk
    have hk2 : (k : Int) < 2 := by have := q4 1 (by omega); omega
    obtain ⟨qa, qb⟩ := q6 k hk
    exact BC_P (P := fun j => M 366 (242 * i' + 121 * k + j)) (fun j hj => by have := r6 (121 * k + j) (by omega); rw [← Nat.add_assoc, ← Nat.add_assoc] at this; exact this) qb (BC_m (kk k hk2).2.1 qb qa)
  · rw [r4 2 (by omega)] at hk
    have hk2 : (k : Int) < 2 := by have := q4 2 (by omega); omega
    obtain ⟨qa, qb⟩ := q7 k hk
    exact CC_P (P := fun j => M 367 (66 * i' + 33 * k + j)) (fun j hj => by have := r7 (33 * k + j) (by omega); rw [← Nat.add_assoc, ← Nat.add_assoc] at this; exact this) qb (CC_m (kk k hk2).2.2.1.1 (kk k hk2).2.2.1.2 qb qa)
  · rw [r4 3 (by omega)] at hk
    have hk2 : (k : Int) < 2 := by have := q4 3 (by omega); omega
    obtain ⟨qa, qb⟩ := q8 k hk
    exact DC_P (P := fun j => M 368 (102 * i' + 51 * k + j)) (fun j hj => by have := r8 (51 * k + j) (by omega); rw [← Nat.add_assoc, ← Nat.add_assoc] at this; exact this) qb (DC_m (kk k hk2).2.2.2.1 qb qa)
  · rw [r4 4 (by omega)] at hk
    have hk2 : (k : Int) < 2 := by have := q4 4 (by omega); omega
    obtain ⟨qa, qb⟩ := q9 k hk
    exact RC_P (P := fun j => M 369 (194 * i' + 97 * k + j)) (fun j hj => by have := r9 (97 * k + j) (by omega); rw [← Nat.add_assoc, ← Nat.add_assoc] at this; exact this) qb (RC_m (kk k hk2).2.2.2.2.1 (kk k hk2).2.2.2.2.2 qb qa)
theorem PK_r {M : MM} {a : Nat} : PK M M a a := ⟨⟨rfl, rfl, rfl, rfl, rfl, rfl, rfl⟩, fun _ _ => ⟨rfl, rfl⟩, fun _ _ => ⟨rfl, rfl, rfl, rfl, rfl⟩, fun _ _ => rfl, fun _ _ => rfl, fun _ _ => rfl⟩
theorem LK_r {M : MM} {a m : Nat} : LK M M a a m := ⟨rfl, rfl, fun _ _ => ⟨rfl, rfl, rfl⟩⟩
theorem KK_r {M : MM} {d k : Nat} : KK M M d d k := ⟨PK_r, LK_r, ⟨LK_r, fun _ _ => rfl⟩, LK_r, LK_r, LK_r⟩
theorem MOS_k {M M' : MM} {i i' : Nat} (hi : i < 4) (k0 : KK M M' (tB i) (tB i') 0) (k1 : KK M M' (tB i) (tB i') 1) (f : ∀ a, (a < 115 ∧ a ≠ 78) ∨ (130 < a ∧ a < 359) → a < tB i ∨ tB i + 76 ≤ a → M' a = M a) (m : MOS M) : MOS M' := by
  have hb := tB_r i hi
  have kk : ∀ k : Nat, k < 2 → KK M M' (tB i) (tB i') k := by
    intro k hk
    rcases (show k = 0 ∨ k = 1 by omega) with rfl | rfl
    · exact k0
    · exact k1
  refine ⟨fun j hj k hk => ?_, ?_⟩
  · by_cases e : j = i
    · subst e
      obtain ⟨h1, h2, ⟨h3, h3'⟩, h4, h5, h6⟩ := kk k hk
      have g3 := h3.2.1
      have g5 := h5.2.1
      have g6 := h6.2.1
      rw [show tB j + 23 + 34 * k + 1 = tB j + 24 + 34 * k by omega] at g3
      rw [show tB j + 33 + 34 * k + 1 = tB j + 34 + 34 * k by omega] at g5
      rw [show tB j + 33 + 34 * k + 5 = tB j + 38 + 34 * k by omega] at g6
      rw [h2.2.1, g3, h4.2.1, g5, g6]
      exact m.1 j hi k hk
    · have hd := tB_d e hj hi
      have hc := tB_r j hj
      rw [f (tB j + 19 + 34 * k) (by omega) (by omega), f (tB j + 24 + 34 * k) (by omega) (by omega), f (tB j + 29 + 34 * k) (by omega) (by omega), f (tB j + 34 + 34 * k) (by omega) (by omega), f (tB j + 38 + 34 * k) (by omega) (by omega)]
      exact m.1 j hj k hk
  · rw [f 91 (by omega) (by omega), f 96 (by omega) (by omega), f 101 (by omega) (by omega), f 106 (by omega) (by omega), f 110 (by omega) (by omega)]
    exact m.2
theorem mS_c {M N : MM} {b p q n : Nat} (h : N b = M b) : mS N b p q n b = mS M b p q n b := by funext j; unfold mS; rw [h]
theorem mA_row {M : MM} {p q a : Nat} (h : a < 360 ∨ 369 < a) : mA M p q a = M a := by
  unfold mA
  rw [mS_row (by omega), mS_row (by omega), mS_row (by omega), mS_row (by omega), mS_row (by omega), mS_row (by omega), mS_row (by omega), mS_row (by omega), mS_row (by omega), mS_row (by omega)]
theorem mA_r {M : MM} {p q : Nat} : mA M p q 360 = mS M 360 (600 * p) (600 * q) 600 360 ∧ mA M p q 361 = mS M 361 p q 1 361 ∧ mA M p q 362 = mS M 362 p q 1 362 ∧ mA M p q 363 = mS M 363 p q 1 363 ∧ mA M p q 364 = mS M 364 (5 * p) (5 * q) 5 364 ∧ mA M p q 365 = mS M 365 (264 * p) (264 * q) 264 365 ∧ mA M p q 366 = mS M 366 (242 * p) (242 * q) 242 366 ∧ mA M p q 367 = mS M 367 (66 * p) (66 * q) 66 367 ∧ mA M p q 368 = mS M 368 (102 * p) (102 * q) 102 368 ∧ mA M p q 369 = mS M 369 (194 * p) (194 * q) 194 369 := by
  unfold mA
  refine ⟨?_, ?_, ?_, ?_, ?_, ?_, ?_, ?_, ?_, ?_⟩
  · rw [mS_row (by omega), mS_row (by omega), mS_row (by omega), mS_row (by omega), mS_row (by omega), mS_row (by omega), mS_row (by omega), mS_row (by omega), mS_row (by omega)]
  · rw [mS_row (by omega), mS_row (by omega), mS_row (by omega), mS_row (by omega), mS_row (by omega), mS_row (by omega), mS_row (by omega), mS_row (by omega)]
    exact mS_c (by simp (disch := omega) only [mS_row])
  · rw [mS_row (by omega), mS_row (by omega), mS_row (by omega), mS_row (by omega), mS_row (by omega), mS_row (by omega), mS_row (by omega)]
    exact mS_c (by simp (disch := omega) only [mS_row])
  · rw [mS_row (by omega), mS_row (by omega), mS_row (by omega), mS_row (by omega), mS_row (by omega), mS_row (by omega)]
    exact mS_c (by simp (disch := omega) only [mS_row])
  · rw [mS_row (by omega), mS_row (by omega), mS_row (by omega), mS_row (by omega), mS_row (by omega)]
    exact mS_c (by simp (disch := omega) only [mS_row])
  · rw [mS_row (by omega), mS_row (by omega), mS_row (by omega), mS_row (by omega)]
    exact mS_c (by simp (disch := omega) only [mS_row])
  · rw [mS_row (by omega), mS_row (by omega), mS_row (by omega)]
    exact mS_c (by simp (disch := omega) only [mS_row])
  · rw [mS_row (by omega), mS_row (by omega)]
    exact mS_c (by simp (disch := omega) only [mS_row])
  · rw [mS_row (by omega)]
    exact mS_c (by simp (disch := omega) only [mS_row])
  · exact mS_c (by simp (disch := omega) only [mS_row])
theorem mA_in {M : MM} {p q : Nat} : RK M (mA M p q) q p := by
  obtain ⟨h0, h1, h2, h3, h4, h5, h6, h7, h8, h9⟩ := mA_r (M := M) (p := p) (q := q)
  unfold RK
  rw [h0, h1, h2, h3, h4, h5, h6, h7, h8, h9]
  have o1 : ∀ b, mS M b p q 1 b q = M b p := fun b => mS_in (j := 0) (by omega)
  exact ⟨fun j hj => mS_in hj, ⟨o1 361, o1 362, o1 363⟩, fun j hj => mS_in hj, fun j hj => mS_in hj, fun j hj => mS_in hj, fun j hj => mS_in hj, fun j hj => mS_in hj, fun j hj => mS_in hj⟩
theorem mA_out {M : MM} {p q i : Nat} (h : i ≠ q) : RK M (mA M p q) i i := by
  obtain ⟨h0, h1, h2, h3, h4, h5, h6, h7, h8, h9⟩ := mA_r (M := M) (p := p) (q := q)
  unfold RK
  rw [h0, h1, h2, h3, h4, h5, h6, h7, h8, h9]
  exact ⟨fun j hj => mS_out (by omega), ⟨mS_out (by omega), mS_out (by omega), mS_out (by omega)⟩, fun j hj => mS_out (by omega), fun j hj => mS_out (by omega), fun j hj => mS_out (by omega), fun j hj => mS_out (by omega), fun j hj => mS_out (by omega), fun j hj => mS_out (by omega)⟩
theorem RK_f {M M' N N' : MM} {i i' : Nat} (h : RK M M' i i') (e : ∀ a, 359 < a → a < 370 → N a = M a) (e' : ∀ a, 359 < a → a < 370 → N' a = M' a) : RK N N' i i' := by
  unfold RK
  rw [e 360 (by omega) (by omega), e 361 (by omega) (by omega), e 362 (by omega) (by omega), e 363 (by omega) (by omega), e 364 (by omega) (by omega), e 365 (by omega) (by omega), e 366 (by omega) (by omega), e 367 (by omega) (by omega), e 368 (by omega) (by omega), e 369 (by omega) (by omega), e' 360 (by omega) (by omega), e' 361 (by omega) (by omega), e' 362 (by omega) (by omega), e' 363 (by omega) (by omega), e' 364 (by omega) (by omega), e' 365 (by omega) (by omega), e' 366 (by omega) (by omega), e' 367 (by omega) (by omega), e' 368 (by omega) (by omega), e' 369 (by omega) (by omega)]
  exact h
theorem both {M : MM} {i i' : Nat} (hi : i < 4) (hi' : i' < 4) (hn : i ≠ i') (m : MOS M) (c : CTD M i') : ∃ M', sX9_copy (tB i) (tB i') M = some M' ∧ (∀ a, a < tB i ∨ tB i + 76 ≤ a → M' a = M a) ∧ ∀ N, (∀ a, a ≠ 78 → a ≠ 359 → a ≠ 387 → N a = M' a) → sX12_copyAll 359 (i' : Int) (i : Int) N = some (mA N i' i) ∧ ∀ N', (∀ a, a ≠ 387 → a ≠ 78 → N' a = mA N i' i a) → MOS N' ∧ CTD N' i ∧ ∀ j, j < 4 → j ≠ i → CTD M j → CTD N' j := by
  have hd := tB_d hn hi hi'
  have hb := tB_r i hi
  have hb' := tB_r i' hi'
  obtain ⟨M', x1, t0, t1, t2, t3, t4, t5⟩ := tcopy hi hi' hn m (fun j hj => by have := c.2.2.1 j hj; omega)
  refine ⟨M', x1, t0, fun N eN => ⟨allcopy hi' hi (by omega) (fun j hj => ?_), fun N' eN' => ?_⟩⟩
  · rw [eN 360 (by omega) (by omega) (by omega), t0 360 (by omega)]; exact (c.2.2.1 j hj).2
  · have cl : ∀ a, a < 359 → a ≠ 78 → N' a = M' a := fun a ha hc => by rw [eN' a (by omega) hc, mA_row (by omega), eN a hc (by omega) (by omega)]
    have rw1 : ∀ a, 359 < a → a < 370 → M a = N a := fun a ha hc => by rw [eN a (by omega) (by omega) (by omega), t0 a (by omega)]
    have rw2 : ∀ a, 359 < a → a < 370 → N' a = mA N i' i a := fun a ha hc => eN' a (by omega) (by omega)
    have k0 : KK M N' (tB i) (tB i') 0 := KK_f t4 (fun a ha hc => cl a (by omega) (by omega))
    have k1 : KK M N' (tB i) (tB i') 1 := KK_f t5 (fun a ha hc => cl a (by omega) (by omega))
    refine ⟨MOS_k hi k0 k1 (fun a ha hc => by rw [cl a (by omega) (by omega), t0 a hc]) m, CTD_k ?_ (fun j hj => ?_) (fun j hj => ?_) k0 k1 (RK_f mA_in rw1 rw2) c, fun j hj hji cj => ?_⟩
    · rw [cl _ (by omega) (by omega)]; exact t1
    · rw [cl _ (by omega) (by omega)]; exact t2 j hj
    · rw [cl _ (by omega) (by omega)]; exact t3 j hj
    · have he := tB_d hji hj hi
      have hc := tB_r j hj
      have cj' : ∀ a, tB j ≤ a → a < tB j + 76 → N' a = M a := fun a ha hc => by rw [cl a (by omega) (by omega), t0 a (by omega)]
      refine CTD_k ?_ (fun l hl => ?_) (fun l hl => ?_) (KK_f KK_r (fun a ha hc => cj' a (by omega) (by omega))) (KK_f KK_r (fun a ha hc => cj' a (by omega) (by omega))) (RK_f (mA_out hji) rw1 rw2) cj
      · rw [cj' _ (by omega) (by omega)]; exact ⟨rfl, rfl, rfl⟩
      · rw [cj' _ (by omega) (by omega)]
      · rw [cj' _ (by omega) (by omega)]
theorem e_image {M : MM} (h : INV M) {x : Int} (r : R32 x) : ∃ v v' M1 M2, sX11_image 0 x M = some (v, M1) ∧ sX12_image 359 x M1 = some (v', M2) ∧ wI v = wI v' ∧ INV M2 := by
  unfold sX11_image sX11_image_b0 sX12_image sX12_image_b0
  rw [wI_of r.1 r.2]
  by_cases hx : 0 ≤ x ∧ x ≤ 2
  · obtain ⟨k, rfl⟩ := Int.eq_ofNat_of_zero_le hx.1
    have hk : k < 3 := by omega
    obtain ⟨q1, q2, q3, q4⟩ := h
    obtain ⟨M', x1, f1, x2⟩ := both (i := k + 1) (i' := 0) (by omega) (by omega) (by omega) q1 q2
    have hb : 131 ≤ tB (k + 1) ∧ tB (k + 1) ≤ 283 := by unfold tB; rw [if_neg (by omega)]; omega
    obtain ⟨y1, y2⟩ := x2 (mU (mU M' 78 k 1) 359 0 0) (fun a h1 h2 h3 => by rw [mU_row _ _ h2, mU_row _ _ h1])
    obtain ⟨z1, z2, z3⟩ := y2 (mU (mA (mU (mU M' 78 k 1) 359 0 0) 0 (k + 1)) 387 k 1) (fun a h1 h2 => mU_row _ _ h1)
    refine ⟨1, 1, mU M' 78 k 1, mU (mA (mU (mU M' 78 k 1) 359 0 0) 0 (k + 1)) 387 k 1, ?_, ?_, rfl, z1, z3 0 (by omega) (by omega) q2, fun j hj => ?_, fun j hj e => ?_⟩
    · rw [if_neg (by omega), if_pos (by omega), if_pos (by omega), tN, g0_0, g0_1, g0_2, gI_k k hk, show sX9_copy (tB (k + 1)) 1 M = some M' from x1, ob_s, if_pos (by omega), ob_s]
    · rw [ob_s, in_t r ⟨by omega, by omega⟩ ⟨by omega, by omega⟩ ⟨by omega, by omega⟩, i10, show sX12_copyAll 359 0 ((k : Int) + 1) _ = _ from y1, ob_s, if_pos (by omega), tN, g359_67, ob_s]
    · have e1 : mA (mU (mU M' 78 k 1) 359 0 0) 0 (k + 1) 387 = M 387 := by rw [mA_row (by omega), mU_row _ _ (by omega), mU_row _ _ (by omega), f1 387 (by omega)]
      rw [mU_row (b := 78) _ _ (by omega), mA_row (by omega), mU_row (b := 78) _ _ (by omega), mU_w, mU_w, e1, f1 78 (by omega)]
      by_cases hjk : j = k
      · rw [if_pos hjk, if_pos hjk]; omega
      · rw [if_neg hjk, if_neg hjk]; exact q3 j hj
    · by_cases hjk : j = k
      · subst hjk; exact z2
      · refine z3 (j + 1) (by omega) (by omega) (q4 j hj ?_)
        rw [mU_w, if_neg hjk, mA_row (by omega), mU_row _ _ (by omega), mU_row _ _ (by omega), f1 387 (by omega)] at e
        exact e
  · refine ⟨0, 0, M, mU M 359 0 0, ?_, ?_, rfl, INV_2 (FR_u (FR_r M) (by omega)) h⟩
    · by_cases h1 : x < 0
      · rw [if_pos h1]
      · rw [if_neg h1, if_neg (by omega)]
    · rw [ob_s, in_f r ⟨by omega, by omega⟩ ⟨by omega, by omega⟩ hx, i00]
theorem e_again {M : MM} (h : INV M) {x : Int} (r : R32 x) : ∃ v v' M1 M2, sX11_again 0 x M = some (v, M1) ∧ sX12_again 359 x M1 = some (v', M2) ∧ wI v = wI v' ∧ INV M2 := by
  unfold sX11_again sX11_again_b0 sX12_again sX12_again_b0
  rw [wI_of r.1 r.2]
  by_cases hx : 0 ≤ x ∧ x ≤ 2
  · obtain ⟨k, rfl⟩ := Int.eq_ofNat_of_zero_le hx.1
    have hk : k < 3 := by omega
    have hi0 : INV (mU M 359 0 0) := INV_2 (FR_u (FR_r M) (by omega)) h
    obtain ⟨q1, q2, q3, q4⟩ := h
    obtain ⟨e1, e2⟩ := q3 k hk
    rw [if_neg (by omega), if_neg (by omega), if_pos (by omega), tN, g0_0, g0_1, g0_2, gI_k k hk, e1]
    by_cases h0 : M 387 k = 0
    · refine ⟨0, 0, M, mU M 359 0 0, ?_, ?_, rfl, hi0⟩
      · rw [h0, i00]
      · rw [ob_s, in_t r ⟨by omega, by omega⟩ ⟨by omega, by omega⟩ ⟨by omega, by omega⟩, i10, if_pos (by omega), g359_67, mU_row _ _ (by omega), h0, i00]
    · have h1 : M 387 k = 1 := by omega
      obtain ⟨M', x1, f1, x2⟩ := both (i := 0) (i' := k + 1) (by omega) (by omega) (by omega) q1 (q4 k hk h1)
      rw [tB_0] at f1
      obtain ⟨y1, y2⟩ := x2 (mU M' 359 0 0) (fun a h1 h2 h3 => by rw [mU_row _ _ h2])
      obtain ⟨z1, z2, z3⟩ := y2 (mA (mU M' 359 0 0) (k + 1) 0) (fun a h1 h2 => rfl)
      have g1 : ∀ a, a = 78 ∨ a = 387 → mA (mU M' 359 0 0) (k + 1) 0 a = M a := fun a ha => by rw [mA_row (by omega), mU_row _ _ (by omega), f1 a (by omega)]
      refine ⟨1, 1, M', mA (mU M' 359 0 0) (k + 1) 0, ?_, ?_, rfl, z1, z2, fun j hj => ?_, fun j hj e => ?_⟩
      · rw [h1, i10, if_pos (by omega), show sX9_copy 1 (tB (k + 1)) M = some M' from x1, ob_s]
      · rw [ob_s, in_t r ⟨by omega, by omega⟩ ⟨by omega, by omega⟩ ⟨by omega, by omega⟩, i10, if_pos (by omega), g359_67, mU_row _ _ (by omega), f1 387 (by omega), h1, i10, show sX12_copyAll 359 ((k : Int) + 1) 0 _ = _ from y1, ob_s]
      · rw [g1 78 (by omega), g1 387 (by omega)]; exact q3 j hj
      · rw [g1 387 (by omega)] at e
        exact z3 (j + 1) (by omega) (by omega) (q4 j hj e)
  · refine ⟨0, 0, M, mU M 359 0 0, ?_, ?_, rfl, INV_2 (FR_u (FR_r M) (by omega)) h⟩
    · by_cases h1 : x < 0
      · rw [if_pos h1]
      · rw [if_neg h1, if_pos (by omega)]
    · rw [ob_s, in_f r ⟨by omega, by omega⟩ ⟨by omega, by omega⟩ hx, i00]
