def aL (C : MM) (q n : Nat) (x y z : Int) : MM := mU (mU (mU (mU C (q + 1) n x) (q + 2) n y) (q + 3) n z) q 4 ((n : Int) + 1)
theorem aL_f {C : MM} {q n a : Nat} {x y z : Int} (h : a < q ∨ q + 3 < a) : aL C q n x y z a = C a := by
  unfold aL
  rw [mU_row _ _ (by omega), mU_row _ _ (by omega), mU_row _ _ (by omega), mU_row _ _ (by omega)]
theorem aL_4 {C : MM} {q n : Nat} {x y z : Int} : aL C q n x y z q 4 = (n : Int) + 1 := by unfold aL; rw [mU_eq]
theorem aL_0 {C : MM} {q n j : Nat} {x y z : Int} (h : j ≠ 4) : aL C q n x y z q j = C q j := by
  unfold aL
  rw [mU_ne _ _ (by omega), mU_row _ _ (by omega), mU_row _ _ (by omega), mU_row _ _ (by omega)]
theorem aL_n {C : MM} {q n : Nat} {x y z : Int} : aL C q n x y z (q + 1) n = x ∧ aL C q n x y z (q + 2) n = y ∧ aL C q n x y z (q + 3) n = z := by
  unfold aL
  refine ⟨?_, ?_, ?_⟩
  · rw [mU_row _ _ (by omega), mU_row _ _ (by omega), mU_row _ _ (by omega), mU_eq]
  · rw [mU_row _ _ (by omega), mU_row _ _ (by omega), mU_eq]
  · rw [mU_row _ _ (by omega), mU_eq]
theorem aL_o {C : MM} {q n j : Nat} {x y z : Int} (h : j ≠ n) : aL C q n x y z (q + 1) j = C (q + 1) j ∧ aL C q n x y z (q + 2) j = C (q + 2) j ∧ aL C q n x y z (q + 3) j = C (q + 3) j := by
  unfold aL
  refine ⟨?_, ?_, ?_⟩
  all_goals rw [mU_row _ _ (by omega), mU_ne _ _ (by omega), mU_ne _ _ (by omega), mU_ne _ _ (by omega)]
theorem addL {C : MM} {q m n : Nat} {x y z : Int} (h : LG q m) (e0 : C q 0 = (m : Int)) (e4 : C q 4 = (n : Int)) (hn : n < m) (hm : m ≤ 40) : sX3_add q x y z C = some (aL C q n x y z) := by
  have w1 : wI (n : Int) = (n : Int) ∧ wI (m : Int) = (m : Int) := ⟨wI_of (by omega) (by omega), wI_of (by omega) (by omega)⟩
  have h1 : (n : Int) < (m : Int) := by omega
  have h2 : (0 : Int) ≤ (n : Int) ∧ (n : Int) < (m : Int) := ⟨by omega, by omega⟩
  have h3 : q ≠ q + 1 ∧ q ≠ q + 2 ∧ q ≠ q + 3 := ⟨by omega, by omega, by omega⟩
  obtain ⟨p1, p2, p3, n1, n2, n3⟩ := h
  unfold sX3_add sX3_add_b0 sX3_isFull sX3_isFull_b0
  rw [e0, e4, w1.1, w1.2, if_pos h1, i00, p1, p2, p3, n1, n2, n3, if_pos h2, ob_s, tN, mU_row _ _ h3.1, e4, w1.1, if_pos h2, ob_s, tN, mU_row _ _ h3.2.1, mU_row _ _ h3.1, e4, w1.1, if_pos h2, ob_s, tN, mU_row _ _ h3.2.2, mU_row _ _ h3.2.1, mU_row _ _ h3.1, e4]
  rfl
theorem BC_a {C : MM} {T T' : Nat → Int} {n : Nat} {x y z : Int} (h : BC C 91 T ∧ BV T) (hn : T 0 = (n : Int)) (h40 : n < 40) (v : 0 ≤ x ∧ x ≤ 5 ∧ -1 ≤ y ∧ y ≤ 9 ∧ -1 ≤ z ∧ z ≤ 9 ∧ (x ≤ 2 → 0 ≤ y ∧ y ≤ 7) ∧ (x = 2 → 0 ≤ z)) (e0 : T' 0 = (n : Int) + 1) (e1 : T' (1 + 3 * n) = x) (e2 : T' (2 + 3 * n) = y) (e3 : T' (3 + 3 * n) = z) (e : ∀ j, j ≠ 0 → j < 1 + 3 * n → T' j = T j) : BC (aL C 91 n x y z) 91 T' ∧ BV T' := by
  obtain ⟨⟨b1, b2⟩, v1, v2, v3⟩ := h
  refine ⟨⟨by rw [aL_4, e0], fun j hj => ?_⟩, by omega, by omega, fun j hj => ?_⟩
  · rw [e0] at hj
    by_cases hjn : j = n
    · subst hjn; rw [e1, e2, e3]; exact aL_n
    · obtain ⟨o1, o2, o3⟩ := aL_o (C := C) (q := 91) (x := x) (y := y) (z := z) hjn
      rw [o1, o2, o3, e _ (by omega) (by omega), e _ (by omega) (by omega), e _ (by omega) (by omega)]
      exact b2 j (by omega)
  · rw [e0] at hj
    by_cases hjn : j = n
    · subst hjn; rw [e1, e2, e3]; exact v
    · rw [e _ (by omega) (by omega), e _ (by omega) (by omega), e _ (by omega) (by omega)]
      exact v3 j (by omega)
theorem CC_a {C : MM} {T T' : Nat → Int} {n : Nat} {x y z : Int} (h : CC C 95 T ∧ CV T) (hn : T 0 = (n : Int)) (h8 : n < 8) (v : 0 ≤ x ∧ x ≤ 3 ∧ -1 ≤ y ∧ y ≤ 7 ∧ (x = 0 → 0 ≤ y) ∧ 0 ≤ z ∧ z ≤ 7) (e0 : T' 0 = (n : Int) + 1) (e1 : T' (9 + 3 * n) = x) (e2 : T' (10 + 3 * n) = y) (e3 : T' (11 + 3 * n) = z) (e : ∀ j, j ≠ 0 → j < 9 + 3 * n → T' j = T j) : CC (aL C 96 n x y z) 95 T' ∧ CV T' := by
  obtain ⟨⟨b1, b2, b3⟩, v1, v2, v3, v4⟩ := h
  refine ⟨⟨by rw [show 95 + 1 = 96 from rfl, aL_4, e0], fun j hj => ?_, fun c hc => ?_⟩, by omega, by omega, fun j hj => ?_, fun c hc => ?_⟩
  · rw [e0] at hj
    rw [show 95 + 2 = 96 + 1 from rfl, show 95 + 3 = 96 + 2 from rfl, show 95 + 4 = 96 + 3 from rfl]
    by_cases hjn : j = n
    · subst hjn; rw [e1, e2, e3]; exact aL_n
    · obtain ⟨o1, o2, o3⟩ := aL_o (C := C) (q := 96) (x := x) (y := y) (z := z) hjn
      rw [o1, o2, o3, e _ (by omega) (by omega), e _ (by omega) (by omega), e _ (by omega) (by omega)]
      exact b2 j (by omega)
  · rw [aL_f (by omega), e _ (by omega) (by omega)]; exact b3 c hc
  · rw [e0] at hj
    by_cases hjn : j = n
    · subst hjn; rw [e1, e2, e3]; exact v
    · rw [e _ (by omega) (by omega), e _ (by omega) (by omega), e _ (by omega) (by omega)]
      exact v3 j (by omega)
  · rw [e _ (by omega) (by omega)]; exact v4 c hc
theorem CC_t {C : MM} {T T' : Nat → Int} {c : Nat} {x : Int} (h : CC C 95 T ∧ CV T) (hc : c < 8) (v : 0 ≤ x ∧ x ≤ 10) (e1 : T' (1 + c) = x) (e : ∀ j, j ≠ 1 + c → T' j = T j) : CC (mU C 100 c x) 95 T' ∧ CV T' := by
  obtain ⟨⟨b1, b2, b3⟩, v1, v2, v3, v4⟩ := h
  have e0 := e 0 (by omega)
  refine ⟨⟨by rw [mU_row _ _ (by omega), e0]; exact b1, fun j hj => ?_, fun d hd => ?_⟩, by omega, by omega, fun j hj => ?_, fun d hd => ?_⟩
  · rw [e0] at hj
    rw [mU_row _ _ (by omega), mU_row _ _ (by omega), mU_row _ _ (by omega), e _ (by omega), e _ (by omega), e _ (by omega)]
    exact b2 j hj
  · by_cases hdc : d = c
    · subst hdc; rw [e1, show 95 + 5 = 100 from rfl, mU_eq]
    · rw [mU_ne _ _ (by omega), e _ (by omega)]; exact b3 d hd
  · rw [e0] at hj
    rw [e _ (by omega), e _ (by omega), e _ (by omega)]
    exact v3 j hj
  · by_cases hdc : d = c
    · subst hdc; rw [e1]; exact v
    · rw [e _ (by omega)]; exact v4 d hd
theorem DC_a {C : MM} {T T' : Nat → Int} {n : Nat} {x y z : Int} (h : DC C 101 T ∧ DV T) (hn : T 0 = (n : Int)) (h25 : n < 25) (v : 0 ≤ y ∧ y ≤ 24 ∧ 1 ≤ z ∧ z ≤ 9) (e0 : T' 0 = (n : Int) + 1) (e2 : T' (1 + 2 * n) = y) (e3 : T' (2 + 2 * n) = z) (e : ∀ j, j ≠ 0 → j < 1 + 2 * n → T' j = T j) : DC (aL C 101 n x y z) 101 T' ∧ DV T' := by
  obtain ⟨⟨b1, b2⟩, v1, v2, v3⟩ := h
  refine ⟨⟨by rw [aL_4, e0], fun j hj => ?_⟩, by omega, by omega, fun j hj => ?_⟩
  · rw [e0] at hj
    by_cases hjn : j = n
    · subst hjn; rw [e2, e3]; exact aL_n.2
    · obtain ⟨o1, o2, o3⟩ := aL_o (C := C) (q := 101) (x := x) (y := y) (z := z) hjn
      rw [o2, o3, e _ (by omega) (by omega), e _ (by omega) (by omega)]
      exact b2 j (by omega)
  · rw [e0] at hj
    by_cases hjn : j = n
    · subst hjn; rw [e2, e3]; exact v
    · rw [e _ (by omega) (by omega), e _ (by omega) (by omega)]
      exact v3 j (by omega)
theorem RC_a {C : MM} {T T' : Nat → Int} {n : Nat} {x y z : Int} (h : RC C 105 T ∧ RV T) (hn : T 0 = (n : Int)) (h40 : n < 40) (v : 0 ≤ y ∧ y ≤ 7 ∧ 0 ≤ z ∧ z ≤ 1) (e0 : T' 0 = (n : Int) + 1) (e2 : T' (2 + 2 * n) = y) (e3 : T' (3 + 2 * n) = z) (e : ∀ j, j ≠ 0 → j ≠ 2 + 2 * n → j ≠ 3 + 2 * n → T' j = T j) : RC (aL C 106 n x y z) 105 T' ∧ RV T' := by
  obtain ⟨⟨b1, b2, b3, b4⟩, v1, v2, v3, v4, v5, v6⟩ := h
  have f1 := e 1 (by omega) (by omega) (by omega)
  refine ⟨⟨by rw [show 105 + 1 = 106 from rfl, aL_4, e0], by rw [aL_f (by omega), f1]; exact b2, fun j hj => ?_, fun j hj => ?_⟩, by omega, by omega, by omega, by omega, fun j hj => ?_, fun j hj => ?_⟩
  · rw [e0] at hj
    rw [show 105 + 3 = 106 + 2 from rfl, show 105 + 4 = 106 + 3 from rfl]
    by_cases hjn : j = n
    · subst hjn; rw [e2, e3]; exact aL_n.2
    · obtain ⟨o1, o2, o3⟩ := aL_o (C := C) (q := 106) (x := x) (y := y) (z := z) hjn
      rw [o2, o3, e _ (by omega) (by omega) (by omega), e _ (by omega) (by omega) (by omega)]
      exact b3 j (by omega)
  · rw [f1] at hj
    rw [aL_f (by omega), e _ (by omega) (by omega) (by omega)]; exact b4 j hj
  · rw [e0] at hj
    by_cases hjn : j = n
    · subst hjn; rw [e2, e3]; exact v
    · rw [e _ (by omega) (by omega) (by omega), e _ (by omega) (by omega) (by omega)]
      exact v5 j (by omega)
  · rw [f1] at hj
    rw [e _ (by omega) (by omega) (by omega)]; exact v6 j hj
theorem RC_b {C : MM} {T T' : Nat → Int} {n : Nat} {x y z : Int} (h : RC C 105 T ∧ RV T) (hn : T 1 = (n : Int)) (h15 : n < 15) (v : 0 ≤ z ∧ z ≤ 1) (e0 : T' 1 = (n : Int) + 1) (e3 : T' (82 + n) = z) (e : ∀ j, j ≠ 1 → j ≠ 82 + n → T' j = T j) : RC (aL C 110 n x y z) 105 T' ∧ RV T' := by
  obtain ⟨⟨b1, b2, b3, b4⟩, v1, v2, v3, v4, v5, v6⟩ := h
  have f1 := e 0 (by omega) (by omega)
  refine ⟨⟨by rw [aL_f (by omega), f1]; exact b1, by rw [show 105 + 5 = 110 from rfl, aL_4, e0], fun j hj => ?_, fun j hj => ?_⟩, by omega, by omega, by omega, by omega, fun j hj => ?_, fun j hj => ?_⟩
  · rw [f1] at hj
    rw [aL_f (by omega), aL_f (by omega), e _ (by omega) (by omega), e _ (by omega) (by omega)]; exact b3 j hj
  · rw [e0] at hj
    rw [show 105 + 8 = 110 + 3 from rfl]
    by_cases hjn : j = n
    · subst hjn; rw [e3]; exact aL_n.2.2
    · rw [(aL_o (C := C) (q := 110) (x := x) (y := y) (z := z) hjn).2.2, e _ (by omega) (by omega)]
      exact b4 j (by omega)
  · rw [f1] at hj
    rw [e _ (by omega) (by omega), e _ (by omega) (by omega)]; exact v5 j hj
  · rw [e0] at hj
    by_cases hjn : j = n
    · subst hjn; rw [e3]; exact v
    · rw [e _ (by omega) (by omega)]
      exact v6 j (by omega)
/-- the reference keeps a line -/
def kpR (R : MM) (p w : Nat) : MM := fun a j => if a = 370 ∧ p ≤ j ∧ j < p + w then R 371 (j - p) else R a j
theorem kpR_row {R : MM} {p w a : Nat} (h : a ≠ 370) : kpR R p w a = R a := by funext j; unfold kpR; rw [if_neg (by omega)]
theorem kpR_in {R : MM} {p w i : Nat} (h : i < w) : kpR R p w 370 (p + i) = R 371 i := by unfold kpR; rw [if_pos ⟨rfl, by omega, by omega⟩, show p + i - p = i by omega]
theorem kpR_out {R : MM} {p w j : Nat} (h : j < p ∨ p + w ≤ j) : kpR R p w 370 j = R 370 j := by unfold kpR; rw [if_neg (by omega)]
theorem kpR_s {R : MM} {p w : Nat} : mU (kpR R p w) 370 (p + w) (R 371 w) = kpR R p (w + 1) := by
  funext a j
  unfold mU kpR
  by_cases ha : a = 370
  · subst ha
    by_cases hj : j = p + w
    · subst hj; rw [if_pos rfl, if_pos rfl, if_pos ⟨rfl, by omega, by omega⟩, show p + w - p = w by omega]
    · rw [if_pos rfl, if_neg hj]
      by_cases h2 : p ≤ j ∧ j < p + w
      · rw [if_pos ⟨rfl, h2.1, h2.2⟩, if_pos ⟨rfl, h2.1, by omega⟩]
      · rw [if_neg (by omega), if_neg (by omega)]
  · rw [if_neg ha, if_neg (by omega), if_neg (by omega)]
theorem keepB {R : MM} {c n p w : Nat} {fr most : Int} (hc : c < p) (h : R 370 c = (n : Int)) (hn : (n : Int) < most ∧ most ≤ 40) (hp : fr + (w : Int) * (n : Int) = (p : Int)) (hpw : p + w ≤ 132) (hw : w ≤ 4) : sX12_keep 359 (c : Int) fr (w : Int) most R = some (mU (kpR R p w) 370 c ((n : Int) + 1)) := by
  have c1 : (0 : Int) ≤ (c : Int) ∧ (c : Int) < 132 := ⟨by omega, by omega⟩
  have c2 : ¬ (n : Int) = most := by omega
  have e1 : Unit → wI (c : Int) = (c : Int) := fun _ => wI_of (by omega) (by omega)
  have e2 : Unit → wI (n : Int) = (n : Int) := fun _ => wI_of (by omega) (by omega)
  have e3 : Unit → wI most = most := fun _ => wI_of (by omega) (by omega)
  have e4 : Unit → wI (w : Int) = (w : Int) := fun _ => wI_of (by omega) (by omega)
  unfold sX12_keep sX12_keep_b0
  rw [e1 (), if_pos c1, g359_20, tN, h, e2 (), e3 (), if_neg c2]
  refine loopC (fun f y t => sX12_keep_b19 359 (c : Int) fr (w : Int) most f (n : Int) y t) w (fun k N => N = kpR R p k) (fun r => r = some (mU (kpR R p w) 370 c ((n : Int) + 1))) ?_ ?_ FU 0 R (by omega) ?_ (by unfold FU; omega)
  · intro f N hN
    show sX12_keep_b19 359 (c : Int) fr (w : Int) most (f + 1) (n : Int) (w : Int) N = _
    rw [sX12_keep_b19, e4 (), if_pos (Int.le_refl _), e1 (), if_pos c1, if_pos c1, ob_s, g359_20, tN, hN, kpR_out (Or.inl hc), h]
  · intro f k N hk hN
    right
    have d1 : ¬ (w : Int) ≤ (k : Int) := by omega
    have d2 : (0 : Int) ≤ (k : Int) ∧ (k : Int) < 4 := ⟨by omega, by omega⟩
    have d3 : (0 : Int) ≤ ((p + k : Nat) : Int) ∧ ((p + k : Nat) : Int) < 132 := ⟨by omega, by omega⟩
    have d4 : Unit → wI (k : Int) = (k : Int) := fun _ => wI_of (by omega) (by omega)
    have d5 : wI (fr + (w : Int) * (n : Int) + (k : Int)) = ((p + k : Nat) : Int) := by rw [hp, wI_of (by omega) (by omega)]; omega
    refine ⟨_, ?_, rfl⟩
    show sX12_keep_b19 359 (c : Int) fr (w : Int) most (f + 1) (n : Int) (k : Int) N = _
    rw [sX12_keep_b19, e4 (), d4 (), if_neg d1, if_pos d2, d5, if_pos d3, ob_s, ob_s, g359_20, g359_21, tN, tN, hN, kpR_row (by omega), kpR_s]
  · funext a j; unfold kpR; rw [if_neg (by omega)]
/-- behind a kept line -/
theorem kp_r {R : MM} {c n p w a : Nat} (h : a ≠ 370) : mU (kpR R p w) 370 c ((n : Int) + 1) a = R a := by rw [mU_row _ _ h, kpR_row h]
theorem kp_c {R : MM} {c n p w : Nat} : mU (kpR R p w) 370 c ((n : Int) + 1) 370 c = (n : Int) + 1 := mU_eq _ _ _ _
theorem kp_i {R : MM} {c n p w i : Nat} (hc : c < p) (h : i < w) : mU (kpR R p w) 370 c ((n : Int) + 1) 370 (p + i) = R 371 i := by rw [mU_ne _ _ (by omega), kpR_in h]
theorem kp_o {R : MM} {c n p w j : Nat} (hj : j ≠ c) (h : j < p ∨ p + w ≤ j) : mU (kpR R p w) 370 c ((n : Int) + 1) 370 j = R 370 j := by rw [mU_ne _ _ (by omega), kpR_out h]
