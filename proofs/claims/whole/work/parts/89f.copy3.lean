/-- all that is told, copied in the class -/
def TK (M M' : MM) (i i' : Nat) : Prop := (∀ a, a < tB i ∨ tB i + 76 ≤ a → M' a = M a) ∧ (M' (tB i) 1 = M (tB i') 1 ∧ M' (tB i) 2 = M (tB i') 2 ∧ M' (tB i) 3 = M (tB i') 3) ∧ (∀ j, j < 600 → M' (tB i + 1) j = M (tB i' + 1) j) ∧ (∀ j, j < 5 → M' (tB i + 2) j = M (tB i' + 2) j) ∧ KK M M' (tB i) (tB i') 0 ∧ KK M M' (tB i) (tB i') 1
theorem byt_i {r : Nat → Int} {n : Nat} (h : ∀ j, j < n → -128 ≤ r j ∧ r j ≤ 127) : byt r n = true := by
  unfold byt
  rw [List.all_eq_true]
  intro j hj
  have := h j (List.mem_range.mp hj)
  simp; omega
theorem tcopy {M : MM} {i i' : Nat} (hi : i < 4) (hi' : i' < 4) (hn : i ≠ i') (m : MOS M) (hb : ∀ j, j < 600 → -128 ≤ M (tB i' + 1) j ∧ M (tB i' + 1) j ≤ 127) : ∃ M', sX9_copy (tB i) (tB i') M = some M' ∧ TK M M' i i' := by
  have hd := tB_d hn hi hi'
  have ms : ∀ (M' : MM), (∀ a, tB i + 8 ≤ a ∧ a < tB i + 76 ∨ tB i' + 8 ≤ a ∧ a < tB i' + 76 → M' a = M a) → ∀ k, k < 2 → MS M' i k ∧ MS M' i' k := by
    intro M' e k hk
    unfold MS
    rw [e _ (by omega), e (tB i + 24 + 34 * k) (by omega), e (tB i + 29 + 34 * k) (by omega), e (tB i + 34 + 34 * k) (by omega), e (tB i + 38 + 34 * k) (by omega), e (tB i' + 19 + 34 * k) (by omega), e (tB i' + 24 + 34 * k) (by omega), e (tB i' + 29 + 34 * k) (by omega), e (tB i' + 34 + 34 * k) (by omega), e (tB i' + 38 + 34 * k) (by omega)]
    exact ⟨m.1 i hi k hk, m.1 i' hi' k hk⟩
  unfold sX9_copy sX9_copy_b0
  rw [(gB_t i hi).1, (gB_t i hi).2.1, (gB_t i' hi').1, (gB_t i' hi').2.1, if_pos (byt_i hb), ob_s, ob_s, ob_s, ob_s, ob_s]
  obtain ⟨N, eN⟩ : ∃ N : MM, N = mC (mU (mU (mU (mC M (tB i' + 1) (tB i + 1) 600) (tB i) 1 (mC M (tB i' + 1) (tB i + 1) 600 (tB i') 1)) (tB i) 2 (mU (mC M (tB i' + 1) (tB i + 1) 600) (tB i) 1 (mC M (tB i' + 1) (tB i + 1) 600 (tB i') 1) (tB i') 2)) (tB i) 3 (mU (mU (mC M (tB i' + 1) (tB i + 1) 600) (tB i) 1 (mC M (tB i' + 1) (tB i + 1) 600 (tB i') 1)) (tB i) 2 (mU (mC M (tB i' + 1) (tB i + 1) 600) (tB i) 1 (mC M (tB i' + 1) (tB i + 1) 600 (tB i') 1) (tB i') 2) (tB i') 3)) (tB i' + 2) (tB i + 2) 5 := ⟨_, rfl⟩
  rw [← eN]
  have f0 : ∀ a, a < tB i ∨ tB i + 3 ≤ a → N a = M a := by
    intro a ha
    rw [eN]
    simp (disch := omega) only [mU_row, mC_other]
  have f1 : N (tB i) 1 = M (tB i') 1 ∧ N (tB i) 2 = M (tB i') 2 ∧ N (tB i) 3 = M (tB i') 3 := by
    rw [eN]
    refine ⟨?_, ?_, ?_⟩
    all_goals simp (disch := omega) only [mU_row, mU_ne, mU_eq, mC_other]
  have f2 : ∀ j, j < 600 → N (tB i + 1) j = M (tB i' + 1) j := by
    intro j hj
    rw [eN]
    simp (disch := omega) only [mU_row, mU_ne, mU_eq, mC_other, mC_eq]
  have f3 : ∀ j, j < 5 → N (tB i + 2) j = M (tB i' + 2) j := by
    intro j hj
    rw [eN]
    simp (disch := omega) only [mU_row, mU_ne, mU_eq, mC_other, mC_eq]
  obtain ⟨N1, x1, y1, z1⟩ := kcopy (M := N) hi hi' hn (k := 0) (by omega) (ms N (fun a ha => f0 a (by omega)) 0 (by omega)).1 (ms N (fun a ha => f0 a (by omega)) 0 (by omega)).2 99999
  have f4 : ∀ a, tB i + 42 ≤ a ∧ a < tB i + 76 ∨ tB i' + 8 ≤ a ∧ a < tB i' + 76 → N1 a = M a := fun a ha => by rw [y1 a (by omega), f0 a (by omega)]
  have m1 : MS N1 i 1 ∧ MS N1 i' 1 := by
    unfold MS
    rw [f4 _ (by omega), f4 (tB i + 24 + 34 * 1) (by omega), f4 (tB i + 29 + 34 * 1) (by omega), f4 (tB i + 34 + 34 * 1) (by omega), f4 (tB i + 38 + 34 * 1) (by omega), f4 (tB i' + 19 + 34 * 1) (by omega), f4 (tB i' + 24 + 34 * 1) (by omega), f4 (tB i' + 29 + 34 * 1) (by omega), f4 (tB i' + 34 + 34 * 1) (by omega), f4 (tB i' + 38 + 34 * 1) (by omega)]
    exact ⟨m.1 i hi 1 (by omega), m.1 i' hi' 1 (by omega)⟩
  obtain ⟨N2, x2, y2, z2⟩ := kcopy (M := N1) hi hi' hn (k := 1) (by omega) m1.1 m1.2 99998
  refine ⟨N2, ?_, fun a ha => ?_, ?_, fun j hj => ?_, fun j hj => ?_, ?_, ?_⟩
  · rw [show FU = 99999 + 1 from rfl, show (0 : Int) = ((0 : Nat) : Int) from rfl, x1, show ((0 : Nat) : Int) + 1 = ((1 : Nat) : Int) from rfl, show (99999 : Nat) = 99998 + 1 from rfl, x2]
    rw [show (99998 : Nat) = 99997 + 1 from rfl, sX9_copy_b56, if_pos (by rw [wI_of (by omega) (by omega)]; omega)]
  · rw [y2 a (by omega), y1 a (by omega), f0 a (by omega)]
  · rw [y2 _ (by omega), y1 _ (by omega)]; exact f1
  · rw [y2 _ (by omega), y1 _ (by omega)]; exact f2 j hj
  · rw [y2 _ (by omega), y1 _ (by omega)]; exact f3 j hj
  · exact KK_f (KK_g z1 (fun a ha hb => f0 a (by omega)) (fun a ha hb => f0 a (by omega))) (fun a ha hb => y2 a (by omega))
  · exact KK_g z2 (fun a ha hb => by rw [y1 a (by omega), f0 a (by omega)]) (fun a ha hb => by rw [y1 a (by omega), f0 a (by omega)])
/-- rows of the reference copied -/
def mS (M : MM) (b p q n : Nat) : MM := fun a j => if a = b ∧ q ≤ j ∧ j < q + n then M b (p + (j - q)) else M a j
theorem mS_row {M : MM} {b p q n a : Nat} (h : a ≠ b) : mS M b p q n a = M a := by funext j; unfold mS; rw [if_neg (by omega)]
theorem mS_in {M : MM} {b p q n j : Nat} (h : j < n) : mS M b p q n b (q + j) = M b (p + j) := by unfold mS; rw [if_pos ⟨rfl, by omega, by omega⟩, show q + j - q = j by omega]
theorem mS_out {M : MM} {b p q n j : Nat} (h : j < q ∨ q + n ≤ j) : mS M b p q n b j = M b j := by unfold mS; rw [if_neg (by omega)]
theorem mS_s {M : MM} {b p q n : Nat} (h : p + n < q ∨ q + n ≤ p) : mU (mS M b p q n) b (q + n) (mS M b p q n b (p + n)) = mS M b p q (n + 1) := by
  rw [mS_out (by omega)]
  funext a j
  unfold mU mS
  by_cases ha : a = b
  · subst ha
    by_cases hj : j = q + n
    · subst hj; rw [if_pos rfl, if_pos rfl, if_pos ⟨rfl, by omega, by omega⟩, show q + n - q = n by omega]
    · rw [if_pos rfl, if_neg hj]
      by_cases h2 : q ≤ j ∧ j < q + n
      · rw [if_pos ⟨rfl, h2.1, h2.2⟩, if_pos ⟨rfl, h2.1, by omega⟩]
      · rw [if_neg (by omega), if_neg (by omega)]
  · rw [if_neg ha, if_neg (by omega), if_neg (by omega)]
theorem mS_0 {M : MM} {b p q : Nat} : mS M b p q 0 = M := by
  funext a j; unfold mS; rw [if_neg (by omega)]
theorem rowcopy {M : MM} {b n p q : Nat} {x y : Int} (hp : (n : Int) * x = (p : Int)) (hq : (n : Int) * y = (q : Int)) (h : p + n ≤ q ∨ q + n ≤ p) (l1 : p + n ≤ ln b) (l2 : q + n ≤ ln b) (l3 : ln b ≤ 5000) : sX12_copyRow b (n : Int) x y M = some (mS M b p q n) := by
  have i1 : ∀ k, k < n → 0 ≤ ((p + k : Nat) : Int) ∧ ((p + k : Nat) : Int) < (ln b : Int) := fun k hk => ⟨Int.natCast_nonneg _, Int.ofNat_lt.mpr (Nat.lt_of_lt_of_le (Nat.add_lt_add_left hk p) l1)⟩
  have i2 : ∀ k, k < n → 0 ≤ ((q + k : Nat) : Int) ∧ ((q + k : Nat) : Int) < (ln b : Int) := fun k hk => ⟨Int.natCast_nonneg _, Int.ofNat_lt.mpr (Nat.lt_of_lt_of_le (Nat.add_lt_add_left hk q) l2)⟩
  have l4 : p + n ≤ 5000 := Nat.le_trans l1 l3
  have l5 : q + n ≤ 5000 := Nat.le_trans l2 l3
  clear l1 l2 l3
  unfold sX12_copyRow sX12_copyRow_b0
  have en : wI (n : Int) = (n : Int) := wI_of (by omega) (by omega)
  refine loopC (sX12_copyRow_b3 b (n : Int) x y) n (fun k N => N = mS M b p q k) (fun r => r = some (mS M b p q n)) ?_ ?_ FU 0 M (by omega) mS_0.symm (by unfold FU; omega)
  · intro f N hN
    rw [sX12_copyRow_b3, en, if_pos (by omega), hN]
  · intro f k N hk hN
    right
    have e1 : wI ((n : Int) * x + (k : Int)) = ((p + k : Nat) : Int) := by rw [hp, wI_of (by omega) (by omega)]; omega
    have e2 : wI ((n : Int) * y + (k : Int)) = ((q + k : Nat) : Int) := by rw [hq, wI_of (by omega) (by omega)]; omega
    refine ⟨_, ?_, rfl⟩
    rw [sX12_copyRow_b3, en, wI_of (x := (k : Int)) (by omega) (by omega), if_neg (by omega), if_pos (by rw [e1]; exact i1 k hk), if_pos (by rw [e2]; exact i2 k hk), e1, e2, ob_s, ob_s, tN, tN, hN, mS_s (by omega)]
/-- all rows of the reference copied -/
def mA (M : MM) (p q : Nat) : MM := mS (mS (mS (mS (mS (mS (mS (mS (mS (mS M 360 (600 * p) (600 * q) 600) 361 p q 1) 362 p q 1) 363 p q 1) 364 (5 * p) (5 * q) 5) 365 (264 * p) (264 * q) 264) 366 (242 * p) (242 * q) 242) 367 (66 * p) (66 * q) 66) 368 (102 * p) (102 * q) 102) 369 (194 * p) (194 * q) 194
theorem allcopy {M : MM} {p q : Nat} (hp : p < 4) (hq : q < 4) (h : p ≠ q) (hb : ∀ j, j < 600 → -128 ≤ M 360 (600 * p + j) ∧ M 360 (600 * p + j) ≤ 127) : sX12_copyAll 359 (p : Int) (q : Int) M = some (mA M p q) := by
  unfold sX12_copyAll sX12_copyAll_b0
  refine loopC (sX12_copyAll_b2 359 (p : Int) (q : Int)) 600 (fun k N => N = mS M 360 (600 * p) (600 * q) k) (fun r => r = some (mA M p q)) ?_ ?_ FU 0 M (by omega) mS_0.symm (by unfold FU; omega)
  · intro f N hN
    rw [sX12_copyAll_b2, if_pos (by rw [wI_of (by omega) (by omega)]; omega), g359_2, g359_3, g359_4, g359_5, g359_6, g359_7, g359_8, g359_9, g359_10]
    rw [show (1 : Int) = ((1 : Nat) : Int) from rfl, rowcopy (n := 1) (b := 361) (p := p) (q := q) (by omega) (by omega) (by omega) (by rw [l361_]; omega) (by rw [l361_]; omega) (by rw [l361_]; omega), ob_s]
    rw [rowcopy (n := 1) (b := 362) (p := p) (q := q) (by omega) (by omega) (by omega) (by rw [l362_]; omega) (by rw [l362_]; omega) (by rw [l362_]; omega), ob_s]
    rw [rowcopy (n := 1) (b := 363) (p := p) (q := q) (by omega) (by omega) (by omega) (by rw [l363_]; omega) (by rw [l363_]; omega) (by rw [l363_]; omega), ob_s]
    rw [show (5 : Int) = ((5 : Nat) : Int) from rfl, rowcopy (n := 5) (b := 364) (p := 5 * p) (q := 5 * q) (by omega) (by omega) (by omega) (by rw [l364_]; omega) (by rw [l364_]; omega) (by rw [l364_]; omega), ob_s]
    rw [show (264 : Int) = ((264 : Nat) : Int) from rfl, rowcopy (n := 264) (b := 365) (p := 264 * p) (q := 264 * q) (by omega) (by omega) (by omega) (by rw [l365_]; omega) (by rw [l365_]; omega) (by rw [l365_]; omega), ob_s]
    rw [show (242 : Int) = ((242 : Nat) : Int) from rfl, rowcopy (n := 242) (b := 366) (p := 242 * p) (q := 242 * q) (by omega) (by omega) (by omega) (by rw [l366_]; omega) (by rw [l366_]; omega) (by rw [l366_]; omega), ob_s]
    rw [show (66 : Int) = ((66 : Nat) : Int) from rfl, rowcopy (n := 66) (b := 367) (p := 66 * p) (q := 66 * q) (by omega) (by omega) (by omega) (by rw [l367_]; omega) (by rw [l367_]; omega) (by rw [l367_]; omega), ob_s]
    rw [show (102 : Int) = ((102 : Nat) : Int) from rfl, rowcopy (n := 102) (b := 368) (p := 102 * p) (q := 102 * q) (by omega) (by omega) (by omega) (by rw [l368_]; omega) (by rw [l368_]; omega) (by rw [l368_]; omega), ob_s]
    rw [show (194 : Int) = ((194 : Nat) : Int) from rfl, rowcopy (n := 194) (b := 369) (p := 194 * p) (q := 194 * q) (by omega) (by omega) (by omega) (by rw [l369_]; omega) (by rw [l369_]; omega) (by rw [l369_]; omega), ob_s]
    rw [hN]; rfl
  · intro f k N hk hN
    right
    have e1 : wI (600 * (p : Int) + (k : Int)) = ((600 * p + k : Nat) : Int) := by rw [wI_of (by omega) (by omega)]; omega
    have e2 : wI (600 * (q : Int) + (k : Int)) = ((600 * q + k : Nat) : Int) := by rw [wI_of (by omega) (by omega)]; omega
    have eb : N 360 (600 * p + k) = M 360 (600 * p + k) := by rw [hN]; exact mS_out (by omega)
    refine ⟨_, ?_, rfl⟩
    rw [sX12_copyAll_b2, wI_of (x := (k : Int)) (by omega) (by omega), if_neg (by omega), e1, e2, if_pos ⟨by omega, by omega⟩, if_pos ⟨by omega, by omega⟩, g359_1, tN, tN, if_pos (by rw [eb]; exact hb k hk), ob_s, ob_s, hN, mS_s (by omega)]
