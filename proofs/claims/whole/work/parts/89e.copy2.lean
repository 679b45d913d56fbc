/-- block k of what is told, copied in the class -/
def KK (M M' : MM) (d s k : Nat) : Prop := PK M M' (d + 8 + 34 * k) (s + 8 + 34 * k) ∧ LK M M' (d + 19 + 34 * k) (s + 19 + 34 * k) 40 ∧ (LK M M' (d + 23 + 34 * k + 1) (s + 23 + 34 * k + 1) 8 ∧ ∀ j, j < 8 → M' (d + 23 + 34 * k + 5) j = M (s + 23 + 34 * k + 5) j) ∧ LK M M' (d + 29 + 34 * k) (s + 29 + 34 * k) 25 ∧ LK M M' (d + 33 + 34 * k + 1) (s + 33 + 34 * k + 1) 40 ∧ LK M M' (d + 33 + 34 * k + 5) (s + 33 + 34 * k + 5) 15
def MS (M : MM) (i k : Nat) : Prop := M (tB i + 19 + 34 * k) 0 = 40 ∧ M (tB i + 24 + 34 * k) 0 = 8 ∧ M (tB i + 29 + 34 * k) 0 = 25 ∧ M (tB i + 34 + 34 * k) 0 = 40 ∧ M (tB i + 38 + 34 * k) 0 = 15
theorem tB_d {i i' : Nat} (h : i ≠ i') (hi : i < 4) (hi' : i' < 4) : tB i + 76 ≤ tB i' ∨ tB i' + 76 ≤ tB i := by unfold tB; split <;> split <;> omega
theorem PK_f {M M' M'' : MM} {a0 a1 : Nat} (h : PK M M' a0 a1) (e : ∀ o, o ≤ 10 → M'' (a0 + o) = M' (a0 + o)) : PK M M'' a0 a1 := by
  have e0 := e 0 (by omega)
  rw [Nat.add_zero] at e0
  unfold PK
  rw [e0, e 1 (by omega), e 2 (by omega), e 3 (by omega), e 4 (by omega), e 5 (by omega), e 6 (by omega), e 7 (by omega), e 8 (by omega), e 9 (by omega), e 10 (by omega)]; exact h
theorem PK_g {M M0 M' : MM} {a0 a1 : Nat} (h : PK M M' a0 a1) (e : ∀ o, o ≤ 10 → M (a1 + o) = M0 (a1 + o)) : PK M0 M' a0 a1 := by
  have e0 := e 0 (by omega)
  rw [Nat.add_zero] at e0
  unfold PK
  rw [← e0, ← e 1 (by omega), ← e 2 (by omega), ← e 3 (by omega), ← e 4 (by omega), ← e 5 (by omega), ← e 6 (by omega), ← e 7 (by omega), ← e 8 (by omega), ← e 9 (by omega), ← e 10 (by omega)]; exact h
theorem KK_f {M M' M'' : MM} {d s k : Nat} (h : KK M M' d s k) (e : ∀ a, d + 8 + 34 * k ≤ a → a < d + 42 + 34 * k → M'' a = M' a) : KK M M'' d s k := by
  obtain ⟨h1, h2, ⟨h3, h3'⟩, h4, h5, h6⟩ := h
  refine ⟨PK_f h1 (fun o ho => e _ (by omega) (by omega)), LK_f h2 (fun a ha hb => e _ (by omega) (by omega)), ⟨LK_f h3 (fun a ha hb => e _ (by omega) (by omega)), fun j hj => by rw [e _ (by omega) (by omega)]; exact h3' j hj⟩, LK_f h4 (fun a ha hb => e _ (by omega) (by omega)), LK_f h5 (fun a ha hb => e _ (by omega) (by omega)), LK_f h6 (fun a ha hb => e _ (by omega) (by omega))⟩
theorem KK_g {M M0 M' : MM} {d s k : Nat} (h : KK M M' d s k) (e : ∀ a, s + 8 + 34 * k ≤ a → a < s + 42 + 34 * k → M a = M0 a) (e' : ∀ a, d + 8 + 34 * k ≤ a → a < d + 42 + 34 * k → M a = M0 a) : KK M0 M' d s k := by
  obtain ⟨h1, h2, ⟨h3, h3'⟩, h4, h5, h6⟩ := h
  refine ⟨PK_g h1 (fun o ho => e _ (by omega) (by omega)), LK_g h2 (fun a ha hb => e _ (by omega) (by omega)) (e' _ (by omega) (by omega)), ⟨LK_g h3 (fun a ha hb => e _ (by omega) (by omega)) (e' _ (by omega) (by omega)), fun j hj => by rw [← e _ (by omega) (by omega)]; exact h3' j hj⟩, LK_g h4 (fun a ha hb => e _ (by omega) (by omega)) (e' _ (by omega) (by omega)), LK_g h5 (fun a ha hb => e _ (by omega) (by omega)) (e' _ (by omega) (by omega)), LK_g h6 (fun a ha hb => e _ (by omega) (by omega)) (e' _ (by omega) (by omega))⟩
theorem gC_2 : ∀ i, i < 4 → ∀ k, k < 2 → gR (tB i + 23 + 34 * k) 0 = tB i + 23 + 34 * k + 1 ∧ gR (tB i + 23 + 34 * k) 1 = tB i + 23 + 34 * k + 5 := by decide +kernel
theorem gT_2 : ∀ i, i < 4 → ∀ k, k < 2 → gR (tB i + 33 + 34 * k) 0 = tB i + 33 + 34 * k + 1 ∧ gR (tB i + 33 + 34 * k) 1 = tB i + 33 + 34 * k + 5 := by decide +kernel
theorem kcopy {M : MM} {i i' k : Nat} (hi : i < 4) (hi' : i' < 4) (hn : i ≠ i') (hk : k < 2) (m : MS M i k) (m' : MS M i' k) (n : Nat) : ∃ M', sX9_copy_b56 (tB i) (tB i') (n + 1) (k : Int) M = sX9_copy_b56 (tB i) (tB i') n ((k : Int) + 1) M' ∧ (∀ a, a < tB i + 8 + 34 * k ∨ tB i + 42 + 34 * k ≤ a → M' a = M a) ∧ KK M M' (tB i) (tB i') k := by
  have hd := tB_d hn hi hi'
  have ek : wI (k : Int) = (k : Int) := wI_of (by omega) (by omega)
  obtain ⟨m1, m2, m3, m4, m5⟩ := m
  obtain ⟨n1, n2, n3, n4, n5⟩ := m'
  have ib : (0 : Int) ≤ (k : Int) ∧ (k : Int) < 2 := ⟨by omega, by omega⟩
  have ic : ¬ (2 : Int) ≤ (k : Int) := by omega
  have P0 := PG_t i hi k hk
  have P1 := PG_t i' hi' k hk
  have B0 := LG_b i hi k hk
  have B1 := LG_b i' hi' k hk
  have C0 := LG_c i hi k hk
  have C1 := LG_c i' hi' k hk
  have D0 := LG_g i hi k hk
  have D1 := LG_g i' hi' k hk
  have R0 := LG_s i hi k hk
  have R1 := LG_s i' hi' k hk
  have S0 := LG_r i hi k hk
  have S1 := LG_r i' hi' k hk
  obtain ⟨M1, x1, y1, z1⟩ := pcopy (M := M) P0 P1 (by omega)
  obtain ⟨M2, x2, y2, z2⟩ := lcopy (M := M1) B0 B1 (by rw [y1 _ (by omega)]; exact m1) (by rw [y1 _ (by omega)]; exact n1) (by omega) (by omega)
  obtain ⟨M3, x3, y3, z3, z3'⟩ := ccopy (M := M2) (a0 := tB i + 23 + 34 * k) (a1 := tB i' + 23 + 34 * k) (gC_2 i hi k hk) (gC_2 i' hi' k hk) (by rw [show tB i + 23 + 34 * k + 1 = tB i + 24 + 34 * k by omega]; exact C0) (by rw [show tB i' + 23 + 34 * k + 1 = tB i' + 24 + 34 * k by omega]; exact C1) (by rw [y2 _ (by omega), y1 _ (by omega), show tB i + 23 + 34 * k + 1 = tB i + 24 + 34 * k by omega]; exact m2) (by rw [y2 _ (by omega), y1 _ (by omega), show tB i' + 23 + 34 * k + 1 = tB i' + 24 + 34 * k by omega]; exact n2) (by omega)
  obtain ⟨M4, x4, y4, z4⟩ := lcopy (M := M3) D0 D1 (by rw [y3 _ (by omega), y2 _ (by omega), y1 _ (by omega)]; exact m3) (by rw [y3 _ (by omega), y2 _ (by omega), y1 _ (by omega)]; exact n3) (by omega) (by omega)
  obtain ⟨M5, x5, y5, z5, z5'⟩ := rcopy (M := M4) (a0 := tB i + 33 + 34 * k) (a1 := tB i' + 33 + 34 * k) (gT_2 i hi k hk) (gT_2 i' hi' k hk) (by rw [show tB i + 33 + 34 * k + 1 = tB i + 34 + 34 * k by omega]; exact R0) (by rw [show tB i' + 33 + 34 * k + 1 = tB i' + 34 + 34 * k by omega]; exact R1) (by rw [show tB i + 33 + 34 * k + 5 = tB i + 38 + 34 * k by omega]; exact S0) (by rw [show tB i' + 33 + 34 * k + 5 = tB i' + 38 + 34 * k by omega]; exact S1) (by rw [y4 _ (by omega), y3 _ (by omega), y2 _ (by omega), y1 _ (by omega), show tB i + 33 + 34 * k + 1 = tB i + 34 + 34 * k by omega]; exact m4) (by rw [y4 _ (by omega), y3 _ (by omega), y2 _ (by omega), y1 _ (by omega), show tB i' + 33 + 34 * k + 1 = tB i' + 34 + 34 * k by omega]; exact n4) (by rw [y4 _ (by omega), y3 _ (by omega), y2 _ (by omega), y1 _ (by omega), show tB i + 33 + 34 * k + 5 = tB i + 38 + 34 * k by omega]; exact m5) (by rw [y4 _ (by omega), y3 _ (by omega), y2 _ (by omega), y1 _ (by omega), show tB i' + 33 + 34 * k + 5 = tB i' + 38 + 34 * k by omega]; exact n5) (by omega)
  refine ⟨M5, ?_, fun a ha => ?_, ?_⟩
  · obtain ⟨b1, b2, b3, b4, b5⟩ := gB_k i hi k hk
    obtain ⟨c1, c2, c3, c4, c5⟩ := gB_k i' hi' k hk
    obtain ⟨_, _, t5, t6, t7, t8, t9⟩ := gB_t i hi
    obtain ⟨_, _, u5, u6, u7, u8, u9⟩ := gB_t i' hi'
    rw [sX9_copy_b56]
    simp only [ek, tN, t5, t6, t7, t8, t9, u5, u6, u7, u8, u9, b1, b2, b3, b4, b5, c1, c2, c3, c4, c5, if_pos ib, x1, x2, x3, x4, x5, ob_s]
    rw [if_neg ic]
  · rw [y5 a (by omega), y4 a (by omega), y3 a (by omega), y2 a (by omega), y1 a (by omega)]
  · refine ⟨PK_f z1 (fun o ho => ?_), LK_f (LK_g z2 (fun a ha hb => y1 a (by omega)) (y1 _ (by omega))) (fun a ha hb => ?_), ⟨LK_f (LK_g z3 (fun a ha hb => ?_) ?_) (fun a ha hb => ?_), fun j hj => ?_⟩, LK_f (LK_g z4 (fun a ha hb => ?_) ?_) (fun a ha hb => y5 a (by omega)), LK_g z5 (fun a ha hb => ?_) ?_, LK_g z5' (fun a ha hb => ?_) ?_⟩
    · rw [y5 _ (by omega), y4 _ (by omega), y3 _ (by omega), y2 _ (by omega)]
    · rw [y5 _ (by omega), y4 _ (by omega), y3 _ (by omega)]
    · rw [y2 _ (by omega), y1 _ (by omega)]
    · rw [y2 _ (by omega), y1 _ (by omega)]
    · rw [y5 _ (by omega), y4 _ (by omega)]
    · rw [y5 _ (by omega), y4 _ (by omega), z3' j hj, y2 _ (by omega), y1 _ (by omega)]
    · rw [y3 _ (by omega), y2 _ (by omega), y1 _ (by omega)]
    · rw [y3 _ (by omega), y2 _ (by omega), y1 _ (by omega)]
    all_goals rw [y4 _ (by omega), y3 _ (by omega), y2 _ (by omega), y1 _ (by omega)]
