theorem mC_eq {M : MM} {a b n j : Nat} (h : j < n) : mC M a b n b j = M a j := by unfold mC; rw [if_pos ⟨rfl, h⟩]
/-- a party of the class copied -/
def PK (M M' : MM) (a0 a1 : Nat) : Prop := (M' a0 0 = M a1 0 ∧ M' a0 3 = M a1 3 ∧ M' a0 12 = M a1 12 ∧ M' a0 13 = M a1 13 ∧ M' a0 14 = M a1 14 ∧ M' a0 15 = M a1 15 ∧ M' a0 16 = M a1 16) ∧ (∀ j, j < 5 → M' (a0 + 1) j = M (a1 + 1) j ∧ M' (a0 + 2) j = M (a1 + 2) j) ∧ (∀ j, j < 8 → M' (a0 + 3) j = M (a1 + 3) j ∧ M' (a0 + 4) j = M (a1 + 4) j ∧ M' (a0 + 5) j = M (a1 + 5) j ∧ M' (a0 + 6) j = M (a1 + 6) j ∧ M' (a0 + 7) j = M (a1 + 7) j) ∧ (∀ j, j < 64 → M' (a0 + 8) j = M (a1 + 8) j) ∧ (∀ j, j < 8 → M' (a0 + 9) j = M (a1 + 9) j) ∧ ∀ j, j < 3 → M' (a0 + 10) j = M (a1 + 10) j
theorem pcopy {M : MM} {a0 a1 : Nat} (h0 : PG a0) (h1 : PG a1) (hd : a0 + 10 < a1 ∨ a1 + 10 < a0) : ∃ M', sX5_copy a0 a1 M = some M' ∧ (∀ a, a < a0 ∨ a0 + 10 < a → M' a = M a) ∧ PK M M' a0 a1 := by
  obtain ⟨p1, p2, p4, p5, p6, p7, p8, p9, p10, p11⟩ := h0
  obtain ⟨q1, q2, q4, q5, q6, q7, q8, q9, q10, q11⟩ := h1
  unfold sX5_copy sX5_copy_b0
  rw [p1, p2, p4, p5, p6, p7, p8, p9, p10, p11, q1, q2, q4, q5, q6, q7, q8, q9, q10, q11]
  clear p1 p2 p4 p5 p6 p7 p8 p9 p10 p11 q1 q2 q4 q5 q6 q7 q8 q9 q10 q11
  rw [ob_s]
  obtain ⟨N1, e1⟩ : ∃ N : MM, N = mU M a0 0 (M a1 0) := ⟨_, rfl⟩
  rw [← e1]
  have f1 : ∀ a, a ≠ a0 → N1 a = M a := fun a ha => by rw [e1]; exact mU_row _ _ ha
  have u1 : ∀ j, j ≠ 0 → N1 a0 j = M a0 j := fun j hj => by rw [e1]; exact mU_ne _ _ (Or.inr hj)
  have v1 : N1 a0 0 = M a1 0 := by rw [e1]; exact mU_eq _ _ _ _
  have s1 : ∀ a, a < a0 ∨ a0 + 10 < a → N1 a = M a := fun a h => f1 a (by omega)
  rw [ob_s]
  obtain ⟨N2, e2⟩ : ∃ N : MM, N = mC N1 (a1 + 1) (a0 + 1) 5 := ⟨_, rfl⟩
  rw [← e2]
  have f2 : ∀ a, a ≠ a0 + 1 → N2 a = N1 a := fun a ha => by rw [e2]; exact mC_other ha
  have v2 : ∀ j, j < 5 → N2 (a0 + 1) j = N1 (a1 + 1) j := fun j hj => by rw [e2]; exact mC_eq hj
  have s2 : ∀ a, a < a0 ∨ a0 + 10 < a → N2 a = M a := fun a h => (f2 a (by omega)).trans (s1 a h)
  rw [ob_s]
  obtain ⟨N3, e3⟩ : ∃ N : MM, N = mC N2 (a1 + 2) (a0 + 2) 5 := ⟨_, rfl⟩
  rw [← e3]
  have f3 : ∀ a, a ≠ a0 + 2 → N3 a = N2 a := fun a ha => by rw [e3]; exact mC_other ha
  have v3 : ∀ j, j < 5 → N3 (a0 + 2) j = N2 (a1 + 2) j := fun j hj => by rw [e3]; exact mC_eq hj
  have s3 : ∀ a, a < a0 ∨ a0 + 10 < a → N3 a = M a := fun a h => (f3 a (by omega)).trans (s2 a h)
  rw [ob_s]
  obtain ⟨N4, e4⟩ : ∃ N : MM, N = mU N3 a0 3 (N3 a1 3) := ⟨_, rfl⟩
  rw [← e4]
  have f4 : ∀ a, a ≠ a0 → N4 a = N3 a := fun a ha => by rw [e4]; exact mU_row _ _ ha
  have u4 : ∀ j, j ≠ 3 → N4 a0 j = N3 a0 j := fun j hj => by rw [e4]; exact mU_ne _ _ (Or.inr hj)
  have v4 : N4 a0 3 = N3 a1 3 := by rw [e4]; exact mU_eq _ _ _ _
  have s4 : ∀ a, a < a0 ∨ a0 + 10 < a → N4 a = M a := fun a h => (f4 a (by omega)).trans (s3 a h)
  rw [ob_s]
  obtain ⟨N5, e5⟩ : ∃ N : MM, N = mC N4 (a1 + 3) (a0 + 3) 8 := ⟨_, rfl⟩
  rw [← e5]
  have f5 : ∀ a, a ≠ a0 + 3 → N5 a = N4 a := fun a ha => by rw [e5]; exact mC_other ha
  have v5 : ∀ j, j < 8 → N5 (a0 + 3) j = N4 (a1 + 3) j := fun j hj => by rw [e5]; exact mC_eq hj
  have s5 : ∀ a, a < a0 ∨ a0 + 10 < a → N5 a = M a := fun a h => (f5 a (by omega)).trans (s4 a h)
  rw [ob_s]
  obtain ⟨N6, e6⟩ : ∃ N : MM, N = mC N5 (a1 + 4) (a0 + 4) 8 := ⟨_, rfl⟩
  rw [← e6]
  have f6 : ∀ a, a ≠ a0 + 4 → N6 a = N5 a := fun a ha => by rw [e6]; exact mC_other ha
  have v6 : ∀ j, j < 8 → N6 (a0 + 4) j = N5 (a1 + 4) j := fun j hj => by rw [e6]; exact mC_eq hj
  have s6 : ∀ a, a < a0 ∨ a0 + 10 < a → N6 a = M a := fun a h => (f6 a (by omega)).trans (s5 a h)
  rw [ob_s]
  obtain ⟨N7, e7⟩ : ∃ N : MM, N = mC N6 (a1 + 5) (a0 + 5) 8 := ⟨_, rfl⟩
  rw [← e7]
  have f7 : ∀ a, a ≠ a0 + 5 → N7 a = N6 a := fun a ha => by rw [e7]; exact mC_other ha
  have v7 : ∀ j, j < 8 → N7 (a0 + 5) j = N6 (a1 + 5) j := fun j hj => by rw [e7]; exact mC_eq hj
  have s7 : ∀ a, a < a0 ∨ a0 + 10 < a → N7 a = M a := fun a h => (f7 a (by omega)).trans (s6 a h)
  rw [ob_s]
  obtain ⟨N8, e8⟩ : ∃ N : MM, N = mC N7 (a1 + 6) (a0 + 6) 8 := ⟨_, rfl⟩
  rw [← e8]
  have f8 : ∀ a, a ≠ a0 + 6 → N8 a = N7 a := fun a ha => by rw [e8]; exact mC_other ha
  have v8 : ∀ j, j < 8 → N8 (a0 + 6) j = N7 (a1 + 6) j := fun j hj => by rw [e8]; exact mC_eq hj
  have s8 : ∀ a, a < a0 ∨ a0 + 10 < a → N8 a = M a := fun a h => (f8 a (by omega)).trans (s7 a h)
  rw [ob_s]
  obtain ⟨N9, e9⟩ : ∃ N : MM, N = mC N8 (a1 + 7) (a0 + 7) 8 := ⟨_, rfl⟩
  rw [← e9]
  have f9 : ∀ a, a ≠ a0 + 7 → N9 a = N8 a := fun a ha => by rw [e9]; exact mC_other ha
  have v9 : ∀ j, j < 8 → N9 (a0 + 7) j = N8 (a1 + 7) j := fun j hj => by rw [e9]; exact mC_eq hj
  have s9 : ∀ a, a < a0 ∨ a0 + 10 < a → N9 a = M a := fun a h => (f9 a (by omega)).trans (s8 a h)
  rw [ob_s]
  obtain ⟨N10, e10⟩ : ∃ N : MM, N = mC N9 (a1 + 8) (a0 + 8) 64 := ⟨_, rfl⟩
  rw [← e10]
  have f10 : ∀ a, a ≠ a0 + 8 → N10 a = N9 a := fun a ha => by rw [e10]; exact mC_other ha
  have v10 : ∀ j, j < 64 → N10 (a0 + 8) j = N9 (a1 + 8) j := fun j hj => by rw [e10]; exact mC_eq hj
  have s10 : ∀ a, a < a0 ∨ a0 + 10 < a → N10 a = M a := fun a h => (f10 a (by omega)).trans (s9 a h)
  rw [ob_s]
  obtain ⟨N11, e11⟩ : ∃ N : MM, N = mC N10 (a1 + 9) (a0 + 9) 8 := ⟨_, rfl⟩
  rw [← e11]
  have f11 : ∀ a, a ≠ a0 + 9 → N11 a = N10 a := fun a ha => by rw [e11]; exact mC_other ha
  have v11 : ∀ j, j < 8 → N11 (a0 + 9) j = N10 (a1 + 9) j := fun j hj => by rw [e11]; exact mC_eq hj
  have s11 : ∀ a, a < a0 ∨ a0 + 10 < a → N11 a = M a := fun a h => (f11 a (by omega)).trans (s10 a h)
  rw [ob_s]
  obtain ⟨N12, e12⟩ : ∃ N : MM, N = mC N11 (a1 + 10) (a0 + 10) 3 := ⟨_, rfl⟩
  rw [← e12]
  have f12 : ∀ a, a ≠ a0 + 10 → N12 a = N11 a := fun a ha => by rw [e12]; exact mC_other ha
  have v12 : ∀ j, j < 3 → N12 (a0 + 10) j = N11 (a1 + 10) j := fun j hj => by rw [e12]; exact mC_eq hj
  have s12 : ∀ a, a < a0 ∨ a0 + 10 < a → N12 a = M a := fun a h => (f12 a (by omega)).trans (s11 a h)
  rw [ob_s]
  obtain ⟨N13, e13⟩ : ∃ N : MM, N = mU N12 a0 12 (N12 a1 12) := ⟨_, rfl⟩
  rw [← e13]
  have f13 : ∀ a, a ≠ a0 → N13 a = N12 a := fun a ha => by rw [e13]; exact mU_row _ _ ha
  have u13 : ∀ j, j ≠ 12 → N13 a0 j = N12 a0 j := fun j hj => by rw [e13]; exact mU_ne _ _ (Or.inr hj)
  have v13 : N13 a0 12 = N12 a1 12 := by rw [e13]; exact mU_eq _ _ _ _
  have s13 : ∀ a, a < a0 ∨ a0 + 10 < a → N13 a = M a := fun a h => (f13 a (by omega)).trans (s12 a h)
  rw [ob_s]
  obtain ⟨N14, e14⟩ : ∃ N : MM, N = mU N13 a0 13 (N13 a1 13) := ⟨_, rfl⟩
  rw [← e14]
  have f14 : ∀ a, a ≠ a0 → N14 a = N13 a := fun a ha => by rw [e14]; exact mU_row _ _ ha
  have u14 : ∀ j, j ≠ 13 → N14 a0 j = N13 a0 j := fun j hj => by rw [e14]; exact mU_ne _ _ (Or.inr hj)
  have v14 : N14 a0 13 = N13 a1 13 := by rw [e14]; exact mU_eq _ _ _ _
  have s14 : ∀ a, a < a0 ∨ a0 + 10 < a → N14 a = M a := fun a h => (f14 a (by omega)).trans (s13 a h)
  rw [ob_s]
  obtain ⟨N15, e15⟩ : ∃ N : MM, N = mU N14 a0 14 (N14 a1 14) := ⟨_, rfl⟩
  rw [← e15]
  have f15 : ∀ a, a ≠ a0 → N15 a = N14 a := fun a ha => by rw [e15]; exact mU_row _ _ ha
  have u15 : ∀ j, j ≠ 14 → N15 a0 j = N14 a0 j := fun j hj => by rw [e15]; exact mU_ne _ _ (Or.inr hj)
  have v15 : N15 a0 14 = N14 a1 14 := by rw [e15]; exact mU_eq _ _ _ _
  have s15 : ∀ a, a < a0 ∨ a0 + 10 < a → N15 a = M a := fun a h => (f15 a (by omega)).trans (s14 a h)
  rw [ob_s]
  obtain ⟨N16, e16⟩ : ∃ N : MM, N = mU N15 a0 15 (N15 a1 15) := ⟨_, rfl⟩
  rw [← e16]
  have f16 : ∀ a, a ≠ a0 → N16 a = N15 a := fun a ha => by rw [e16]; exact mU_row _ _ ha
  have u16 : ∀ j, j ≠ 15 → N16 a0 j = N15 a0 j := fun j hj => by rw [e16]; exact mU_ne _ _ (Or.inr hj)
  have v16 : N16 a0 15 = N15 a1 15 := by rw [e16]; exact mU_eq _ _ _ _
  have s16 : ∀ a, a < a0 ∨ a0 + 10 < a → N16 a = M a := fun a h => (f16 a (by omega)).trans (s15 a h)
  rw [ob_s]
  obtain ⟨N17, e17⟩ : ∃ N : MM, N = mU N16 a0 16 (N16 a1 16) := ⟨_, rfl⟩
  rw [← e17]
  have f17 : ∀ a, a ≠ a0 → N17 a = N16 a := fun a ha => by rw [e17]; exact mU_row _ _ ha
  have u17 : ∀ j, j ≠ 16 → N17 a0 j = N16 a0 j := fun j hj => by rw [e17]; exact mU_ne _ _ (Or.inr hj)
  have v17 : N17 a0 16 = N16 a1 16 := by rw [e17]; exact mU_eq _ _ _ _
  have s17 : ∀ a, a < a0 ∨ a0 + 10 < a → N17 a = M a := fun a h => (f17 a (by omega)).trans (s16 a h)
  refine ⟨N17, rfl, s17, ⟨?_, ?_, ?_, ?_, ?_, ?_, ?_⟩, fun j hj => ⟨?_, ?_⟩, fun j hj => ⟨?_, ?_, ?_, ?_, ?_⟩, fun j hj => ?_, fun j hj => ?_, fun j hj => ?_⟩
  · rw [u17 _ (by omega), u16 _ (by omega), u15 _ (by omega), u14 _ (by omega), u13 _ (by omega), f12 _ (by omega), f11 _ (by omega), f10 _ (by omega), f9 _ (by omega), f8 _ (by omega), f7 _ (by omega), f6 _ (by omega), f5 _ (by omega), u4 _ (by omega), f3 _ (by omega), f2 _ (by omega), v1]
  · rw [u17 _ (by omega), u16 _ (by omega), u15 _ (by omega), u14 _ (by omega), u13 _ (by omega), f12 _ (by omega), f11 _ (by omega), f10 _ (by omega), f9 _ (by omega), f8 _ (by omega), f7 _ (by omega), f6 _ (by omega), f5 _ (by omega), v4, s3 _ (by omega)]
  · rw [u17 _ (by omega), u16 _ (by omega), u15 _ (by omega), u14 _ (by omega), v13, s12 _ (by omega)]
  · rw [u17 _ (by omega), u16 _ (by omega), u15 _ (by omega), v14, s13 _ (by omega)]
  · rw [u17 _ (by omega), u16 _ (by omega), v15, s14 _ (by omega)]
  · rw [u17 _ (by omega), v16, s15 _ (by omega)]
  · rw [v17, s16 _ (by omega)]
  · rw [f17 _ (by omega), f16 _ (by omega), f15 _ (by omega), f14 _ (by omega), f13 _ (by omega), f12 _ (by omega), f11 _ (by omega), f10 _ (by omega), f9 _ (by omega), f8 _ (by omega), f7 _ (by omega), f6 _ (by omega), f5 _ (by omega), f4 _ (by omega), f3 _ (by omega), v2 j hj, s1 _ (by omega)]
  · rw [f17 _ (by omega), f16 _ (by omega), f15 _ (by omega), f14 _ (by omega), f13 _ (by omega), f12 _ (by omega), f11 _ (by omega), f10 _ (by omega), f9 _ (by omega), f8 _ (by omega), f7 _ (by omega), f6 _ (by omega), f5 _ (by omega), f4 _ (by omega), v3 j hj, s2 _ (by omega)]
  · rw [f17 _ (by omega), f16 _ (by omega), f15 _ (by omega), f14 _ (by omega), f13 _ (by omega), f12 _ (by omega), f11 _ (by omega), f10 _ (by omega), f9 _ (by omega), f8 _ (by omega), f7 _ (by omega), f6 _ (by omega), v5 j hj, s4 _ (by omega)]
  · rw [f17 _ (by omega), f16 _ (by omega), f15 _ (by omega), f14 _ (by omega), f13 _ (by omega), f12 _ (by omega), f11 _ (by omega), f10 _ (by omega), f9 _ (by omega), f8 _ (by omega), f7 _ (by omega), v6 j hj, s5 _ (by omega)]
  · rw [f17 _ (by omega), f16 _ (by omega), f15 _ (by omega), f14 _ (by omega), f13 _ (by omega), f12 _ (by omega), f11 _ (by omega), f10 _ (by omega), f9 _ (by omega), f8 _ (by omega), v7 j hj, s6 _ (by omega)]
  · rw [f17 _ (by omega), f16 _ (by omega), f15 _ (by omega), f14 _ (by omega), f13 _ (by omega), f12 _ (by omega), f11 _ (by omega), f10 _ (by omega), f9 _ (by omega), v8 j hj, s7 _ (by omega)]
  · rw [f17 _ (by omega), f16 _ (by omega), f15 _ (by omega), f14 _ (by omega), f13 _ (by omega), f12 _ (by omega), f11 _ (by omega), f10 _ (by omega), v9 j hj, s8 _ (by omega)]
  · rw [f17 _ (by omega), f16 _ (by omega), f15 _ (by omega), f14 _ (by omega), f13 _ (by omega), f12 _ (by omega), f11 _ (by omega), v10 j hj, s9 _ (by omega)]
  · rw [f17 _ (by omega), f16 _ (by omega), f15 _ (by omega), f14 _ (by omega), f13 _ (by omega), f12 _ (by omega), v11 j hj, s10 _ (by omega)]
  · rw [f17 _ (by omega), f16 _ (by omega), f15 _ (by omega), f14 _ (by omega), f13 _ (by omega), v12 j hj, s11 _ (by omega)]
/-- a list of the class copied -/
def LK (M M' : MM) (a0 a1 m : Nat) : Prop := M' a0 4 = M a1 4 ∧ M' a0 0 = M a0 0 ∧ ∀ j, j < m → M' (a0 + 1) j = M (a1 + 1) j ∧ M' (a0 + 2) j = M (a1 + 2) j ∧ M' (a0 + 3) j = M (a1 + 3) j
theorem lcopy {M : MM} {a0 a1 m : Nat} (h0 : LG a0 m) (h1 : LG a1 m) (e0 : M a0 0 = (m : Int)) (e1 : M a1 0 = (m : Int)) (hm : m ≤ 40) (hd : a0 + 3 < a1 ∨ a1 + 3 < a0) : ∃ M', sX3_copy a0 a1 M = some M' ∧ (∀ a, a < a0 ∨ a0 + 3 < a → M' a = M a) ∧ LK M M' a0 a1 m := by
  have ew : wI (m : Int) = (m : Int) := wI_of (by omega) (by omega)
  have hb : 0 ≤ (m : Int) ∧ (m : Int) ≤ (m : Int) ∧ (m : Int) ≤ (m : Int) := ⟨by omega, by omega, by omega⟩
  have x1 : a0 ≠ a0 + 1 ∧ a0 ≠ a0 + 2 := ⟨by omega, by omega⟩
  obtain ⟨p1, p2, p3, n1, n2, n3⟩ := h0
  obtain ⟨q1, q2, q3, m1, m2, m3⟩ := h1
  unfold sX3_copy sX3_copy_b0
  rw [p1, p2, p3, q1, q2, q3, n1, n2, n3, m1, m2, m3, e0, e1, if_pos rfl, ew, if_pos hb, ob_s, tN, mC_other x1.1, e0, ew, if_pos hb, ob_s, tN, mC_other x1.2, mC_other x1.1, e0, ew, if_pos hb, ob_s, tN, ob_s]
  clear p1 p2 p3 n1 n2 n3 q1 q2 q3 m1 m2 m3
  refine ⟨_, rfl, fun a ha => ?_, ?_, ?_, fun j hj => ⟨?_, ?_, ?_⟩⟩
  all_goals simp (disch := omega) only [mU_row, mU_ne, mU_eq, mC_other, mC_eq]
theorem PC_m {M M' : MM} {a0 a1 : Nat} {P : Nat → Int} (h : PK M M' a0 a1) (v : PV P) (q : PC M a1 P) : PC M' a0 P := by
  obtain ⟨⟨h1, h2, h3, h4, h5, h6, h7⟩, h8, h9, h10, h11, h12⟩ := h
  obtain ⟨q1, q2, q3, q4, q5, q6, q7⟩ := q
  have v1 := v.1
  refine ⟨?_, fun w hw => ?_, fun r hr => ?_, fun j hj => ?_, fun c hc => ?_, fun c hc => ?_, fun c hc o ho => ?_⟩
  · rw [h1, h2, h3, h4, h5, h6, h7]; exact q1
  · rw [h11 w hw]; exact q2 w hw
  · rw [h12 r hr]; exact q3 r hr
  · rw [(h8 j (by omega)).1, (h8 j (by omega)).2]; exact q4 j hj
  · obtain ⟨z1, z2, z3, z4, z5⟩ := h9 c (by omega)
    rw [z1, z2, z3, z4]; exact q5 c hc
  · rw [(h9 c hc).2.2.2.2]; exact q6 c hc
  · rw [h10 _ (by omega)]; exact q7 c hc o ho
theorem BC_m {M M' : MM} {a0 a1 : Nat} {R : Nat → Int} (h : LK M M' a0 a1 40) (v : BV R) (q : BC M a1 R) : BC M' a0 R := by
  obtain ⟨h1, h2, h3⟩ := h
  refine ⟨by rw [h1]; exact q.1, fun j hj => ?_⟩
  obtain ⟨z1, z2, z3⟩ := h3 j (by have := v.2.1; omega)
  rw [z1, z2, z3]; exact q.2 j hj
theorem DC_m {M M' : MM} {a0 a1 : Nat} {R : Nat → Int} (h : LK M M' a0 a1 25) (v : DV R) (q : DC M a1 R) : DC M' a0 R := by
  obtain ⟨h1, h2, h3⟩ := h
  refine ⟨by rw [h1]; exact q.1, fun j hj => ?_⟩
  obtain ⟨z1, z2, z3⟩ := h3 j (by have := v.2.1; omega)
  rw [z2, z3]; exact q.2 j hj
theorem CC_m {M M' : MM} {c0 c1 : Nat} {R : Nat → Int} (h : LK M M' (c0 + 1) (c1 + 1) 8) (h' : ∀ j, j < 8 → M' (c0 + 5) j = M (c1 + 5) j) (v : CV R) (q : CC M c1 R) : CC M' c0 R := by
  obtain ⟨h1, h2, h3⟩ := h
  refine ⟨by rw [h1]; exact q.1, fun j hj => ?_, fun j hj => by rw [h' j hj]; exact q.2.2 j hj⟩
  obtain ⟨z1, z2, z3⟩ := h3 j (by have := v.2.1; omega)
  rw [show c0 + 2 = c0 + 1 + 1 by omega, show c0 + 3 = c0 + 1 + 2 by omega, show c0 + 4 = c0 + 1 + 3 by omega, z1, z2, z3]; exact q.2.1 j hj
theorem RC_m {M M' : MM} {c0 c1 : Nat} {R : Nat → Int} (h : LK M M' (c0 + 1) (c1 + 1) 40) (h' : LK M M' (c0 + 5) (c1 + 5) 15) (v : RV R) (q : RC M c1 R) : RC M' c0 R := by
  obtain ⟨h1, h2, h3⟩ := h
  obtain ⟨k1, k2, k3⟩ := h'
  refine ⟨by rw [h1]; exact q.1, by rw [k1]; exact q.2.1, fun j hj => ?_, fun j hj => ?_⟩
  · obtain ⟨z1, z2, z3⟩ := h3 j (by have := v.2.1; omega)
    rw [show c0 + 3 = c0 + 1 + 2 by omega, show c0 + 4 = c0 + 1 + 3 by omega, z2, z3]; exact q.2.2.1 j hj
  · obtain ⟨z1, z2, z3⟩ := k3 j (by have := v.2.2.2.1; omega)
    rw [show c0 + 8 = c0 + 5 + 3 by omega, z3]; exact q.2.2.2 j hj
theorem LK_f {M M' M'' : MM} {a0 a1 m : Nat} (h : LK M M' a0 a1 m) (e : ∀ a, a0 ≤ a → a ≤ a0 + 3 → M'' a = M' a) : LK M M'' a0 a1 m := by
  unfold LK
  rw [e a0 (by omega) (by omega), e (a0 + 1) (by omega) (by omega), e (a0 + 2) (by omega) (by omega), e (a0 + 3) (by omega) (by omega)]; exact h
theorem LK_g {M M0 M' : MM} {a0 a1 m : Nat} (h : LK M M' a0 a1 m) (e : ∀ a, a1 ≤ a → a ≤ a1 + 3 → M a = M0 a) (e' : M a0 = M0 a0) : LK M0 M' a0 a1 m := by
  unfold LK
  rw [← e a1 (by omega) (by omega), ← e (a1 + 1) (by omega) (by omega), ← e (a1 + 2) (by omega) (by omega), ← e (a1 + 3) (by omega) (by omega), ← e']; exact h
theorem ccopy {M : MM} {a0 a1 : Nat} (g0 : gR a0 0 = a0 + 1 ∧ gR a0 1 = a0 + 5) (g1 : gR a1 0 = a1 + 1 ∧ gR a1 1 = a1 + 5) (h0 : LG (a0 + 1) 8) (h1 : LG (a1 + 1) 8) (e0 : M (a0 + 1) 0 = 8) (e1 : M (a1 + 1) 0 = 8) (hd : a0 + 5 < a1 ∨ a1 + 5 < a0) : ∃ M', sX1_copy a0 a1 M = some M' ∧ (∀ a, a ≤ a0 ∨ a0 + 5 < a → M' a = M a) ∧ LK M M' (a0 + 1) (a1 + 1) 8 ∧ ∀ j, j < 8 → M' (a0 + 5) j = M (a1 + 5) j := by
  obtain ⟨M1, x1, x2, x3⟩ := lcopy h0 h1 e0 e1 (by omega) (by omega)
  unfold sX1_copy sX1_copy_b0
  rw [g0.1, g0.2, g1.1, g1.2, x1, ob_s, ob_s]
  refine ⟨_, rfl, fun a ha => ?_, LK_f x3 (fun a ha hb => mC_other (by omega)), fun j hj => ?_⟩
  · rw [mC_other (by omega)]; exact x2 a (by omega)
  · rw [mC_eq hj, x2 _ (by omega)]
theorem rcopy {M : MM} {a0 a1 : Nat} (g0 : gR a0 0 = a0 + 1 ∧ gR a0 1 = a0 + 5) (g1 : gR a1 0 = a1 + 1 ∧ gR a1 1 = a1 + 5) (h0 : LG (a0 + 1) 40) (h1 : LG (a1 + 1) 40) (h0' : LG (a0 + 5) 15) (h1' : LG (a1 + 5) 15) (e0 : M (a0 + 1) 0 = 40) (e1 : M (a1 + 1) 0 = 40) (e0' : M (a0 + 5) 0 = 15) (e1' : M (a1 + 5) 0 = 15) (hd : a0 + 8 < a1 ∨ a1 + 8 < a0) : ∃ M', sX8_copy a0 a1 M = some M' ∧ (∀ a, a ≤ a0 ∨ a0 + 8 < a → M' a = M a) ∧ LK M M' (a0 + 1) (a1 + 1) 40 ∧ LK M M' (a0 + 5) (a1 + 5) 15 := by
  obtain ⟨M1, x1, x2, x3⟩ := lcopy h0 h1 e0 e1 (by omega) (by omega)
  obtain ⟨M2, y1, y2, y3⟩ := lcopy (M := M1) h0' h1' (by rw [x2 _ (by omega)]; exact e0') (by rw [x2 _ (by omega)]; exact e1') (by omega) (by omega)
  unfold sX8_copy sX8_copy_b0
  rw [g0.1, g0.2, g1.1, g1.2, x1, ob_s, y1, ob_s]
  refine ⟨_, rfl, fun a ha => ?_, LK_f x3 (fun a ha hb => y2 a (by omega)), LK_g y3 (fun a ha hb => x2 a (by omega)) (x2 _ (by omega))⟩
  rw [y2 a (by omega)]; exact x2 a (by omega)
/-- rows of the reference that agree as far as they are read -/
theorem PC_P {M : MM} {p : Nat} {P P' : Nat → Int} (e : ∀ j, j < 132 → P' j = P j) (v : PV P) (q : PC M p P) : PC M p P' ∧ PV P' := by
  obtain ⟨q1, q2, q3, q4, q5, q6, q7⟩ := q
  obtain ⟨v1, v2, v3, v4, v5, v6, v7, v8⟩ := v
  have f0 := e 0 (by omega)
  have f1 := e 1 (by omega)
  refine ⟨⟨?_, fun w hw => ?_, fun r hr => ?_, fun j hj => ?_, fun c hc => ?_, fun c hc => ?_, fun c hc o ho => ?_⟩, ?_, fun w hw => ?_, fun r hr => ?_, ?_, fun j hj => ?_, fun c hc => ?_, fun c hc => ?_, fun c hc o ho => ?_⟩
  · rw [f0, f1, e 2 (by omega), e 3 (by omega), e 4 (by omega), e 5 (by omega), e 6 (by omega)]; exact q1
  · rw [e _ (by omega)]; exact q2 w hw
  · rw [e _ (by omega)]; exact q3 r hr
  · rw [f0] at hj; rw [e _ (by omega), e _ (by omega)]; exact q4 j hj
  · rw [f1] at hc; rw [e _ (by omega), e _ (by omega), e _ (by omega), e _ (by omega)]; exact q5 c hc
  · rw [e _ (by omega)]; exact q6 c hc
  · rw [e _ (by omega)]; exact q7 c hc o ho
  · rw [f0, f1, e 2 (by omega), e 3 (by omega), e 4 (by omega), e 5 (by omega), e 6 (by omega)]; exact v1
  · rw [e _ (by omega)]; exact v2 w hw
  · rw [e _ (by omega)]; exact v3 r hr
  · obtain ⟨w, hw, hv⟩ := v4; exact ⟨w, hw, by rw [e _ (by omega)]; exact hv⟩
  · rw [f0] at hj; rw [e _ (by omega), e _ (by omega)]; exact v5 j hj
  · rw [f1] at hc; rw [e _ (by omega), e _ (by omega), e _ (by omega), e _ (by omega)]; exact v6 c hc
  · rw [e _ (by omega)]; exact v7 c hc
  · rw [e _ (by omega)]; exact v8 c hc o ho
theorem BC_P {M : MM} {p : Nat} {P P' : Nat → Int} (e : ∀ j, j < 121 → P' j = P j) (v : BV P) (q : BC M p P) : BC M p P' ∧ BV P' := by
  have f0 := e 0 (by omega)
  have v2 := v.2.1
  refine ⟨⟨by rw [f0]; exact q.1, fun j hj => ?_⟩, by rw [f0]; exact v.1, by rw [f0]; exact v2, fun j hj => ?_⟩
  · rw [f0] at hj; rw [e _ (by omega), e _ (by omega), e _ (by omega)]; exact q.2 j hj
  · rw [f0] at hj; rw [e _ (by omega), e _ (by omega), e _ (by omega)]; exact v.2.2 j hj
theorem CC_P {M : MM} {p : Nat} {P P' : Nat → Int} (e : ∀ j, j < 33 → P' j = P j) (v : CV P) (q : CC M p P) : CC M p P' ∧ CV P' := by
  have f0 := e 0 (by omega)
  have v2 := v.2.1
  refine ⟨⟨by rw [f0]; exact q.1, fun j hj => ?_, fun h hh => by rw [e _ (by omega)]; exact q.2.2 h hh⟩, by rw [f0]; exact v.1, by rw [f0]; exact v2, fun j hj => ?_, fun h hh => by rw [e _ (by omega)]; exact v.2.2.2 h hh⟩
  · rw [f0] at hj; rw [e _ (by omega), e _ (by omega), e _ (by omega)]; exact q.2.1 j hj
  · rw [f0] at hj; rw [e _ (by omega), e _ (by omega), e _ (by omega)]; exact v.2.2.1 j hj
theorem DC_P {M : MM} {p : Nat} {P P' : Nat → Int} (e : ∀ j, j < 51 → P' j = P j) (v : DV P) (q : DC M p P) : DC M p P' ∧ DV P' := by
  have f0 := e 0 (by omega)
  have v2 := v.2.1
  refine ⟨⟨by rw [f0]; exact q.1, fun j hj => ?_⟩, by rw [f0]; exact v.1, by rw [f0]; exact v2, fun j hj => ?_⟩
  · rw [f0] at hj; rw [e _ (by omega), e _ (by omega)]; exact q.2 j hj
  · rw [f0] at hj; rw [e _ (by omega), e _ (by omega)]; exact v.2.2 j hj
theorem RC_P {M : MM} {p : Nat} {P P' : Nat → Int} (e : ∀ j, j < 97 → P' j = P j) (v : RV P) (q : RC M p P) : RC M p P' ∧ RV P' := by
  have f0 := e 0 (by omega)
  have f1 := e 1 (by omega)
  have v2 := v.2.1
  have v4 := v.2.2.2.1
  refine ⟨⟨by rw [f0]; exact q.1, by rw [f1]; exact q.2.1, fun j hj => ?_, fun j hj => ?_⟩, by rw [f0]; exact v.1, by rw [f0]; exact v2, by rw [f1]; exact v.2.2.1, by rw [f1]; exact v4, fun j hj => ?_, fun j hj => ?_⟩
  · rw [f0] at hj; rw [e _ (by omega), e _ (by omega)]; exact q.2.2.1 j hj
  · rw [f1] at hj; rw [e _ (by omega)]; exact q.2.2.2 j hj
  · rw [f0] at hj; rw [e _ (by omega), e _ (by omega)]; exact v.2.2.2.2.1 j hj
  · rw [f1] at hj; rw [e _ (by omega)]; exact v.2.2.2.2.2 j hj
