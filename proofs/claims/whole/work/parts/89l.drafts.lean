/-- a party not yet told to its end -/
def PVd (P : Nat → Int) : Prop := (0 ≤ P 0 ∧ P 0 ≤ 5 ∧ 0 ≤ P 1 ∧ P 1 ≤ 8 ∧ 1 ≤ P 2 ∧ P 2 ≤ 5 ∧ 3 ≤ P 3 ∧ P 3 ≤ 16 ∧ 0 ≤ P 4 ∧ P 4 ≤ 60 ∧ 0 ≤ P 5 ∧ P 5 ≤ 9 ∧ 0 ≤ P 6 ∧ P 6 ≤ 3) ∧ (∀ w, w < 8 → 0 ≤ P (7 + w) ∧ P (7 + w) ≤ 9) ∧ (∀ r, r < 3 → 0 ≤ P (15 + r) ∧ P (15 + r) ≤ 9) ∧ (∀ j : Nat, (j : Int) < P 0 → 0 ≤ P (18 + 2 * j) ∧ P (18 + 2 * j) ≤ 9 ∧ 1 ≤ P (19 + 2 * j) ∧ P (19 + 2 * j) ≤ 30) ∧ (∀ c : Nat, (c : Int) < P 1 → 3 ≤ P (28 + 13 * c) ∧ P (28 + 13 * c) ≤ 15 ∧ 1 ≤ P (29 + 13 * c) ∧ P (29 + 13 * c) ≤ 9 ∧ 0 ≤ P (30 + 13 * c) ∧ P (30 + 13 * c) ≤ 10 ∧ 0 ≤ P (31 + 13 * c) ∧ P (31 + 13 * c) ≤ 9) ∧ (∀ c, c < 8 → 0 ≤ P (32 + 13 * c) ∧ P (32 + 13 * c) ≤ 24) ∧ (∀ c, c < 8 → ∀ o, o < 8 → 0 ≤ P (33 + 13 * c + o) ∧ P (33 + 13 * c + o) ≤ 2)
theorem d_spot {C : MM} {P P' : Nat → Int} {c : Nat} {v : Int} (hc : c < 8) (hv : 0 ≤ v ∧ v ≤ 24) (e : ∀ j, j ≠ 32 + 13 * c → P' j = P j) (e' : P' (32 + 13 * c) = v) (h : PC C 80 P ∧ PVd P) : PC (mU C 87 c v) 80 P' ∧ PVd P' := by
  obtain ⟨⟨q1, q2, q3, q4, q5, q6, q7⟩, v1, v2, v3, v5, v6, v7, v8⟩ := h
  have e0 := e 0 (by omega)
  have e1 := e 1 (by omega)
  refine ⟨⟨?_, fun w hw => ?_, fun r hr => ?_, fun j hj => ?_, fun x hx => ?_, fun x hx => ?_, fun x hx o ho => ?_⟩, ?_, fun w hw => ?_, fun r hr => ?_, fun j hj => ?_, fun x hx => ?_, fun x hx => ?_, fun x hx o ho => ?_⟩
  · rw [mU_row _ _ (by omega), e0, e1, e 2 (by omega), e 3 (by omega), e 4 (by omega), e 5 (by omega), e 6 (by omega)]; exact q1
  · rw [mU_row _ _ (by omega), e _ (by omega)]; exact q2 w hw
  · rw [mU_row _ _ (by omega), e _ (by omega)]; exact q3 r hr
  · rw [e0] at hj; rw [mU_row _ _ (by omega), mU_row _ _ (by omega), e _ (by omega), e _ (by omega)]; exact q4 j hj
  · rw [e1] at hx; rw [mU_row _ _ (by omega), mU_row _ _ (by omega), mU_row _ _ (by omega), mU_row _ _ (by omega), e _ (by omega), e _ (by omega), e _ (by omega), e _ (by omega)]; exact q5 x hx
  · by_cases z : x = c
    · subst z; rw [show 80 + 7 = 87 from rfl, mU_eq, e']
    · rw [mU_ne _ _ (by omega), e _ (by omega)]; exact q6 x hx
  · rw [mU_row _ _ (by omega), e _ (by omega)]; exact q7 x hx o ho
  · rw [e0, e1, e 2 (by omega), e 3 (by omega), e 4 (by omega), e 5 (by omega), e 6 (by omega)]; exact v1
  · rw [e _ (by omega)]; exact v2 w hw
  · rw [e _ (by omega)]; exact v3 r hr
  · rw [e0] at hj; rw [e _ (by omega), e _ (by omega)]; exact v5 j hj
  · rw [e1] at hx; rw [e _ (by omega), e _ (by omega), e _ (by omega), e _ (by omega)]; exact v6 x hx
  · by_cases z : x = c
    · subst z; rw [e']; exact hv
    · rw [e _ (by omega)]; exact v7 x hx
  · rw [e _ (by omega)]; exact v8 x hx o ho
theorem d_tie {C : MM} {P P' : Nat → Int} {c d : Nat} {v : Int} (hc : c < 8) (hd : d < 8) (hv : 0 ≤ v ∧ v ≤ 2) (e : ∀ j, j ≠ 33 + 13 * c + d → P' j = P j) (e' : P' (33 + 13 * c + d) = v) (h : PC C 80 P ∧ PVd P) : PC (mU C 88 (8 * c + d) v) 80 P' ∧ PVd P' := by
  obtain ⟨⟨q1, q2, q3, q4, q5, q6, q7⟩, v1, v2, v3, v5, v6, v7, v8⟩ := h
  have e0 := e 0 (by omega)
  have e1 := e 1 (by omega)
  refine ⟨⟨?_, fun w hw => ?_, fun r hr => ?_, fun j hj => ?_, fun x hx => ?_, fun x hx => ?_, fun x hx o ho => ?_⟩, ?_, fun w hw => ?_, fun r hr => ?_, fun j hj => ?_, fun x hx => ?_, fun x hx => ?_, fun x hx o ho => ?_⟩
  · rw [mU_row _ _ (by omega), e0, e1, e 2 (by omega), e 3 (by omega), e 4 (by omega), e 5 (by omega), e 6 (by omega)]; exact q1
  · rw [mU_row _ _ (by omega), e _ (by omega)]; exact q2 w hw
  · rw [mU_row _ _ (by omega), e _ (by omega)]; exact q3 r hr
  · rw [e0] at hj; rw [mU_row _ _ (by omega), mU_row _ _ (by omega), e _ (by omega), e _ (by omega)]; exact q4 j hj
  · rw [e1] at hx; rw [mU_row _ _ (by omega), mU_row _ _ (by omega), mU_row _ _ (by omega), mU_row _ _ (by omega), e _ (by omega), e _ (by omega), e _ (by omega), e _ (by omega)]; exact q5 x hx
  · rw [mU_row _ _ (by omega), e _ (by omega)]; exact q6 x hx
  · by_cases z : x = c ∧ o = d
    · obtain ⟨z1, z2⟩ := z
      subst z1 z2; rw [show 80 + 8 = 88 from rfl, mU_eq, e']
    · rw [mU_ne _ _ (by omega), e _ (by omega)]; exact q7 x hx o ho
  · rw [e0, e1, e 2 (by omega), e 3 (by omega), e 4 (by omega), e 5 (by omega), e 6 (by omega)]; exact v1
  · rw [e _ (by omega)]; exact v2 w hw
  · rw [e _ (by omega)]; exact v3 r hr
  · rw [e0] at hj; rw [e _ (by omega), e _ (by omega)]; exact v5 j hj
  · rw [e1] at hx; rw [e _ (by omega), e _ (by omega), e _ (by omega), e _ (by omega)]; exact v6 x hx
  · rw [e _ (by omega)]; exact v7 x hx
  · by_cases z : x = c ∧ o = d
    · obtain ⟨z1, z2⟩ := z
      subst z1 z2; rw [e']; exact hv
    · rw [e _ (by omega)]; exact v8 x hx o ho
theorem d_turn {C : MM} {P P' : Nat → Int} {c : Nat} {v : Int} (hc : c < 8) (hv : 0 ≤ v ∧ v ≤ 9) (e : ∀ j, j ≠ 7 + c → P' j = P j) (e' : P' (7 + c) = v) (h : PC C 80 P ∧ PVd P) : PC (mU C 89 c v) 80 P' ∧ PVd P' := by
  obtain ⟨⟨q1, q2, q3, q4, q5, q6, q7⟩, v1, v2, v3, v5, v6, v7, v8⟩ := h
  have e0 := e 0 (by omega)
  have e1 := e 1 (by omega)
  refine ⟨⟨?_, fun w hw => ?_, fun r hr => ?_, fun j hj => ?_, fun x hx => ?_, fun x hx => ?_, fun x hx o ho => ?_⟩, ?_, fun w hw => ?_, fun r hr => ?_, fun j hj => ?_, fun x hx => ?_, fun x hx => ?_, fun x hx o ho => ?_⟩
  · rw [mU_row _ _ (by omega), e0, e1, e 2 (by omega), e 3 (by omega), e 4 (by omega), e 5 (by omega), e 6 (by omega)]; exact q1
  · by_cases z : w = c
    · subst z; rw [show 80 + 9 = 89 from rfl, mU_eq, e']
    · rw [mU_ne _ _ (by omega), e _ (by omega)]; exact q2 w hw
  · rw [mU_row _ _ (by omega), e _ (by omega)]; exact q3 r hr
  · rw [e0] at hj; rw [mU_row _ _ (by omega), mU_row _ _ (by omega), e _ (by omega), e _ (by omega)]; exact q4 j hj
  · rw [e1] at hx; rw [mU_row _ _ (by omega), mU_row _ _ (by omega), mU_row _ _ (by omega), mU_row _ _ (by omega), e _ (by omega), e _ (by omega), e _ (by omega), e _ (by omega)]; exact q5 x hx
  · rw [mU_row _ _ (by omega), e _ (by omega)]; exact q6 x hx
  · rw [mU_row _ _ (by omega), e _ (by omega)]; exact q7 x hx o ho
  · rw [e0, e1, e 2 (by omega), e 3 (by omega), e 4 (by omega), e 5 (by omega), e 6 (by omega)]; exact v1
  · by_cases z : w = c
    · subst z; rw [e']; exact hv
    · rw [e _ (by omega)]; exact v2 w hw
  · rw [e _ (by omega)]; exact v3 r hr
  · rw [e0] at hj; rw [e _ (by omega), e _ (by omega)]; exact v5 j hj
  · rw [e1] at hx; rw [e _ (by omega), e _ (by omega), e _ (by omega), e _ (by omega)]; exact v6 x hx
  · rw [e _ (by omega)]; exact v7 x hx
  · rw [e _ (by omega)]; exact v8 x hx o ho
theorem d_ring {C : MM} {P P' : Nat → Int} {c : Nat} {v : Int} (hc : c < 3) (hv : 0 ≤ v ∧ v ≤ 9) (e : ∀ j, j ≠ 15 + c → P' j = P j) (e' : P' (15 + c) = v) (h : PC C 80 P ∧ PVd P) : PC (mU C 90 c v) 80 P' ∧ PVd P' := by
  obtain ⟨⟨q1, q2, q3, q4, q5, q6, q7⟩, v1, v2, v3, v5, v6, v7, v8⟩ := h
  have e0 := e 0 (by omega)
  have e1 := e 1 (by omega)
  refine ⟨⟨?_, fun w hw => ?_, fun r hr => ?_, fun j hj => ?_, fun x hx => ?_, fun x hx => ?_, fun x hx o ho => ?_⟩, ?_, fun w hw => ?_, fun r hr => ?_, fun j hj => ?_, fun x hx => ?_, fun x hx => ?_, fun x hx o ho => ?_⟩
  · rw [mU_row _ _ (by omega), e0, e1, e 2 (by omega), e 3 (by omega), e 4 (by omega), e 5 (by omega), e 6 (by omega)]; exact q1
  · rw [mU_row _ _ (by omega), e _ (by omega)]; exact q2 w hw
  · by_cases z : r = c
    · subst z; rw [show 80 + 10 = 90 from rfl, mU_eq, e']
    · rw [mU_ne _ _ (by omega), e _ (by omega)]; exact q3 r hr
  · rw [e0] at hj; rw [mU_row _ _ (by omega), mU_row _ _ (by omega), e _ (by omega), e _ (by omega)]; exact q4 j hj
  · rw [e1] at hx; rw [mU_row _ _ (by omega), mU_row _ _ (by omega), mU_row _ _ (by omega), mU_row _ _ (by omega), e _ (by omega), e _ (by omega), e _ (by omega), e _ (by omega)]; exact q5 x hx
  · rw [mU_row _ _ (by omega), e _ (by omega)]; exact q6 x hx
  · rw [mU_row _ _ (by omega), e _ (by omega)]; exact q7 x hx o ho
  · rw [e0, e1, e 2 (by omega), e 3 (by omega), e 4 (by omega), e 5 (by omega), e 6 (by omega)]; exact v1
  · rw [e _ (by omega)]; exact v2 w hw
  · by_cases z : r = c
    · subst z; rw [e']; exact hv
    · rw [e _ (by omega)]; exact v3 r hr
  · rw [e0] at hj; rw [e _ (by omega), e _ (by omega)]; exact v5 j hj
  · rw [e1] at hx; rw [e _ (by omega), e _ (by omega), e _ (by omega), e _ (by omega)]; exact v6 x hx
  · rw [e _ (by omega)]; exact v7 x hx
  · rw [e _ (by omega)]; exact v8 x hx o ho
/-- bounds of the plain numbers -/
def lowQ (i : Nat) : Int := if i = 0 then 1 else if i = 1 then 3 else 0
def highQ (i : Nat) : Int := if i = 0 then 5 else if i = 1 then 16 else if i = 2 then 60 else if i = 3 then 9 else 3
theorem d_plain {C : MM} {P P' : Nat → Int} {i : Nat} {v : Int} (hi : i < 5) (hv : lowQ i ≤ v ∧ v ≤ highQ i) (e : ∀ j, j ≠ 2 + i → P' j = P j) (e' : P' (2 + i) = v) (h : PC C 80 P ∧ PVd P) : PC (mU C 80 (12 + i) v) 80 P' ∧ PVd P' := by
  obtain ⟨⟨q1, q2, q3, q4, q5, q6, q7⟩, v1, v2, v3, v5, v6, v7, v8⟩ := h
  have e0 := e 0 (by omega)
  have e1 := e 1 (by omega)
  refine ⟨⟨?_, fun w hw => ?_, fun r hr => ?_, fun j hj => ?_, fun x hx => ?_, fun x hx => ?_, fun x hx o ho => ?_⟩, ?_, fun w hw => ?_, fun r hr => ?_, fun j hj => ?_, fun x hx => ?_, fun x hx => ?_, fun x hx o ho => ?_⟩
  · obtain ⟨a1, a2, a3, a4, a5, a6, a7⟩ := q1
    rw [e0, e1, mU_ne _ _ (by omega), mU_ne (j := 3) _ _ (by omega)]
    refine ⟨a1, a2, ?_⟩
    rcases (show i = 0 ∨ i = 1 ∨ i = 2 ∨ i = 3 ∨ i = 4 by omega) with rfl | rfl | rfl | rfl | rfl
    · rw [show 12 + 0 = 12 from rfl, mU_eq, mU_ne _ _ (by omega), mU_ne (j := 14) _ _ (by omega), mU_ne (j := 15) _ _ (by omega), mU_ne (j := 16) _ _ (by omega), e 3 (by omega), e 4 (by omega), e 5 (by omega), e 6 (by omega)]
      exact ⟨e'.symm, a4, a5, a6, a7⟩
    · rw [show 12 + 1 = 13 from rfl, mU_eq, mU_ne _ _ (by omega), mU_ne (j := 14) _ _ (by omega), mU_ne (j := 15) _ _ (by omega), mU_ne (j := 16) _ _ (by omega), e 2 (by omega), e 4 (by omega), e 5 (by omega), e 6 (by omega)]
      exact ⟨a3, e'.symm, a5, a6, a7⟩
    · rw [show 12 + 2 = 14 from rfl, mU_eq, mU_ne _ _ (by omega), mU_ne (j := 13) _ _ (by omega), mU_ne (j := 15) _ _ (by omega), mU_ne (j := 16) _ _ (by omega), e 3 (by omega), e 2 (by omega), e 5 (by omega), e 6 (by omega)]
      exact ⟨a3, a4, e'.symm, a6, a7⟩
    · rw [show 12 + 3 = 15 from rfl, mU_eq, mU_ne _ _ (by omega), mU_ne (j := 13) _ _ (by omega), mU_ne (j := 14) _ _ (by omega), mU_ne (j := 16) _ _ (by omega), e 3 (by omega), e 4 (by omega), e 2 (by omega), e 6 (by omega)]
      exact ⟨a3, a4, a5, e'.symm, a7⟩
    · rw [show 12 + 4 = 16 from rfl, mU_eq, mU_ne _ _ (by omega), mU_ne (j := 13) _ _ (by omega), mU_ne (j := 14) _ _ (by omega), mU_ne (j := 15) _ _ (by omega), e 3 (by omega), e 4 (by omega), e 5 (by omega), e 2 (by omega)]
      exact ⟨a3, a4, a5, a6, e'.symm⟩
  · rw [mU_row _ _ (by omega), e _ (by omega)]; exact q2 w hw
  · rw [mU_row _ _ (by omega), e _ (by omega)]; exact q3 r hr
  · rw [e0] at hj; rw [mU_row _ _ (by omega), mU_row _ _ (by omega), e _ (by omega), e _ (by omega)]; exact q4 j hj
  · rw [e1] at hx; rw [mU_row _ _ (by omega), mU_row _ _ (by omega), mU_row _ _ (by omega), mU_row _ _ (by omega), e _ (by omega), e _ (by omega), e _ (by omega), e _ (by omega)]; exact q5 x hx
  · rw [mU_row _ _ (by omega), e _ (by omega)]; exact q6 x hx
  · rw [mU_row _ _ (by omega), e _ (by omega)]; exact q7 x hx o ho
  · rw [e0, e1]
    unfold lowQ highQ at hv
    rcases (show i = 0 ∨ i = 1 ∨ i = 2 ∨ i = 3 ∨ i = 4 by omega) with rfl | rfl | rfl | rfl | rfl
    · rw [e 3 (by omega), e 4 (by omega), e 5 (by omega), e 6 (by omega)]; simp at hv e'; omega
    · rw [e 2 (by omega), e 4 (by omega), e 5 (by omega), e 6 (by omega)]; simp at hv e'; omega
    · rw [e 3 (by omega), e 2 (by omega), e 5 (by omega), e 6 (by omega)]; simp at hv e'; omega
    · rw [e 3 (by omega), e 4 (by omega), e 2 (by omega), e 6 (by omega)]; simp at hv e'; omega
    · rw [e 3 (by omega), e 4 (by omega), e 5 (by omega), e 2 (by omega)]; simp at hv e'; omega
  · rw [e _ (by omega)]; exact v2 w hw
  · rw [e _ (by omega)]; exact v3 r hr
  · rw [e0] at hj; rw [e _ (by omega), e _ (by omega)]; exact v5 j hj
  · rw [e1] at hx; rw [e _ (by omega), e _ (by omega), e _ (by omega), e _ (by omega)]; exact v6 x hx
  · rw [e _ (by omega)]; exact v7 x hx
  · rw [e _ (by omega)]; exact v8 x hx o ho
theorem d_part {C : MM} {P P' : Nat → Int} {n : Nat} {x y : Int} (hn : P 0 = (n : Int)) (hn5 : n < 5) (hv : 0 ≤ x ∧ x ≤ 9 ∧ 1 ≤ y ∧ y ≤ 30) (e : ∀ j, j ≠ 0 → j ≠ 18 + 2 * n → j ≠ 19 + 2 * n → P' j = P j) (e0 : P' 0 = (n : Int) + 1) (e1 : P' (18 + 2 * n) = x) (e2 : P' (19 + 2 * n) = y) (h : PC C 80 P ∧ PVd P) : PC (mU (mU (mU C 81 n x) 82 n y) 80 0 ((n : Int) + 1)) 80 P' ∧ PVd P' := by
  obtain ⟨⟨q1, q2, q3, q4, q5, q6, q7⟩, v1, v2, v3, v5, v6, v7, v8⟩ := h
  have f1 := e 1 (by omega) (by omega) (by omega)
  have r0 : ∀ a, a ≠ 80 → a ≠ 81 → a ≠ 82 → mU (mU (mU C 81 n x) 82 n y) 80 0 ((n : Int) + 1) a = C a := fun a h1 h2 h3 => by rw [mU_row _ _ h1, mU_row _ _ h3, mU_row _ _ h2]
  have s0 : ∀ j, j ≠ 0 → mU (mU (mU C 81 n x) 82 n y) 80 0 ((n : Int) + 1) 80 j = C 80 j := fun j hj => by rw [mU_ne _ _ (by omega), mU_row _ _ (by omega), mU_row _ _ (by omega)]
  refine ⟨⟨?_, fun w hw => ?_, fun r hr => ?_, fun j hj => ?_, fun x hx => ?_, fun x hx => ?_, fun x hx o ho => ?_⟩, ?_, fun w hw => ?_, fun r hr => ?_, fun j hj => ?_, fun x hx => ?_, fun x hx => ?_, fun x hx o ho => ?_⟩
  · rw [mU_eq, s0 3 (by omega), s0 12 (by omega), s0 13 (by omega), s0 14 (by omega), s0 15 (by omega), s0 16 (by omega), e0, f1, e 2 (by omega) (by omega) (by omega), e 3 (by omega) (by omega) (by omega), e 4 (by omega) (by omega) (by omega), e 5 (by omega) (by omega) (by omega), e 6 (by omega) (by omega) (by omega)]
    exact ⟨rfl, q1.2⟩
  · rw [r0 _ (by omega) (by omega) (by omega), e _ (by omega) (by omega) (by omega)]; exact q2 w hw
  · rw [r0 _ (by omega) (by omega) (by omega), e _ (by omega) (by omega) (by omega)]; exact q3 r hr
  · rw [e0] at hj
    by_cases z : j = n
    · subst z
      rw [show 80 + 1 = 81 from rfl, show 80 + 2 = 82 from rfl, mU_row _ _ (by omega), mU_row _ _ (by omega), mU_eq, mU_row (b := 82) _ _ (by omega), mU_eq, e1, e2]; exact ⟨rfl, rfl⟩
    · rw [mU_row _ _ (by omega), mU_row _ _ (by omega), mU_ne _ _ (by omega), mU_row (b := 80 + 2) _ _ (by omega), mU_ne _ _ (by omega), mU_row (b := 80 + 2) _ _ (by omega), e _ (by omega) (by omega) (by omega), e _ (by omega) (by omega) (by omega)]
      exact q4 j (by omega)
  · rw [f1] at hx; have := v1.2.2.2.1; rw [r0 _ (by omega) (by omega) (by omega), r0 _ (by omega) (by omega) (by omega), r0 _ (by omega) (by omega) (by omega), r0 _ (by omega) (by omega) (by omega), e _ (by omega) (by omega) (by omega), e _ (by omega) (by omega) (by omega), e _ (by omega) (by omega) (by omega), e _ (by omega) (by omega) (by omega)]; exact q5 x hx
  · rw [r0 _ (by omega) (by omega) (by omega), e _ (by omega) (by omega) (by omega)]; exact q6 x hx
  · rw [r0 _ (by omega) (by omega) (by omega), e _ (by omega) (by omega) (by omega)]; exact q7 x hx o ho
  · rw [e0, f1, e 2 (by omega) (by omega) (by omega), e 3 (by omega) (by omega) (by omega), e 4 (by omega) (by omega) (by omega), e 5 (by omega) (by omega) (by omega), e 6 (by omega) (by omega) (by omega)]; omega
  · rw [e _ (by omega) (by omega) (by omega)]; exact v2 w hw
  · rw [e _ (by omega) (by omega) (by omega)]; exact v3 r hr
  · rw [e0] at hj
    by_cases z : j = n
    · subst z; rw [e1, e2]; omega
    · rw [e _ (by omega) (by omega) (by omega), e _ (by omega) (by omega) (by omega)]; exact v5 j (by omega)
  · rw [f1] at hx; have := v1.2.2.2.1; rw [e _ (by omega) (by omega) (by omega), e _ (by omega) (by omega) (by omega), e _ (by omega) (by omega) (by omega), e _ (by omega) (by omega) (by omega)]; exact v6 x hx
  · rw [e _ (by omega) (by omega) (by omega)]; exact v7 x hx
  · rw [e _ (by omega) (by omega) (by omega)]; exact v8 x hx o ho
theorem d_child {C : MM} {P P' : Nat → Int} {n : Nat} {x y z w : Int} (hn : P 1 = (n : Int)) (hn8 : n < 8) (hv : (3 ≤ x ∧ x ≤ 15) ∧ (1 ≤ y ∧ y ≤ 9) ∧ (0 ≤ z ∧ z ≤ 10) ∧ 0 ≤ w ∧ w ≤ 9) (e : ∀ j, j ≠ 1 → j ≠ 28 + 13 * n → j ≠ 29 + 13 * n → j ≠ 30 + 13 * n → j ≠ 31 + 13 * n → P' j = P j) (e0 : P' 1 = (n : Int) + 1) (e1 : P' (28 + 13 * n) = x) (e2 : P' (29 + 13 * n) = y) (e3 : P' (30 + 13 * n) = z) (e4 : P' (31 + 13 * n) = w) (h : PC C 80 P ∧ PVd P) : PC (mU (mU (mU (mU (mU C 83 n x) 84 n y) 85 n z) 86 n w) 80 3 ((n : Int) + 1)) 80 P' ∧ PVd P' := by
  obtain ⟨⟨q1, q2, q3, q4, q5, q6, q7⟩, v1, v2, v3, v5, v6, v7, v8⟩ := h
  have E : ∀ j, j < 28 → j ≠ 1 → P' j = P j := fun j h1 h2 => e j h2 (by omega) (by omega) (by omega) (by omega)
  have f0 := E 0 (by omega) (by omega)
  obtain ⟨N, eN⟩ : ∃ N, N = mU (mU (mU (mU (mU C 83 n x) 84 n y) 85 n z) 86 n w) 80 3 ((n : Int) + 1) := ⟨_, rfl⟩
  have r0 : ∀ a, a ≠ 80 → (a < 83 ∨ 86 < a) → N a = C a := fun a h1 h2 => by rw [eN, mU_row _ _ h1, mU_row _ _ (by omega), mU_row _ _ (by omega), mU_row _ _ (by omega), mU_row _ _ (by omega)]
  have s0 : ∀ j, j ≠ 3 → N 80 j = C 80 j := fun j hj => by rw [eN, mU_ne _ _ (by omega), mU_row _ _ (by omega), mU_row _ _ (by omega), mU_row _ _ (by omega), mU_row _ _ (by omega)]
  have s3 : N 80 3 = (n : Int) + 1 := by rw [eN, mU_eq]
  have t0 : N 83 n = x ∧ N 84 n = y ∧ N 85 n = z ∧ N 86 n = w := by
    rw [eN]
    refine ⟨?_, ?_, ?_, ?_⟩
    · rw [mU_row _ _ (by omega), mU_row _ _ (by omega), mU_row _ _ (by omega), mU_row _ _ (by omega), mU_eq]
    · rw [mU_row _ _ (by omega), mU_row _ _ (by omega), mU_row _ _ (by omega), mU_eq]
    · rw [mU_row _ _ (by omega), mU_row _ _ (by omega), mU_eq]
    · rw [mU_row _ _ (by omega), mU_eq]
  have t1 : ∀ j, j ≠ n → N 83 j = C 83 j ∧ N 84 j = C 84 j ∧ N 85 j = C 85 j ∧ N 86 j = C 86 j := by
    intro j hj
    rw [eN]
    refine ⟨?_, ?_, ?_, ?_⟩
    all_goals rw [mU_ne _ _ (by omega), mU_ne _ _ (by omega), mU_ne _ _ (by omega), mU_ne _ _ (by omega), mU_ne _ _ (by omega)]
  rw [← eN]
  refine ⟨⟨?_, fun w hw => ?_, fun r hr => ?_, fun j hj => ?_, fun x hx => ?_, fun x hx => ?_, fun x hx o ho => ?_⟩, ?_, fun w hw => ?_, fun r hr => ?_, fun j hj => ?_, fun x hx => ?_, fun x hx => ?_, fun x hx o ho => ?_⟩
  · rw [s0 0 (by omega), s3, s0 12 (by omega), s0 13 (by omega), s0 14 (by omega), s0 15 (by omega), s0 16 (by omega), f0, e0, E 2 (by omega) (by omega), E 3 (by omega) (by omega), E 4 (by omega) (by omega), E 5 (by omega) (by omega), E 6 (by omega) (by omega)]
    exact ⟨q1.1, rfl, q1.2.2⟩
  · rw [r0 _ (by omega) (by omega), E _ (by omega) (by omega)]; exact q2 w hw
  · rw [r0 _ (by omega) (by omega), E _ (by omega) (by omega)]; exact q3 r hr
  · rw [f0] at hj; have := v1.2.1; rw [r0 _ (by omega) (by omega), r0 _ (by omega) (by omega), E _ (by omega) (by omega), E _ (by omega) (by omega)]; exact q4 j hj
  · rw [e0] at hx
    by_cases h0 : x = n
    · rw [h0, show 80 + 3 = 83 from rfl, show 80 + 4 = 84 from rfl, show 80 + 5 = 85 from rfl, show 80 + 6 = 86 from rfl, t0.1, t0.2.1, t0.2.2.1, t0.2.2.2, e1, e2, e3, e4]; exact ⟨rfl, rfl, rfl, rfl⟩
    · obtain ⟨u1, u2, u3, u4⟩ := t1 x h0
      rw [show 80 + 3 = 83 from rfl, show 80 + 4 = 84 from rfl, show 80 + 5 = 85 from rfl, show 80 + 6 = 86 from rfl, u1, u2, u3, u4, e _ (by omega) (by omega) (by omega) (by omega) (by omega), e _ (by omega) (by omega) (by omega) (by omega) (by omega), e _ (by omega) (by omega) (by omega) (by omega) (by omega), e _ (by omega) (by omega) (by omega) (by omega) (by omega)]
      exact q5 x (by omega)
  · rw [r0 _ (by omega) (by omega), e _ (by omega) (by omega) (by omega) (by omega) (by omega)]; exact q6 x hx
  · rw [r0 _ (by omega) (by omega), e _ (by omega) (by omega) (by omega) (by omega) (by omega)]; exact q7 x hx o ho
  · rw [f0, e0, E 2 (by omega) (by omega), E 3 (by omega) (by omega), E 4 (by omega) (by omega), E 5 (by omega) (by omega), E 6 (by omega) (by omega)]; omega
  · rw [E _ (by omega) (by omega)]; exact v2 w hw
  · rw [E _ (by omega) (by omega)]; exact v3 r hr
  · rw [f0] at hj; have := v1.2.1; rw [E _ (by omega) (by omega), E _ (by omega) (by omega)]; exact v5 j hj
  · rw [e0] at hx
    by_cases h0 : x = n
    · rw [h0, e1, e2, e3, e4]; omega
    · rw [e _ (by omega) (by omega) (by omega) (by omega) (by omega), e _ (by omega) (by omega) (by omega) (by omega) (by omega), e _ (by omega) (by omega) (by omega) (by omega) (by omega), e _ (by omega) (by omega) (by omega) (by omega) (by omega)]
      exact v6 x (by omega)
  · rw [e _ (by omega) (by omega) (by omega) (by omega) (by omega)]; exact v7 x hx
  · rw [e _ (by omega) (by omega) (by omega) (by omega) (by omega)]; exact v8 x hx o ho
