/-- a party of the class at p (its rows behind it) is the row P of the reference -/
def PC (M : MM) (p : Nat) (P : Nat → Int) : Prop := (M p 0 = P 0 ∧ M p 3 = P 1 ∧ M p 12 = P 2 ∧ M p 13 = P 3 ∧ M p 14 = P 4 ∧ M p 15 = P 5 ∧ M p 16 = P 6) ∧ (∀ w, w < 8 → M (p + 9) w = P (7 + w)) ∧ (∀ r, r < 3 → M (p + 10) r = P (15 + r)) ∧ (∀ j : Nat, (j : Int) < P 0 → M (p + 1) j = P (18 + 2 * j) ∧ M (p + 2) j = P (19 + 2 * j)) ∧ (∀ c : Nat, (c : Int) < P 1 → M (p + 3) c = P (28 + 13 * c) ∧ M (p + 4) c = P (29 + 13 * c) ∧ M (p + 5) c = P (30 + 13 * c) ∧ M (p + 6) c = P (31 + 13 * c)) ∧ (∀ c, c < 8 → M (p + 7) c = P (32 + 13 * c)) ∧ (∀ c, c < 8 → ∀ o, o < 8 → M (p + 8) (8 * c + o) = P (33 + 13 * c + o))
/-- a row of the reference that is a party -/
def PV (P : Nat → Int) : Prop := (1 ≤ P 0 ∧ P 0 ≤ 5 ∧ 1 ≤ P 1 ∧ P 1 ≤ 8 ∧ 1 ≤ P 2 ∧ P 2 ≤ 5 ∧ 3 ≤ P 3 ∧ P 3 ≤ 16 ∧ 0 ≤ P 4 ∧ P 4 ≤ 60 ∧ 0 ≤ P 5 ∧ P 5 ≤ 9 ∧ 0 ≤ P 6 ∧ P 6 ≤ 3) ∧ (∀ w, w < 8 → 0 ≤ P (7 + w) ∧ P (7 + w) ≤ 9) ∧ (∀ r, r < 3 → 0 ≤ P (15 + r) ∧ P (15 + r) ≤ 9) ∧ (∃ w, w < 8 ∧ 0 < P (7 + w)) ∧ (∀ j : Nat, (j : Int) < P 0 → 0 ≤ P (18 + 2 * j) ∧ P (18 + 2 * j) ≤ 9 ∧ 1 ≤ P (19 + 2 * j) ∧ P (19 + 2 * j) ≤ 30) ∧ (∀ c : Nat, (c : Int) < P 1 → 3 ≤ P (28 + 13 * c) ∧ P (28 + 13 * c) ≤ 15 ∧ 1 ≤ P (29 + 13 * c) ∧ P (29 + 13 * c) ≤ 9 ∧ 0 ≤ P (30 + 13 * c) ∧ P (30 + 13 * c) ≤ 10 ∧ 0 ≤ P (31 + 13 * c) ∧ P (31 + 13 * c) ≤ 9) ∧ (∀ c, c < 8 → 0 ≤ P (32 + 13 * c) ∧ P (32 + 13 * c) ≤ 24) ∧ (∀ c, c < 8 → ∀ o, o < 8 → 0 ≤ P (33 + 13 * c + o) ∧ P (33 + 13 * c + o) ≤ 2)
/-- a book -/
def BC (M : MM) (q : Nat) (R : Nat → Int) : Prop := M q 4 = R 0 ∧ ∀ j : Nat, (j : Int) < R 0 → M (q + 1) j = R (1 + 3 * j) ∧ M (q + 2) j = R (2 + 3 * j) ∧ M (q + 3) j = R (3 + 3 * j)
def BV (R : Nat → Int) : Prop := 0 ≤ R 0 ∧ R 0 ≤ 40 ∧ ∀ j : Nat, (j : Int) < R 0 → 0 ≤ R (1 + 3 * j) ∧ R (1 + 3 * j) ≤ 5 ∧ -1 ≤ R (2 + 3 * j) ∧ R (2 + 3 * j) ≤ 9 ∧ -1 ≤ R (3 + 3 * j) ∧ R (3 + 3 * j) ≤ 9 ∧ (R (1 + 3 * j) ≤ 2 → 0 ≤ R (2 + 3 * j) ∧ R (2 + 3 * j) ≤ 7) ∧ (R (1 + 3 * j) = 2 → 0 ≤ R (3 + 3 * j))
/-- clues -/
def CC (M : MM) (c : Nat) (R : Nat → Int) : Prop := M (c + 1) 4 = R 0 ∧ (∀ j : Nat, (j : Int) < R 0 → M (c + 2) j = R (9 + 3 * j) ∧ M (c + 3) j = R (10 + 3 * j) ∧ M (c + 4) j = R (11 + 3 * j)) ∧ ∀ h, h < 8 → M (c + 5) h = R (1 + h)
def CV (R : Nat → Int) : Prop := 0 ≤ R 0 ∧ R 0 ≤ 8 ∧ (∀ j : Nat, (j : Int) < R 0 → 0 ≤ R (9 + 3 * j) ∧ R (9 + 3 * j) ≤ 3 ∧ -1 ≤ R (10 + 3 * j) ∧ R (10 + 3 * j) ≤ 7 ∧ (R (9 + 3 * j) = 0 → 0 ≤ R (10 + 3 * j)) ∧ 0 ≤ R (11 + 3 * j) ∧ R (11 + 3 * j) ≤ 7) ∧ ∀ h, h < 8 → 0 ≤ R (1 + h) ∧ R (1 + h) ≤ 10
/-- a ground -/
def DC (M : MM) (q : Nat) (R : Nat → Int) : Prop := M q 4 = R 0 ∧ ∀ j : Nat, (j : Int) < R 0 → M (q + 2) j = R (1 + 2 * j) ∧ M (q + 3) j = R (2 + 2 * j)
def DV (R : Nat → Int) : Prop := 0 ≤ R 0 ∧ R 0 ≤ 25 ∧ ∀ j : Nat, (j : Int) < R 0 → 0 ≤ R (1 + 2 * j) ∧ R (1 + 2 * j) ≤ 24 ∧ 1 ≤ R (2 + 2 * j) ∧ R (2 + 2 * j) ≤ 9
/-- a record -/
def RC (M : MM) (t : Nat) (R : Nat → Int) : Prop := M (t + 1) 4 = R 0 ∧ M (t + 5) 4 = R 1 ∧ (∀ j : Nat, (j : Int) < R 0 → M (t + 3) j = R (2 + 2 * j) ∧ M (t + 4) j = R (3 + 2 * j)) ∧ ∀ j : Nat, (j : Int) < R 1 → M (t + 8) j = R (82 + j)
def RV (R : Nat → Int) : Prop := 0 ≤ R 0 ∧ R 0 ≤ 40 ∧ 0 ≤ R 1 ∧ R 1 ≤ 15 ∧ (∀ j : Nat, (j : Int) < R 0 → 0 ≤ R (2 + 2 * j) ∧ R (2 + 2 * j) ≤ 7 ∧ 0 ≤ R (3 + 2 * j) ∧ R (3 + 2 * j) ≤ 1) ∧ ∀ j : Nat, (j : Int) < R 1 → 0 ≤ R (82 + j) ∧ R (82 + j) ≤ 1
/-- all that is told: of the class at tB i, of the reference the i-th of its rows -/
def CTD (M : MM) (i : Nat) : Prop := (M (tB i) 1 = M 361 i ∧ 0 ≤ M 361 i ∧ M 361 i ≤ 600) ∧ (M (tB i) 2 = M 362 i ∧ M (tB i) 3 = M 363 i) ∧ (∀ j, j < 600 → M (tB i + 1) j = M 360 (600 * i + j) ∧ -128 ≤ M 360 (600 * i + j) ∧ M 360 (600 * i + j) ≤ 127) ∧ (∀ s, s < 5 → M (tB i + 2) s = M 364 (5 * i + s) ∧ 0 ≤ M 364 (5 * i + s) ∧ M 364 (5 * i + s) ≤ 2) ∧ (∀ k : Nat, (k : Int) < M 364 (5 * i) → PC M (tB i + 8 + 34 * k) (fun j => M 365 (264 * i + 132 * k + j)) ∧ PV (fun j => M 365 (264 * i + 132 * k + j))) ∧ (∀ k : Nat, (k : Int) < M 364 (5 * i + 1) → BC M (tB i + 19 + 34 * k) (fun j => M 366 (242 * i + 121 * k + j)) ∧ BV (fun j => M 366 (242 * i + 121 * k + j))) ∧ (∀ k : Nat, (k : Int) < M 364 (5 * i + 2) → CC M (tB i + 23 + 34 * k) (fun j => M 367 (66 * i + 33 * k + j)) ∧ CV (fun j => M 367 (66 * i + 33 * k + j))) ∧ (∀ k : Nat, (k : Int) < M 364 (5 * i + 3) → DC M (tB i + 29 + 34 * k) (fun j => M 368 (102 * i + 51 * k + j)) ∧ DV (fun j => M 368 (102 * i + 51 * k + j))) ∧ (∀ k : Nat, (k : Int) < M 364 (5 * i + 4) → RC M (tB i + 33 + 34 * k) (fun j => M 369 (194 * i + 97 * k + j)) ∧ RV (fun j => M 369 (194 * i + 97 * k + j)))
/-- the rows' lengths, which nobody writes -/
def MOS (M : MM) : Prop := (∀ i, i < 4 → ∀ k, k < 2 → M (tB i + 19 + 34 * k) 0 = 40 ∧ M (tB i + 24 + 34 * k) 0 = 8 ∧ M (tB i + 29 + 34 * k) 0 = 25 ∧ M (tB i + 34 + 34 * k) 0 = 40 ∧ M (tB i + 38 + 34 * k) 0 = 15) ∧ M 91 0 = 40 ∧ M 96 0 = 8 ∧ M 101 0 = 25 ∧ M 106 0 = 40 ∧ M 110 0 = 15
def INV (M : MM) : Prop := MOS M ∧ CTD M 0 ∧ (∀ k, k < 3 → M 78 k = M 387 k ∧ (M 387 k = 0 ∨ M 387 k = 1)) ∧ ∀ k, k < 3 → M 387 k = 1 → CTD M (k + 1)
theorem tB_r (i : Nat) (h : i < 4) : tB i = 1 ∨ (131 ≤ tB i ∧ tB i ≤ 283) := by unfold tB; split <;> omega
theorem PC_c {M M' : MM} {p : Nat} {P : Nat → Int} (h : ∀ j, j < 11 → M' (p + j) = M (p + j)) (q : PC M p P) : PC M' p P := by
  have h0 := h 0 (by omega)
  rw [Nat.add_zero] at h0
  unfold PC
  rw [h0, h 1 (by omega), h 2 (by omega), h 3 (by omega), h 4 (by omega), h 5 (by omega), h 6 (by omega), h 7 (by omega), h 8 (by omega), h 9 (by omega), h 10 (by omega)]
  exact q
theorem BC_c {M M' : MM} {p : Nat} {P : Nat → Int} (h : ∀ j, j < 4 → M' (p + j) = M (p + j)) (q : BC M p P) : BC M' p P := by
  have h0 := h 0 (by omega)
  rw [Nat.add_zero] at h0
  unfold BC
  rw [h0, h 1 (by omega), h 2 (by omega), h 3 (by omega)]
  exact q
theorem DC_c {M M' : MM} {p : Nat} {P : Nat → Int} (h : ∀ j, j < 4 → M' (p + j) = M (p + j)) (q : DC M p P) : DC M' p P := by
  have h0 := h 0 (by omega)
  rw [Nat.add_zero] at h0
  unfold DC
  rw [h0, h 2 (by omega), h 3 (by omega)]
  exact q
theorem CC_c {M M' : MM} {p : Nat} {P : Nat → Int} (h : ∀ j, j < 6 → M' (p + j) = M (p + j)) (q : CC M p P) : CC M' p P := by
  unfold CC
  rw [h 1 (by omega), h 2 (by omega), h 3 (by omega), h 4 (by omega), h 5 (by omega)]
  exact q
theorem RC_c {M M' : MM} {p : Nat} {P : Nat → Int} (h : ∀ j, j < 9 → M' (p + j) = M (p + j)) (q : RC M p P) : RC M' p P := by
  unfold RC
  rw [h 1 (by omega), h 5 (by omega), h 3 (by omega), h 4 (by omega), h 8 (by omega)]
  exact q
theorem CTD_c {M M' : MM} {i : Nat} (h : ∀ j, j < 76 → M' (tB i + j) = M (tB i + j)) (hr : ∀ a, 359 < a → a < 370 → M' a = M a) (q : CTD M i) : CTD M' i := by
  obtain ⟨q1, q2, q3, q4, q5, q6, q7, q8, q9⟩ := q
  have hs := (q4 0 (by omega)).2.2
  have hs1 := (q4 1 (by omega)).2.2
  have hs2 := (q4 2 (by omega)).2.2
  have hs3 := (q4 3 (by omega)).2.2
  have hs4 := (q4 4 (by omega)).2.2
  have h0 := h 0 (by omega)
  rw [Nat.add_zero] at h0 hs
  unfold CTD
  rw [h0, h 1 (by omega), h 2 (by omega), hr 360 (by omega) (by omega), hr 361 (by omega) (by omega), hr 362 (by omega) (by omega), hr 363 (by omega) (by omega), hr 364 (by omega) (by omega), hr 365 (by omega) (by omega), hr 366 (by omega) (by omega), hr 367 (by omega) (by omega), hr 368 (by omega) (by omega), hr 369 (by omega) (by omega)]
  refine ⟨q1, q2, q3, q4, fun k hk => ⟨PC_c (fun j hj => ?_) (q5 k hk).1, (q5 k hk).2⟩, fun k hk => ⟨BC_c (fun j hj => ?_) (q6 k hk).1, (q6 k hk).2⟩, fun k hk => ⟨CC_c (fun j hj => ?_) (q7 k hk).1, (q7 k hk).2⟩, fun k hk => ⟨DC_c (fun j hj => ?_) (q8 k hk).1, (q8 k hk).2⟩, fun k hk => ⟨RC_c (fun j hj => ?_) (q9 k hk).1, (q9 k hk).2⟩⟩
  · have := h (8 + 34 * k + j) (by omega); rwa [show tB i + (8 + 34 * k + j) = tB i + 8 + 34 * k + j by omega] at this
  · have := h (19 + 34 * k + j) (by omega); rwa [show tB i + (19 + 34 * k + j) = tB i + 19 + 34 * k + j by omega] at this
  · have := h (23 + 34 * k + j) (by omega); rwa [show tB i + (23 + 34 * k + j) = tB i + 23 + 34 * k + j by omega] at this
  · have := h (29 + 34 * k + j) (by omega); rwa [show tB i + (29 + 34 * k + j) = tB i + 29 + 34 * k + j by omega] at this
  · have := h (33 + 34 * k + j) (by omega); rwa [show tB i + (33 + 34 * k + j) = tB i + 33 + 34 * k + j by omega] at this
theorem MOS_c {M M' : MM} (h : ∀ a, a < 115 ∨ (130 < a ∧ a < 359) → M' a = M a) (q : MOS M) : MOS M' := by
  unfold MOS
  rw [h 91 (by omega), h 96 (by omega), h 101 (by omega), h 106 (by omega), h 110 (by omega)]
  refine ⟨fun i hi k hk => ?_, q.2⟩
  have hb := tB_r i hi
  rw [h (tB i + 19 + 34 * k) (by omega), h (tB i + 24 + 34 * k) (by omega), h (tB i + 29 + 34 * k) (by omega), h (tB i + 34 + 34 * k) (by omega), h (tB i + 38 + 34 * k) (by omega)]
  exact q.1 i hi k hk
theorem INV_c {M M' : MM} (h : ∀ a, a < 115 ∨ (130 < a ∧ a < 359) ∨ (359 < a ∧ a < 370) ∨ a = 387 → M' a = M a) (q : INV M) : INV M' := by
  obtain ⟨q1, q2, q3, q4⟩ := q
  have hh : ∀ i, i < 4 → ∀ j, j < 76 → M' (tB i + j) = M (tB i + j) := fun i hi j hj => h _ (by have := tB_r i hi; omega)
  have hr : ∀ a, 359 < a → a < 370 → M' a = M a := fun a ha hb => h a (by omega)
  refine ⟨MOS_c (fun a ha => h a (by omega)) q1, CTD_c (hh 0 (by omega)) hr q2, fun k hk => ?_, fun k hk e => ?_⟩
  · rw [h 78 (by omega), h 387 (by omega)]; exact q3 k hk
  · rw [h 387 (by omega)] at e; exact CTD_c (hh (k + 1) (by omega)) hr (q4 k hk e)
theorem INV_f {M M' M'' : MM} (h : FC M M') (h' : FR M' M'') (q : INV M) : INV M'' := INV_c (fun a ha => by rw [h' a (by omega) (by omega), h a (by omega)]) q
theorem INV_1 {M M' : MM} (h : FC M M') (q : INV M) : INV M' := INV_c (fun a ha => h a (by omega)) q
theorem INV_2 {M M' : MM} (h : FR M M') (q : INV M) : INV M' := INV_c (fun a ha => h a (by omega) (by omega)) q
