def L0 : List LE := [(0, 11, [some 1, some 77, some 78, some 79, some 115, some 119, some 121, some 127, some 130]),
  (0, 9, [some 2, none, none, none, some 3, some 4, some 5, some 6, some 7, some 8]),
  (3, 600, []),
  (1, 5, []),
  (7, 2, [some 9, some 43]),
  (6, 2, [some 20, some 54]),
  (5, 2, [some 24, some 58]),
  (6, 2, [some 30, some 64]),
  (8, 2, [some 34, some 68]),
  (0, 5, [none, some 10, some 11, none, some 12, some 13, some 14, some 15, some 16, some 17, some 18, some 19, none, none, none, none, none]),
  (1, 5, []),
  (1, 5, []),
  (1, 8, []),
  (1, 8, []),
  (1, 8, []),
  (1, 8, []),
  (1, 8, []),
  (1, 64, []),
  (1, 8, []),
  (1, 3, []),
  (0, 3, [none, some 21, some 22, some 23, none]),
  (1, 40, []),
  (1, 40, []),
  (1, 40, []),
  (0, 1, [some 25, some 29]),
  (0, 3, [none, some 26, some 27, some 28, none]),
  (1, 8, []),
  (1, 8, []),
  (1, 8, []),
  (1, 8, []),
  (0, 3, [none, some 31, some 32, some 33, none]),
  (1, 25, []),
  (1, 25, []),
  (1, 25, []),
  (0, 8, [some 35, some 39]),
  (0, 3, [none, some 36, some 37, some 38, none]),
  (1, 40, []),
  (1, 40, []),
  (1, 40, []),
  (0, 3, [none, some 40, some 41, some 42, none]),
  (1, 15, []),
  (1, 15, []),
  (1, 15, []),
  (0, 5, [none, some 44, some 45, none, some 46, some 47, some 48, some 49, some 50, some 51, some 52, some 53, none, none, none, none, none]),
  (1, 5, []),
  (1, 5, []),
  (1, 8, []),
  (1, 8, []),
  (1, 8, []),
  (1, 8, []),
  (1, 8, []),
  (1, 64, []),
  (1, 8, []),
  (1, 3, []),
  (0, 3, [none, some 55, some 56, some 57, none]),
  (1, 40, []),
  (1, 40, []),
  (1, 40, []),
  (0, 1, [some 59, some 63]),
  (0, 3, [none, some 60, some 61, some 62, none]),
  (1, 8, []),
  (1, 8, []),
  (1, 8, []),
  (1, 8, []),
  (0, 3, [none, some 65, some 66, some 67, none]),
  (1, 25, []),
  (1, 25, []),
  (1, 25, []),
  (0, 8, [some 69, some 73]),
  (0, 3, [none, some 70, some 71, some 72, none]),
  (1, 40, []),
  (1, 40, []),
  (1, 40, []),
  (0, 3, [none, some 74, some 75, some 76, none]),
  (1, 15, []),
  (1, 15, []),
  (1, 15, []),
  (9, 3, [some 131, some 207, some 283]),
  (4, 3, []),
  (0, 7, [some 80, some 91, some 95, some 101, some 105, none, none, some 114, none, none, none, none, none]),
  (0, 5, [none, some 81, some 82, none, some 83, some 84, some 85, some 86, some 87, some 88, some 89, some 90, none, none, none, none, none]),
  (1, 5, []),
  (1, 5, []),
  (1, 8, []),
  (1, 8, []),
  (1, 8, []),
  (1, 8, []),
  (1, 8, []),
  (1, 64, []),
  (1, 8, []),
  (1, 3, []),
  (0, 3, [none, some 92, some 93, some 94, none]),
  (1, 40, []),
  (1, 40, []),
  (1, 40, []),
  (0, 1, [some 96, some 100]),
  (0, 3, [none, some 97, some 98, some 99, none]),
  (1, 8, []),
  (1, 8, []),
  (1, 8, []),
  (1, 8, []),
  (0, 3, [none, some 102, some 103, some 104, none]),
  (1, 25, []),
  (1, 25, []),
  (1, 25, []),
  (0, 8, [some 106, some 110]),
  (0, 3, [none, some 107, some 108, some 109, none]),
  (1, 40, []),
  (1, 40, []),
  (1, 40, []),
  (0, 3, [none, some 111, some 112, some 113, none]),
  (1, 15, []),
  (1, 15, []),
  (1, 15, []),
  (1, 4, []),
  (0, 6, [none, none, none, none, none, none, none, none, none, some 116, some 117, some 118, none, none]),
  (1, 5, []),
  (1, 24, []),
  (1, 8, []),
  (0, 2, [some 120, none]),
  (2, 8, []),
  (0, 4, [some 122, some 123, some 124, some 125, some 126]),
  (1, 8, []),
  (2, 137, []),
  (2, 137, []),
  (2, 32, []),
  (2, 496, []),
  (0, 10, [some 128, some 129]),
  (1, 8, []),
  (1, 8, []),
  (0, 0, [none, none, none, none]),
  (0, 9, [some 132, none, none, none, some 133, some 134, some 135, some 136, some 137, some 138]),
  (3, 600, []),
  (1, 5, []),
  (7, 2, [some 139, some 173]),
  (6, 2, [some 150, some 184]),
  (5, 2, [some 154, some 188]),
  (6, 2, [some 160, some 194]),
  (8, 2, [some 164, some 198]),
  (0, 5, [none, some 140, some 141, none, some 142, some 143, some 144, some 145, some 146, some 147, some 148, some 149, none, none, none, none, none]),
  (1, 5, []),
  (1, 5, []),
  (1, 8, []),
  (1, 8, []),
  (1, 8, []),
  (1, 8, []),
  (1, 8, []),
  (1, 64, []),
  (1, 8, []),
  (1, 3, []),
  (0, 3, [none, some 151, some 152, some 153, none]),
  (1, 40, []),
  (1, 40, []),
  (1, 40, []),
  (0, 1, [some 155, some 159]),
  (0, 3, [none, some 156, some 157, some 158, none]),
  (1, 8, []),
  (1, 8, []),
  (1, 8, []),
  (1, 8, []),
  (0, 3, [none, some 161, some 162, some 163, none]),
  (1, 25, []),
  (1, 25, []),
  (1, 25, []),
  (0, 8, [some 165, some 169]),
  (0, 3, [none, some 166, some 167, some 168, none]),
  (1, 40, []),
  (1, 40, []),
  (1, 40, []),
  (0, 3, [none, some 170, some 171, some 172, none]),
  (1, 15, []),
  (1, 15, []),
  (1, 15, []),
  (0, 5, [none, some 174, some 175, none, some 176, some 177, some 178, some 179, some 180, some 181, some 182, some 183, none, none, none, none, none]),
  (1, 5, []),
  (1, 5, []),
  (1, 8, []),
  (1, 8, []),
  (1, 8, []),
  (1, 8, []),
  (1, 8, []),
  (1, 64, []),
  (1, 8, []),
  (1, 3, []),
  (0, 3, [none, some 185, some 186, some 187, none]),
  (1, 40, []),
  (1, 40, []),
  (1, 40, []),
  (0, 1, [some 189, some 193]),
  (0, 3, [none, some 190, some 191, some 192, none]),
  (1, 8, []),
  (1, 8, []),
  (1, 8, []),
  (1, 8, []),
  (0, 3, [none, some 195, some 196, some 197, none]),
  (1, 25, []),
  (1, 25, []),
  (1, 25, []),
  (0, 8, [some 199, some 203]),
  (0, 3, [none, some 200, some 201, some 202, none]),
  (1, 40, []),
  (1, 40, []),
  (1, 40, []),
  (0, 3, [none, some 204, some 205, some 206, none]),
  (1, 15, []),
  (1, 15, []),
  (1, 15, []),
  (0, 9, [some 208, none, none, none, some 209, some 210, some 211, some 212, some 213, some 214]),
  (3, 600, []),
  (1, 5, []),
  (7, 2, [some 215, some 249]),
  (6, 2, [some 226, some 260]),
  (5, 2, [some 230, some 264]),
  (6, 2, [some 236, some 270]),
  (8, 2, [some 240, some 274]),
  (0, 5, [none, some 216, some 217, none, some 218, some 219, some 220, some 221, some 222, some 223, some 224, some 225, none, none, none, none, none]),
  (1, 5, []),
  (1, 5, []),
  (1, 8, []),
  (1, 8, []),
  (1, 8, []),
  (1, 8, []),
  (1, 8, []),
  (1, 64, []),
  (1, 8, []),
  (1, 3, []),
  (0, 3, [none, some 227, some 228, some 229, none]),
  (1, 40, []),
  (1, 40, []),
  (1, 40, []),
  (0, 1, [some 231, some 235]),
  (0, 3, [none, some 232, some 233, some 234, none]),
  (1, 8, []),
  (1, 8, []),
  (1, 8, []),
  (1, 8, []),
  (0, 3, [none, some 237, some 238, some 239, none]),
  (1, 25, []),
  (1, 25, []),
  (1, 25, []),
  (0, 8, [some 241, some 245]),
  (0, 3, [none, some 242, some 243, some 244, none]),
  (1, 40, []),
  (1, 40, []),
  (1, 40, []),
  (0, 3, [none, some 246, some 247, some 248, none]),
  (1, 15, []),
  (1, 15, []),
  (1, 15, []),
  (0, 5, [none, some 250, some 251, none, some 252, some 253, some 254, some 255, some 256, some 257, some 258, some 259, none, none, none, none, none]),
  (1, 5, []),
  (1, 5, []),
  (1, 8, []),
  (1, 8, []),
  (1, 8, []),
  (1, 8, []),
  (1, 8, []),
  (1, 64, []),
  (1, 8, []),
  (1, 3, []),
  (0, 3, [none, some 261, some 262, some 263, none]),
  (1, 40, []),
  (1, 40, []),
  (1, 40, []),
  (0, 1, [some 265, some 269]),
  (0, 3, [none, some 266, some 267, some 268, none]),
  (1, 8, []),
  (1, 8, []),
  (1, 8, []),
  (1, 8, []),
  (0, 3, [none, some 271, some 272, some 273, none]),
  (1, 25, []),
  (1, 25, []),
  (1, 25, []),
  (0, 8, [some 275, some 279]),
  (0, 3, [none, some 276, some 277, some 278, none]),
  (1, 40, []),
  (1, 40, []),
  (1, 40, []),
  (0, 3, [none, some 280, some 281, some 282, none]),
  (1, 15, []),
  (1, 15, []),
  (1, 15, []),
  (0, 9, [some 284, none, none, none, some 285, some 286, some 287, some 288, some 289, some 290]),
  (3, 600, []),
  (1, 5, []),
  (7, 2, [some 291, some 325]),
  (6, 2, [some 302, some 336]),
  (5, 2, [some 306, some 340]),
  (6, 2, [some 312, some 346]),
  (8, 2, [some 316, some 350]),
  (0, 5, [none, some 292, some 293, none, some 294, some 295, some 296, some 297, some 298, some 299, some 300, some 301, none, none, none, none, none]),
  (1, 5, []),
  (1, 5, []),
  (1, 8, []),
  (1, 8, []),
  (1, 8, []),
  (1, 8, []),
  (1, 8, []),
  (1, 64, []),
  (1, 8, []),
  (1, 3, []),
  (0, 3, [none, some 303, some 304, some 305, none]),
  (1, 40, []),
  (1, 40, []),
  (1, 40, []),
  (0, 1, [some 307, some 311]),
  (0, 3, [none, some 308, some 309, some 310, none]),
  (1, 8, []),
  (1, 8, []),
  (1, 8, []),
  (1, 8, []),
  (0, 3, [none, some 313, some 314, some 315, none]),
  (1, 25, []),
  (1, 25, []),
  (1, 25, []),
  (0, 8, [some 317, some 321]),
  (0, 3, [none, some 318, some 319, some 320, none]),
  (1, 40, []),
  (1, 40, []),
  (1, 40, []),
  (0, 3, [none, some 322, some 323, some 324, none]),
  (1, 15, []),
  (1, 15, []),
  (1, 15, []),
  (0, 5, [none, some 326, some 327, none, some 328, some 329, some 330, some 331, some 332, some 333, some 334, some 335, none, none, none, none, none]),
  (1, 5, []),
  (1, 5, []),
  (1, 8, []),
  (1, 8, []),
  (1, 8, []),
  (1, 8, []),
  (1, 8, []),
  (1, 64, []),
  (1, 8, []),
  (1, 3, []),
  (0, 3, [none, some 337, some 338, some 339, none]),
  (1, 40, []),
  (1, 40, []),
  (1, 40, []),
  (0, 1, [some 341, some 345]),
  (0, 3, [none, some 342, some 343, some 344, none]),
  (1, 8, []),
  (1, 8, []),
  (1, 8, []),
  (1, 8, []),
  (0, 3, [none, some 347, some 348, some 349, none]),
  (1, 25, []),
  (1, 25, []),
  (1, 25, []),
  (0, 8, [some 351, some 355]),
  (0, 3, [none, some 352, some 353, some 354, none]),
  (1, 40, []),
  (1, 40, []),
  (1, 40, []),
  (0, 3, [none, some 356, some 357, some 358, none]),
  (1, 15, []),
  (1, 15, []),
  (1, 15, []),
  (0, 12, [none, some 360, some 361, some 362, some 363, some 364, some 365, some 366, some 367, some 368, some 369, none, none, none, none, none, none, none, none, none, some 370, some 371, none, none, none, none, none, none, none, none, none, none, none, none, none, none, none, none, none, none, some 372, some 373, some 374, some 375, some 376, some 377, none, some 378, none, some 379, some 380, some 381, some 382, none, none, none, none, some 383, none, some 384, none, some 385, some 386, none, none, none, none, some 387]),
  (3, 2400, []),
  (1, 4, []),
  (1, 4, []),
  (1, 4, []),
  (1, 20, []),
  (1, 1056, []),
  (1, 968, []),
  (1, 264, []),
  (1, 408, []),
  (1, 776, []),
  (1, 132, []),
  (1, 4, []),
  (1, 5, []),
  (1, 32, []),
  (1, 40, []),
  (1, 40, []),
  (1, 40, []),
  (1, 40, []),
  (2, 8, []),
  (2, 542, []),
  (2, 542, []),
  (2, 8, []),
  (1, 8, []),
  (2, 496, []),
  (1, 8, []),
  (1, 8, []),
  (1, 8, []),
  (4, 3, [])]
def gR (a k : Nat) : Nat := match L0[a]? with
  | some e => (e.2.2.getD k none).getD 0
  | none => 0
def ln (a : Nat) : Nat := match L0[a]? with
  | some e => e.2.1
  | none => 0
def FU : Nat := 100000
def nV (G : GG) (n : Nat) : Value := match n with
  | 0 => .null
  | a + 1 => .ref (gA G a)
theorem nV_or {G : GG} (n : Nat) : nV G n = .null ∨ ∃ a, nV G n = .ref a := by
  cases n with
  | zero => exact Or.inl rfl
  | succ a => exact Or.inr ⟨_, rfl⟩
def nM {α : Type} (n : Nat) (a : α) (f : Nat → α) : α := match n with
  | 0 => a
  | k + 1 => f k
theorem nM_z {α : Type} {a r : α} {f : Nat → α} (h : nM 0 a f = r) : a = r := h
theorem nM_s {α : Type} {a r : α} {f : Nat → α} {k : Nat} (h : nM (k + 1) a f = r) : f k = r := h
theorem og {α : Type} {c : Prop} [Decidable c] {x : Option α} {r : α} (h : (if c then x else none) = some r) : c ∧ x = some r := by
  by_cases q : c
  · rw [if_pos q] at h; exact ⟨q, h⟩
  · rw [if_neg q] at h; cases h
theorem ob {α β : Type} {x : Option α} {f : α → Option β} {r : β} (h : (x.bind f) = some r) : ∃ y, x = some y ∧ f y = some r := by
  cases x with
  | none => cases h
  | some y => exact ⟨y, rfl, h⟩
theorem nf_s {a c : Nat} (o : OB L0 a c) : ∀ m, a + 1 = m + 1 → OB L0 m c := fun m h => by cases h; exact o
theorem nf_0 {c : Nat} : ∀ m, 0 = m + 1 → OB L0 m c := fun m h => by cases h
theorem ln_of {a q n : Nat} (h : AR L0 a q n) : ln a = n := by
  obtain ⟨rs, h⟩ := h
  simp [ln, h]
theorem ar_ln {a q n : Nat} (h : AR L0 a q n) : AR L0 a q (ln a) := by rw [ln_of h]; exact h
def ckO (ci k kk nn : Nat) (any : Bool) : Bool := L0.all fun e => !(e.1 == 0 && e.2.1 == ci) || (match e.2.2.getD k none with
    | some b => (match L0[b]? with
      | some e2 => e2.1 == kk && (any || e2.2.1 == nn)
      | none => false)
    | none => false)
theorem ckO_use {ci k kk nn : Nat} {any : Bool} (h : ckO ci k kk nn any = true) {a : Nat} (ho : OB L0 a ci) : RF L0 a k (gR a k) ∧ AR L0 (gR a k) kk (if any then ln (gR a k) else nn) := by
  obtain ⟨rs, ho⟩ := ho
  have h1 := List.all_eq_true.mp h _ (List.mem_of_getElem? ho)
  dsimp only at h1
  cases hb : rs.getD k none with
  | none => rw [hb] at h1; simp at h1
  | some b =>
    rw [hb] at h1
    dsimp only at h1
    have hg : gR a k = b := by unfold gR; rw [ho]; dsimp only; rw [hb]; rfl
    refine ⟨⟨_, ho, by rw [hg]; exact hb⟩, ?_⟩
    rw [hg]
    cases h2 : L0[b]? with
    | none => rw [h2] at h1; simp at h1
    | some e2 =>
      rw [h2] at h1
      simp only [Bool.or_eq_true, Bool.not_eq_true', Bool.and_eq_true, beq_iff_eq] at h1
      have h3 : e2.1 = kk ∧ (any = true ∨ e2.2.1 = nn) := by
        rcases h1 with h1 | h1
        · simp at h1
        · exact h1
      obtain ⟨q1, n1, r1⟩ := e2
      dsimp only at h3
      obtain ⟨h4, h5⟩ := h3
      subst h4
      refine ⟨r1, ?_⟩
      by_cases ha : any = true
      · rw [if_pos ha, show ln b = n1 from by unfold ln; rw [h2]]; exact h2
      · rw [if_neg ha]
        rcases h5 with h5 | h5
        · exact absurd h5 ha
        · rw [← h5]; exact h2
def ckA (q cj : Nat) : Bool := L0.all fun e => !(e.1 == q) || (List.range e.2.1).all (fun j => match e.2.2.getD j none with
    | some b => (match L0[b]? with
      | some e2 => e2.1 == 0 && e2.2.1 == cj
      | none => false)
    | none => false)
theorem ckA_use {q cj : Nat} (h : ckA q cj = true) {a n : Nat} (ha : AR L0 a q n) {i : Int} (hi : 0 ≤ i ∧ i < (n : Int)) : RF L0 a i.toNat (gR a i.toNat) ∧ OB L0 (gR a i.toNat) cj := by
  obtain ⟨rs, ho⟩ := ha
  generalize hj : i.toNat = j
  have hjn : j < n := by omega
  have h1 := List.all_eq_true.mp h _ (List.mem_of_getElem? ho)
  simp only [beq_self_eq_true, Bool.not_true, Bool.false_or] at h1
  have h2 := List.all_eq_true.mp h1 j (List.mem_range.mpr hjn)
  cases hb : rs.getD j none with
  | none => rw [hb] at h2; simp at h2
  | some b =>
    rw [hb] at h2
    dsimp only at h2
    have hg : gR a j = b := by unfold gR; rw [ho]; dsimp only; rw [hb]; rfl
    refine ⟨⟨_, ho, by rw [hg]; exact hb⟩, ?_⟩
    rw [hg]
    cases h3 : L0[b]? with
    | none => rw [h3] at h2; simp at h2
    | some e2 =>
      rw [h3] at h2
      simp only [Bool.and_eq_true, beq_iff_eq] at h2
      obtain ⟨q1, n1, r1⟩ := e2
      dsimp only at h2
      obtain ⟨h4, h5⟩ := h2
      subst h4 h5
      exact ⟨r1, h3⟩
theorem r_stk {G : GG} {X : XX} {Z : ZZ} {L : List LE} {M : MM} {ce sl pc : Nat} {lv : List (Nat × Value)} {st : List Value} {st' : List Value} (hs : st = st') (k : VV G X Z L M ce sl pc lv (st')) : VV G X Z L M ce sl pc lv (st) := by subst hs; exact k
theorem r_null {G : GG} {X : XX} {Z : ZZ} {L : List LE} {M : MM} {ce sl pc : Nat} {lv : List (Nat × Value)} {st : List Value} (hd : decode (xc X) pc = .ok (.aconst_null, 1)) (k : VV G X Z L M ce sl (pc + 1) lv (.null :: st)) : VV G X Z L M ce sl pc lv (st) := by
  intro p e R s m args below meth c hc he H locs ls hP hD hS hl
  exact lv_null hc.1 hc.2.1 hd (k p e R s m args below meth c hc he H locs ls hP hD hS hl)
theorem r_ifnullR {G : GG} {X : XX} {Z : ZZ} {L : List LE} {M : MM} {ce sl pc : Nat} {lv : List (Nat × Value)} {st : List Value} {a : Nat} {off : Int} (hd : decode (xc X) pc = .ok (.ifnull off, 3)) (k : VV G X Z L M ce sl (pc + 3) lv (st)) : VV G X Z L M ce sl pc lv (.ref a :: st) := by
  intro p e R s m args below meth c hc he H locs ls hP hD hS hl
  exact lv_ifnull hc.1 hc.2.1 hd (k p e R s m args below meth c hc he H locs ls hP hD hS hl)
theorem r_ifnullN {G : GG} {X : XX} {Z : ZZ} {L : List LE} {M : MM} {ce sl pc : Nat} {lv : List (Nat × Value)} {st : List Value} {off : Int} {tgt : Nat} (hd : decode (xc X) pc = .ok (.ifnull off, 3)) (ht : (pc : Int) + off = (tgt : Int)) (k : VV G X Z L M ce sl tgt lv (st)) : VV G X Z L M ce sl pc lv (.null :: st) := by
  intro p e R s m args below meth c hc he H locs ls hP hD hS hl
  exact lv_ifnullN hc.1 hc.2.1 hd ht (k p e R s m args below meth c hc he H locs ls hP hD hS hl)
theorem r_ifnonnullR {G : GG} {X : XX} {Z : ZZ} {L : List LE} {M : MM} {ce sl pc : Nat} {lv : List (Nat × Value)} {st : List Value} {a : Nat} {off : Int} {tgt : Nat} (hd : decode (xc X) pc = .ok (.ifnonnull off, 3)) (ht : (pc : Int) + off = (tgt : Int)) (k : VV G X Z L M ce sl tgt lv (st)) : VV G X Z L M ce sl pc lv (.ref a :: st) := by
  intro p e R s m args below meth c hc he H locs ls hP hD hS hl
  exact lv_ifnonnull hc.1 hc.2.1 hd ht (k p e R s m args below meth c hc he H locs ls hP hD hS hl)
theorem r_ifnonnullN {G : GG} {X : XX} {Z : ZZ} {L : List LE} {M : MM} {ce sl pc : Nat} {lv : List (Nat × Value)} {st : List Value} {off : Int} (hd : decode (xc X) pc = .ok (.ifnonnull off, 3)) (k : VV G X Z L M ce sl (pc + 3) lv (st)) : VV G X Z L M ce sl pc lv (.null :: st) := by
  intro p e R s m args below meth c hc he H locs ls hP hD hS hl
  exact lv_ifnonnullN hc.1 hc.2.1 hd (k p e R s m args below meth c hc he H locs ls hP hD hS hl)
theorem r_aload_nN {G : GG} {X : XX} {Z : ZZ} {L : List LE} {M : MM} {ce sl pc : Nat} {lv : List (Nat × Value)} {st : List Value} {q : Fin 4} {i : Nat} (hd : decode (xc X) pc = .ok (.aload_n q, 1)) (hi : (q : Nat) = i) (j : Nat) (hj : lv[j]? = some (i, Value.null)) (k : VV G X Z L M ce sl (pc + 1) lv (.null :: st)) : VV G X Z L M ce sl pc lv (st) := by
  intro p e R s m args below meth c hc he H locs ls hP hD hS hl
  exact lv_aload_nN hc.1 hc.2.1 hd hi (lv_at hl j hj) (k p e R s m args below meth c hc he H locs ls hP hD hS hl)
theorem r_aloadN {G : GG} {X : XX} {Z : ZZ} {L : List LE} {M : MM} {ce sl pc : Nat} {lv : List (Nat × Value)} {st : List Value} {i : Nat} (hd : decode (xc X) pc = .ok (.aload i, 2)) (j : Nat) (hj : lv[j]? = some (i, Value.null)) (k : VV G X Z L M ce sl (pc + 2) lv (.null :: st)) : VV G X Z L M ce sl pc lv (st) := by
  intro p e R s m args below meth c hc he H locs ls hP hD hS hl
  exact lv_aloadN hc.1 hc.2.1 hd (lv_at hl j hj) (k p e R s m args below meth c hc he H locs ls hP hD hS hl)
theorem r_astore_nN {G : GG} {X : XX} {Z : ZZ} {L : List LE} {M : MM} {ce sl pc : Nat} {lv : List (Nat × Value)} {st : List Value} {q : Fin 4} {i : Nat} {lv' : List (Nat × Value)} (hd : decode (xc X) pc = .ok (.astore_n q, 1)) (hi : (q : Nat) = i) (hn : i < xn X) (hl' : (i, Value.null) :: lv.filter (fun q => !(q.1 == i) && !(q.1 + 1 == i && q.2.category == 2)) = lv') (k : VV G X Z L M ce sl (pc + 1) lv' (st)) : VV G X Z L M ce sl pc lv (.null :: st) := by
  intro p e R s m args below meth c hc he H locs ls hP hD hS hl
  exact lv_astore_nN hc.1 hc.2.1 hd hi hl hn hl' (fun ls hl => k p e R s m args below meth c hc he H locs ls hP hD hS hl)
theorem r_astoreN {G : GG} {X : XX} {Z : ZZ} {L : List LE} {M : MM} {ce sl pc : Nat} {lv : List (Nat × Value)} {st : List Value} {i : Nat} {lv' : List (Nat × Value)} (hd : decode (xc X) pc = .ok (.astore i, 2)) (hn : i < xn X) (hl' : (i, Value.null) :: lv.filter (fun q => !(q.1 == i) && !(q.1 + 1 == i && q.2.category == 2)) = lv') (k : VV G X Z L M ce sl (pc + 2) lv' (st)) : VV G X Z L M ce sl pc lv (.null :: st) := by
  intro p e R s m args below meth c hc he H locs ls hP hD hS hl
  exact lv_astoreN hc.1 hc.2.1 hd hl hn hl' (fun ls hl => k p e R s m args below meth c hc he H locs ls hP hD hS hl)
theorem r_tsw {G : GG} {X : XX} {Z : ZZ} {L : List LE} {M : MM} {ce sl pc : Nat} {lv : List (Nat × Value)} {st : List Value} {x k' dflt lo hi off : Int} {offs : Array Int} {len tgt : Nat} (hk : wI x = k') (hd : decode (xc X) pc = .ok (.tableswitch dflt lo hi offs, len)) (h1 : lo ≤ k' ∧ k' ≤ hi) (ho : offs[(k' - lo).toNat]? = some off) (ht : (pc : Int) + off = (tgt : Int)) (k : VV G X Z L M ce sl tgt lv (st)) : VV G X Z L M ce sl pc lv (.int (eI x) :: st) := by
  intro p e R s m args below meth c hc he H locs ls hP hD hS hl
  subst hk
  exact lv_tableIn hc.1 hc.2.1 hd (by rw [eI_toInt]; omega) (by rw [eI_toInt]; omega) (by rw [eI_toInt]; exact ho) ht (k p e R s m args below meth c hc he H locs ls hP hD hS hl)
theorem r_tswD {G : GG} {X : XX} {Z : ZZ} {L : List LE} {M : MM} {ce sl pc : Nat} {lv : List (Nat × Value)} {st : List Value} {x x' dflt lo hi : Int} {offs : Array Int} {len tgt : Nat} (hx : wI x = x') (hd : decode (xc X) pc = .ok (.tableswitch dflt lo hi offs, len)) (h : x' < lo ∨ hi < x') (ht : (pc : Int) + dflt = (tgt : Int)) (k : VV G X Z L M ce sl tgt lv (st)) : VV G X Z L M ce sl pc lv (.int (eI x) :: st) := by
  intro p e R s m args below meth c hc he H locs ls hP hD hS hl
  subst hx
  exact lv_tableOut hc.1 hc.2.1 hd (by rw [eI_toInt]; exact h) ht (k p e R s m args below meth c hc he H locs ls hP hD hS hl)
theorem r_putI {G : GG} {X : XX} {Z : ZZ} {L : List LE} {M : MM} {ce sl pc : Nat} {lv : List (Nat × Value)} {st : List Value} {a ci k index : Nat} {t : FieldType} {x : Int} {M' : MM} (hf : FG (xy X).cls index ci k t false) (ht : kd t = 0) (ho : OB L a ci) (hM : some (mU M a k x) = some M') (hn : narrow t (.int (eI x)) = .int (eI x)) (hfit : fits t (.int (eI x)) = true) (hd : decode (xc X) pc = .ok (.putfield index, 3)) (kk : VV G X Z L M' ce sl (pc + 3) lv (st)) : VV G X Z L M ce sl pc lv (.int (eI x) :: .ref (gA G a) :: st) :=
  r_put hf ho hM (fun rs => (fV_I (by obtain ⟨C, T, -, -, -, -, h, -⟩ := hf; rw [h]; exact ht)).trans (by rw [mU_eq])) hn hfit hd kk
theorem r_putJ {G : GG} {X : XX} {Z : ZZ} {L : List LE} {M : MM} {ce sl pc : Nat} {lv : List (Nat × Value)} {st : List Value} {a ci k index : Nat} {t : FieldType} {x : Int} {M' : MM} (hf : FG (xy X).cls index ci k t false) (ht : kd t = 1) (ho : OB L a ci) (hM : some (mU M a k x) = some M') (hn : narrow t (.long (eJ x)) = .long (eJ x)) (hfit : fits t (.long (eJ x)) = true) (hd : decode (xc X) pc = .ok (.putfield index, 3)) (kk : VV G X Z L M' ce sl (pc + 3) lv (st)) : VV G X Z L M ce sl pc lv (.long (eJ x) :: .ref (gA G a) :: st) :=
  r_put hf ho hM (fun rs => (fV_J (by obtain ⟨C, T, -, -, -, -, h, -⟩ := hf; rw [h]; exact ht)).trans (by rw [mU_eq])) hn hfit hd kk
theorem zn_ok {x : Int} (h : x = 0 ∨ x = 1) : narrow .boolean (.int (eI x)) = .int (eI x) ∧ fits .boolean (.int (eI x)) = true := by
  rcases h with rfl | rfl <;> exact ⟨by decide +kernel, by decide +kernel⟩
theorem nz_in {x : Int} (h : x = 0 ∨ x = 1) : vp_nar .boolean (eI x) = eI x := by
  rcases h with rfl | rfl <;> decide +kernel
theorem nb_in {x : Int} (h : -128 ≤ x ∧ x ≤ 127) : vp_nar .byte (eI x) = eI x := by
  rw [vp_nar_byte, ← Int32.toInt_inj, Int8.toInt_toInt32, show (eI x).toInt8 = Int8.ofInt x from Int32.toInt8_ofInt, Int8.toInt_ofInt, eI_toInt, wI_of (by omega) (by omega)]
  show x.bmod 256 = x
  rw [Int.bmod_def]; split <;> omega
theorem nb_ok (x : Int) : vp_nar .byte (eI (x.bmod 256)) = eI (x.bmod 256) := by
  apply nb_in
  rw [Int.bmod_def]; split <;> omega
theorem fb_in {x : Int} (h : -128 ≤ x ∧ x ≤ 127) : fits .byte (.int (eI x)) = true := by
  have h1 := nb_in h
  have h2 := pk_fb (eI x)
  rw [← vp_nar_byte, h1] at h2
  exact h2
theorem r_cV {G : GG} {X : XX} {Z : ZZ} {L : List LE} {M : MM} {pc : Nat} {lv : List (Nat × Value)} {st : List Value} {Y : XX} {a ci index n : Nat} {C : vw_C} {As rest st1 : List Value} {v : Option Value} {L' : List LE} {M' : MM} (hk : CKV X index Y n) (hC : CO G Y (.ref (gA G a) :: As) L M v L' M') (ho : OB L a ci) (hci : vwCl[ci]? = some C) (hcn : C.1 = (xy Y).cls) (hst : st = As.reverse ++ .ref (gA G a) :: rest) (hn : As.length = n) (hcat : (rest.map fun v => v.category).sum ≤ 8) (hz : xmc Y = 0 ∧ xms Y = 0) (hs : v.toList ++ rest = st1) (hd : decode (xc X) pc = .ok (.invokevirtual index, 3)) (kk : VV G X Z L' M' 0 0 (pc + 3) lv st1) : VV G X Z L M 0 0 pc lv st := by
  refine r_callV hk hC ho hci hcn hst hn hcat ⟨by rw [hz.1]; exact Nat.zero_le _, by rw [hz.2]; exact Nat.zero_le _⟩ hd ?_
  rw [hz.1, hz.2, hs]
  exact kk
theorem r_cS {G : GG} {X : XX} {Z : ZZ} {L : List LE} {M : MM} {pc : Nat} {lv : List (Nat × Value)} {st : List Value} {Y : XX} {index n : Nat} {As rest st1 : List Value} {v : Option Value} {L' : List LE} {M' : MM} (hk : CKS X index Y n) (hC : CO G Y As L M v L' M') (hst : st = As.reverse ++ rest) (hn : As.length = n) (hcat : (rest.map fun v => v.category).sum ≤ 8) (hz : xmc Y = 0 ∧ xms Y = 0) (hs : v.toList ++ rest = st1) (hd : decode (xc X) pc = .ok (.invokestatic index, 3)) (kk : VV G X Z L' M' 0 0 (pc + 3) lv st1) : VV G X Z L M 0 0 pc lv st := by
  refine r_callS hk hC hst hn hcat ⟨by rw [hz.1]; exact Nat.zero_le _, by rw [hz.2]; exact Nat.zero_le _⟩ hd ?_
  rw [hz.1, hz.2, hs]
  exact kk
theorem r_cN {G : GG} {X : XX} {Z : ZZ} {L : List LE} {M : MM} {pc : Nat} {lv : List (Nat × Value)} {st : List Value} {Y : XX} {index n : Nat} {As rest st1 : List Value} {v : Option Value} {L' : List LE} {M' : MM} (hk : CKN X index Y n "PaperDonkey") (hC : CO G Y As L M v L' M') (hst : st = As.reverse ++ rest) (hn : As.length = n) (hcat : (rest.map fun v => v.category).sum ≤ 8) (hz : xmc Y = 0 ∧ xms Y = 0) (hs : v.toList ++ rest = st1) (hd : decode (xc X) pc = .ok (.invokestatic index, 3)) (kk : VV G X Z L' M' 0 0 (pc + 3) lv st1) : VV G X Z L M 0 0 pc lv st := by
  refine r_callN hk hC hst hn hcat ⟨by rw [hz.1]; exact Nat.zero_le _, by rw [hz.2]; exact Nat.zero_le _⟩ hd ?_
  rw [hz.1, hz.2, hs]
  exact kk
theorem r_mmaxL {G : GG} {X : XX} {Z : ZZ} {L : List LE} {M : MM} {ce sl pc : Nat} {lv : List (Nat × Value)} {st : List Value} {x y x' y' : Int} {index : Nat} (hw : ML (xy X).cls index Lib.MathLoose.max_long.x Lib.MathLoose.max_long.code 4 .long) (hR : 1 ≤ xf X ∧ (st.map fun v => v.category).sum + 15 ≤ xl X ∧ ce ≤ xmc X ∧ sl ≤ xms X) (hx : wJ x = x') (hy : wJ y = y') (hd : decode (xc X) pc = .ok (.invokestatic index, 3)) (kk : VV G X Z L M ce sl (pc + 3) lv (.long (eJ (max x' y')) :: st)) : VV G X Z L M ce sl pc lv (.long (eJ y) :: .long (eJ x) :: st) := by
  subst hx hy
  intro p e R s m args below meth c hc he H locs ls hP hD hS hl
  obtain ⟨w1, w2, w3, w4⟩ := hw
  obtain ⟨r1, r2, r3, r4⟩ := hR
  obtain ⟨f1, f2, f3, f4⟩ := hc.2.2.2.2.2.2.2.2.2.2.2
  refine va_mmax_long hc.1 hc.2.1 (hc.2.2.2.1.trans hl.1.symm) hc.2.2.2.2.1 (hT_of hc w1) (hT_of hc w2) (hT_of hc w3) (hT_of hc w4) (Nat.le_trans r1 f1) (Nat.le_trans r2 f2) (Nat.le_trans r3 f3) (Nat.le_trans r4 f4) hd ?_
  have hE : (if eJ y < eJ x then eJ x else eJ y) = eJ (max (wJ x) (wJ y)) := by
    by_cases h : wJ y < wJ x
    · rw [if_pos (eJ_lti.mpr h), Int.max_eq_left (by omega), eJ_w]
    · rw [if_neg (fun q => h (eJ_lti.mp q)), Int.max_eq_right (by omega), eJ_w]
  rw [hE]
  exact kk p e R s m args below meth c hc he H locs ls hP hD hS hl
theorem r_mminL {G : GG} {X : XX} {Z : ZZ} {L : List LE} {M : MM} {ce sl pc : Nat} {lv : List (Nat × Value)} {st : List Value} {x y x' y' : Int} {index : Nat} (hw : ML (xy X).cls index Lib.MathLoose.min_long.x Lib.MathLoose.min_long.code 4 .long) (hR : 1 ≤ xf X ∧ (st.map fun v => v.category).sum + 15 ≤ xl X ∧ ce ≤ xmc X ∧ sl ≤ xms X) (hx : wJ x = x') (hy : wJ y = y') (hd : decode (xc X) pc = .ok (.invokestatic index, 3)) (kk : VV G X Z L M ce sl (pc + 3) lv (.long (eJ (min x' y')) :: st)) : VV G X Z L M ce sl pc lv (.long (eJ y) :: .long (eJ x) :: st) := by
  subst hx hy
  intro p e R s m args below meth c hc he H locs ls hP hD hS hl
  obtain ⟨w1, w2, w3, w4⟩ := hw
  obtain ⟨r1, r2, r3, r4⟩ := hR
  obtain ⟨f1, f2, f3, f4⟩ := hc.2.2.2.2.2.2.2.2.2.2.2
  refine va_mmin_long hc.1 hc.2.1 (hc.2.2.2.1.trans hl.1.symm) hc.2.2.2.2.1 (hT_of hc w1) (hT_of hc w2) (hT_of hc w3) (hT_of hc w4) (Nat.le_trans r1 f1) (Nat.le_trans r2 f2) (Nat.le_trans r3 f3) (Nat.le_trans r4 f4) hd ?_
  have hE : (if eJ y < eJ x then eJ y else eJ x) = eJ (min (wJ x) (wJ y)) := by
    by_cases h : wJ y < wJ x
    · rw [if_pos (eJ_lti.mpr h), Int.min_eq_right (by omega), eJ_w]
    · rw [if_neg (fun q => h (eJ_lti.mp q)), Int.min_eq_left (by omega), eJ_w]
  rw [hE]
  exact kk p e R s m args below meth c hc he H locs ls hP hD hS hl
def byt (r : Nat → Int) (n : Nat) : Bool := (List.range n).all fun j => decide (-128 ≤ r j) && decide (r j ≤ 127)
theorem byt_ok {r : Nat → Int} {n : Nat} (h : byt r n = true) : ∀ j, j < n → -128 ≤ r j ∧ r j ≤ 127 := fun j hj => by
  have h1 := List.all_eq_true.mp h j (List.mem_range.mpr hj)
  simp only [Bool.and_eq_true, decide_eq_true_eq] at h1
  exact h1
def mC (M : MM) (a b n : Nat) : MM := fun q j => if q = b ∧ j < n then M a j else M q j
def MA (own : String) (idx : Nat) : Prop := Cond.methodLink own idx arraycopyName ∈ lw_good ∧ Cond.native arraycopyName ∈ lw_good ∧ Cond.static arraycopyName ∈ lw_good ∧ Cond.initialized "java/lang/System" ∈ lw_good
theorem mC_row {α : Type} {mk : Int → α} {M : MM} {a b n : Nat} : (fun j => mk (mC M a b n b j)) = va_cpy (fun j => mk (M a j)) (fun j => mk (M b j)) 0 0 n := by
  funext j
  unfold mC va_cpy
  by_cases h : j < n
  · rw [if_pos ⟨rfl, h⟩, if_pos ⟨Nat.zero_le _, by omega⟩]; simp
  · rw [if_neg (fun q => h q.2), if_neg (fun q => h (by omega))]
theorem mC_other {M : MM} {a b n q : Nat} (h : q ≠ b) : mC M a b n q = M q := by
  funext j; unfold mC; rw [if_neg (fun z => h z.1)]
theorem r_acpI {G : GG} {X : XX} {Z : ZZ} {L : List LE} {M : MM} {ce sl pc : Nat} {lv : List (Nat × Value)} {st : List Value} {a b n0 n1 index : Nat} {n n' : Int} {M' : MM} (hw : MA (xy X).cls index) (hR : 1 ≤ xf X ∧ (st.map fun v => v.category).sum + 18 ≤ xl X) (ha : AR L a 1 n0) (hb0 : AR L b 1 n1) (hn : wI n = n') (hg : 0 ≤ n' ∧ n' ≤ (n0 : Int) ∧ n' ≤ (n1 : Int)) (hM : some (mC M a b n'.toNat) = some M') (hd : decode (xc X) pc = .ok (.invokestatic index, 3)) (kk : VV G X Z L M' ce sl (pc + 3) lv (st)) : VV G X Z L M ce sl pc lv (.int (eI n) :: .int (eI 0) :: .ref (gA G b) :: .int (eI 0) :: .ref (gA G a) :: st) := by
  subst hn
  cases hM
  obtain ⟨r0, ha⟩ := ha
  obtain ⟨r1, hb0⟩ := hb0
  intro p e R s m args below meth c hc he H locs ls hP hD hS hl
  obtain ⟨w1, w2, w3, w4⟩ := hw
  obtain ⟨f1, f2, f3, f4⟩ := hc.2.2.2.2.2.2.2.2.2.2.2
  have z0 : (eI 0).toNatClampNeg = 0 := by decide +kernel
  have zn : (eI n).toNatClampNeg = (wI n).toNat := eI_clamp n
  refine va_copyi hc.1 hc.2.1 (hc.2.2.2.1.trans hl.1.symm) hc.2.2.2.2.1 (hT_of hc w1) (hT_of hc w2) (hT_of hc w3) (hT_of hc w4) hc.2.2.2.2.2.2.2.1 hP hD hS a b 0 0 (n0 := n0) (n1 := n1) (ty := .int) (wsO_at ha) (wsO_at hb0) rfl rfl rfl (by decide +kernel) (by decide +kernel) (eI_nlt0 hg.1) (by rw [z0, zn]; omega) (by rw [z0, zn]; omega) (fun _ _ => rfl) (Nat.le_trans hR.1 f1) (Nat.le_trans (by show _ + (7 + 11) ≤ _; omega) (Nat.le_trans hR.2 f2)) hd (fun H locs hP1 hD1 hS1 => ?_)
  rw [z0, zn] at hP1 hD1
  have hE : (wsO G L M).set b (gA G b, .inl (gcy G 1, n1, .inl (va_cpy (fun j => eI (M a j)) (fun j => eI (M b j)) 0 0 (wI n).toNat))) = wsO G L (mC M a b (wI n).toNat) := by
    refine wsO_set rfl ?_ (fun z hz => by rw [mC_other hz])
    rw [List.getD_eq_getElem?_getD, hb0, ← mC_row]; rfl
  rw [hE] at hP1 hD1
  exact kk p e R s m args below meth c hc he H locs ls hP1 hD1 hS1 hl
theorem r_acpB {G : GG} {X : XX} {Z : ZZ} {L : List LE} {M : MM} {ce sl pc : Nat} {lv : List (Nat × Value)} {st : List Value} {a b n0 n1 index : Nat} {n n' : Int} {M' : MM} (hw : MA (xy X).cls index) (hR : 1 ≤ xf X ∧ (st.map fun v => v.category).sum + 18 ≤ xl X) (ha : AR L a 3 n0) (hb0 : AR L b 3 n1) (hn : wI n = n') (hg : 0 ≤ n' ∧ n' ≤ (n0 : Int) ∧ n' ≤ (n1 : Int)) (hb : ∀ j, j < n'.toNat → -128 ≤ M a j ∧ M a j ≤ 127) (hM : some (mC M a b n'.toNat) = some M') (hd : decode (xc X) pc = .ok (.invokestatic index, 3)) (kk : VV G X Z L M' ce sl (pc + 3) lv (st)) : VV G X Z L M ce sl pc lv (.int (eI n) :: .int (eI 0) :: .ref (gA G b) :: .int (eI 0) :: .ref (gA G a) :: st) := by
  subst hn
  cases hM
  obtain ⟨r0, ha⟩ := ha
  obtain ⟨r1, hb0⟩ := hb0
  intro p e R s m args below meth c hc he H locs ls hP hD hS hl
  obtain ⟨w1, w2, w3, w4⟩ := hw
  obtain ⟨f1, f2, f3, f4⟩ := hc.2.2.2.2.2.2.2.2.2.2.2
  have z0 : (eI 0).toNatClampNeg = 0 := by decide +kernel
  have zn : (eI n).toNatClampNeg = (wI n).toNat := eI_clamp n
  refine va_copyi hc.1 hc.2.1 (hc.2.2.2.1.trans hl.1.symm) hc.2.2.2.2.1 (hT_of hc w1) (hT_of hc w2) (hT_of hc w3) (hT_of hc w4) hc.2.2.2.2.2.2.2.1 hP hD hS a b 2 2 (n0 := n0) (n1 := n1) (ty := .byte) (wsO_at ha) (wsO_at hb0) rfl rfl rfl (by decide +kernel) (by decide +kernel) (eI_nlt0 hg.1) (by rw [z0, zn]; omega) (by rw [z0, zn]; omega) (fun i hi => by rw [z0, Nat.zero_add]; rw [zn] at hi; exact fb_in (hb i hi)) (Nat.le_trans hR.1 f1) (Nat.le_trans (by show _ + (7 + 11) ≤ _; omega) (Nat.le_trans hR.2 f2)) hd (fun H locs hP1 hD1 hS1 => ?_)
  rw [z0, zn] at hP1 hD1
  have hE : (wsO G L M).set b (gA G b, .inl (gcy G 3, n1, .inl (va_cpy (fun j => eI (M a j)) (fun j => eI (M b j)) 0 0 (wI n).toNat))) = wsO G L (mC M a b (wI n).toNat) := by
    refine wsO_set rfl ?_ (fun z hz => by rw [mC_other hz])
    rw [List.getD_eq_getElem?_getD, hb0, ← mC_row]; rfl
  rw [hE] at hP1 hD1
  exact kk p e R s m args below meth c hc he H locs ls hP1 hD1 hS1 hl
theorem W_ldcwS {p : Program} {l : Launch} {e : Env} {R : Room} {s : State} {m : MethodId} {args : Array Value} {below : List Frame} {meth : Method} {c : Code} {T : State} {locs : List Loc} {cells slots : Nat} (X : Stand p l e R s m args below meth c T locs cells slots) (hexec : p.tables.exec = Jvm.exec) {own text : String} {index : Nat} {a : Addr} (hown : s.vm.findClass own = some m.cls) (hconst : (Cond.stringRef own index text).before args s = true) (hev : (Term.string own index).eval args s none [] s = some (.ref a)) {g : JFrame} (hg : g.method = m) (hdg : decode c.code g.pc = .ok (.ldc_w index, 3)) : ∀ target, Steps p.tables e below (T.setTop { g with pc := g.pc + 3, stack := .ref a :: g.stack }) target → Steps p.tables e below (T.setTop g) target := by
  obtain ⟨k, cf, i, a', hk, hcf, hcp, -, hr, hev'⟩ := Cond.stringRef_spec hown hconst
  cases hev.symm.trans hev'
  obtain ⟨k', hk', he⟩ := X.warmed.alike.2.2 _ _ hk
  have hr' : k'.resolved[index]? = some (some (.string a)) := by
    rcases X.warmed.entry hk hk' index with h | ⟨h, -⟩
    · rw [h]; exact hr
    · rw [hr] at h; cases h
  intro target hrest
  subst hg
  jvm_step X.here [hexec, hdg, ldc_w.wp_string (e := e) (s := T) (f := g) X.here.top hk' (by rw [he]; exact hcf) hcp hr']
  exact hrest
theorem r_ldcS {G : GG} {X : XX} {Z : ZZ} {L : List LE} {M : MM} {ce sl pc : Nat} {lv : List (Nat × Value)} {st : List Value} {index : Nat} {j : Nat} (hj : j < 28) (hi : kIx.getD j 0 = index) (hy : (xy X).cls = RX11) (hd : decode (xc X) pc = .ok (.ldc_w index, 3)) (kk : VV G X Z L M ce sl (pc + 3) lv (.ref (gK G j) :: st)) : VV G X Z L M ce sl pc lv (st) := by
  subst hi
  intro p e R s m args below meth c hc he H locs ls hP hD hS hl
  have hR := hc.2.2.2.2.2.2.2.2.1.2.2.2.1 j hj
  have hown := hc.2.2.2.2.1
  rw [hy] at hown
  intro T hT X0
  obtain ⟨t, a1, b1⟩ := kk p e R s m args below meth c hc he H locs ls hP hD hS hl T hT X0
  refine ⟨t, W_ldcwS X0 hc.1 hown (text := kTx.getD j "") (a := gK G j) hR.1 ?_ (g := F0 m pc ls st) rfl (by rw [hc.2.1]; exact hd) t a1, b1⟩
  exact hR.2
