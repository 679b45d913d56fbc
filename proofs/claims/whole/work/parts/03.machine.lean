abbrev MM : Type := Nat → Nat → Int
def eI (x : Int) : Int32 := Int32.ofInt x
def eJ (x : Int) : Int64 := Int64.ofInt x
def wI (x : Int) : Int := x.bmod 4294967296
def wJ (x : Int) : Int := x.bmod 18446744073709551616
theorem eI_toInt (x : Int) : (eI x).toInt = wI x := Int32.toInt_ofInt
theorem eJ_toInt (x : Int) : (eJ x).toInt = wJ x := Int64.toInt_ofInt
theorem eI_w (x : Int) : eI (wI x) = eI x := by rw [← eI_toInt]; exact Int32.ofInt_toInt _
theorem eJ_w (x : Int) : eJ (wJ x) = eJ x := by rw [← eJ_toInt]; exact Int64.ofInt_toInt _
theorem eI_of (x : Int32) : eI x.toInt = x := Int32.ofInt_toInt x
theorem eJ_of (x : Int64) : eJ x.toInt = x := Int64.ofInt_toInt x
theorem wI_of {x : Int} (h1 : -2147483648 ≤ x) (h2 : x ≤ 2147483647) : wI x = x := by
  unfold wI; rw [Int.bmod_def]; split <;> omega
theorem wJ_of {x : Int} (h1 : -9223372036854775808 ≤ x) (h2 : x ≤ 9223372036854775807) : wJ x = x := by
  unfold wJ; rw [Int.bmod_def]; split <;> omega
theorem wI_ge (x : Int) : -2147483648 ≤ wI x := by
  unfold wI; rw [Int.bmod_def]; split <;> omega
theorem wI_le (x : Int) : wI x ≤ 2147483647 := by
  unfold wI; rw [Int.bmod_def]; split <;> omega
theorem wJ_ge (x : Int) : -9223372036854775808 ≤ wJ x := by
  unfold wJ; rw [Int.bmod_def]; split <;> omega
theorem wJ_le (x : Int) : wJ x ≤ 9223372036854775807 := by
  unfold wJ; rw [Int.bmod_def]; split <;> omega
theorem eI_eqi {x y : Int} : eI x = eI y ↔ wI x = wI y := by rw [← Int32.toInt_inj, eI_toInt, eI_toInt]
theorem eJ_eqi {x y : Int} : eJ x = eJ y ↔ wJ x = wJ y := by rw [← Int64.toInt_inj, eJ_toInt, eJ_toInt]
theorem eI_lti {x y : Int} : eI x < eI y ↔ wI x < wI y := by rw [Int32.lt_iff_toInt_lt, eI_toInt, eI_toInt]
theorem eI_lei {x y : Int} : eI x ≤ eI y ↔ wI x ≤ wI y := by rw [Int32.le_iff_toInt_le, eI_toInt, eI_toInt]
theorem eJ_lti {x y : Int} : eJ x < eJ y ↔ wJ x < wJ y := by rw [Int64.lt_iff_toInt_lt, eJ_toInt, eJ_toInt]
theorem eI_0 : eI 0 = 0 := rfl
theorem wI_0 : wI 0 = 0 := by decide +kernel
theorem eI_in {i : Int} {n : Nat} (h : 0 ≤ wI i ∧ wI i < (n : Int)) : vp_in (eI i) n := by
  rw [vp_in_iff, eI_toInt]; exact h
theorem eI_clamp (i : Int) : (eI i).toNatClampNeg = (wI i).toNat := by
  show (eI i).toInt.toNat = _
  rw [eI_toInt]
theorem eI_nlt0 {x : Int} (h : 0 ≤ wI x) : ¬ eI x < 0 := by
  rw [← eI_0, eI_lti, wI_0]; omega
/-- a memory after a store -/
def mU (M : MM) (a k : Nat) (x : Int) : MM := fun b j => if b = a then (if j = k then x else M b j) else M b j
theorem mU_eq (M : MM) (a k : Nat) (x : Int) : mU M a k x a k = x := by simp [mU]
theorem mU_ne (M : MM) {a k b j : Nat} (x : Int) (h : b ≠ a ∨ j ≠ k) : mU M a k x b j = M b j := by
  unfold mU
  rcases h with h | h
  · rw [if_neg h]
  · by_cases hb : b = a
    · rw [if_pos hb, if_neg h]
    · rw [if_neg hb]
theorem mU_row (M : MM) {a k b : Nat} (x : Int) (h : b ≠ a) : mU M a k x b = M b := by
  funext j; exact mU_ne M x (Or.inl h)
abbrev GG : Type := Launch × va_G × Nat × (Nat → ClassId) × (Nat → Nat) × (Nat → Nat) × (Nat → Nat) × (Nat → Nat)
abbrev gl (G : GG) : Launch := G.1
abbrev gD (G : GG) : va_G := G.2.1
abbrev gB (G : GG) : Nat := G.2.2.1
abbrev gcy (G : GG) : Nat → ClassId := G.2.2.2.1
abbrev gzs (G : GG) : Nat → Nat := G.2.2.2.2.1
abbrev gK (G : GG) : Nat → Nat := G.2.2.2.2.2.1
abbrev gV (G : GG) : Nat → Nat := G.2.2.2.2.2.2.1
abbrev gA (G : GG) : Nat → Nat := G.2.2.2.2.2.2.2
abbrev LE : Type := Nat × Nat × List (Option Nat)
def clT : Nat → Nat → FieldType
  | 0 => tyX0 | 1 => tyX1 | 2 => tyX2 | 3 => tyX3 | 4 => tyX4 | 5 => tyX5 | 6 => tyX6 | 7 => tyX7 | 8 => tyX8 | 9 => tyX9 | 10 => tyX10 | 11 => tyX11 | _ => tyX12
def clN : Nat → Nat
  | 0 => 4 | 1 => 2 | 2 => 2 | 3 => 5 | 4 => 5 | 5 => 17 | 6 => 14 | 7 => 13 | 8 => 2 | 9 => 10 | 10 => 2 | 11 => 9 | _ => 68
def kd (t : FieldType) : Nat := match t with
  | .long => 1
  | .object _ => 2
  | .array _ => 2
  | _ => 0
def rV (B : Nat → Nat) (r : Option Nat) : Value := va_rf (r.map B)
def fV (B : Nat → Nat) (M : Nat → Int) (ci : Nat) (rs : List (Option Nat)) (k : Nat) : Value := match kd (clT ci k) with
  | 0 => .int (eI (M k))
  | 1 => .long (eJ (M k))
  | _ => rV B (rs.getD k none)
def cE (G : GG) (M : Nat → Int) (e : LE) : va_E := match e.1 with
  | 0 => .inr (e.2.1, (List.range (clN e.2.1)).map (fV (gA G) M e.2.1 e.2.2))
  | 2 => .inl (gcy G 2, e.2.1, .inr (.inl (fun j => eJ (M j))))
  | 1 => .inl (gcy G 1, e.2.1, .inl (fun j => eI (M j)))
  | 3 => .inl (gcy G 3, e.2.1, .inl (fun j => eI (M j)))
  | 4 => .inl (gcy G 4, e.2.1, .inl (fun j => eI (M j)))
  | n => .inl (gcy G n, e.2.1, .inr (.inr (.inr (.inr (fun j => (e.2.2.getD j none).map (gA G))))))
def wsO (G : GG) (L : List LE) (M : MM) : va_W := (List.range L.length).map (fun a => (gA G a, cE G (M a) (L.getD a (0, 0, []))))
theorem wsO_len (G : GG) (L : List LE) (M : MM) : (wsO G L M).length = L.length := by simp [wsO]
theorem wsO_at {G : GG} {L : List LE} {M : MM} {a : Nat} {e : LE} (h : L[a]? = some e) : (wsO G L M)[a]? = some (gA G a, cE G (M a) e) := by
  have hl : a < L.length := (List.getElem?_eq_some_iff.mp h).1
  unfold wsO
  rw [List.getElem?_map, List.getElem?_range hl]
  simp [List.getD_eq_getElem?_getD, h]
theorem wsO_inv {G : GG} {L : List LE} {M : MM} {a : Nat} {q : Nat × va_E} (h : (wsO G L M)[a]? = some q) : a < L.length ∧ q.1 = gA G a := by
  have hl : a < L.length := by rw [← wsO_len G L M]; exact (List.getElem?_eq_some_iff.mp h).1
  unfold wsO at h
  rw [List.getElem?_map, List.getElem?_range hl] at h
  cases h
  exact ⟨hl, rfl⟩
/-- what a method may write: every cell from the base on -/
def AG (G : GG) : Nat → Prop := fun q => gB G ≤ q
theorem wsO_set {G : GG} {L L' : List LE} {M M' : MM} {a : Nat} {e : va_E} (hl : L'.length = L.length) (ha : cE G (M' a) (L'.getD a (0, 0, [])) = e) (ho : ∀ b, b ≠ a → cE G (M' b) (L'.getD b (0, 0, [])) = cE G (M b) (L.getD b (0, 0, []))) : (wsO G L M).set a (gA G a, e) = wsO G L' M' := by
  unfold wsO
  apply List.ext_getElem?
  intro i
  rw [hl]
  by_cases h : i < L.length
  · by_cases hi : i = a
    · subst hi
      rw [List.getElem?_set_self (by simpa using h), List.getElem?_map, List.getElem?_range h]
      show some (gA G i, e) = some (gA G i, cE G (M' i) (L'.getD i (0, 0, [])))
      rw [ha]
    · rw [List.getElem?_set_ne (Ne.symm hi), List.getElem?_map, List.getElem?_map, List.getElem?_range h]
      exact congrArg (fun z => some (gA G i, z)) (ho i hi).symm
  · rw [List.getElem?_eq_none (by simpa using h), List.getElem?_eq_none (by simpa using h)]
theorem wsO_put {G : GG} {L : List LE} {M : MM} {a k : Nat} {x : Int} {e : va_E} {le : LE} (hL : L[a]? = some le) (he : cE G (mU M a k x a) le = e) : (wsO G L M).set a (gA G a, e) = wsO G L (mU M a k x) := by
  refine wsO_set rfl ?_ (fun b hb => by rw [mU_row M x hb])
  rw [List.getD_eq_getElem?_getD, hL]; exact he
