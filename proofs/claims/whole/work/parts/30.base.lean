theorem ob_s {α β : Type} (a : α) (f : α → Option β) : (some a).bind f = f a := rfl
theorem wI_w (x : Int) : wI (wI x) = wI x := wI_of (wI_ge x) (wI_le x)
theorem tN (n : Nat) : ((n : Int)).toNat = n := Int.toNat_natCast n
theorem loopW {σ β : Type} (F : Nat → σ → β) (I : σ → Prop) (mu : σ → Nat) (Q : β → Prop) (h : ∀ n s, I s → Q (F (n + 1) s) ∨ ∃ s', F (n + 1) s = F n s' ∧ I s' ∧ mu s' < mu s) : ∀ n s, I s → mu s < n → Q (F n s) := by
  intro n
  induction n with
  | zero => intro s _ hm; omega
  | succ n ih =>
    intro s hI hm
    rcases h n s hI with hq | ⟨s', e, hI', hm'⟩
    · exact hq
    · rw [e]; exact ih s' hI' (by omega)
theorem loopC {σ β : Type} (F : Nat → Int → σ → β) (N : Nat) (I : Nat → σ → Prop) (Q : β → Prop) (hx : ∀ n s, I N s → Q (F (n + 1) (N : Int) s)) (hs : ∀ n k s, k < N → I k s → Q (F (n + 1) (k : Int) s) ∨ ∃ s', F (n + 1) (k : Int) s = F n ((k : Int) + 1) s' ∧ I (k + 1) s') : ∀ n k s, k ≤ N → I k s → N - k < n → Q (F n (k : Int) s) := by
  intro n
  induction n with
  | zero => intro k s _ _ hm; omega
  | succ n ih =>
    intro k s hk hI hm
    by_cases h : k = N
    · subst h; exact hx n s hI
    · rcases hs n k s (by omega) hI with hq | ⟨s', e, hI'⟩
      · exact hq
      · rw [e]; exact ih (k + 1) s' (by omega) hI' (by omega)
/-- a fold over 0 .. n-1 -/
def fo {σ : Type} (f : Nat → σ → σ) : Nat → σ → σ
  | 0, s => s
  | n + 1, s => f n (fo f n s)
theorem fo_s {σ : Type} (f : Nat → σ → σ) (n : Nat) (s : σ) : fo f (n + 1) s = f n (fo f n s) := rfl
theorem fo_0 {σ : Type} (f : Nat → σ → σ) (s : σ) : fo f 0 s = s := rfl
theorem fo_ext {σ : Type} {f g : Nat → σ → σ} {n : Nat} (h : ∀ k, k < n → ∀ s, f k s = g k s) (s : σ) : fo f n s = fo g n s := by
  induction n with
  | zero => rfl
  | succ n ih => rw [fo_s, fo_s, ih (fun k hk s => h k (by omega) s)]; exact h n (by omega) _
/-- what calls of the class that ask leave as it is; what calls of the reference that ask leave as it is -/
def FC (M M' : MM) : Prop := ∀ a, a < 115 ∨ 130 < a → M' a = M a
def FR (M M' : MM) : Prop := ∀ a, a ≠ 359 → a < 370 ∨ 386 < a → M' a = M a
theorem FC_r (M : MM) : FC M M := fun _ _ => rfl
theorem FR_r (M : MM) : FR M M := fun _ _ _ => rfl
theorem FC_t {M M' M'' : MM} (h : FC M M') (h' : FC M' M'') : FC M M'' := fun a ha => (h' a ha).trans (h a ha)
theorem FR_t {M M' M'' : MM} (h : FR M M') (h' : FR M' M'') : FR M M'' := fun a ha hb => (h' a ha hb).trans (h a ha hb)
theorem FC_u {M M' : MM} {b k : Nat} {x : Int} (h : FC M M') (hb : 115 ≤ b ∧ b ≤ 130) : FC M (mU M' b k x) := fun a ha => by rw [mU_row M' x (show a ≠ b by omega)]; exact h a ha
theorem FR_u {M M' : MM} {b k : Nat} {x : Int} (h : FR M M') (hb : b = 359 ∨ (370 ≤ b ∧ b ≤ 386)) : FR M (mU M' b k x) := fun a ha hc => by rw [mU_row M' x (show a ≠ b by omega)]; exact h a ha hc
theorem mU_w {M : MM} {a k j : Nat} {x : Int} : mU M a k x a j = if j = k then x else M a j := by unfold mU; rw [if_pos rfl]
def PG (p : Nat) : Prop := gR p 1 = p + 1 ∧ gR p 2 = p + 2 ∧ gR p 4 = p + 3 ∧ gR p 5 = p + 4 ∧ gR p 6 = p + 5 ∧ gR p 7 = p + 6 ∧ gR p 8 = p + 7 ∧ gR p 9 = p + 8 ∧ gR p 10 = p + 9 ∧ gR p 11 = p + 10
def LG (q m : Nat) : Prop := gR q 1 = q + 1 ∧ gR q 2 = q + 2 ∧ gR q 3 = q + 3 ∧ ln (q + 1) = m ∧ ln (q + 2) = m ∧ ln (q + 3) = m
def tB (i : Nat) : Nat := if i = 0 then 1 else 55 + 76 * i
theorem tB_0 : tB 0 = 1 := rfl
theorem tB_1 : tB 1 = 131 := rfl
theorem tB_2 : tB 2 = 207 := rfl
theorem tB_3 : tB 3 = 283 := rfl
theorem PG_80 : PG 80 := by unfold PG; decide +kernel
theorem PG_t : ∀ i, i < 4 → ∀ k, k < 2 → PG (tB i + 8 + 34 * k) := by unfold PG; decide +kernel
theorem LG_91 : LG 91 40 := by unfold LG; decide +kernel
theorem LG_96 : LG 96 8 := by unfold LG; decide +kernel
theorem LG_101 : LG 101 25 := by unfold LG; decide +kernel
theorem LG_106 : LG 106 40 := by unfold LG; decide +kernel
theorem LG_110 : LG 110 15 := by unfold LG; decide +kernel
theorem LG_b : ∀ i, i < 4 → ∀ k, k < 2 → LG (tB i + 19 + 34 * k) 40 := by unfold LG; decide +kernel
theorem LG_c : ∀ i, i < 4 → ∀ k, k < 2 → LG (tB i + 24 + 34 * k) 8 := by unfold LG; decide +kernel
theorem LG_g : ∀ i, i < 4 → ∀ k, k < 2 → LG (tB i + 29 + 34 * k) 25 := by unfold LG; decide +kernel
theorem LG_s : ∀ i, i < 4 → ∀ k, k < 2 → LG (tB i + 34 + 34 * k) 40 := by unfold LG; decide +kernel
theorem LG_r : ∀ i, i < 4 → ∀ k, k < 2 → LG (tB i + 38 + 34 * k) 15 := by unfold LG; decide +kernel
theorem gC_t : ∀ i, i < 4 → ∀ k, k < 2 → gR (tB i + 23 + 34 * k) 0 = tB i + 24 + 34 * k ∧ gR (tB i + 23 + 34 * k) 1 = tB i + 28 + 34 * k := by decide +kernel
theorem gT_t : ∀ i, i < 4 → ∀ k, k < 2 → gR (tB i + 33 + 34 * k) 0 = tB i + 34 + 34 * k ∧ gR (tB i + 33 + 34 * k) 1 = tB i + 38 + 34 * k := by decide +kernel
theorem gB_t : ∀ i, i < 4 → gR (tB i) 0 = tB i + 1 ∧ gR (tB i) 4 = tB i + 2 ∧ gR (tB i) 5 = tB i + 3 ∧ gR (tB i) 6 = tB i + 4 ∧ gR (tB i) 7 = tB i + 5 ∧ gR (tB i) 8 = tB i + 6 ∧ gR (tB i) 9 = tB i + 7 := by decide +kernel
theorem gB_k : ∀ i, i < 4 → ∀ k, k < 2 → gR (tB i + 3) k = tB i + 8 + 34 * k ∧ gR (tB i + 4) k = tB i + 19 + 34 * k ∧ gR (tB i + 5) k = tB i + 23 + 34 * k ∧ gR (tB i + 6) k = tB i + 29 + 34 * k ∧ gR (tB i + 7) k = tB i + 33 + 34 * k := by decide +kernel
theorem gI_k : ∀ k, k < 3 → gR 77 k = tB (k + 1) := by decide +kernel
theorem g0_0 : gR 0 0 = 1 := by decide +kernel
theorem g0_1 : gR 0 1 = 77 := by decide +kernel
theorem g0_2 : gR 0 2 = 78 := by decide +kernel
theorem g0_3 : gR 0 3 = 79 := by decide +kernel
theorem g0_4 : gR 0 4 = 115 := by decide +kernel
theorem g0_5 : gR 0 5 = 119 := by decide +kernel
theorem g0_6 : gR 0 6 = 121 := by decide +kernel
theorem g0_7 : gR 0 7 = 127 := by decide +kernel
theorem g0_8 : gR 0 8 = 130 := by decide +kernel
theorem g1_0 : gR 1 0 = 2 := by decide +kernel
theorem g1_4 : gR 1 4 = 3 := by decide +kernel
theorem g1_5 : gR 1 5 = 4 := by decide +kernel
theorem g1_6 : gR 1 6 = 5 := by decide +kernel
theorem g1_7 : gR 1 7 = 6 := by decide +kernel
theorem g1_8 : gR 1 8 = 7 := by decide +kernel
theorem g1_9 : gR 1 9 = 8 := by decide +kernel
theorem g79_0 : gR 79 0 = 80 := by decide +kernel
theorem g79_1 : gR 79 1 = 91 := by decide +kernel
theorem g79_2 : gR 79 2 = 95 := by decide +kernel
theorem g79_3 : gR 79 3 = 101 := by decide +kernel
theorem g79_4 : gR 79 4 = 105 := by decide +kernel
theorem g79_7 : gR 79 7 = 114 := by decide +kernel
theorem g95_0 : gR 95 0 = 96 := by decide +kernel
theorem g95_1 : gR 95 1 = 100 := by decide +kernel
theorem g105_0 : gR 105 0 = 106 := by decide +kernel
theorem g105_1 : gR 105 1 = 110 := by decide +kernel
theorem g115_9 : gR 115 9 = 116 := by decide +kernel
theorem g115_10 : gR 115 10 = 117 := by decide +kernel
theorem g115_11 : gR 115 11 = 118 := by decide +kernel
theorem g119_0 : gR 119 0 = 120 := by decide +kernel
theorem g121_0 : gR 121 0 = 122 := by decide +kernel
theorem g121_1 : gR 121 1 = 123 := by decide +kernel
theorem g121_2 : gR 121 2 = 124 := by decide +kernel
theorem g121_3 : gR 121 3 = 125 := by decide +kernel
theorem g121_4 : gR 121 4 = 126 := by decide +kernel
theorem g127_0 : gR 127 0 = 128 := by decide +kernel
theorem g127_1 : gR 127 1 = 129 := by decide +kernel
theorem g359_1 : gR 359 1 = 360 := by decide +kernel
theorem g359_2 : gR 359 2 = 361 := by decide +kernel
theorem g359_3 : gR 359 3 = 362 := by decide +kernel
theorem g359_4 : gR 359 4 = 363 := by decide +kernel
theorem g359_5 : gR 359 5 = 364 := by decide +kernel
theorem g359_6 : gR 359 6 = 365 := by decide +kernel
theorem g359_7 : gR 359 7 = 366 := by decide +kernel
theorem g359_8 : gR 359 8 = 367 := by decide +kernel
theorem g359_9 : gR 359 9 = 368 := by decide +kernel
theorem g359_10 : gR 359 10 = 369 := by decide +kernel
theorem g359_20 : gR 359 20 = 370 := by decide +kernel
theorem g359_21 : gR 359 21 = 371 := by decide +kernel
theorem g359_40 : gR 359 40 = 372 := by decide +kernel
theorem g359_41 : gR 359 41 = 373 := by decide +kernel
theorem g359_42 : gR 359 42 = 374 := by decide +kernel
theorem g359_43 : gR 359 43 = 375 := by decide +kernel
theorem g359_44 : gR 359 44 = 376 := by decide +kernel
theorem g359_45 : gR 359 45 = 377 := by decide +kernel
theorem g359_47 : gR 359 47 = 378 := by decide +kernel
theorem g359_49 : gR 359 49 = 379 := by decide +kernel
theorem g359_50 : gR 359 50 = 380 := by decide +kernel
theorem g359_51 : gR 359 51 = 381 := by decide +kernel
theorem g359_52 : gR 359 52 = 382 := by decide +kernel
theorem g359_57 : gR 359 57 = 383 := by decide +kernel
theorem g359_59 : gR 359 59 = 384 := by decide +kernel
theorem g359_61 : gR 359 61 = 385 := by decide +kernel
theorem g359_62 : gR 359 62 = 386 := by decide +kernel
theorem g359_67 : gR 359 67 = 387 := by decide +kernel
theorem l360_ : ln 360 = 2400 := by decide +kernel
theorem l365_ : ln 365 = 1056 := by decide +kernel
theorem l366_ : ln 366 = 968 := by decide +kernel
theorem l367_ : ln 367 = 264 := by decide +kernel
theorem l368_ : ln 368 = 408 := by decide +kernel
theorem l369_ : ln 369 = 776 := by decide +kernel
theorem l361_ : ln 361 = 4 := by decide +kernel
theorem l362_ : ln 362 = 4 := by decide +kernel
theorem l363_ : ln 363 = 4 := by decide +kernel
theorem l364_ : ln 364 = 20 := by decide +kernel
