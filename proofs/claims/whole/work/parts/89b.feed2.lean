def wrW (L : Nat) (x : Int) (g : Nat → Int) : Nat → Int := fun j => if j = L + 3 then byP x 0 else if j = L + 2 then byP x 8 else if j = L + 1 then byP x 16 else if j = L then byP x 24 else g j
theorem appA {x : Int} (r : R32 x) {T : MM} {L : Nat} (hL : T 1 1 = (L : Int)) (h6 : L + 4 ≤ 600) : ∃ T', sX9_append 1 x T = some T' ∧ (∀ a, a ≠ 1 → a ≠ 2 → T' a = T a) ∧ (∀ i, i ≠ 1 → T' 1 i = T 1 i) ∧ T' 1 1 = ((L + 4 : Nat) : Int) ∧ ∀ j, T' 2 j = wrW L x (T 2) j := by
  unfold sX9_append sX9_append_b0
  have eFU : FU = 99995 + 1 + 1 + 1 + 1 + 1 := rfl
  rw [eFU, show (24 : Int) = ((24 : Nat) : Int) from rfl, putA r hL (by omega) (by omega), show ((24 : Nat) : Int) + -8 = ((16 : Nat) : Int) from rfl, putA r (L := L + 1) (by rw [mU_eq]; omega) (by omega) (by omega), show ((16 : Nat) : Int) + -8 = ((8 : Nat) : Int) from rfl, putA r (L := L + 2) (by rw [mU_eq]; omega) (by omega) (by omega), show ((8 : Nat) : Int) + -8 = ((0 : Nat) : Int) from rfl, putA r (L := L + 3) (by rw [mU_eq]; omega) (by omega) (by omega), sX9_append_b3, wI_of (x := ((0 : Nat) : Int) + -8) (by omega) (by omega), if_pos (by omega)]
  refine ⟨_, rfl, fun a h1 h2 => ?_, fun i hi => ?_, ?_, fun j => ?_⟩
  · rw [mU_row _ _ h1, mU_row _ _ h2, mU_row _ _ h1, mU_row _ _ h2, mU_row _ _ h1, mU_row _ _ h2, mU_row _ _ h1, mU_row _ _ h2]
  · rw [mU_ne _ _ (by omega), mU_row _ _ (by omega), mU_ne _ _ (by omega), mU_row _ _ (by omega), mU_ne _ _ (by omega), mU_row _ _ (by omega), mU_ne _ _ (by omega), mU_row _ _ (by omega)]
  · rw [mU_eq]; omega
  · unfold wrW
    rw [mU_row _ _ (by omega)]
    by_cases e3 : j = L + 3
    · subst e3; rw [mU_eq, if_pos rfl]
    · rw [mU_ne _ _ (by omega), if_neg e3, mU_row _ _ (by omega)]
      by_cases e2 : j = L + 2
      · subst e2; rw [mU_eq, if_pos rfl]
      · rw [mU_ne _ _ (by omega), if_neg e2, mU_row _ _ (by omega)]
        by_cases e1 : j = L + 1
        · subst e1; rw [mU_eq, if_pos rfl]
        · rw [mU_ne _ _ (by omega), if_neg e1, mU_row _ _ (by omega)]
          by_cases e0 : j = L
          · subst e0; rw [mU_eq, if_pos rfl]
          · rw [mU_ne _ _ (by omega), if_neg e0]
theorem fouB {x : Int} (r : R32 x) {T : MM} {L : Nat} (hL : T 361 0 = (L : Int)) (h6 : L + 4 ≤ 600) : ∃ T', sX12_four 359 x T = some T' ∧ (∀ a, a ≠ 360 → a ≠ 361 → T' a = T a) ∧ (∀ i, i ≠ 0 → T' 361 i = T 361 i) ∧ T' 361 0 = ((L + 4 : Nat) : Int) ∧ ∀ j, T' 360 j = wrW L x (T 360) j := by
  unfold sX12_four sX12_four_b0
  have eFU : FU = 99995 + 1 + 1 + 1 + 1 + 1 := rfl
  rw [eFU, show (24 : Int) = ((24 : Nat) : Int) from rfl, putB r hL (by omega) (by omega), show ((24 : Nat) : Int) + -8 = ((16 : Nat) : Int) from rfl, putB r (L := L + 1) (by rw [mU_eq]; omega) (by omega) (by omega), show ((16 : Nat) : Int) + -8 = ((8 : Nat) : Int) from rfl, putB r (L := L + 2) (by rw [mU_eq]; omega) (by omega) (by omega), show ((8 : Nat) : Int) + -8 = ((0 : Nat) : Int) from rfl, putB r (L := L + 3) (by rw [mU_eq]; omega) (by omega) (by omega), sX12_four_b3, wI_of (x := ((0 : Nat) : Int) + -8) (by omega) (by omega), if_pos (by omega)]
  refine ⟨_, rfl, fun a h1 h2 => ?_, fun i hi => ?_, ?_, fun j => ?_⟩
  · rw [mU_row _ _ h2, mU_row _ _ h1, mU_row _ _ h2, mU_row _ _ h1, mU_row _ _ h2, mU_row _ _ h1, mU_row _ _ h2, mU_row _ _ h1]
  · rw [mU_ne _ _ (by omega), mU_row _ _ (by omega), mU_ne _ _ (by omega), mU_row _ _ (by omega), mU_ne _ _ (by omega), mU_row _ _ (by omega), mU_ne _ _ (by omega), mU_row _ _ (by omega)]
  · rw [mU_eq]; omega
  · unfold wrW
    rw [mU_row _ _ (by omega)]
    by_cases e3 : j = L + 3
    · subst e3; rw [mU_eq, if_pos rfl]
    · rw [mU_ne _ _ (by omega), if_neg e3, mU_row _ _ (by omega)]
      by_cases e2 : j = L + 2
      · subst e2; rw [mU_eq, if_pos rfl]
      · rw [mU_ne _ _ (by omega), if_neg e2, mU_row _ _ (by omega)]
        by_cases e1 : j = L + 1
        · subst e1; rw [mU_eq, if_pos rfl]
        · rw [mU_ne _ _ (by omega), if_neg e1, mU_row _ _ (by omega)]
          by_cases e0 : j = L
          · subst e0; rw [mU_eq, if_pos rfl]
          · rw [mU_ne _ _ (by omega), if_neg e0]
