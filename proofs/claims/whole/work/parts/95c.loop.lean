/-- the places of a call in the script -/
def YY (lx : Nat) (x3 : Int) (y : Nat → Int) : Prop := ∀ i, i < 6 → (wI (x3 + ((i : Nat) : Int)) = y i ∧ 0 ≤ y i ∧ y i < (lx : Int))
theorem op_0 {xs : Nat → Int} {lx : Nat} {K : Int → MM → Option Int} {x3 : Int} {y : Nat → Int} {M : MM} (h : INV M) (hx : ∀ j, R32 (xs j)) (hy : YY lx x3 y) (hK : ∀ N, INV N → sL_law_b1792 xs lx 0 359 K x3 N = some 1) : (if 0 ≤ wI (x3 + 1) ∧ wI (x3 + 1) < (lx : Int) then (if 0 ≤ wI (x3 + 2) ∧ wI (x3 + 2) < (lx : Int) then (if 0 ≤ wI (x3 + 3) ∧ wI (x3 + 3) < (lx : Int) then (if 0 ≤ wI (x3 + 4) ∧ wI (x3 + 4) < (lx : Int) then (if 0 ≤ wI (x3 + 5) ∧ wI (x3 + 5) < (lx : Int) then ((sX11_feed 0 (xs (wI (x3 + 1)).toNat) (xs (wI (x3 + 2)).toNat) (xs (wI (x3 + 3)).toNat) (xs (wI (x3 + 4)).toNat) (xs (wI (x3 + 5)).toNat) M).bind fun q_9 => (if 0 ≤ wI (x3 + 1) ∧ wI (x3 + 1) < (lx : Int) then (if 0 ≤ wI (x3 + 2) ∧ wI (x3 + 2) < (lx : Int) then (if 0 ≤ wI (x3 + 3) ∧ wI (x3 + 3) < (lx : Int) then (if 0 ≤ wI (x3 + 4) ∧ wI (x3 + 4) < (lx : Int) then (if 0 ≤ wI (x3 + 5) ∧ wI (x3 + 5) < (lx : Int) then ((sX12_feed 359 (xs (wI (x3 + 1)).toNat) (xs (wI (x3 + 2)).toNat) (xs (wI (x3 + 3)).toNat) (xs (wI (x3 + 4)).toNat) (xs (wI (x3 + 5)).toNat) q_9.2).bind fun q_15 => (if wI (q_9.1) = wI (q_15.1) then (sL_law_b1792 xs lx 0 359 K x3 q_15.2) else (some (0)))) else none) else none) else none) else none) else none)) else none) else none) else none) else none) else none) = some 1 := by
  obtain ⟨e1, c1⟩ := hy 1 (by omega)
  obtain ⟨e2, c2⟩ := hy 2 (by omega)
  obtain ⟨e3, c3⟩ := hy 3 (by omega)
  obtain ⟨e4, c4⟩ := hy 4 (by omega)
  obtain ⟨e5, c5⟩ := hy 5 (by omega)
  rw [show (((1 : Nat) : Nat) : Int) = 1 from rfl] at e1
  rw [show (((2 : Nat) : Nat) : Int) = 2 from rfl] at e2
  rw [show (((3 : Nat) : Nat) : Int) = 3 from rfl] at e3
  rw [show (((4 : Nat) : Nat) : Int) = 4 from rfl] at e4
  rw [show (((5 : Nat) : Nat) : Int) = 5 from rfl] at e5
  simp only [e1, e2, e3, e4, e5, if_pos c1, if_pos c2, if_pos c3, if_pos c4, if_pos c5]
  obtain ⟨v, v', M1, M2, a1, a2, a3, a4⟩ := e_feed h (hx _) (hx _) (hx _) (hx _) (hx _)
  rw [a1, ob_s]
  dsimp only
  rw [a2, ob_s]
  dsimp only
  rw [if_pos a3]; exact hK _ a4
theorem op_1 {xs : Nat → Int} {lx : Nat} {K : Int → MM → Option Int} {x3 : Int} {y : Nat → Int} {M : MM} (h : INV M) (hx : ∀ j, R32 (xs j)) (hy : YY lx x3 y) (hK : ∀ N, INV N → sL_law_b1792 xs lx 0 359 K x3 N = some 1) : (if 0 ≤ wI (x3 + 1) ∧ wI (x3 + 1) < (lx : Int) then ((sX11_end 0 (xs (wI (x3 + 1)).toNat) M).bind fun q_19 => (if 0 ≤ wI (x3 + 1) ∧ wI (x3 + 1) < (lx : Int) then ((sX12_end 359 (xs (wI (x3 + 1)).toNat) q_19.2).bind fun q_21 => (if wI (q_19.1) = wI (q_21.1) then (sL_law_b1792 xs lx 0 359 K x3 q_21.2) else (some (0)))) else none)) else none) = some 1 := by
  obtain ⟨e1, c1⟩ := hy 1 (by omega)
  obtain ⟨e2, c2⟩ := hy 2 (by omega)
  obtain ⟨e3, c3⟩ := hy 3 (by omega)
  obtain ⟨e4, c4⟩ := hy 4 (by omega)
  obtain ⟨e5, c5⟩ := hy 5 (by omega)
  rw [show (((1 : Nat) : Nat) : Int) = 1 from rfl] at e1
  rw [show (((2 : Nat) : Nat) : Int) = 2 from rfl] at e2
  rw [show (((3 : Nat) : Nat) : Int) = 3 from rfl] at e3
  rw [show (((4 : Nat) : Nat) : Int) = 4 from rfl] at e4
  rw [show (((5 : Nat) : Nat) : Int) = 5 from rfl] at e5
  simp only [e1, e2, e3, e4, e5, if_pos c1, if_pos c2, if_pos c3, if_pos c4, if_pos c5]
  obtain ⟨v, v', M1, M2, a1, a2, a3, a4⟩ := e_end h (hx _)
  rw [a1, ob_s]
  dsimp only
  rw [a2, ob_s]
  dsimp only
  rw [if_pos a3]; exact hK _ a4
theorem op_2 {xs : Nat → Int} {lx : Nat} {K : Int → MM → Option Int} {x3 : Int} {y : Nat → Int} {M : MM} (h : INV M) (hx : ∀ j, R32 (xs j)) (hy : YY lx x3 y) (hK : ∀ N, INV N → sL_law_b1792 xs lx 0 359 K x3 N = some 1) : (if 0 ≤ wI (x3 + 1) ∧ wI (x3 + 1) < (lx : Int) then (if 0 ≤ wI (x3 + 2) ∧ wI (x3 + 2) < (lx : Int) then ((sX11_text 0 (xs (wI (x3 + 1)).toNat) (xs (wI (x3 + 2)).toNat) M).bind fun q_26 => (if 0 ≤ wI (x3 + 1) ∧ wI (x3 + 1) < (lx : Int) then (if 0 ≤ wI (x3 + 2) ∧ wI (x3 + 2) < (lx : Int) then ((sX12_text 359 (xs (wI (x3 + 1)).toNat) (xs (wI (x3 + 2)).toNat) q_26.2).bind fun q_29 => (if wI (q_26.1) = wI (q_29.1) then (sL_law_b1792 xs lx 0 359 K x3 q_29.2) else (some (0)))) else none) else none)) else none) else none) = some 1 := by
  obtain ⟨e1, c1⟩ := hy 1 (by omega)
  obtain ⟨e2, c2⟩ := hy 2 (by omega)
  obtain ⟨e3, c3⟩ := hy 3 (by omega)
  obtain ⟨e4, c4⟩ := hy 4 (by omega)
  obtain ⟨e5, c5⟩ := hy 5 (by omega)
  rw [show (((1 : Nat) : Nat) : Int) = 1 from rfl] at e1
  rw [show (((2 : Nat) : Nat) : Int) = 2 from rfl] at e2
  rw [show (((3 : Nat) : Nat) : Int) = 3 from rfl] at e3
  rw [show (((4 : Nat) : Nat) : Int) = 4 from rfl] at e4
  rw [show (((5 : Nat) : Nat) : Int) = 5 from rfl] at e5
  simp only [e1, e2, e3, e4, e5, if_pos c1, if_pos c2, if_pos c3, if_pos c4, if_pos c5]
  obtain ⟨v, v', M1, M2, a1, a2, a3, a4⟩ := e_text h (hx _) (hx _)
  rw [a1, ob_s]
  dsimp only
  rw [a2, ob_s]
  dsimp only
  rw [if_pos a3]; exact hK _ a4
theorem op_3 {xs : Nat → Int} {lx : Nat} {K : Int → MM → Option Int} {x3 : Int} {y : Nat → Int} {M : MM} (h : INV M) (hx : ∀ j, R32 (xs j)) (hy : YY lx x3 y) (hK : ∀ N, INV N → sL_law_b1792 xs lx 0 359 K x3 N = some 1) : (if 0 ≤ wI (x3 + 1) ∧ wI (x3 + 1) < (lx : Int) then (if 0 ≤ wI (x3 + 1) ∧ wI (x3 + 1) < (lx : Int) then ((sX12_fault 359 (xs (wI (x3 + 1)).toNat) M).bind fun q_34 => (if wI (sX11_fault 0 (xs (wI (x3 + 1)).toNat) M) = wI (q_34.1) then (sL_law_b1792 xs lx 0 359 K x3 q_34.2) else (some (0)))) else none) else none) = some 1 := by
  obtain ⟨e1, c1⟩ := hy 1 (by omega)
  obtain ⟨e2, c2⟩ := hy 2 (by omega)
  obtain ⟨e3, c3⟩ := hy 3 (by omega)
  obtain ⟨e4, c4⟩ := hy 4 (by omega)
  obtain ⟨e5, c5⟩ := hy 5 (by omega)
  rw [show (((1 : Nat) : Nat) : Int) = 1 from rfl] at e1
  rw [show (((2 : Nat) : Nat) : Int) = 2 from rfl] at e2
  rw [show (((3 : Nat) : Nat) : Int) = 3 from rfl] at e3
  rw [show (((4 : Nat) : Nat) : Int) = 4 from rfl] at e4
  rw [show (((5 : Nat) : Nat) : Int) = 5 from rfl] at e5
  simp only [e1, e2, e3, e4, e5, if_pos c1, if_pos c2, if_pos c3, if_pos c4, if_pos c5]
  obtain ⟨v, v', M2, a1, a2, a3, a4⟩ := e_fault h
  rw [a2, ob_s]
  dsimp only
  rw [if_pos (by rw [a1]; exact a3)]; exact hK _ a4
theorem op_4 {xs : Nat → Int} {lx : Nat} {K : Int → MM → Option Int} {x3 : Int} {y : Nat → Int} {M : MM} (h : INV M) (hx : ∀ j, R32 (xs j)) (hy : YY lx x3 y) (hK : ∀ N, INV N → sL_law_b1792 xs lx 0 359 K x3 N = some 1) : (if 0 ≤ wI (x3 + 1) ∧ wI (x3 + 1) < (lx : Int) then (if 0 ≤ wI (x3 + 2) ∧ wI (x3 + 2) < (lx : Int) then ((sX11_party 0 (xs (wI (x3 + 1)).toNat) (xs (wI (x3 + 2)).toNat) M).bind fun q_39 => (if 0 ≤ wI (x3 + 1) ∧ wI (x3 + 1) < (lx : Int) then (if 0 ≤ wI (x3 + 2) ∧ wI (x3 + 2) < (lx : Int) then ((sX12_party 359 (xs (wI (x3 + 1)).toNat) (xs (wI (x3 + 2)).toNat) M).bind fun q_42 => (if wI q_39 = wI (q_42.1) then (sL_law_b1792 xs lx 0 359 K x3 q_42.2) else (some (0)))) else none) else none)) else none) else none) = some 1 := by
  obtain ⟨e1, c1⟩ := hy 1 (by omega)
  obtain ⟨e2, c2⟩ := hy 2 (by omega)
  obtain ⟨e3, c3⟩ := hy 3 (by omega)
  obtain ⟨e4, c4⟩ := hy 4 (by omega)
  obtain ⟨e5, c5⟩ := hy 5 (by omega)
  rw [show (((1 : Nat) : Nat) : Int) = 1 from rfl] at e1
  rw [show (((2 : Nat) : Nat) : Int) = 2 from rfl] at e2
  rw [show (((3 : Nat) : Nat) : Int) = 3 from rfl] at e3
  rw [show (((4 : Nat) : Nat) : Int) = 4 from rfl] at e4
  rw [show (((5 : Nat) : Nat) : Int) = 5 from rfl] at e5
  simp only [e1, e2, e3, e4, e5, if_pos c1, if_pos c2, if_pos c3, if_pos c4, if_pos c5]
  obtain ⟨v, v', M2, a1, a2, a3, a4⟩ := e_party h (hx _) (hx _)
  rw [a1, ob_s]
  rw [a2, ob_s]
  dsimp only
  rw [if_pos a3]; exact hK _ a4
theorem op_5 {xs : Nat → Int} {lx : Nat} {K : Int → MM → Option Int} {x3 : Int} {y : Nat → Int} {M : MM} (h : INV M) (hx : ∀ j, R32 (xs j)) (hy : YY lx x3 y) (hK : ∀ N, INV N → sL_law_b1792 xs lx 0 359 K x3 N = some 1) : (if 0 ≤ wI (x3 + 1) ∧ wI (x3 + 1) < (lx : Int) then (if 0 ≤ wI (x3 + 2) ∧ wI (x3 + 2) < (lx : Int) then (if 0 ≤ wI (x3 + 3) ∧ wI (x3 + 3) < (lx : Int) then ((sX11_child 0 (xs (wI (x3 + 1)).toNat) (xs (wI (x3 + 2)).toNat) (xs (wI (x3 + 3)).toNat) M).bind fun q_48 => (if 0 ≤ wI (x3 + 1) ∧ wI (x3 + 1) < (lx : Int) then (if 0 ≤ wI (x3 + 2) ∧ wI (x3 + 2) < (lx : Int) then (if 0 ≤ wI (x3 + 3) ∧ wI (x3 + 3) < (lx : Int) then ((sX12_child 359 (xs (wI (x3 + 1)).toNat) (xs (wI (x3 + 2)).toNat) (xs (wI (x3 + 3)).toNat) M).bind fun q_52 => (if wI q_48 = wI (q_52.1) then (sL_law_b1792 xs lx 0 359 K x3 q_52.2) else (some (0)))) else none) else none) else none)) else none) else none) else none) = some 1 := by
  obtain ⟨e1, c1⟩ := hy 1 (by omega)
  obtain ⟨e2, c2⟩ := hy 2 (by omega)
  obtain ⟨e3, c3⟩ := hy 3 (by omega)
  obtain ⟨e4, c4⟩ := hy 4 (by omega)
  obtain ⟨e5, c5⟩ := hy 5 (by omega)
  rw [show (((1 : Nat) : Nat) : Int) = 1 from rfl] at e1
  rw [show (((2 : Nat) : Nat) : Int) = 2 from rfl] at e2
  rw [show (((3 : Nat) : Nat) : Int) = 3 from rfl] at e3
  rw [show (((4 : Nat) : Nat) : Int) = 4 from rfl] at e4
  rw [show (((5 : Nat) : Nat) : Int) = 5 from rfl] at e5
  simp only [e1, e2, e3, e4, e5, if_pos c1, if_pos c2, if_pos c3, if_pos c4, if_pos c5]
  obtain ⟨v, v', M2, a1, a2, a3, a4⟩ := e_child h (hx _) (hx _) (hx _)
  rw [a1, ob_s]
  rw [a2, ob_s]
  dsimp only
  rw [if_pos a3]; exact hK _ a4
theorem op_6 {xs : Nat → Int} {lx : Nat} {K : Int → MM → Option Int} {x3 : Int} {y : Nat → Int} {M : MM} (h : INV M) (hx : ∀ j, R32 (xs j)) (hy : YY lx x3 y) (hK : ∀ N, INV N → sL_law_b1792 xs lx 0 359 K x3 N = some 1) : (if 0 ≤ wI (x3 + 1) ∧ wI (x3 + 1) < (lx : Int) then (if 0 ≤ wI (x3 + 2) ∧ wI (x3 + 2) < (lx : Int) then (if 0 ≤ wI (x3 + 3) ∧ wI (x3 + 3) < (lx : Int) then ((sX11_deed 0 (xs (wI (x3 + 1)).toNat) (xs (wI (x3 + 2)).toNat) (xs (wI (x3 + 3)).toNat) M).bind fun q_58 => (if 0 ≤ wI (x3 + 1) ∧ wI (x3 + 1) < (lx : Int) then (if 0 ≤ wI (x3 + 2) ∧ wI (x3 + 2) < (lx : Int) then (if 0 ≤ wI (x3 + 3) ∧ wI (x3 + 3) < (lx : Int) then ((sX12_deed 359 (xs (wI (x3 + 1)).toNat) (xs (wI (x3 + 2)).toNat) (xs (wI (x3 + 3)).toNat) M).bind fun q_62 => (if wI q_58 = wI (q_62.1) then (sL_law_b1792 xs lx 0 359 K x3 q_62.2) else (some (0)))) else none) else none) else none)) else none) else none) else none) = some 1 := by
  obtain ⟨e1, c1⟩ := hy 1 (by omega)
  obtain ⟨e2, c2⟩ := hy 2 (by omega)
  obtain ⟨e3, c3⟩ := hy 3 (by omega)
  obtain ⟨e4, c4⟩ := hy 4 (by omega)
  obtain ⟨e5, c5⟩ := hy 5 (by omega)
  rw [show (((1 : Nat) : Nat) : Int) = 1 from rfl] at e1
  rw [show (((2 : Nat) : Nat) : Int) = 2 from rfl] at e2
  rw [show (((3 : Nat) : Nat) : Int) = 3 from rfl] at e3
  rw [show (((4 : Nat) : Nat) : Int) = 4 from rfl] at e4
  rw [show (((5 : Nat) : Nat) : Int) = 5 from rfl] at e5
  simp only [e1, e2, e3, e4, e5, if_pos c1, if_pos c2, if_pos c3, if_pos c4, if_pos c5]
  obtain ⟨v, v', M2, a1, a2, a3, a4⟩ := e_deed h (hx _) (hx _) (hx _)
  rw [a1, ob_s]
  rw [a2, ob_s]
  dsimp only
  rw [if_pos a3]; exact hK _ a4
theorem op_7 {xs : Nat → Int} {lx : Nat} {K : Int → MM → Option Int} {x3 : Int} {y : Nat → Int} {M : MM} (h : INV M) (hx : ∀ j, R32 (xs j)) (hy : YY lx x3 y) (hK : ∀ N, INV N → sL_law_b1792 xs lx 0 359 K x3 N = some 1) : (if 0 ≤ wI (x3 + 1) ∧ wI (x3 + 1) < (lx : Int) then (if 0 ≤ wI (x3 + 2) ∧ wI (x3 + 2) < (lx : Int) then ((sX11_stop 0 (xs (wI (x3 + 1)).toNat) (xs (wI (x3 + 2)).toNat) M).bind fun q_67 => (if 0 ≤ wI (x3 + 1) ∧ wI (x3 + 1) < (lx : Int) then (if 0 ≤ wI (x3 + 2) ∧ wI (x3 + 2) < (lx : Int) then ((sX12_stop 359 (xs (wI (x3 + 1)).toNat) (xs (wI (x3 + 2)).toNat) q_67.2).bind fun q_70 => (if wI (q_67.1) = wI (q_70.1) then (sL_law_b1792 xs lx 0 359 K x3 q_70.2) else (some (0)))) else none) else none)) else none) else none) = some 1 := by
  obtain ⟨e1, c1⟩ := hy 1 (by omega)
  obtain ⟨e2, c2⟩ := hy 2 (by omega)
  obtain ⟨e3, c3⟩ := hy 3 (by omega)
  obtain ⟨e4, c4⟩ := hy 4 (by omega)
  obtain ⟨e5, c5⟩ := hy 5 (by omega)
  rw [show (((1 : Nat) : Nat) : Int) = 1 from rfl] at e1
  rw [show (((2 : Nat) : Nat) : Int) = 2 from rfl] at e2
  rw [show (((3 : Nat) : Nat) : Int) = 3 from rfl] at e3
  rw [show (((4 : Nat) : Nat) : Int) = 4 from rfl] at e4
  rw [show (((5 : Nat) : Nat) : Int) = 5 from rfl] at e5
  simp only [e1, e2, e3, e4, e5, if_pos c1, if_pos c2, if_pos c3, if_pos c4, if_pos c5]
  obtain ⟨v, v', M1, M2, a1, a2, a3, a4⟩ := e_stop h (hx _) (hx _)
  rw [a1, ob_s]
  dsimp only
  rw [a2, ob_s]
  dsimp only
  rw [if_pos a3]; exact hK _ a4
theorem op_8 {xs : Nat → Int} {lx : Nat} {K : Int → MM → Option Int} {x3 : Int} {y : Nat → Int} {M : MM} (h : INV M) (hx : ∀ j, R32 (xs j)) (hy : YY lx x3 y) (hK : ∀ N, INV N → sL_law_b1792 xs lx 0 359 K x3 N = some 1) : (if 0 ≤ wI (x3 + 1) ∧ wI (x3 + 1) < (lx : Int) then (if 0 ≤ wI (x3 + 2) ∧ wI (x3 + 2) < (lx : Int) then (if 0 ≤ wI (x3 + 3) ∧ wI (x3 + 3) < (lx : Int) then (if 0 ≤ wI (x3 + 4) ∧ wI (x3 + 4) < (lx : Int) then ((sX11_state 0 (xs (wI (x3 + 1)).toNat) (xs (wI (x3 + 2)).toNat) (xs (wI (x3 + 3)).toNat) (xs (wI (x3 + 4)).toNat) M).bind fun q_77 => (if 0 ≤ wI (x3 + 1) ∧ wI (x3 + 1) < (lx : Int) then (if 0 ≤ wI (x3 + 2) ∧ wI (x3 + 2) < (lx : Int) then (if 0 ≤ wI (x3 + 3) ∧ wI (x3 + 3) < (lx : Int) then (if 0 ≤ wI (x3 + 4) ∧ wI (x3 + 4) < (lx : Int) then ((sX12_state 359 (xs (wI (x3 + 1)).toNat) (xs (wI (x3 + 2)).toNat) (xs (wI (x3 + 3)).toNat) (xs (wI (x3 + 4)).toNat) q_77.2).bind fun q_82 => (if wI (q_77.1) = wI (q_82.1) then (sL_law_b1792 xs lx 0 359 K x3 q_82.2) else (some (0)))) else none) else none) else none) else none)) else none) else none) else none) else none) = some 1 := by
  obtain ⟨e1, c1⟩ := hy 1 (by omega)
  obtain ⟨e2, c2⟩ := hy 2 (by omega)
  obtain ⟨e3, c3⟩ := hy 3 (by omega)
  obtain ⟨e4, c4⟩ := hy 4 (by omega)
  obtain ⟨e5, c5⟩ := hy 5 (by omega)
  rw [show (((1 : Nat) : Nat) : Int) = 1 from rfl] at e1
  rw [show (((2 : Nat) : Nat) : Int) = 2 from rfl] at e2
  rw [show (((3 : Nat) : Nat) : Int) = 3 from rfl] at e3
  rw [show (((4 : Nat) : Nat) : Int) = 4 from rfl] at e4
  rw [show (((5 : Nat) : Nat) : Int) = 5 from rfl] at e5
  simp only [e1, e2, e3, e4, e5, if_pos c1, if_pos c2, if_pos c3, if_pos c4, if_pos c5]
  obtain ⟨v, v', M1, M2, a1, a2, a3, a4⟩ := e_state h (hx _) (hx _) (hx _) (hx _)
  rw [a1, ob_s]
  dsimp only
  rw [a2, ob_s]
  dsimp only
  rw [if_pos a3]; exact hK _ a4
theorem op_9 {xs : Nat → Int} {lx : Nat} {K : Int → MM → Option Int} {x3 : Int} {y : Nat → Int} {M : MM} (h : INV M) (hx : ∀ j, R32 (xs j)) (hy : YY lx x3 y) (hK : ∀ N, INV N → sL_law_b1792 xs lx 0 359 K x3 N = some 1) : (if 0 ≤ wI (x3 + 1) ∧ wI (x3 + 1) < (lx : Int) then (if 0 ≤ wI (x3 + 2) ∧ wI (x3 + 2) < (lx : Int) then (if 0 ≤ wI (x3 + 3) ∧ wI (x3 + 3) < (lx : Int) then (if 0 ≤ wI (x3 + 4) ∧ wI (x3 + 4) < (lx : Int) then (if 0 ≤ wI (x3 + 5) ∧ wI (x3 + 5) < (lx : Int) then ((sX11_did 0 (xs (wI (x3 + 1)).toNat) (xs (wI (x3 + 2)).toNat) (xs (wI (x3 + 3)).toNat) (xs (wI (x3 + 4)).toNat) (xs (wI (x3 + 5)).toNat) M).bind fun q_90 => (if 0 ≤ wI (x3 + 1) ∧ wI (x3 + 1) < (lx : Int) then (if 0 ≤ wI (x3 + 2) ∧ wI (x3 + 2) < (lx : Int) then (if 0 ≤ wI (x3 + 3) ∧ wI (x3 + 3) < (lx : Int) then (if 0 ≤ wI (x3 + 4) ∧ wI (x3 + 4) < (lx : Int) then (if 0 ≤ wI (x3 + 5) ∧ wI (x3 + 5) < (lx : Int) then ((sX12_did 359 (xs (wI (x3 + 1)).toNat) (xs (wI (x3 + 2)).toNat) (xs (wI (x3 + 3)).toNat) (xs (wI (x3 + 4)).toNat) (xs (wI (x3 + 5)).toNat) q_90.2).bind fun q_96 => (if wI (q_90.1) = wI (q_96.1) then (sL_law_b1792 xs lx 0 359 K x3 q_96.2) else (some (0)))) else none) else none) else none) else none) else none)) else none) else none) else none) else none) else none) = some 1 := by
  obtain ⟨e1, c1⟩ := hy 1 (by omega)
  obtain ⟨e2, c2⟩ := hy 2 (by omega)
  obtain ⟨e3, c3⟩ := hy 3 (by omega)
  obtain ⟨e4, c4⟩ := hy 4 (by omega)
  obtain ⟨e5, c5⟩ := hy 5 (by omega)
  rw [show (((1 : Nat) : Nat) : Int) = 1 from rfl] at e1
  rw [show (((2 : Nat) : Nat) : Int) = 2 from rfl] at e2
  rw [show (((3 : Nat) : Nat) : Int) = 3 from rfl] at e3
  rw [show (((4 : Nat) : Nat) : Int) = 4 from rfl] at e4
  rw [show (((5 : Nat) : Nat) : Int) = 5 from rfl] at e5
  simp only [e1, e2, e3, e4, e5, if_pos c1, if_pos c2, if_pos c3, if_pos c4, if_pos c5]
  obtain ⟨v, v', M1, M2, a1, a2, a3, a4⟩ := e_did h (hx _) (hx _) (hx _) (hx _) (hx _)
  rw [a1, ob_s]
  dsimp only
  rw [a2, ob_s]
  dsimp only
  rw [if_pos a3]; exact hK _ a4
theorem op_10 {xs : Nat → Int} {lx : Nat} {K : Int → MM → Option Int} {x3 : Int} {y : Nat → Int} {M : MM} (h : INV M) (hx : ∀ j, R32 (xs j)) (hy : YY lx x3 y) (hK : ∀ N, INV N → sL_law_b1792 xs lx 0 359 K x3 N = some 1) : (if 0 ≤ wI (x3 + 1) ∧ wI (x3 + 1) < (lx : Int) then (if 0 ≤ wI (x3 + 2) ∧ wI (x3 + 2) < (lx : Int) then (if 0 ≤ wI (x3 + 3) ∧ wI (x3 + 3) < (lx : Int) then (if wI (xs (wI (x3 + 3)).toNat) = 0 then (sL_law_b622 xs lx 0 359 K x3 0 (xs (wI (x3 + 1)).toNat) (xs (wI (x3 + 2)).toNat) 0 M) else (sL_law_b622 xs lx 0 359 K x3 0 (xs (wI (x3 + 1)).toNat) (xs (wI (x3 + 2)).toNat) 1 M)) else none) else none) else none) = some 1 := by
  obtain ⟨e1, c1⟩ := hy 1 (by omega)
  obtain ⟨e2, c2⟩ := hy 2 (by omega)
  obtain ⟨e3, c3⟩ := hy 3 (by omega)
  obtain ⟨e4, c4⟩ := hy 4 (by omega)
  obtain ⟨e5, c5⟩ := hy 5 (by omega)
  rw [show (((1 : Nat) : Nat) : Int) = 1 from rfl] at e1
  rw [show (((2 : Nat) : Nat) : Int) = 2 from rfl] at e2
  rw [show (((3 : Nat) : Nat) : Int) = 3 from rfl] at e3
  rw [show (((4 : Nat) : Nat) : Int) = 4 from rfl] at e4
  rw [show (((5 : Nat) : Nat) : Int) = 5 from rfl] at e5
  unfold sL_law_b622 sL_law_b649
  simp only [e1, e2, e3, e4, e5, if_pos c1, if_pos c2, if_pos c3, if_pos c4, if_pos c5]
  by_cases z : wI (xs (y 3).toNat) = 0
  · simp only [if_pos z]
    obtain ⟨v, v', M1, M2, a1, a2, a3, a4⟩ := e_span h (x3 := 0) (hx _) (hx _) ⟨by omega, by omega⟩
    rw [a1, ob_s]
    dsimp only
    rw [a2, ob_s]
    dsimp only
    rw [if_pos a3]; exact hK _ a4
  · simp only [if_neg z]
    obtain ⟨v, v', M1, M2, a1, a2, a3, a4⟩ := e_span h (x3 := 1) (hx _) (hx _) ⟨by omega, by omega⟩
    rw [a1, ob_s]
    dsimp only
    rw [a2, ob_s]
    dsimp only
    rw [if_pos a3]; exact hK _ a4
theorem op_11 {xs : Nat → Int} {lx : Nat} {K : Int → MM → Option Int} {x3 : Int} {y : Nat → Int} {M : MM} (h : INV M) (hx : ∀ j, R32 (xs j)) (hy : YY lx x3 y) (hK : ∀ N, INV N → sL_law_b1792 xs lx 0 359 K x3 N = some 1) : (if 0 ≤ wI (x3 + 1) ∧ wI (x3 + 1) < (lx : Int) then (if 0 ≤ wI (x3 + 2) ∧ wI (x3 + 2) < (lx : Int) then (if 0 ≤ wI (x3 + 3) ∧ wI (x3 + 3) < (lx : Int) then ((sX11_clue 0 (xs (wI (x3 + 1)).toNat) (xs (wI (x3 + 2)).toNat) (xs (wI (x3 + 3)).toNat) M).bind fun q_107 => (if 0 ≤ wI (x3 + 1) ∧ wI (x3 + 1) < (lx : Int) then (if 0 ≤ wI (x3 + 2) ∧ wI (x3 + 2) < (lx : Int) then (if 0 ≤ wI (x3 + 3) ∧ wI (x3 + 3) < (lx : Int) then ((sX12_clue 359 (xs (wI (x3 + 1)).toNat) (xs (wI (x3 + 2)).toNat) (xs (wI (x3 + 3)).toNat) M).bind fun q_111 => (if wI q_107 = wI (q_111.1) then (sL_law_b1792 xs lx 0 359 K x3 q_111.2) else (some (0)))) else none) else none) else none)) else none) else none) else none) = some 1 := by
  obtain ⟨e1, c1⟩ := hy 1 (by omega)
  obtain ⟨e2, c2⟩ := hy 2 (by omega)
  obtain ⟨e3, c3⟩ := hy 3 (by omega)
  obtain ⟨e4, c4⟩ := hy 4 (by omega)
  obtain ⟨e5, c5⟩ := hy 5 (by omega)
  rw [show (((1 : Nat) : Nat) : Int) = 1 from rfl] at e1
  rw [show (((2 : Nat) : Nat) : Int) = 2 from rfl] at e2
  rw [show (((3 : Nat) : Nat) : Int) = 3 from rfl] at e3
  rw [show (((4 : Nat) : Nat) : Int) = 4 from rfl] at e4
  rw [show (((5 : Nat) : Nat) : Int) = 5 from rfl] at e5
  simp only [e1, e2, e3, e4, e5, if_pos c1, if_pos c2, if_pos c3, if_pos c4, if_pos c5]
  obtain ⟨v, v', M2, a1, a2, a3, a4⟩ := e_clue h (hx _) (hx _) (hx _)
  rw [a1, ob_s]
  rw [a2, ob_s]
  dsimp only
  rw [if_pos a3]; exact hK _ a4
theorem op_12 {xs : Nat → Int} {lx : Nat} {K : Int → MM → Option Int} {x3 : Int} {y : Nat → Int} {M : MM} (h : INV M) (hx : ∀ j, R32 (xs j)) (hy : YY lx x3 y) (hK : ∀ N, INV N → sL_law_b1792 xs lx 0 359 K x3 N = some 1) : (if 0 ≤ wI (x3 + 1) ∧ wI (x3 + 1) < (lx : Int) then (if 0 ≤ wI (x3 + 2) ∧ wI (x3 + 2) < (lx : Int) then (if 0 ≤ wI (x3 + 3) ∧ wI (x3 + 3) < (lx : Int) then (if 0 ≤ wI (x3 + 4) ∧ wI (x3 + 4) < (lx : Int) then (if wI (xs (wI (x3 + 4)).toNat) = 0 then (sL_law_b729 xs lx 0 359 K x3 0 (xs (wI (x3 + 1)).toNat) (xs (wI (x3 + 2)).toNat) (xs (wI (x3 + 3)).toNat) 0 M) else (sL_law_b729 xs lx 0 359 K x3 0 (xs (wI (x3 + 1)).toNat) (xs (wI (x3 + 2)).toNat) (xs (wI (x3 + 3)).toNat) 1 M)) else none) else none) else none) else none) = some 1 := by
  obtain ⟨e1, c1⟩ := hy 1 (by omega)
  obtain ⟨e2, c2⟩ := hy 2 (by omega)
  obtain ⟨e3, c3⟩ := hy 3 (by omega)
  obtain ⟨e4, c4⟩ := hy 4 (by omega)
  obtain ⟨e5, c5⟩ := hy 5 (by omega)
  rw [show (((1 : Nat) : Nat) : Int) = 1 from rfl] at e1
  rw [show (((2 : Nat) : Nat) : Int) = 2 from rfl] at e2
  rw [show (((3 : Nat) : Nat) : Int) = 3 from rfl] at e3
  rw [show (((4 : Nat) : Nat) : Int) = 4 from rfl] at e4
  rw [show (((5 : Nat) : Nat) : Int) = 5 from rfl] at e5
  unfold sL_law_b729 sL_law_b761
  simp only [e1, e2, e3, e4, e5, if_pos c1, if_pos c2, if_pos c3, if_pos c4, if_pos c5]
  by_cases z : wI (xs (y 4).toNat) = 0
  · simp only [if_pos z]
    obtain ⟨v, v', M1, M2, a1, a2, a3, a4⟩ := e_hangs h (x4 := 0) (hx _) (hx _) (hx _)
    rw [a1, ob_s]
    dsimp only
    rw [a2, ob_s]
    dsimp only
    rw [if_pos a3]; exact hK _ a4
  · simp only [if_neg z]
    obtain ⟨v, v', M1, M2, a1, a2, a3, a4⟩ := e_hangs h (x4 := 1) (hx _) (hx _) (hx _)
    rw [a1, ob_s]
    dsimp only
    rw [a2, ob_s]
    dsimp only
    rw [if_pos a3]; exact hK _ a4
theorem op_13 {xs : Nat → Int} {lx : Nat} {K : Int → MM → Option Int} {x3 : Int} {y : Nat → Int} {M : MM} (h : INV M) (hx : ∀ j, R32 (xs j)) (hy : YY lx x3 y) (hK : ∀ N, INV N → sL_law_b1792 xs lx 0 359 K x3 N = some 1) : (if 0 ≤ wI (x3 + 1) ∧ wI (x3 + 1) < (lx : Int) then (if 0 ≤ wI (x3 + 2) ∧ wI (x3 + 2) < (lx : Int) then (if 0 ≤ wI (x3 + 3) ∧ wI (x3 + 3) < (lx : Int) then ((sX11_aim 0 (xs (wI (x3 + 1)).toNat) (xs (wI (x3 + 2)).toNat) (xs (wI (x3 + 3)).toNat) M).bind fun q_123 => (if 0 ≤ wI (x3 + 1) ∧ wI (x3 + 1) < (lx : Int) then (if 0 ≤ wI (x3 + 2) ∧ wI (x3 + 2) < (lx : Int) then (if 0 ≤ wI (x3 + 3) ∧ wI (x3 + 3) < (lx : Int) then ((sX12_aim 359 (xs (wI (x3 + 1)).toNat) (xs (wI (x3 + 2)).toNat) (xs (wI (x3 + 3)).toNat) q_123.2).bind fun q_127 => (if wI (q_123.1) = wI (q_127.1) then (sL_law_b1792 xs lx 0 359 K x3 q_127.2) else (some (0)))) else none) else none) else none)) else none) else none) else none) = some 1 := by
  obtain ⟨e1, c1⟩ := hy 1 (by omega)
  obtain ⟨e2, c2⟩ := hy 2 (by omega)
  obtain ⟨e3, c3⟩ := hy 3 (by omega)
  obtain ⟨e4, c4⟩ := hy 4 (by omega)
  obtain ⟨e5, c5⟩ := hy 5 (by omega)
  rw [show (((1 : Nat) : Nat) : Int) = 1 from rfl] at e1
  rw [show (((2 : Nat) : Nat) : Int) = 2 from rfl] at e2
  rw [show (((3 : Nat) : Nat) : Int) = 3 from rfl] at e3
  rw [show (((4 : Nat) : Nat) : Int) = 4 from rfl] at e4
  rw [show (((5 : Nat) : Nat) : Int) = 5 from rfl] at e5
  simp only [e1, e2, e3, e4, e5, if_pos c1, if_pos c2, if_pos c3, if_pos c4, if_pos c5]
  obtain ⟨v, v', M1, M2, a1, a2, a3, a4⟩ := e_aim h (hx _) (hx _) (hx _)
  rw [a1, ob_s]
  dsimp only
  rw [a2, ob_s]
  dsimp only
  rw [if_pos a3]; exact hK _ a4
theorem op_14 {xs : Nat → Int} {lx : Nat} {K : Int → MM → Option Int} {x3 : Int} {y : Nat → Int} {M : MM} (h : INV M) (hx : ∀ j, R32 (xs j)) (hy : YY lx x3 y) (hK : ∀ N, INV N → sL_law_b1792 xs lx 0 359 K x3 N = some 1) : (if 0 ≤ wI (x3 + 1) ∧ wI (x3 + 1) < (lx : Int) then (if 0 ≤ wI (x3 + 2) ∧ wI (x3 + 2) < (lx : Int) then (if 0 ≤ wI (x3 + 3) ∧ wI (x3 + 3) < (lx : Int) then (if 0 ≤ wI (x3 + 4) ∧ wI (x3 + 4) < (lx : Int) then (if wI (xs (wI (x3 + 4)).toNat) = 0 then (sL_law_b842 xs lx 0 359 K x3 0 (xs (wI (x3 + 1)).toNat) (xs (wI (x3 + 2)).toNat) (xs (wI (x3 + 3)).toNat) 0 M) else (sL_law_b842 xs lx 0 359 K x3 0 (xs (wI (x3 + 1)).toNat) (xs (wI (x3 + 2)).toNat) (xs (wI (x3 + 3)).toNat) 1 M)) else none) else none) else none) else none) = some 1 := by
  obtain ⟨e1, c1⟩ := hy 1 (by omega)
  obtain ⟨e2, c2⟩ := hy 2 (by omega)
  obtain ⟨e3, c3⟩ := hy 3 (by omega)
  obtain ⟨e4, c4⟩ := hy 4 (by omega)
  obtain ⟨e5, c5⟩ := hy 5 (by omega)
  rw [show (((1 : Nat) : Nat) : Int) = 1 from rfl] at e1
  rw [show (((2 : Nat) : Nat) : Int) = 2 from rfl] at e2
  rw [show (((3 : Nat) : Nat) : Int) = 3 from rfl] at e3
  rw [show (((4 : Nat) : Nat) : Int) = 4 from rfl] at e4
  rw [show (((5 : Nat) : Nat) : Int) = 5 from rfl] at e5
  unfold sL_law_b842 sL_law_b874
  simp only [e1, e2, e3, e4, e5, if_pos c1, if_pos c2, if_pos c3, if_pos c4, if_pos c5]
  by_cases z : wI (xs (y 4).toNat) = 0
  · simp only [if_pos z]
    obtain ⟨v, v', M1, M2, a1, a2, a3, a4⟩ := e_luck h (x4 := 0) (hx _) (hx _) (hx _)
    rw [a1, ob_s]
    dsimp only
    rw [a2, ob_s]
    dsimp only
    rw [if_pos a3]; exact hK _ a4
  · simp only [if_neg z]
    obtain ⟨v, v', M1, M2, a1, a2, a3, a4⟩ := e_luck h (x4 := 1) (hx _) (hx _) (hx _)
    rw [a1, ob_s]
    dsimp only
    rw [a2, ob_s]
    dsimp only
    rw [if_pos a3]; exact hK _ a4
theorem op_15 {xs : Nat → Int} {lx : Nat} {K : Int → MM → Option Int} {x3 : Int} {y : Nat → Int} {M : MM} (h : INV M) (hx : ∀ j, R32 (xs j)) (hy : YY lx x3 y) (hK : ∀ N, INV N → sL_law_b1792 xs lx 0 359 K x3 N = some 1) : (if 0 ≤ wI (x3 + 1) ∧ wI (x3 + 1) < (lx : Int) then (if 0 ≤ wI (x3 + 2) ∧ wI (x3 + 2) < (lx : Int) then (if 0 ≤ wI (x3 + 3) ∧ wI (x3 + 3) < (lx : Int) then (if 0 ≤ wI (x3 + 4) ∧ wI (x3 + 4) < (lx : Int) then (if 0 ≤ wI (x3 + 5) ∧ wI (x3 + 5) < (lx : Int) then (if wI (xs (wI (x3 + 5)).toNat) = 0 then (sL_law_b917 xs lx 0 359 K x3 0 (xs (wI (x3 + 1)).toNat) (xs (wI (x3 + 2)).toNat) (xs (wI (x3 + 3)).toNat) (xs (wI (x3 + 4)).toNat) 0 M) else (sL_law_b917 xs lx 0 359 K x3 0 (xs (wI (x3 + 1)).toNat) (xs (wI (x3 + 2)).toNat) (xs (wI (x3 + 3)).toNat) (xs (wI (x3 + 4)).toNat) 1 M)) else none) else none) else none) else none) else none) = some 1 := by
  obtain ⟨e1, c1⟩ := hy 1 (by omega)
  obtain ⟨e2, c2⟩ := hy 2 (by omega)
  obtain ⟨e3, c3⟩ := hy 3 (by omega)
  obtain ⟨e4, c4⟩ := hy 4 (by omega)
  obtain ⟨e5, c5⟩ := hy 5 (by omega)
  rw [show (((1 : Nat) : Nat) : Int) = 1 from rfl] at e1
  rw [show (((2 : Nat) : Nat) : Int) = 2 from rfl] at e2
  rw [show (((3 : Nat) : Nat) : Int) = 3 from rfl] at e3
  rw [show (((4 : Nat) : Nat) : Int) = 4 from rfl] at e4
  rw [show (((5 : Nat) : Nat) : Int) = 5 from rfl] at e5
  unfold sL_law_b917 sL_law_b954
  simp only [e1, e2, e3, e4, e5, if_pos c1, if_pos c2, if_pos c3, if_pos c4, if_pos c5]
  by_cases z : wI (xs (y 5).toNat) = 0
  · simp only [if_pos z]
    obtain ⟨v, v', M1, M2, a1, a2, a3, a4⟩ := e_chanceJ h (x5 := 0) (hx _) (hx _) (hx _) (hx _)
    rw [a1, ob_s]
    dsimp only
    rw [a2, ob_s]
    dsimp only
    rw [if_pos a3]; exact hK _ a4
  · simp only [if_neg z]
    obtain ⟨v, v', M1, M2, a1, a2, a3, a4⟩ := e_chanceJ h (x5 := 1) (hx _) (hx _) (hx _) (hx _)
    rw [a1, ob_s]
    dsimp only
    rw [a2, ob_s]
    dsimp only
    rw [if_pos a3]; exact hK _ a4
theorem op_16 {xs : Nat → Int} {lx : Nat} {K : Int → MM → Option Int} {x3 : Int} {y : Nat → Int} {M : MM} (h : INV M) (hx : ∀ j, R32 (xs j)) (hy : YY lx x3 y) (hK : ∀ N, INV N → sL_law_b1792 xs lx 0 359 K x3 N = some 1) : (if 0 ≤ wI (x3 + 1) ∧ wI (x3 + 1) < (lx : Int) then (if 0 ≤ wI (x3 + 2) ∧ wI (x3 + 2) < (lx : Int) then (if wI (xs (wI (x3 + 2)).toNat) = 0 then (sL_law_b982 xs lx 0 359 K x3 0 (xs (wI (x3 + 1)).toNat) 0 M) else (sL_law_b982 xs lx 0 359 K x3 0 (xs (wI (x3 + 1)).toNat) 1 M)) else none) else none) = some 1 := by
  obtain ⟨e1, c1⟩ := hy 1 (by omega)
  obtain ⟨e2, c2⟩ := hy 2 (by omega)
  obtain ⟨e3, c3⟩ := hy 3 (by omega)
  obtain ⟨e4, c4⟩ := hy 4 (by omega)
  obtain ⟨e5, c5⟩ := hy 5 (by omega)
  rw [show (((1 : Nat) : Nat) : Int) = 1 from rfl] at e1
  rw [show (((2 : Nat) : Nat) : Int) = 2 from rfl] at e2
  rw [show (((3 : Nat) : Nat) : Int) = 3 from rfl] at e3
  rw [show (((4 : Nat) : Nat) : Int) = 4 from rfl] at e4
  rw [show (((5 : Nat) : Nat) : Int) = 5 from rfl] at e5
  unfold sL_law_b982 sL_law_b1004
  simp only [e1, e2, e3, e4, e5, if_pos c1, if_pos c2, if_pos c3, if_pos c4, if_pos c5]
  by_cases z : wI (xs (y 2).toNat) = 0
  · simp only [if_pos z]
    obtain ⟨v, v', M1, M2, a1, a2, a3, a4⟩ := e_uncleJ h (x2 := 0) (hx _)
    rw [a1, ob_s]
    dsimp only
    rw [a2, ob_s]
    dsimp only
    rw [if_pos a3]; exact hK _ a4
  · simp only [if_neg z]
    obtain ⟨v, v', M1, M2, a1, a2, a3, a4⟩ := e_uncleJ h (x2 := 1) (hx _)
    rw [a1, ob_s]
    dsimp only
    rw [a2, ob_s]
    dsimp only
    rw [if_pos a3]; exact hK _ a4
theorem op_17 {xs : Nat → Int} {lx : Nat} {K : Int → MM → Option Int} {x3 : Int} {y : Nat → Int} {M : MM} (h : INV M) (hx : ∀ j, R32 (xs j)) (hy : YY lx x3 y) (hK : ∀ N, INV N → sL_law_b1792 xs lx 0 359 K x3 N = some 1) : (if 0 ≤ wI (x3 + 1) ∧ wI (x3 + 1) < (lx : Int) then (if 0 ≤ wI (x3 + 2) ∧ wI (x3 + 2) < (lx : Int) then (if 0 ≤ wI (x3 + 3) ∧ wI (x3 + 3) < (lx : Int) then (if 0 ≤ wI (x3 + 4) ∧ wI (x3 + 4) < (lx : Int) then ((sX11_lifts 0 (xs (wI (x3 + 1)).toNat) (xs (wI (x3 + 2)).toNat) (xs (wI (x3 + 3)).toNat) (xs (wI (x3 + 4)).toNat) M).bind fun q_151 => (if 0 ≤ wI (x3 + 1) ∧ wI (x3 + 1) < (lx : Int) then (if 0 ≤ wI (x3 + 2) ∧ wI (x3 + 2) < (lx : Int) then (if 0 ≤ wI (x3 + 3) ∧ wI (x3 + 3) < (lx : Int) then (if 0 ≤ wI (x3 + 4) ∧ wI (x3 + 4) < (lx : Int) then ((sX12_lifts 359 (xs (wI (x3 + 1)).toNat) (xs (wI (x3 + 2)).toNat) (xs (wI (x3 + 3)).toNat) (xs (wI (x3 + 4)).toNat) q_151.2).bind fun q_156 => (if wI (q_151.1) = wI (q_156.1) then (sL_law_b1792 xs lx 0 359 K x3 q_156.2) else (some (0)))) else none) else none) else none) else none)) else none) else none) else none) else none) = some 1 := by
  obtain ⟨e1, c1⟩ := hy 1 (by omega)
  obtain ⟨e2, c2⟩ := hy 2 (by omega)
  obtain ⟨e3, c3⟩ := hy 3 (by omega)
  obtain ⟨e4, c4⟩ := hy 4 (by omega)
  obtain ⟨e5, c5⟩ := hy 5 (by omega)
  rw [show (((1 : Nat) : Nat) : Int) = 1 from rfl] at e1
  rw [show (((2 : Nat) : Nat) : Int) = 2 from rfl] at e2
  rw [show (((3 : Nat) : Nat) : Int) = 3 from rfl] at e3
  rw [show (((4 : Nat) : Nat) : Int) = 4 from rfl] at e4
  rw [show (((5 : Nat) : Nat) : Int) = 5 from rfl] at e5
  simp only [e1, e2, e3, e4, e5, if_pos c1, if_pos c2, if_pos c3, if_pos c4, if_pos c5]
  obtain ⟨v, v', M1, M2, a1, a2, a3, a4⟩ := e_lifts h (hx _) (hx _) (hx _) (hx _)
  rw [a1, ob_s]
  dsimp only
  rw [a2, ob_s]
  dsimp only
  rw [if_pos a3]; exact hK _ a4
theorem op_18 {xs : Nat → Int} {lx : Nat} {K : Int → MM → Option Int} {x3 : Int} {y : Nat → Int} {M : MM} (h : INV M) (hx : ∀ j, R32 (xs j)) (hy : YY lx x3 y) (hK : ∀ N, INV N → sL_law_b1792 xs lx 0 359 K x3 N = some 1) : (if 0 ≤ wI (x3 + 1) ∧ wI (x3 + 1) < (lx : Int) then ((sX11_fair 0 (xs (wI (x3 + 1)).toNat) M).bind fun q_160 => (if 0 ≤ wI (x3 + 1) ∧ wI (x3 + 1) < (lx : Int) then ((sX12_fair 359 (xs (wI (x3 + 1)).toNat) q_160.2).bind fun q_162 => (if wI (q_160.1) = wI (q_162.1) then (sL_law_b1792 xs lx 0 359 K x3 q_162.2) else (some (0)))) else none)) else none) = some 1 := by
  obtain ⟨e1, c1⟩ := hy 1 (by omega)
  obtain ⟨e2, c2⟩ := hy 2 (by omega)
  obtain ⟨e3, c3⟩ := hy 3 (by omega)
  obtain ⟨e4, c4⟩ := hy 4 (by omega)
  obtain ⟨e5, c5⟩ := hy 5 (by omega)
  rw [show (((1 : Nat) : Nat) : Int) = 1 from rfl] at e1
  rw [show (((2 : Nat) : Nat) : Int) = 2 from rfl] at e2
  rw [show (((3 : Nat) : Nat) : Int) = 3 from rfl] at e3
  rw [show (((4 : Nat) : Nat) : Int) = 4 from rfl] at e4
  rw [show (((5 : Nat) : Nat) : Int) = 5 from rfl] at e5
  simp only [e1, e2, e3, e4, e5, if_pos c1, if_pos c2, if_pos c3, if_pos c4, if_pos c5]
  obtain ⟨v, v', M1, M2, a1, a2, a3, a4⟩ := e_fair h (hx _)
  rw [a1, ob_s]
  dsimp only
  rw [a2, ob_s]
  dsimp only
  rw [if_pos a3]; exact hK _ a4
theorem op_19 {xs : Nat → Int} {lx : Nat} {K : Int → MM → Option Int} {x3 : Int} {y : Nat → Int} {M : MM} (h : INV M) (hx : ∀ j, R32 (xs j)) (hy : YY lx x3 y) (hK : ∀ N, INV N → sL_law_b1792 xs lx 0 359 K x3 N = some 1) : (if 0 ≤ wI (x3 + 1) ∧ wI (x3 + 1) < (lx : Int) then ((sX11_thick 0 (xs (wI (x3 + 1)).toNat) M).bind fun q_166 => (if 0 ≤ wI (x3 + 1) ∧ wI (x3 + 1) < (lx : Int) then ((sX12_thick 359 (xs (wI (x3 + 1)).toNat) q_166.2).bind fun q_168 => (if wI (q_166.1) = wI (q_168.1) then (sL_law_b1792 xs lx 0 359 K x3 q_168.2) else (some (0)))) else none)) else none) = some 1 := by
  obtain ⟨e1, c1⟩ := hy 1 (by omega)
  obtain ⟨e2, c2⟩ := hy 2 (by omega)
  obtain ⟨e3, c3⟩ := hy 3 (by omega)
  obtain ⟨e4, c4⟩ := hy 4 (by omega)
  obtain ⟨e5, c5⟩ := hy 5 (by omega)
  rw [show (((1 : Nat) : Nat) : Int) = 1 from rfl] at e1
  rw [show (((2 : Nat) : Nat) : Int) = 2 from rfl] at e2
  rw [show (((3 : Nat) : Nat) : Int) = 3 from rfl] at e3
  rw [show (((4 : Nat) : Nat) : Int) = 4 from rfl] at e4
  rw [show (((5 : Nat) : Nat) : Int) = 5 from rfl] at e5
  simp only [e1, e2, e3, e4, e5, if_pos c1, if_pos c2, if_pos c3, if_pos c4, if_pos c5]
  obtain ⟨v, v', M1, M2, a1, a2, a3, a4⟩ := e_thick h (hx _)
  rw [a1, ob_s]
  dsimp only
  rw [a2, ob_s]
  dsimp only
  rw [if_pos a3]; exact hK _ a4
theorem op_20 {xs : Nat → Int} {lx : Nat} {K : Int → MM → Option Int} {x3 : Int} {y : Nat → Int} {M : MM} (h : INV M) (hx : ∀ j, R32 (xs j)) (hy : YY lx x3 y) (hK : ∀ N, INV N → sL_law_b1792 xs lx 0 359 K x3 N = some 1) : (if 0 ≤ wI (x3 + 1) ∧ wI (x3 + 1) < (lx : Int) then (if 0 ≤ wI (x3 + 2) ∧ wI (x3 + 2) < (lx : Int) then (if 0 ≤ wI (x3 + 3) ∧ wI (x3 + 3) < (lx : Int) then (if 0 ≤ wI (x3 + 4) ∧ wI (x3 + 4) < (lx : Int) then ((sX11_cell 0 (xs (wI (x3 + 1)).toNat) (xs (wI (x3 + 2)).toNat) (xs (wI (x3 + 3)).toNat) (xs (wI (x3 + 4)).toNat) M).bind fun q_175 => (if 0 ≤ wI (x3 + 1) ∧ wI (x3 + 1) < (lx : Int) then (if 0 ≤ wI (x3 + 2) ∧ wI (x3 + 2) < (lx : Int) then (if 0 ≤ wI (x3 + 3) ∧ wI (x3 + 3) < (lx : Int) then (if 0 ≤ wI (x3 + 4) ∧ wI (x3 + 4) < (lx : Int) then ((sX12_cell 359 (xs (wI (x3 + 1)).toNat) (xs (wI (x3 + 2)).toNat) (xs (wI (x3 + 3)).toNat) (xs (wI (x3 + 4)).toNat) M).bind fun q_180 => (if wI q_175 = wI (q_180.1) then (sL_law_b1792 xs lx 0 359 K x3 q_180.2) else (some (0)))) else none) else none) else none) else none)) else none) else none) else none) else none) = some 1 := by
  obtain ⟨e1, c1⟩ := hy 1 (by omega)
  obtain ⟨e2, c2⟩ := hy 2 (by omega)
  obtain ⟨e3, c3⟩ := hy 3 (by omega)
  obtain ⟨e4, c4⟩ := hy 4 (by omega)
  obtain ⟨e5, c5⟩ := hy 5 (by omega)
  rw [show (((1 : Nat) : Nat) : Int) = 1 from rfl] at e1
  rw [show (((2 : Nat) : Nat) : Int) = 2 from rfl] at e2
  rw [show (((3 : Nat) : Nat) : Int) = 3 from rfl] at e3
  rw [show (((4 : Nat) : Nat) : Int) = 4 from rfl] at e4
  rw [show (((5 : Nat) : Nat) : Int) = 5 from rfl] at e5
  simp only [e1, e2, e3, e4, e5, if_pos c1, if_pos c2, if_pos c3, if_pos c4, if_pos c5]
  obtain ⟨v, v', M2, a1, a2, a3, a4⟩ := e_cell h (hx _) (hx _) (hx _) (hx _)
  rw [a1, ob_s]
  rw [a2, ob_s]
  dsimp only
  rw [if_pos a3]; exact hK _ a4
theorem op_21 {xs : Nat → Int} {lx : Nat} {K : Int → MM → Option Int} {x3 : Int} {y : Nat → Int} {M : MM} (h : INV M) (hx : ∀ j, R32 (xs j)) (hy : YY lx x3 y) (hK : ∀ N, INV N → sL_law_b1792 xs lx 0 359 K x3 N = some 1) : (if 0 ≤ wI (x3 + 1) ∧ wI (x3 + 1) < (lx : Int) then (if 0 ≤ wI (x3 + 2) ∧ wI (x3 + 2) < (lx : Int) then (if 0 ≤ wI (x3 + 3) ∧ wI (x3 + 3) < (lx : Int) then (if 0 ≤ wI (x3 + 4) ∧ wI (x3 + 4) < (lx : Int) then (if wI (xs (wI (x3 + 4)).toNat) = 0 then (sL_law_b1194 xs lx 0 359 K x3 0 (xs (wI (x3 + 1)).toNat) (xs (wI (x3 + 2)).toNat) (xs (wI (x3 + 3)).toNat) 0 M) else (sL_law_b1194 xs lx 0 359 K x3 0 (xs (wI (x3 + 1)).toNat) (xs (wI (x3 + 2)).toNat) (xs (wI (x3 + 3)).toNat) 1 M)) else none) else none) else none) else none) = some 1 := by
  obtain ⟨e1, c1⟩ := hy 1 (by omega)
  obtain ⟨e2, c2⟩ := hy 2 (by omega)
  obtain ⟨e3, c3⟩ := hy 3 (by omega)
  obtain ⟨e4, c4⟩ := hy 4 (by omega)
  obtain ⟨e5, c5⟩ := hy 5 (by omega)
  rw [show (((1 : Nat) : Nat) : Int) = 1 from rfl] at e1
  rw [show (((2 : Nat) : Nat) : Int) = 2 from rfl] at e2
  rw [show (((3 : Nat) : Nat) : Int) = 3 from rfl] at e3
  rw [show (((4 : Nat) : Nat) : Int) = 4 from rfl] at e4
  rw [show (((5 : Nat) : Nat) : Int) = 5 from rfl] at e5
  unfold sL_law_b1194 sL_law_b1226
  simp only [e1, e2, e3, e4, e5, if_pos c1, if_pos c2, if_pos c3, if_pos c4, if_pos c5]
  by_cases z : wI (xs (y 4).toNat) = 0
  · simp only [if_pos z]
    obtain ⟨v, v', M2, a1, a2, a3, a4⟩ := e_share h (x4 := 0) (hx _) (hx _) (hx _)
    rw [a1, ob_s]
    rw [a2, ob_s]
    dsimp only
    rw [if_pos a3]; exact hK _ a4
  · simp only [if_neg z]
    obtain ⟨v, v', M2, a1, a2, a3, a4⟩ := e_share h (x4 := 1) (hx _) (hx _) (hx _)
    rw [a1, ob_s]
    rw [a2, ob_s]
    dsimp only
    rw [if_pos a3]; exact hK _ a4
theorem op_22 {xs : Nat → Int} {lx : Nat} {K : Int → MM → Option Int} {x3 : Int} {y : Nat → Int} {M : MM} (h : INV M) (hx : ∀ j, R32 (xs j)) (hy : YY lx x3 y) (hK : ∀ N, INV N → sL_law_b1792 xs lx 0 359 K x3 N = some 1) : (if 0 ≤ wI (x3 + 1) ∧ wI (x3 + 1) < (lx : Int) then (if 0 ≤ wI (x3 + 2) ∧ wI (x3 + 2) < (lx : Int) then (if 0 ≤ wI (x3 + 3) ∧ wI (x3 + 3) < (lx : Int) then ((sX11_stand 0 (xs (wI (x3 + 1)).toNat) (xs (wI (x3 + 2)).toNat) (xs (wI (x3 + 3)).toNat) M).bind fun q_192 => (if 0 ≤ wI (x3 + 1) ∧ wI (x3 + 1) < (lx : Int) then (if 0 ≤ wI (x3 + 2) ∧ wI (x3 + 2) < (lx : Int) then (if 0 ≤ wI (x3 + 3) ∧ wI (x3 + 3) < (lx : Int) then ((sX12_stand 359 (xs (wI (x3 + 1)).toNat) (xs (wI (x3 + 2)).toNat) (xs (wI (x3 + 3)).toNat) M).bind fun q_196 => (if wI q_192 = wI (q_196.1) then (sL_law_b1792 xs lx 0 359 K x3 q_196.2) else (some (0)))) else none) else none) else none)) else none) else none) else none) = some 1 := by
  obtain ⟨e1, c1⟩ := hy 1 (by omega)
  obtain ⟨e2, c2⟩ := hy 2 (by omega)
  obtain ⟨e3, c3⟩ := hy 3 (by omega)
  obtain ⟨e4, c4⟩ := hy 4 (by omega)
  obtain ⟨e5, c5⟩ := hy 5 (by omega)
  rw [show (((1 : Nat) : Nat) : Int) = 1 from rfl] at e1
  rw [show (((2 : Nat) : Nat) : Int) = 2 from rfl] at e2
  rw [show (((3 : Nat) : Nat) : Int) = 3 from rfl] at e3
  rw [show (((4 : Nat) : Nat) : Int) = 4 from rfl] at e4
  rw [show (((5 : Nat) : Nat) : Int) = 5 from rfl] at e5
  simp only [e1, e2, e3, e4, e5, if_pos c1, if_pos c2, if_pos c3, if_pos c4, if_pos c5]
  obtain ⟨v, v', M2, a1, a2, a3, a4⟩ := e_stand h (hx _) (hx _) (hx _)
  rw [a1, ob_s]
  rw [a2, ob_s]
  dsimp only
  rw [if_pos a3]; exact hK _ a4
theorem op_23 {xs : Nat → Int} {lx : Nat} {K : Int → MM → Option Int} {x3 : Int} {y : Nat → Int} {M : MM} (h : INV M) (hx : ∀ j, R32 (xs j)) (hy : YY lx x3 y) (hK : ∀ N, INV N → sL_law_b1792 xs lx 0 359 K x3 N = some 1) : (if 0 ≤ wI (x3 + 1) ∧ wI (x3 + 1) < (lx : Int) then (if 0 ≤ wI (x3 + 2) ∧ wI (x3 + 2) < (lx : Int) then (if 0 ≤ wI (x3 + 3) ∧ wI (x3 + 3) < (lx : Int) then (if wI (xs (wI (x3 + 3)).toNat) = 0 then (sL_law_b1301 xs lx 0 359 K x3 0 (xs (wI (x3 + 1)).toNat) (xs (wI (x3 + 2)).toNat) 0 M) else (sL_law_b1301 xs lx 0 359 K x3 0 (xs (wI (x3 + 1)).toNat) (xs (wI (x3 + 2)).toNat) 1 M)) else none) else none) else none) = some 1 := by
  obtain ⟨e1, c1⟩ := hy 1 (by omega)
  obtain ⟨e2, c2⟩ := hy 2 (by omega)
  obtain ⟨e3, c3⟩ := hy 3 (by omega)
  obtain ⟨e4, c4⟩ := hy 4 (by omega)
  obtain ⟨e5, c5⟩ := hy 5 (by omega)
  rw [show (((1 : Nat) : Nat) : Int) = 1 from rfl] at e1
  rw [show (((2 : Nat) : Nat) : Int) = 2 from rfl] at e2
  rw [show (((3 : Nat) : Nat) : Int) = 3 from rfl] at e3
  rw [show (((4 : Nat) : Nat) : Int) = 4 from rfl] at e4
  rw [show (((5 : Nat) : Nat) : Int) = 5 from rfl] at e5
  unfold sL_law_b1301 sL_law_b1328
  simp only [e1, e2, e3, e4, e5, if_pos c1, if_pos c2, if_pos c3, if_pos c4, if_pos c5]
  by_cases z : wI (xs (y 3).toNat) = 0
  · simp only [if_pos z]
    obtain ⟨v, v', M2, a1, a2, a3, a4⟩ := e_danger h (x3 := 0) (hx _) (hx _)
    rw [a1, ob_s]
    rw [a2, ob_s]
    dsimp only
    rw [if_pos a3]; exact hK _ a4
  · simp only [if_neg z]
    obtain ⟨v, v', M2, a1, a2, a3, a4⟩ := e_danger h (x3 := 1) (hx _) (hx _)
    rw [a1, ob_s]
    rw [a2, ob_s]
    dsimp only
    rw [if_pos a3]; exact hK _ a4
theorem op_24 {xs : Nat → Int} {lx : Nat} {K : Int → MM → Option Int} {x3 : Int} {y : Nat → Int} {M : MM} (h : INV M) (hx : ∀ j, R32 (xs j)) (hy : YY lx x3 y) (hK : ∀ N, INV N → sL_law_b1792 xs lx 0 359 K x3 N = some 1) : (if 0 ≤ wI (x3 + 1) ∧ wI (x3 + 1) < (lx : Int) then (if 0 ≤ wI (x3 + 2) ∧ wI (x3 + 2) < (lx : Int) then ((sX11_safe 0 (xs (wI (x3 + 1)).toNat) (xs (wI (x3 + 2)).toNat) M).bind fun q_206 => (if 0 ≤ wI (x3 + 1) ∧ wI (x3 + 1) < (lx : Int) then (if 0 ≤ wI (x3 + 2) ∧ wI (x3 + 2) < (lx : Int) then ((sX12_safe 359 (xs (wI (x3 + 1)).toNat) (xs (wI (x3 + 2)).toNat) M).bind fun q_209 => (if wI q_206 = wI (q_209.1) then (sL_law_b1792 xs lx 0 359 K x3 q_209.2) else (some (0)))) else none) else none)) else none) else none) = some 1 := by
  obtain ⟨e1, c1⟩ := hy 1 (by omega)
  obtain ⟨e2, c2⟩ := hy 2 (by omega)
  obtain ⟨e3, c3⟩ := hy 3 (by omega)
  obtain ⟨e4, c4⟩ := hy 4 (by omega)
  obtain ⟨e5, c5⟩ := hy 5 (by omega)
  rw [show (((1 : Nat) : Nat) : Int) = 1 from rfl] at e1
  rw [show (((2 : Nat) : Nat) : Int) = 2 from rfl] at e2
  rw [show (((3 : Nat) : Nat) : Int) = 3 from rfl] at e3
  rw [show (((4 : Nat) : Nat) : Int) = 4 from rfl] at e4
  rw [show (((5 : Nat) : Nat) : Int) = 5 from rfl] at e5
  simp only [e1, e2, e3, e4, e5, if_pos c1, if_pos c2, if_pos c3, if_pos c4, if_pos c5]
  obtain ⟨v, v', M2, a1, a2, a3, a4⟩ := e_safe h (hx _) (hx _)
  rw [a1, ob_s]
  rw [a2, ob_s]
  dsimp only
  rw [if_pos a3]; exact hK _ a4
theorem op_25 {xs : Nat → Int} {lx : Nat} {K : Int → MM → Option Int} {x3 : Int} {y : Nat → Int} {M : MM} (h : INV M) (hx : ∀ j, R32 (xs j)) (hy : YY lx x3 y) (hK : ∀ N, INV N → sL_law_b1792 xs lx 0 359 K x3 N = some 1) : (if 0 ≤ wI (x3 + 1) ∧ wI (x3 + 1) < (lx : Int) then (if 0 ≤ wI (x3 + 2) ∧ wI (x3 + 2) < (lx : Int) then (if 0 ≤ wI (x3 + 3) ∧ wI (x3 + 3) < (lx : Int) then ((sX11_fell 0 (xs (wI (x3 + 1)).toNat) (xs (wI (x3 + 2)).toNat) (xs (wI (x3 + 3)).toNat) M).bind fun q_215 => (if 0 ≤ wI (x3 + 1) ∧ wI (x3 + 1) < (lx : Int) then (if 0 ≤ wI (x3 + 2) ∧ wI (x3 + 2) < (lx : Int) then (if 0 ≤ wI (x3 + 3) ∧ wI (x3 + 3) < (lx : Int) then ((sX12_fell 359 (xs (wI (x3 + 1)).toNat) (xs (wI (x3 + 2)).toNat) (xs (wI (x3 + 3)).toNat) M).bind fun q_219 => (if wI q_215 = wI (q_219.1) then (sL_law_b1792 xs lx 0 359 K x3 q_219.2) else (some (0)))) else none) else none) else none)) else none) else none) else none) = some 1 := by
  obtain ⟨e1, c1⟩ := hy 1 (by omega)
  obtain ⟨e2, c2⟩ := hy 2 (by omega)
  obtain ⟨e3, c3⟩ := hy 3 (by omega)
  obtain ⟨e4, c4⟩ := hy 4 (by omega)
  obtain ⟨e5, c5⟩ := hy 5 (by omega)
  rw [show (((1 : Nat) : Nat) : Int) = 1 from rfl] at e1
  rw [show (((2 : Nat) : Nat) : Int) = 2 from rfl] at e2
  rw [show (((3 : Nat) : Nat) : Int) = 3 from rfl] at e3
  rw [show (((4 : Nat) : Nat) : Int) = 4 from rfl] at e4
  rw [show (((5 : Nat) : Nat) : Int) = 5 from rfl] at e5
  simp only [e1, e2, e3, e4, e5, if_pos c1, if_pos c2, if_pos c3, if_pos c4, if_pos c5]
  obtain ⟨v, v', M2, a1, a2, a3, a4⟩ := e_fell h (hx _) (hx _) (hx _)
  rw [a1, ob_s]
  rw [a2, ob_s]
  dsimp only
  rw [if_pos a3]; exact hK _ a4
theorem op_26 {xs : Nat → Int} {lx : Nat} {K : Int → MM → Option Int} {x3 : Int} {y : Nat → Int} {M : MM} (h : INV M) (hx : ∀ j, R32 (xs j)) (hy : YY lx x3 y) (hK : ∀ N, INV N → sL_law_b1792 xs lx 0 359 K x3 N = some 1) : (if 0 ≤ wI (x3 + 1) ∧ wI (x3 + 1) < (lx : Int) then (if 0 ≤ wI (x3 + 2) ∧ wI (x3 + 2) < (lx : Int) then (if 0 ≤ wI (x3 + 3) ∧ wI (x3 + 3) < (lx : Int) then (if 0 ≤ wI (x3 + 4) ∧ wI (x3 + 4) < (lx : Int) then (if 0 ≤ wI (x3 + 5) ∧ wI (x3 + 5) < (lx : Int) then ((sX11_bag 0 (xs (wI (x3 + 1)).toNat) (xs (wI (x3 + 2)).toNat) (xs (wI (x3 + 3)).toNat) (xs (wI (x3 + 4)).toNat) (xs (wI (x3 + 5)).toNat) M).bind fun q_227 => (if 0 ≤ wI (x3 + 1) ∧ wI (x3 + 1) < (lx : Int) then (if 0 ≤ wI (x3 + 2) ∧ wI (x3 + 2) < (lx : Int) then (if 0 ≤ wI (x3 + 3) ∧ wI (x3 + 3) < (lx : Int) then (if 0 ≤ wI (x3 + 4) ∧ wI (x3 + 4) < (lx : Int) then (if 0 ≤ wI (x3 + 5) ∧ wI (x3 + 5) < (lx : Int) then ((sX12_bag 359 (xs (wI (x3 + 1)).toNat) (xs (wI (x3 + 2)).toNat) (xs (wI (x3 + 3)).toNat) (xs (wI (x3 + 4)).toNat) (xs (wI (x3 + 5)).toNat) q_227.2).bind fun q_233 => (if wI (q_227.1) = wI (q_233.1) then (sL_law_b1792 xs lx 0 359 K x3 q_233.2) else (some (0)))) else none) else none) else none) else none) else none)) else none) else none) else none) else none) else none) = some 1 := by
  obtain ⟨e1, c1⟩ := hy 1 (by omega)
  obtain ⟨e2, c2⟩ := hy 2 (by omega)
  obtain ⟨e3, c3⟩ := hy 3 (by omega)
  obtain ⟨e4, c4⟩ := hy 4 (by omega)
  obtain ⟨e5, c5⟩ := hy 5 (by omega)
  rw [show (((1 : Nat) : Nat) : Int) = 1 from rfl] at e1
  rw [show (((2 : Nat) : Nat) : Int) = 2 from rfl] at e2
  rw [show (((3 : Nat) : Nat) : Int) = 3 from rfl] at e3
  rw [show (((4 : Nat) : Nat) : Int) = 4 from rfl] at e4
  rw [show (((5 : Nat) : Nat) : Int) = 5 from rfl] at e5
  simp only [e1, e2, e3, e4, e5, if_pos c1, if_pos c2, if_pos c3, if_pos c4, if_pos c5]
  obtain ⟨v, v', M1, M2, a1, a2, a3, a4⟩ := e_bag h (hx _) (hx _) (hx _) (hx _) (hx _)
  rw [a1, ob_s]
  dsimp only
  rw [a2, ob_s]
  dsimp only
  rw [if_pos a3]; exact hK _ a4
theorem op_27 {xs : Nat → Int} {lx : Nat} {K : Int → MM → Option Int} {x3 : Int} {y : Nat → Int} {M : MM} (h : INV M) (hx : ∀ j, R32 (xs j)) (hy : YY lx x3 y) (hK : ∀ N, INV N → sL_law_b1792 xs lx 0 359 K x3 N = some 1) : (if 0 ≤ wI (x3 + 1) ∧ wI (x3 + 1) < (lx : Int) then (if 0 ≤ wI (x3 + 2) ∧ wI (x3 + 2) < (lx : Int) then ((sX11_record 0 (xs (wI (x3 + 1)).toNat) (xs (wI (x3 + 2)).toNat) M).bind fun q_238 => (if 0 ≤ wI (x3 + 1) ∧ wI (x3 + 1) < (lx : Int) then (if 0 ≤ wI (x3 + 2) ∧ wI (x3 + 2) < (lx : Int) then ((sX12_record 359 (xs (wI (x3 + 1)).toNat) (xs (wI (x3 + 2)).toNat) M).bind fun q_241 => (if wI q_238 = wI (q_241.1) then (sL_law_b1792 xs lx 0 359 K x3 q_241.2) else (some (0)))) else none) else none)) else none) else none) = some 1 := by
  obtain ⟨e1, c1⟩ := hy 1 (by omega)
  obtain ⟨e2, c2⟩ := hy 2 (by omega)
  obtain ⟨e3, c3⟩ := hy 3 (by omega)
  obtain ⟨e4, c4⟩ := hy 4 (by omega)
  obtain ⟨e5, c5⟩ := hy 5 (by omega)
  rw [show (((1 : Nat) : Nat) : Int) = 1 from rfl] at e1
  rw [show (((2 : Nat) : Nat) : Int) = 2 from rfl] at e2
  rw [show (((3 : Nat) : Nat) : Int) = 3 from rfl] at e3
  rw [show (((4 : Nat) : Nat) : Int) = 4 from rfl] at e4
  rw [show (((5 : Nat) : Nat) : Int) = 5 from rfl] at e5
  simp only [e1, e2, e3, e4, e5, if_pos c1, if_pos c2, if_pos c3, if_pos c4, if_pos c5]
  obtain ⟨v, v', M2, a1, a2, a3, a4⟩ := e_record h (hx _) (hx _)
  rw [a1, ob_s]
  rw [a2, ob_s]
  dsimp only
  rw [if_pos a3]; exact hK _ a4
theorem op_28 {xs : Nat → Int} {lx : Nat} {K : Int → MM → Option Int} {x3 : Int} {y : Nat → Int} {M : MM} (h : INV M) (hx : ∀ j, R32 (xs j)) (hy : YY lx x3 y) (hK : ∀ N, INV N → sL_law_b1792 xs lx 0 359 K x3 N = some 1) : (if 0 ≤ wI (x3 + 1) ∧ wI (x3 + 1) < (lx : Int) then (if 0 ≤ wI (x3 + 2) ∧ wI (x3 + 2) < (lx : Int) then (if 0 ≤ wI (x3 + 3) ∧ wI (x3 + 3) < (lx : Int) then (if wI (xs (wI (x3 + 3)).toNat) = 0 then (sL_law_b1532 xs lx 0 359 K x3 0 (xs (wI (x3 + 1)).toNat) (xs (wI (x3 + 2)).toNat) 0 M) else (sL_law_b1532 xs lx 0 359 K x3 0 (xs (wI (x3 + 1)).toNat) (xs (wI (x3 + 2)).toNat) 1 M)) else none) else none) else none) = some 1 := by
  obtain ⟨e1, c1⟩ := hy 1 (by omega)
  obtain ⟨e2, c2⟩ := hy 2 (by omega)
  obtain ⟨e3, c3⟩ := hy 3 (by omega)
  obtain ⟨e4, c4⟩ := hy 4 (by omega)
  obtain ⟨e5, c5⟩ := hy 5 (by omega)
  rw [show (((1 : Nat) : Nat) : Int) = 1 from rfl] at e1
  rw [show (((2 : Nat) : Nat) : Int) = 2 from rfl] at e2
  rw [show (((3 : Nat) : Nat) : Int) = 3 from rfl] at e3
  rw [show (((4 : Nat) : Nat) : Int) = 4 from rfl] at e4
  rw [show (((5 : Nat) : Nat) : Int) = 5 from rfl] at e5
  unfold sL_law_b1532 sL_law_b1559
  simp only [e1, e2, e3, e4, e5, if_pos c1, if_pos c2, if_pos c3, if_pos c4, if_pos c5]
  by_cases z : wI (xs (y 3).toNat) = 0
  · simp only [if_pos z]
    obtain ⟨v, v', M2, a1, a2, a3, a4⟩ := e_trust h (x3 := 0) (hx _) (hx _)
    rw [a1, ob_s]
    rw [a2, ob_s]
    dsimp only
    rw [if_pos a3]; exact hK _ a4
  · simp only [if_neg z]
    obtain ⟨v, v', M2, a1, a2, a3, a4⟩ := e_trust h (x3 := 1) (hx _) (hx _)
    rw [a1, ob_s]
    rw [a2, ob_s]
    dsimp only
    rw [if_pos a3]; exact hK _ a4
theorem op_29 {xs : Nat → Int} {lx : Nat} {K : Int → MM → Option Int} {x3 : Int} {y : Nat → Int} {M : MM} (h : INV M) (hx : ∀ j, R32 (xs j)) (hy : YY lx x3 y) (hK : ∀ N, INV N → sL_law_b1792 xs lx 0 359 K x3 N = some 1) : (if 0 ≤ wI (x3 + 1) ∧ wI (x3 + 1) < (lx : Int) then (if 0 ≤ wI (x3 + 2) ∧ wI (x3 + 2) < (lx : Int) then (if 0 ≤ wI (x3 + 3) ∧ wI (x3 + 3) < (lx : Int) then (if 0 ≤ wI (x3 + 4) ∧ wI (x3 + 4) < (lx : Int) then (if wI (xs (wI (x3 + 4)).toNat) = 0 then (sL_law_b1596 xs lx 0 359 K x3 0 (xs (wI (x3 + 1)).toNat) (xs (wI (x3 + 2)).toNat) (xs (wI (x3 + 3)).toNat) 0 M) else (sL_law_b1596 xs lx 0 359 K x3 0 (xs (wI (x3 + 1)).toNat) (xs (wI (x3 + 2)).toNat) (xs (wI (x3 + 3)).toNat) 1 M)) else none) else none) else none) else none) = some 1 := by
  obtain ⟨e1, c1⟩ := hy 1 (by omega)
  obtain ⟨e2, c2⟩ := hy 2 (by omega)
  obtain ⟨e3, c3⟩ := hy 3 (by omega)
  obtain ⟨e4, c4⟩ := hy 4 (by omega)
  obtain ⟨e5, c5⟩ := hy 5 (by omega)
  rw [show (((1 : Nat) : Nat) : Int) = 1 from rfl] at e1
  rw [show (((2 : Nat) : Nat) : Int) = 2 from rfl] at e2
  rw [show (((3 : Nat) : Nat) : Int) = 3 from rfl] at e3
  rw [show (((4 : Nat) : Nat) : Int) = 4 from rfl] at e4
  rw [show (((5 : Nat) : Nat) : Int) = 5 from rfl] at e5
  unfold sL_law_b1596 sL_law_b1628
  simp only [e1, e2, e3, e4, e5, if_pos c1, if_pos c2, if_pos c3, if_pos c4, if_pos c5]
  by_cases z : wI (xs (y 4).toNat) = 0
  · simp only [if_pos z]
    obtain ⟨v, v', M2, a1, a2, a3, a4⟩ := e_peeped h (x4 := 0) (hx _) (hx _) (hx _)
    rw [a1, ob_s]
    rw [a2, ob_s]
    dsimp only
    rw [if_pos a3]; exact hK _ a4
  · simp only [if_neg z]
    obtain ⟨v, v', M2, a1, a2, a3, a4⟩ := e_peeped h (x4 := 1) (hx _) (hx _) (hx _)
    rw [a1, ob_s]
    rw [a2, ob_s]
    dsimp only
    rw [if_pos a3]; exact hK _ a4
theorem op_30 {xs : Nat → Int} {lx : Nat} {K : Int → MM → Option Int} {x3 : Int} {y : Nat → Int} {M : MM} (h : INV M) (hx : ∀ j, R32 (xs j)) (hy : YY lx x3 y) (hK : ∀ N, INV N → sL_law_b1792 xs lx 0 359 K x3 N = some 1) : (if 0 ≤ wI (x3 + 1) ∧ wI (x3 + 1) < (lx : Int) then (if 0 ≤ wI (x3 + 2) ∧ wI (x3 + 2) < (lx : Int) then (if 0 ≤ wI (x3 + 3) ∧ wI (x3 + 3) < (lx : Int) then ((sX11_many 0 (xs (wI (x3 + 1)).toNat) (xs (wI (x3 + 2)).toNat) (xs (wI (x3 + 3)).toNat)).bind fun q_258 => (if 0 ≤ wI (x3 + 1) ∧ wI (x3 + 1) < (lx : Int) then (if 0 ≤ wI (x3 + 2) ∧ wI (x3 + 2) < (lx : Int) then (if 0 ≤ wI (x3 + 3) ∧ wI (x3 + 3) < (lx : Int) then ((sX12_many 359 (xs (wI (x3 + 1)).toNat) (xs (wI (x3 + 2)).toNat) (xs (wI (x3 + 3)).toNat) M).bind fun q_262 => (if wI q_258 = wI (q_262.1) then (sL_law_b1792 xs lx 0 359 K x3 q_262.2) else (some (0)))) else none) else none) else none)) else none) else none) else none) = some 1 := by
  obtain ⟨e1, c1⟩ := hy 1 (by omega)
  obtain ⟨e2, c2⟩ := hy 2 (by omega)
  obtain ⟨e3, c3⟩ := hy 3 (by omega)
  obtain ⟨e4, c4⟩ := hy 4 (by omega)
  obtain ⟨e5, c5⟩ := hy 5 (by omega)
  rw [show (((1 : Nat) : Nat) : Int) = 1 from rfl] at e1
  rw [show (((2 : Nat) : Nat) : Int) = 2 from rfl] at e2
  rw [show (((3 : Nat) : Nat) : Int) = 3 from rfl] at e3
  rw [show (((4 : Nat) : Nat) : Int) = 4 from rfl] at e4
  rw [show (((5 : Nat) : Nat) : Int) = 5 from rfl] at e5
  simp only [e1, e2, e3, e4, e5, if_pos c1, if_pos c2, if_pos c3, if_pos c4, if_pos c5]
  obtain ⟨v, v', M2, a1, a2, a3, a4⟩ := e_many h (hx _) (hx _) (hx _)
  rw [a1, ob_s]
  rw [a2, ob_s]
  dsimp only
  rw [if_pos a3]; exact hK _ a4
theorem op_31 {xs : Nat → Int} {lx : Nat} {K : Int → MM → Option Int} {x3 : Int} {y : Nat → Int} {M : MM} (h : INV M) (hx : ∀ j, R32 (xs j)) (hy : YY lx x3 y) (hK : ∀ N, INV N → sL_law_b1792 xs lx 0 359 K x3 N = some 1) : (if 0 ≤ wI (x3 + 1) ∧ wI (x3 + 1) < (lx : Int) then (if 0 ≤ wI (x3 + 2) ∧ wI (x3 + 2) < (lx : Int) then (if 0 ≤ wI (x3 + 3) ∧ wI (x3 + 3) < (lx : Int) then ((sX11_drawn 0 (xs (wI (x3 + 1)).toNat) (xs (wI (x3 + 2)).toNat) (xs (wI (x3 + 3)).toNat) M).bind fun q_268 => (if 0 ≤ wI (x3 + 1) ∧ wI (x3 + 1) < (lx : Int) then (if 0 ≤ wI (x3 + 2) ∧ wI (x3 + 2) < (lx : Int) then (if 0 ≤ wI (x3 + 3) ∧ wI (x3 + 3) < (lx : Int) then ((sX12_drawn 359 (xs (wI (x3 + 1)).toNat) (xs (wI (x3 + 2)).toNat) (xs (wI (x3 + 3)).toNat) q_268.2).bind fun q_272 => (if wI (q_268.1) = wI (q_272.1) then (sL_law_b1792 xs lx 0 359 K x3 q_272.2) else (some (0)))) else none) else none) else none)) else none) else none) else none) = some 1 := by
  obtain ⟨e1, c1⟩ := hy 1 (by omega)
  obtain ⟨e2, c2⟩ := hy 2 (by omega)
  obtain ⟨e3, c3⟩ := hy 3 (by omega)
  obtain ⟨e4, c4⟩ := hy 4 (by omega)
  obtain ⟨e5, c5⟩ := hy 5 (by omega)
  rw [show (((1 : Nat) : Nat) : Int) = 1 from rfl] at e1
  rw [show (((2 : Nat) : Nat) : Int) = 2 from rfl] at e2
  rw [show (((3 : Nat) : Nat) : Int) = 3 from rfl] at e3
  rw [show (((4 : Nat) : Nat) : Int) = 4 from rfl] at e4
  rw [show (((5 : Nat) : Nat) : Int) = 5 from rfl] at e5
  simp only [e1, e2, e3, e4, e5, if_pos c1, if_pos c2, if_pos c3, if_pos c4, if_pos c5]
  obtain ⟨v, v', M1, M2, a1, a2, a3, a4⟩ := e_drawn h (hx _) (hx _)
  rw [a1, ob_s]
  dsimp only
  rw [a2, ob_s]
  dsimp only
  rw [if_pos a3]; exact hK _ a4
theorem op_32 {xs : Nat → Int} {lx : Nat} {K : Int → MM → Option Int} {x3 : Int} {y : Nat → Int} {M : MM} (h : INV M) (hx : ∀ j, R32 (xs j)) (hy : YY lx x3 y) (hK : ∀ N, INV N → sL_law_b1792 xs lx 0 359 K x3 N = some 1) : (if 0 ≤ wI (x3 + 1) ∧ wI (x3 + 1) < (lx : Int) then ((sX11_count 0 (xs (wI (x3 + 1)).toNat) M).bind fun q_276 => (if 0 ≤ wI (x3 + 1) ∧ wI (x3 + 1) < (lx : Int) then ((sX12_count 359 (xs (wI (x3 + 1)).toNat) M).bind fun q_278 => (if wI q_276 = wI (q_278.1) then (sL_law_b1792 xs lx 0 359 K x3 q_278.2) else (some (0)))) else none)) else none) = some 1 := by
  obtain ⟨e1, c1⟩ := hy 1 (by omega)
  obtain ⟨e2, c2⟩ := hy 2 (by omega)
  obtain ⟨e3, c3⟩ := hy 3 (by omega)
  obtain ⟨e4, c4⟩ := hy 4 (by omega)
  obtain ⟨e5, c5⟩ := hy 5 (by omega)
  rw [show (((1 : Nat) : Nat) : Int) = 1 from rfl] at e1
  rw [show (((2 : Nat) : Nat) : Int) = 2 from rfl] at e2
  rw [show (((3 : Nat) : Nat) : Int) = 3 from rfl] at e3
  rw [show (((4 : Nat) : Nat) : Int) = 4 from rfl] at e4
  rw [show (((5 : Nat) : Nat) : Int) = 5 from rfl] at e5
  simp only [e1, e2, e3, e4, e5, if_pos c1, if_pos c2, if_pos c3, if_pos c4, if_pos c5]
  obtain ⟨v, v', M2, a1, a2, a3, a4⟩ := e_count h (hx _)
  rw [a1, ob_s]
  rw [a2, ob_s]
  dsimp only
  rw [if_pos a3]; exact hK _ a4
theorem op_33 {xs : Nat → Int} {lx : Nat} {K : Int → MM → Option Int} {x3 : Int} {y : Nat → Int} {M : MM} (h : INV M) (hx : ∀ j, R32 (xs j)) (hy : YY lx x3 y) (hK : ∀ N, INV N → sL_law_b1792 xs lx 0 359 K x3 N = some 1) : (if 0 ≤ wI (x3 + 1) ∧ wI (x3 + 1) < (lx : Int) then ((sX11_image 0 (xs (wI (x3 + 1)).toNat) M).bind fun q_282 => (if 0 ≤ wI (x3 + 1) ∧ wI (x3 + 1) < (lx : Int) then ((sX12_image 359 (xs (wI (x3 + 1)).toNat) q_282.2).bind fun q_284 => (if wI (q_282.1) = wI (q_284.1) then (sL_law_b1792 xs lx 0 359 K x3 q_284.2) else (some (0)))) else none)) else none) = some 1 := by
  obtain ⟨e1, c1⟩ := hy 1 (by omega)
  obtain ⟨e2, c2⟩ := hy 2 (by omega)
  obtain ⟨e3, c3⟩ := hy 3 (by omega)
  obtain ⟨e4, c4⟩ := hy 4 (by omega)
  obtain ⟨e5, c5⟩ := hy 5 (by omega)
  rw [show (((1 : Nat) : Nat) : Int) = 1 from rfl] at e1
  rw [show (((2 : Nat) : Nat) : Int) = 2 from rfl] at e2
  rw [show (((3 : Nat) : Nat) : Int) = 3 from rfl] at e3
  rw [show (((4 : Nat) : Nat) : Int) = 4 from rfl] at e4
  rw [show (((5 : Nat) : Nat) : Int) = 5 from rfl] at e5
  simp only [e1, e2, e3, e4, e5, if_pos c1, if_pos c2, if_pos c3, if_pos c4, if_pos c5]
  obtain ⟨v, v', M1, M2, a1, a2, a3, a4⟩ := e_image h (hx _)
  rw [a1, ob_s]
  dsimp only
  rw [a2, ob_s]
  dsimp only
  rw [if_pos a3]; exact hK _ a4
theorem op_34 {xs : Nat → Int} {lx : Nat} {K : Int → MM → Option Int} {x3 : Int} {y : Nat → Int} {M : MM} (h : INV M) (hx : ∀ j, R32 (xs j)) (hy : YY lx x3 y) (hK : ∀ N, INV N → sL_law_b1792 xs lx 0 359 K x3 N = some 1) : (if 0 ≤ wI (x3 + 1) ∧ wI (x3 + 1) < (lx : Int) then ((sX11_again 0 (xs (wI (x3 + 1)).toNat) M).bind fun q_288 => (if 0 ≤ wI (x3 + 1) ∧ wI (x3 + 1) < (lx : Int) then ((sX12_again 359 (xs (wI (x3 + 1)).toNat) q_288.2).bind fun q_290 => (if wI (q_288.1) = wI (q_290.1) then (sL_law_b1792 xs lx 0 359 K x3 q_290.2) else (some (0)))) else none)) else none) = some 1 := by
  obtain ⟨e1, c1⟩ := hy 1 (by omega)
  obtain ⟨e2, c2⟩ := hy 2 (by omega)
  obtain ⟨e3, c3⟩ := hy 3 (by omega)
  obtain ⟨e4, c4⟩ := hy 4 (by omega)
  obtain ⟨e5, c5⟩ := hy 5 (by omega)
  rw [show (((1 : Nat) : Nat) : Int) = 1 from rfl] at e1
  rw [show (((2 : Nat) : Nat) : Int) = 2 from rfl] at e2
  rw [show (((3 : Nat) : Nat) : Int) = 3 from rfl] at e3
  rw [show (((4 : Nat) : Nat) : Int) = 4 from rfl] at e4
  rw [show (((5 : Nat) : Nat) : Int) = 5 from rfl] at e5
  simp only [e1, e2, e3, e4, e5, if_pos c1, if_pos c2, if_pos c3, if_pos c4, if_pos c5]
  obtain ⟨v, v', M1, M2, a1, a2, a3, a4⟩ := e_again h (hx _)
  rw [a1, ob_s]
  dsimp only
  rw [a2, ob_s]
  dsimp only
  rw [if_pos a3]; exact hK _ a4
theorem lawL {xs : Nat → Int} {lx : Nat} (hx : ∀ j, R32 (xs j)) (hl : lx ≤ 3072) : ∀ d k n M, lx < 6 * k + 6 * d + 6 → 6 * k + 6 * d ≤ 4000 → d < n → INV M → sL_law_b18 xs lx 0 359 n ((6 * k : Nat) : Int) M = some 1 := by
  intro d
  induction d with
  | zero =>
    intro k n M hk hk4 hn h
    obtain ⟨m, rfl⟩ : ∃ m, n = m + 1 := ⟨n - 1, by omega⟩
    rw [sL_law_b18, if_pos]
    rw [wI_of (by omega) (by omega), wI_of (by omega) (by omega)]; omega
  | succ d ih =>
    intro k n M hk hk4 hn h
    obtain ⟨m, rfl⟩ : ∃ m, n = m + 1 := ⟨n - 1, by omega⟩
    by_cases he : lx < 6 * k + 6
    · rw [sL_law_b18, if_pos]
      rw [wI_of (by omega) (by omega), wI_of (by omega) (by omega)]; omega
    · have hy : YY lx ((6 * k : Nat) : Int) (fun i => ((6 * k + i : Nat) : Int)) := by
        intro i hi
        refine ⟨?_, by dsimp only; omega, by dsimp only; omega⟩
        rw [wI_of (by omega) (by omega)]; dsimp only; omega
      have hK : ∀ N, INV N → sL_law_b1792 xs lx 0 359 (fun x3 M => sL_law_b18 xs lx 0 359 m x3 M) ((6 * k : Nat) : Int) N = some 1 := by
        intro N hN
        unfold sL_law_b1792
        rw [ob_s]
        have := ih (k + 1) m N (by omega) (by omega) (by omega) hN
        rw [show ((6 * (k + 1) : Nat) : Int) = ((6 * k : Nat) : Int) + 6 by omega] at this
        exact this
      have d1 : ¬ wI ((lx : Int) - 6) < wI ((6 * k : Nat) : Int) := by rw [wI_of (by omega) (by omega), wI_of (by omega) (by omega)]; omega
      have d2 : 0 ≤ wI ((6 * k : Nat) : Int) ∧ wI ((6 * k : Nat) : Int) < (lx : Int) := by rw [wI_of (by omega) (by omega)]; omega
      rw [sL_law_b18, if_neg d1, if_pos d2]
      obtain ⟨op, eop⟩ : ∃ op, op = wI ((xs (wI ((6 * k : Nat) : Int)).toNat) % 64) := ⟨_, rfl⟩
      rw [← eop]
      clear eop d1 d2
      by_cases h0 : op = 0
      · rw [if_pos h0]; exact op_0 h hx hy hK
      rw [if_neg h0]
      by_cases h1 : op = 1
      · rw [if_pos h1]; exact op_1 h hx hy hK
      rw [if_neg h1]
      by_cases h2 : op = 2
      · rw [if_pos h2]; exact op_2 h hx hy hK
      rw [if_neg h2]
      by_cases h3 : op = 3
      · rw [if_pos h3]; exact op_3 h hx hy hK
      rw [if_neg h3]
      by_cases h4 : op = 4
      · rw [if_pos h4]; exact op_4 h hx hy hK
      rw [if_neg h4]
      by_cases h5 : op = 5
      · rw [if_pos h5]; exact op_5 h hx hy hK
      rw [if_neg h5]
      by_cases h6 : op = 6
      · rw [if_pos h6]; exact op_6 h hx hy hK
      rw [if_neg h6]
      by_cases h7 : op = 7
      · rw [if_pos h7]; exact op_7 h hx hy hK
      rw [if_neg h7]
      by_cases h8 : op = 8
      · rw [if_pos h8]; exact op_8 h hx hy hK
      rw [if_neg h8]
      by_cases h9 : op = 9
      · rw [if_pos h9]; exact op_9 h hx hy hK
      rw [if_neg h9]
      by_cases h10 : op = 10
      · rw [if_pos h10]; exact op_10 h hx hy hK
      rw [if_neg h10]
      by_cases h11 : op = 11
      · rw [if_pos h11]; exact op_11 h hx hy hK
      rw [if_neg h11]
      by_cases h12 : op = 12
      · rw [if_pos h12]; exact op_12 h hx hy hK
      rw [if_neg h12]
      by_cases h13 : op = 13
      · rw [if_pos h13]; exact op_13 h hx hy hK
      rw [if_neg h13]
      by_cases h14 : op = 14
      · rw [if_pos h14]; exact op_14 h hx hy hK
      rw [if_neg h14]
      by_cases h15 : op = 15
      · rw [if_pos h15]; exact op_15 h hx hy hK
      rw [if_neg h15]
      by_cases h16 : op = 16
      · rw [if_pos h16]; exact op_16 h hx hy hK
      rw [if_neg h16]
      by_cases h17 : op = 17
      · rw [if_pos h17]; exact op_17 h hx hy hK
      rw [if_neg h17]
      by_cases h18 : op = 18
      · rw [if_pos h18]; exact op_18 h hx hy hK
      rw [if_neg h18]
      by_cases h19 : op = 19
      · rw [if_pos h19]; exact op_19 h hx hy hK
      rw [if_neg h19]
      by_cases h20 : op = 20
      · rw [if_pos h20]; exact op_20 h hx hy hK
      rw [if_neg h20]
      by_cases h21 : op = 21
      · rw [if_pos h21]; exact op_21 h hx hy hK
      rw [if_neg h21]
      by_cases h22 : op = 22
      · rw [if_pos h22]; exact op_22 h hx hy hK
      rw [if_neg h22]
      by_cases h23 : op = 23
      · rw [if_pos h23]; exact op_23 h hx hy hK
      rw [if_neg h23]
      by_cases h24 : op = 24
      · rw [if_pos h24]; exact op_24 h hx hy hK
      rw [if_neg h24]
      by_cases h25 : op = 25
      · rw [if_pos h25]; exact op_25 h hx hy hK
      rw [if_neg h25]
      by_cases h26 : op = 26
      · rw [if_pos h26]; exact op_26 h hx hy hK
      rw [if_neg h26]
      by_cases h27 : op = 27
      · rw [if_pos h27]; exact op_27 h hx hy hK
      rw [if_neg h27]
      by_cases h28 : op = 28
      · rw [if_pos h28]; exact op_28 h hx hy hK
      rw [if_neg h28]
      by_cases h29 : op = 29
      · rw [if_pos h29]; exact op_29 h hx hy hK
      rw [if_neg h29]
      by_cases h30 : op = 30
      · rw [if_pos h30]; exact op_30 h hx hy hK
      rw [if_neg h30]
      by_cases h31 : op = 31
      · rw [if_pos h31]; exact op_31 h hx hy hK
      rw [if_neg h31]
      by_cases h32 : op = 32
      · rw [if_pos h32]; exact op_32 h hx hy hK
      rw [if_neg h32]
      by_cases h33 : op = 33
      · rw [if_pos h33]; exact op_33 h hx hy hK
      rw [if_neg h33]
      by_cases h34 : op = 34
      · rw [if_pos h34]; exact op_34 h hx hy hK
      rw [if_neg h34]
      exact hK M h
