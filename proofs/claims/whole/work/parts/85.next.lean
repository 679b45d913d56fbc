/-- the next order, on rows and on numbers -/
def swF (o : Nat → Nat) (i j : Nat) : Nat → Nat := fun x => if x = i then o j else if x = j then o i else o x
def fiF (o : Nat → Nat) : Nat → Option Nat
  | 0 => none
  | k + 1 => if o k ≤ o (k + 1) then some k else fiF o k
def fjF (o : Nat → Nat) (i : Nat) : Nat → Nat
  | 0 => 0
  | k + 1 => if o i ≤ o (k + 1) then k + 1 else fjF o i k
def rvF : Nat → (Nat → Nat) → Nat → Nat → (Nat → Nat)
  | 0, o, _, _ => o
  | f + 1, o, a, b => if b ≤ a then o else rvF f (swF o a b) (a + 1) (b - 1)
def nxF (n : Nat) (o : Nat → Nat) : Option (Nat → Nat) :=
  match fiF o (n - 1) with
  | none => none
  | some i => some (rvF n (swF o i (fjF o i (n - 1))) (i + 1) (n - 1))
def plP : Nat → List Nat
  | 1 => [0]
  | 2 => [8, 1]
  | 3 => [136, 80, 129, 17, 66, 10]
  | 4 => [1672, 1224, 1616, 720, 1112, 664, 1665, 1217, 1553, 209, 1049, 153, 1602, 706, 1546, 202, 538, 90, 1091, 643, 1035, 139, 531, 83]
  | 5 => [18056, 14472, 17608, 10440, 13576, 9992, 18000, 14416, 17104, 6352, 13072, 5904, 17496, 10328, 17048, 6296, 8984, 5400, 13408, 9824, 12960, 5792, 8928, 5344, 18049, 14465, 17601, 10433, 13569, 9985, 17937, 14353, 16593, 2257, 12561, 1809, 17433, 10265, 16537, 2201, 8473, 1305, 13345, 9761, 12449, 1697, 8417, 1249, 17986, 14402, 17090, 6338, 13058, 5890, 17930, 14346, 16586, 2250, 12554, 1802, 16922, 6170, 16474, 2138, 4378, 794, 12834, 5666, 12386, 1634, 4322, 738, 17475, 10307, 17027, 6275, 8963, 5379, 17419, 10251, 16523, 2187, 8459, 1291, 16915, 6163, 16467, 2131, 4371, 787, 8739, 5155, 8291, 1123, 4259, 675, 13380, 9796, 12932, 5764, 8900, 5316, 13324, 9740, 12428, 1676, 8396, 1228, 12820, 5652, 12372, 1620, 4308, 724, 8732, 5148, 8284, 1116, 4252, 668]
  | _ => []
def olP (n k : Nat) : Nat → Nat := fun i => (plP n).getD k 0 / 8 ^ i % 8
def eqN (n : Nat) (o o' : Nat → Nat) : Bool := (List.range n).all fun i => o i == o' i
theorem pl_n : ∀ n, n < 6 → (plP n).length ≤ 120 := by decide +kernel
theorem pl_0 : ∀ n, n < 6 → 1 ≤ n → 1 ≤ (plP n).length ∧ eqN n (olP n 0) id = true := by decide +kernel
theorem pl_s : ∀ n, n < 6 → 1 ≤ n → ∀ k, k < 120 → k < (plP n).length → (match nxF n (olP n k) with | none => k + 1 == (plP n).length | some o => decide (k + 1 < (plP n).length) && eqN n o (olP n (k + 1))) = true := by decide +kernel
theorem pl_o : ∀ n, n < 6 → ∀ k, k < 120 → k < (plP n).length → ((List.range n).all fun i => decide (olP n k i < n) && (List.range n).all fun j => !(olP n k i == olP n k j) || i == j) = true := by decide +kernel
theorem pl_c : ∀ n, n < 6 → ∀ k, k < 120 → k < (plP n).length → fo (fun i s => oI (s * 2 ^ (Int.toNat 3)) (olP n k i : Int)) n 0 = fo (fun i s => s * 8 + (olP n k i : Int)) n (0 : Int) := by decide +kernel
theorem eqN_e {n : Nat} {o o' : Nat → Nat} (h : eqN n o o' = true) : ∀ i, i < n → o i = o' i := fun i hi => by
  unfold eqN at h
  rw [List.all_eq_true] at h
  exact eq_of_beq (h i (List.mem_range.2 hi))
theorem pl_ord {n k : Nat} (hn : n < 6) (hk : k < (plP n).length) : ORD (olP n k) n := by
  have h := pl_o n hn k (by have := pl_n n hn; omega) hk
  rw [List.all_eq_true] at h
  refine ⟨fun i hi => ?_, fun i j hi hj e => ?_⟩
  · have a := h i (List.mem_range.2 hi)
    rw [Bool.and_eq_true] at a
    exact of_decide_eq_true a.1
  · have a := h i (List.mem_range.2 hi)
    rw [Bool.and_eq_true, List.all_eq_true] at a
    have c := a.2 j (List.mem_range.2 hj)
    rw [Bool.or_eq_true] at c
    rcases c with c | c
    · rw [e] at c
      simp at c
    · exact eq_of_beq c
