/-- feed: four bytes of an int, on both sides -/
def byP (x : Int) (s : Nat) : Int := (x / 2 ^ s).bmod 256
theorem by_e {x : Int} (r : R32 x) {s : Nat} (hs : s = 24 ∨ s = 16 ∨ s = 8 ∨ s = 0) : (x % 4294967296 / 2 ^ s).bmod 256 = byP x s := by
  unfold byP
  have e : ∀ a b : Int, a % 256 = b % 256 → a.bmod 256 = b.bmod 256 := fun a b h => by
    rw [Int.bmod_def, Int.bmod_def]
    show (if a % 256 < _ then a % 256 else a % 256 - _) = (if b % 256 < _ then b % 256 else b % 256 - _)
    rw [h]
  apply e
  rcases hs with rfl | rfl | rfl | rfl
  · show x % 4294967296 / 16777216 % 256 = x / 16777216 % 256; omega
  · show x % 4294967296 / 65536 % 256 = x / 65536 % 256; omega
  · show x % 4294967296 / 256 % 256 = x / 256 % 256; omega
  · show x % 4294967296 / 1 % 256 = x / 1 % 256; omega
theorem by_b (x : Int) (s : Nat) : -128 ≤ byP x s ∧ byP x s ≤ 127 := by
  unfold byP
  rw [Int.bmod_def]
  show -128 ≤ (if x / 2 ^ s % 256 < (256 + 1) / 2 then x / 2 ^ s % 256 else x / 2 ^ s % 256 - 256) ∧ (if x / 2 ^ s % 256 < (256 + 1) / 2 then x / 2 ^ s % 256 else x / 2 ^ s % 256 - 256) ≤ 127
  split <;> omega
/-- one byte more -/
theorem putA {x : Int} (r : R32 x) {T : MM} {L : Nat} (hL : T 1 1 = (L : Int)) (h6 : L < 600) {s : Nat} (hs : s = 24 ∨ s = 16 ∨ s = 8 ∨ s = 0) (f : Nat) : sX9_append_b3 1 x (f + 1) (s : Int) T = sX9_append_b3 1 x f ((s : Int) + -8) (mU (mU T 2 L (byP x s)) 1 1 ((L : Int) + 1)) := by
  rw [sX9_append_b3, wI_of (x := (s : Int)) (by omega) (by omega), if_neg (show ¬ (s : Int) < 0 by omega), hL, wI_of (x := (L : Int)) (by omega) (by omega), if_neg (show ¬ 600 ≤ (L : Int) by omega), if_pos (show 0 ≤ (s : Int) ∧ (s : Int) < 32 by omega), if_pos (show 0 ≤ (L : Int) ∧ (L : Int) < 600 by omega), ob_s, tN, tN, by_e r hs, g1_0, mU_row _ _ (show (1 : Nat) ≠ 2 by omega), hL, ob_s]
  unfold sX9_append_b40
  rw [ob_s]
theorem putB {x : Int} (r : R32 x) {T : MM} {L : Nat} (hL : T 361 0 = (L : Int)) (h6 : L < 600) {s : Nat} (hs : s = 24 ∨ s = 16 ∨ s = 8 ∨ s = 0) (f : Nat) : sX12_four_b3 359 x (f + 1) (s : Int) T = sX12_four_b3 359 x f ((s : Int) + -8) (mU (mU T 360 L (byP x s)) 361 0 ((L : Int) + 1)) := by
  rw [sX12_four_b3, wI_of (x := (s : Int)) (by omega) (by omega), if_neg (show ¬ (s : Int) < 0 by omega), if_pos (show 0 ≤ (s : Int) ∧ (s : Int) < 32 by omega), g359_1, g359_2, hL, wI_of (x := (L : Int)) (by omega) (by omega), if_pos (show 0 ≤ (L : Int) ∧ (L : Int) < 2400 by omega), ob_s, tN, tN, wI_of r.1 r.2, mU_row _ _ (show (361 : Nat) ≠ 360 by omega), hL, ob_s, ob_s]
  rfl
