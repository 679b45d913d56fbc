/-- the worth of hanging on: d blows still to come, x left in the belly -/
def wrP (P : Nat → Int) (n b : Nat) : Nat → Int → Int
  | 0, _ => 0
  | d + 1, x => (10 - P (30 + 13 * ((n * b - (d + 1)) / b))) * wrP P n b d x + P (30 + 13 * ((n * b - (d + 1)) / b)) * max (wrP P n b d x) (if P (29 + 13 * ((n * b - (d + 1)) / b)) < x then wrP P n b d (x - P (29 + 13 * ((n * b - (d + 1)) / b))) else if (n * b - (d + 1)) / b + 1 = n then 10 ^ d else 0)
def tkP (P : Nat → Int) (n b d : Nat) (c : Nat) (x : Int) : Int := if P (29 + 13 * c) < x then wrP P n b d (x - P (29 + 13 * c)) else if c + 1 = n then 10 ^ d else 0
theorem wr_s (P : Nat → Int) (n b d : Nat) (x : Int) : wrP P n b (d + 1) x = (10 - P (30 + 13 * ((n * b - (d + 1)) / b))) * wrP P n b d x + P (30 + 13 * ((n * b - (d + 1)) / b)) * max (wrP P n b d x) (tkP P n b d ((n * b - (d + 1)) / b) x) := rfl
theorem chd_e {n b e j : Nat} (he : e < n) (hj : j < b) : (n * b - (e * b + j + 1)) / b = n - 1 - e := by
  obtain ⟨m, rfl⟩ : ∃ m, n = e + 1 + m := ⟨n - (e + 1), by omega⟩
  have h : (e + 1 + m) * b = e * b + b + b * m := by rw [Nat.add_mul, Nat.add_mul, Nat.one_mul, Nat.mul_comm m b]
  rw [h, show e + 1 + m - 1 - e = m by omega]
  have q : e * b + b + b * m - (e * b + j + 1) = b * m + (b - 1 - j) := by generalize e * b = u; generalize b * m = w; omega
  rw [q, Nat.mul_add_div (by omega), Nat.div_eq_of_lt (by omega), Nat.add_zero]
theorem chd_l {n b d : Nat} (h : d < n * b) : (n * b - (d + 1)) / b < n := by
  have hb : 0 < b := by
    rcases Nat.eq_zero_or_pos b with h0 | h0
    · subst h0; rw [Nat.mul_zero] at h; omega
    · exact h0
  rw [Nat.div_lt_iff_lt_mul hb]
  omega
theorem p10_n (d : Nat) : (10 : Int) ^ d = ((10 ^ d : Nat) : Int) := by simp
theorem p10_p (d : Nat) : (1 : Int) ≤ 10 ^ d := by
  induction d with
  | zero => decide
  | succ d ih => rw [Int.pow_succ]; omega
theorem mix_b {A l v m : Int} (hl : 0 ≤ l ∧ l ≤ 10) (hv : 0 ≤ v ∧ v ≤ A) (hm : 0 ≤ m ∧ m ≤ A) : 0 ≤ (10 - l) * v + l * m ∧ (10 - l) * v + l * m ≤ 10 * A := by
  have h1 := mul_c (a := 10 - l) (A := 10 - l) (b := v) (B := A) ⟨by omega, by omega⟩ hv
  have h2 := mul_c (a := l) (A := l) (b := m) (B := A) ⟨by omega, by omega⟩ hm
  simp only [Int.sub_mul] at h1 ⊢
  generalize l * A = x at *
  generalize l * m = y at *
  generalize l * v = z at *
  omega
theorem wr_b {P : Nat → Int} {n b : Nat} (hl : ∀ c : Nat, c < n → 0 ≤ P (30 + 13 * c) ∧ P (30 + 13 * c) ≤ 10) : ∀ d x, d ≤ n * b → 0 ≤ wrP P n b d x ∧ wrP P n b d x ≤ 10 ^ d := by
  intro d
  induction d with
  | zero => intro x _; exact ⟨Int.le_refl _, by show (0 : Int) ≤ 10 ^ 0; decide⟩
  | succ d ih =>
    intro x hd
    have hc := chd_l (n := n) (b := b) (d := d) (by omega)
    have h0 := ih x (by omega)
    have h1 := p10_p d
    have ht : 0 ≤ tkP P n b d ((n * b - (d + 1)) / b) x ∧ tkP P n b d ((n * b - (d + 1)) / b) x ≤ 10 ^ d := by
      unfold tkP
      split
      · exact ih _ (by omega)
      · split
        · omega
        · omega
    have hlc := hl _ hc
    rw [wr_s, Int.pow_succ, Int.mul_comm (10 ^ d) 10]
    generalize tkP P n b d ((n * b - (d + 1)) / b) x = t at *
    exact mix_b hlc h0 ⟨by omega, by omega⟩
theorem tk_b {P : Nat → Int} {n b : Nat} (hl : ∀ c : Nat, c < n → 0 ≤ P (30 + 13 * c) ∧ P (30 + 13 * c) ≤ 10) {d : Nat} (hd : d ≤ n * b) (c : Nat) (x : Int) : 0 ≤ tkP P n b d c x ∧ tkP P n b d c x ≤ 10 ^ d := by
  have h1 := p10_p d
  unfold tkP
  split
  · exact wr_b hl d _ hd
  · split
    · omega
    · omega
theorem p10_l : ∀ d, d < 16 → (10 : Int) ^ d ≤ 1000000000000000 := by decide
theorem tenA_t : ∀ d, d < 16 → (sT 4).getD d 0 = (10 : Int) ^ d := by decide
theorem tenA {M : MM} {x : Int} {d : Nat} (hx : x = (d : Int)) (hd : d < 16) : sX4_tens x M = some (10 ^ d) := by
  unfold sX4_tens sX4_tens_b0
  subst hx
  rw [wI_of (x := (d : Int)) (by omega) (by omega), if_neg (by omega), if_neg (by omega), if_pos ⟨by omega, by omega⟩, tN, tenA_t d hd]
theorem tenB {x : Int} {d : Nat} (hx : x = (d : Int)) (hd : d < 1000) : sX12_tens x = some (10 ^ d) := by
  unfold sX12_tens sX12_tens_b0
  subst hx
  refine loopC (fun f y (s : Int) => sX12_tens_b4 (d : Int) f s y) d (fun k s => s = 10 ^ k) (fun o => o = some (10 ^ d)) ?_ ?_ FU 0 1 (by omega) rfl (by unfold FU; omega)
  · intro f s hs
    show sX12_tens_b4 (d : Int) (f + 1) s (d : Int) = _
    rw [sX12_tens_b4, if_pos (Int.le_refl _), hs]
  · intro f k s hk hs
    right
    refine ⟨s * 10, ?_, by rw [hs, Int.pow_succ]⟩
    show sX12_tens_b4 (d : Int) (f + 1) s (k : Int) = _
    rw [sX12_tens_b4, wI_of (x := (d : Int)) (by omega) (by omega), wI_of (x := (k : Int)) (by omega) (by omega), if_neg (by omega), ob_s]
/-- a table that holds the worth of the last D blows -/
def TbP (t : Nat → Int) (P : Nat → Int) (n b D : Nat) : Prop := ∀ d, d ≤ D → ∀ x : Nat, 1 ≤ x → x ≤ 30 → t (31 * (n * b - d) + x) = wrP P n b d (x : Int)
