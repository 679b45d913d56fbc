def fP : Nat → Nat × Nat
  | 0 => (1, 2)
  | n + 1 => ((fP n).2, (fP n).1 + (fP n).2)
def fB (n : Nat) : Nat := (fP n).1
theorem fB_ss (n : Nat) : fB (n + 2) = fB (n + 1) + fB n := by
  show (fP n).1 + (fP n).2 = (fP n).2 + (fP n).1
  omega
theorem fB_0 : fB 0 = 1 := rfl
theorem fB_1 : fB 1 = 2 := rfl
theorem fB_90 : 2 ^ 60 ≤ fB 90 := by decide +kernel
theorem tm_n (x y : Nat) : Int.tmod (x : Int) (y : Int) = ((x % y : Nat) : Int) := by rw [Int.tmod_eq_emod_of_nonneg (by omega)]; simp
theorem td_n (x y : Nat) : Int.tdiv (x : Int) (y : Int) = ((x / y : Nat) : Int) := by rw [Int.tdiv_eq_ediv_of_nonneg (by omega)]; simp
theorem wJ_n {x : Nat} (h : x < 2 ^ 60) : wJ (x : Int) = (x : Int) := wJ_of (by omega) (by omega)
theorem wJ_00 : wJ ((0 : Nat) : Int) = 0 := by decide +kernel
theorem cm_A (y0 y2 : Int) : ∀ n, (∀ x y c f : Nat, y < x → y < fB n → x < 2 ^ 60 → c + n ≤ 100 → n < f → sX11_commonOf_b9 y0 y2 f (x : Int) (y : Int) (c : Int) = some ((Nat.gcd x y : Nat) : Int)) ∧ (∀ x y c f : Nat, y < x → y < fB (n + 1) → x < 2 ^ 60 → c + (n + 1) ≤ 100 → n + 1 < f → sX11_commonOf_b9 y0 y2 f (x : Int) (y : Int) (c : Int) = some ((Nat.gcd x y : Nat) : Int)) := by
  have h0 : ∀ x c f : Nat, c ≤ 100 → 0 < f → sX11_commonOf_b9 y0 y2 f (x : Int) ((0 : Nat) : Int) (c : Int) = some ((Nat.gcd x 0 : Nat) : Int) := by
    intro x c f hc hf
    obtain ⟨f, rfl⟩ : ∃ g, f = g + 1 := ⟨f - 1, by omega⟩
    rw [sX11_commonOf_b9, Nat.gcd_zero_right]
    unfold sX11_commonOf_b44
    by_cases h : 100 ≤ wI (c : Int)
    · rw [if_pos h]
    · rw [if_neg h, if_pos wJ_00]
  have h1 : ∀ x y c f : Nat, y ≠ 0 → y < 2 ^ 60 → x < 2 ^ 60 → c < 100 → sX11_commonOf_b9 y0 y2 (f + 1) (x : Int) (y : Int) (c : Int) = sX11_commonOf_b9 y0 y2 f (y : Int) ((x % y : Nat) : Int) ((c + 1 : Nat) : Int) := by
    intro x y c f hy hy' hx hc
    rw [sX11_commonOf_b9, wI_of (by omega) (by omega), if_neg (by omega), wJ_n hy', wJ_n hx, if_neg (by omega), if_pos (by omega), ob_s, tm_n]
    rfl
  intro n
  induction n with
  | zero =>
    refine ⟨fun x y c f hyx hy hx hc hf => ?_, fun x y c f hyx hy hx hc hf => ?_⟩
    · rw [fB_0] at hy
      have : y = 0 := by omega
      subst this
      exact h0 x c f (by omega) (by omega)
    · rw [show fB (0 + 1) = 2 from rfl] at hy
      by_cases y0' : y = 0
      · subst y0'; exact h0 x c f (by omega) (by omega)
      · have : y = 1 := by omega
        subst this
        obtain ⟨f, rfl⟩ : ∃ g, f = g + 1 := ⟨f - 1, by omega⟩
        rw [h1 x 1 c f (by omega) (by omega) (by omega) (by omega), Nat.mod_one, h0 1 (c + 1) f (by omega) (by omega), Nat.gcd_one_right, Nat.gcd_zero_right]
  | succ n ih =>
    refine ⟨ih.2, fun x y c f hyx hy hx hc hf => ?_⟩
    by_cases y0' : y = 0
    · subst y0'; exact h0 x c f (by omega) (by omega)
    obtain ⟨f, rfl⟩ : ∃ g, f = g + 1 := ⟨f - 1, by omega⟩
    rw [h1 x y c f y0' (by omega) hx (by omega)]
    have hr : x % y < y := Nat.mod_lt _ (by omega)
    have hg : Nat.gcd x y = Nat.gcd y (x % y) := by rw [Nat.gcd_comm x y, Nat.gcd_rec y x, Nat.gcd_comm]
    rw [hg]
    by_cases hs : x % y < fB (n + 1)
    · exact ih.2 y (x % y) (c + 1) f hr hs (by omega) (by omega) (by omega)
    · by_cases r0 : x % y = 0
      · rw [r0]; exact h0 y (c + 1) f (by omega) (by omega)
      obtain ⟨f, rfl⟩ : ∃ g, f = g + 1 := ⟨f - 1, by omega⟩
      rw [h1 y (x % y) (c + 1) f r0 (by omega) (by omega) (by omega)]
      have hr2 : y % (x % y) < x % y := Nat.mod_lt _ (by omega)
      have hr3 : y % (x % y) ≤ y - x % y := by
        have := Nat.mod_add_div y (x % y)
        have : 0 < y / (x % y) := Nat.div_pos (by omega) (by omega)
        have : x % y * 1 ≤ x % y * (y / (x % y)) := Nat.mul_le_mul_left _ (by omega)
        omega
      have hg2 : Nat.gcd y (x % y) = Nat.gcd (x % y) (y % (x % y)) := by rw [Nat.gcd_comm y (x % y), Nat.gcd_rec (x % y) y, Nat.gcd_comm]
      rw [hg2]
      have := fB_ss n
      have hy2 : y < fB (n + 2) := hy
      exact ih.1 (x % y) (y % (x % y)) (c + 1 + 1) f hr2 (by omega) (by omega) (by omega) (by omega)
theorem cm_B (y0 y2 : Int) : ∀ n, (∀ x y f : Nat, y < x → y < fB n → x < 2 ^ 60 → n < f → sX12_common_b6 y0 y2 f (x : Int) (y : Int) = some ((Nat.gcd x y : Nat) : Int)) ∧ (∀ x y f : Nat, y < x → y < fB (n + 1) → x < 2 ^ 60 → n + 1 < f → sX12_common_b6 y0 y2 f (x : Int) (y : Int) = some ((Nat.gcd x y : Nat) : Int)) := by
  have h0 : ∀ x f : Nat, 0 < f → sX12_common_b6 y0 y2 f (x : Int) ((0 : Nat) : Int) = some ((Nat.gcd x 0 : Nat) : Int) := by
    intro x f hf
    obtain ⟨f, rfl⟩ : ∃ g, f = g + 1 := ⟨f - 1, by omega⟩
    rw [sX12_common_b6, Nat.gcd_zero_right, if_pos wJ_00]
  have h1 : ∀ x y f : Nat, y ≠ 0 → y < 2 ^ 60 → x < 2 ^ 60 → sX12_common_b6 y0 y2 (f + 1) (x : Int) (y : Int) = sX12_common_b6 y0 y2 f (y : Int) ((x % y : Nat) : Int) := by
    intro x y f hy hy' hx
    rw [sX12_common_b6, wJ_n hy', wJ_n hx, if_neg (by omega), if_pos (by omega), tm_n]
  intro n
  induction n with
  | zero =>
    refine ⟨fun x y f hyx hy hx hf => ?_, fun x y f hyx hy hx hf => ?_⟩
    · rw [fB_0] at hy
      have : y = 0 := by omega
      subst this
      exact h0 x f (by omega)
    · rw [show fB (0 + 1) = 2 from rfl] at hy
      by_cases y0' : y = 0
      · subst y0'; exact h0 x f (by omega)
      · have : y = 1 := by omega
        subst this
        obtain ⟨f, rfl⟩ : ∃ g, f = g + 1 := ⟨f - 1, by omega⟩
        rw [h1 x 1 f (by omega) (by omega) (by omega), Nat.mod_one, h0 1 f (by omega), Nat.gcd_one_right, Nat.gcd_zero_right]
  | succ n ih =>
    refine ⟨ih.2, fun x y f hyx hy hx hf => ?_⟩
    by_cases y0' : y = 0
    · subst y0'; exact h0 x f (by omega)
    obtain ⟨f, rfl⟩ : ∃ g, f = g + 1 := ⟨f - 1, by omega⟩
    rw [h1 x y f y0' (by omega) hx]
    have hr : x % y < y := Nat.mod_lt _ (by omega)
    have hg : Nat.gcd x y = Nat.gcd y (x % y) := by rw [Nat.gcd_comm x y, Nat.gcd_rec y x, Nat.gcd_comm]
    rw [hg]
    by_cases hs : x % y < fB (n + 1)
    · exact ih.2 y (x % y) f hr hs (by omega) (by omega)
    · by_cases r0 : x % y = 0
      · rw [r0]; exact h0 y f (by omega)
      obtain ⟨f, rfl⟩ : ∃ g, f = g + 1 := ⟨f - 1, by omega⟩
      rw [h1 y (x % y) f r0 (by omega) (by omega)]
      have hr2 : y % (x % y) < x % y := Nat.mod_lt _ (by omega)
      have hr3 : y % (x % y) ≤ y - x % y := by
        have := Nat.mod_add_div y (x % y)
        have : 0 < y / (x % y) := Nat.div_pos (by omega) (by omega)
        have : x % y * 1 ≤ x % y * (y / (x % y)) := Nat.mul_le_mul_left _ (by omega)
        omega
      have hg2 : Nat.gcd y (x % y) = Nat.gcd (x % y) (y % (x % y)) := by rw [Nat.gcd_comm y (x % y), Nat.gcd_rec (x % y) y, Nat.gcd_comm]
      rw [hg2]
      have := fB_ss n
      have hy2 : y < fB (n + 2) := hy
      exact ih.1 (x % y) (y % (x % y)) f hr2 (by omega) (by omega) (by omega)
theorem common_A {n d : Nat} (hn : n < 2 ^ 60) (hd : 0 < d ∧ d < 2 ^ 60) : sX11_commonOf (n : Int) (d : Int) = some ((Nat.gcd n d : Nat) : Int) := by
  unfold sX11_commonOf sX11_commonOf_b0
  rw [show FU = 99999 + 1 from rfl, sX11_commonOf_b9, wI_0, if_neg (by omega), wJ_n hd.2, wJ_n hn, if_neg (by omega), if_pos (by omega), ob_s, tm_n]
  have := (cm_A (n : Int) (d : Int) 90).1 d (n % d) 1 99999 (Nat.mod_lt _ hd.1) (by have := Nat.mod_lt n hd.1; have := fB_90; omega) hd.2 (by omega) (by omega)
  rw [show (0 : Int) + 1 = ((1 : Nat) : Int) from rfl, this, Nat.gcd_comm n d, Nat.gcd_rec d n, Nat.gcd_comm]
theorem common_B {n d : Nat} (hn : n < 2 ^ 60) (hd : 0 < d ∧ d < 2 ^ 60) : sX12_common (n : Int) (d : Int) = some ((Nat.gcd n d : Nat) : Int) := by
  unfold sX12_common sX12_common_b0
  rw [show FU = 99999 + 1 from rfl, sX12_common_b6, wJ_n hd.2, wJ_n hn, if_neg (by omega), if_pos (by omega), tm_n]
  have := (cm_B (n : Int) (d : Int) 90).1 d (n % d) 99999 (Nat.mod_lt _ hd.1) (by have := Nat.mod_lt n hd.1; have := fB_90; omega) hd.2 (by omega)
  rw [this, Nat.gcd_comm n d, Nat.gcd_rec d n, Nat.gcd_comm]
theorem fr_eq {n d : Nat} (hn : n < 2 ^ 60) (hd : 0 < d ∧ d < 2 ^ 60) (u : Int) : ∃ v, sX11_fraction (n : Int) (d : Int) u = some v ∧ sX12_least (n : Int) (d : Int) u = some v := by
  have hgle : Nat.gcd n d ≤ d := Nat.gcd_le_right n hd.1
  have hg0 : 0 < Nat.gcd n d := Nat.gcd_pos_of_pos_right n hd.1
  have hgJ : wJ ((Nat.gcd n d : Nat) : Int) = ((Nat.gcd n d : Nat) : Int) := wJ_n (by omega)
  have hgn : ((Nat.gcd n d : Nat) : Int) ≠ 0 := by omega
  refine ⟨if wI u = 0 then ((n / Nat.gcd n d : Nat) : Int) else ((d / Nat.gcd n d : Nat) : Int), ?_, ?_⟩
  · unfold sX11_fraction sX11_fraction_b0
    rw [wJ_n hn, wJ_n hd.2]
    by_cases h0 : n = 0
    · subst h0
      rw [if_pos (by omega), Nat.gcd_zero_left, Nat.div_self hd.1, Nat.zero_div]
      unfold sX11_fraction_b12
      by_cases hu : wI u = 0
      · rw [if_pos hu, if_pos hu]; rfl
      · rw [if_neg hu, if_neg hu]; rfl
    · rw [if_neg (by omega), if_pos (show 0 < (d : Int) by omega), common_A hn hd, ob_s, hgJ, if_pos (show 0 < ((Nat.gcd n d : Nat) : Int) by omega)]
      by_cases hu : wI u = 0
      · rw [if_pos hu, if_pos hu, if_pos hgn, td_n]
      · rw [if_neg hu, if_neg hu, if_pos hgn, td_n]
  · unfold sX12_least sX12_least_b0 sX12_least_b10
    by_cases hu : wI u = 0
    · rw [if_pos hu, if_pos hu, common_B hn hd, ob_s, hgJ, if_pos hgn, wJ_n hn, td_n]
    · rw [if_neg hu, if_neg hu, common_B hn hd, ob_s, hgJ, if_pos hgn, wJ_n hd.2, td_n]
theorem fr_eqi {n d : Int} (hn : 0 ≤ n ∧ n < 1152921504606846976) (hd : 0 < d ∧ d < 1152921504606846976) (u : Int) : ∃ v, sX11_fraction n d u = some v ∧ sX12_least n d u = some v := by
  obtain ⟨a, rfl⟩ := Int.eq_ofNat_of_zero_le hn.1
  obtain ⟨b, rfl⟩ := Int.eq_ofNat_of_zero_le (show 0 ≤ d by omega)
  exact fr_eq (by omega) ⟨by omega, by omega⟩ u
