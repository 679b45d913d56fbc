/-- orders: the digits, the bits -/
theorem oI_bt : ∀ v, v < 8 → ∀ c, c < 8 → ∀ x, x < 256 → decide (oI ((x : Nat) : Int) (1 * 2 ^ v) / 2 ^ c % 2 = 1) = (decide (((x : Nat) : Int) / 2 ^ c % 2 = 1) || decide (c = v)) := by decide +kernel
/-- the bits of the first e of some digits -/
def fbP (d : Nat → Nat) : Nat → Int
  | 0 => 0
  | e + 1 => oI (fbP d e) (1 * 2 ^ d e)
theorem fb_b {d : Nat → Nat} : ∀ e, (∀ j, j < e → d j < 8) → 0 ≤ fbP d e ∧ fbP d e < 256 := by
  intro e
  induction e with
  | zero => intro _; exact ⟨Int.le_refl _, by show (0 : Int) < 256; omega⟩
  | succ e ih => intro h; exact oI_8 (ih (fun j hj => h j (by omega))) (h e (by omega))
theorem fb_p {d : Nat → Nat} : ∀ e, (∀ j, j < e → d j < 8) → ∀ c, c < 8 → btS (fbP d e) c = pfS d e c := by
  intro e
  induction e with
  | zero =>
    intro _ c hc
    show decide ((0 : Int) / 2 ^ c % 2 = 1) = false
    rw [Int.zero_ediv]; rfl
  | succ e ih =>
    intro h c hc
    have b := fb_b e (fun j hj => h j (by omega))
    have i := ih (fun j hj => h j (by omega)) c hc
    obtain ⟨x, hx⟩ := Int.eq_ofNat_of_zero_le b.1
    show btS (oI (fbP d e) (1 * 2 ^ d e)) c = (pfS d e c || decide (c = d e))
    rw [← i, hx]
    exact oI_bt (d e) (h e (by omega)) c hc x (by omega)
theorem cnS_l {S S' : Nat → Bool} {c0 n : Nat} (h : ∀ c, S' c = (S c || decide (c = c0))) : cnS S' n ≤ cnS S n + 1 := by
  by_cases e : c0 < n ∧ S c0 = false
  · rw [cnS_a (S := S) (S' := S') n e.1 e.2 (by rw [h, decide_eq_true rfl, Bool.or_true]) (fun c _ hc => by rw [h, decide_eq_false hc, Bool.or_false])]
    exact Nat.le_refl _
  · have : cnS S' n = cnS S n := cnS_x (fun c hc => by
      rw [h]
      by_cases q : c = c0
      · subst q
        cases s : S c
        · exact absurd ⟨hc, s⟩ e
        · rfl
      · rw [decide_eq_false q, Bool.or_false])
    omega
theorem full_ord {d : Nat → Nat} {n : Nat} (h1 : ∀ j, j < n → d j < n) (h2 : ∀ c, c < n → pfS d n c = true) : ORD d n := by
  have inj : ∀ i j, i < j → j < n → ¬ d i = d j := by
    intro i j hij hj e
    have key : ∀ m, cnS (pfS d m) n + (if j < m then 1 else 0) ≤ m := by
      intro m
      induction m with
      | zero => rw [if_neg (by omega)]; have := cnS_0 n; show cnS (fun _ => false) n + 0 ≤ 0; omega
      | succ m ih =>
        by_cases q : m = j
        · subst q
          have : cnS (pfS d (m + 1)) n = cnS (pfS d m) n := cnS_x (fun c _ => by
            show (pfS d m c || decide (c = d m)) = pfS d m c
            by_cases z : c = d m
            · have : pfS d m c = true := (pf_e d m c).2 ⟨i, hij, by rw [z, e]⟩
              rw [this]; rfl
            · rw [decide_eq_false z, Bool.or_false])
          rw [if_neg (by omega)] at ih
          rw [if_pos (by omega), this]
          omega
        · have := cnS_l (S := pfS d m) (S' := pfS d (m + 1)) (c0 := d m) (n := n) (fun c => rfl)
          by_cases z : j < m
          · rw [if_pos z] at ih; rw [if_pos (by omega)]; omega
          · rw [if_neg z] at ih; rw [if_neg (by omega)]; omega
    have k := key n
    rw [if_pos hj, cnS_t n h2] at k
    omega
  refine ⟨h1, fun i j hi hj e => ?_⟩
  by_cases q : i < j
  · exact absurd e (inj i j q hj)
  · by_cases q2 : j < i
    · exact absurd e.symm (inj j i q2 hi)
    · omega
theorem rev_ord {d : Nat → Nat} {n : Nat} (h : ORD d n) : ORD (fun i => d (n - 1 - i)) n := ⟨fun i hi => h.1 _ (by omega), fun i j hi hj e => by have := h.2 (n - 1 - i) (n - 1 - j) (by omega) (by omega) e; omega⟩
/-- bits that are full tell an order -/
theorem fb_ord {d : Nat → Nat} {n : Nat} (hn : n ≤ 8) (hd : ∀ j, j < n → d j < 8) (h : fbP d n = 1 * 2 ^ n - 1) : ORD d n := by
  have p : ∀ c, c < 8 → pfS d n c = decide (c < n) := fun c hc => by
    rw [← fb_p n hd c hc, h]
    exact bt_tab n (by omega) c (by omega)
  refine full_ord (fun j hj => ?_) (fun c hc => by rw [p c (by omega), decide_eq_true hc])
  have a := p (d j) (hd j hj)
  rw [(pf_e d n (d j)).2 ⟨j, hj, rfl⟩] at a
  exact of_decide_eq_true a.symm
theorem pf_all {d : Nat → Nat} {n : Nat} (h : ORD d n) : ∀ c, c < n → pfS d n c = true := cnS_1 n (cnS_p h n (Nat.le_refl n))
/-- the rests of an order's number, and its digits -/
def xdP (x : Int) : Nat → Int
  | 0 => x
  | e + 1 => xdP x e % 4294967296 / 8
def odP (x : Int) (n e : Nat) : Nat := if x = -1 then n - 1 - e else (xdP x e % 8).toNat
theorem xd_b {x : Int} (r : R32 x) : ∀ e, 1 ≤ e → 0 ≤ xdP x e ∧ xdP x e < 536870912 := by
  intro e he
  obtain ⟨k, rfl⟩ : ∃ k, e = k + 1 := ⟨e - 1, by omega⟩
  show 0 ≤ xdP x k % 4294967296 / 8 ∧ xdP x k % 4294967296 / 8 < 536870912
  omega
theorem xd_r {x : Int} (r : R32 x) (e : Nat) : R32 (xdP x e) := by
  cases e with
  | zero => exact r
  | succ e => have := xd_b r (e + 1) (by omega); omega
theorem od_b {x : Int} {n e : Nat} (hn : n ≤ 8) (he : e < n) : odP x n e < 8 := by
  unfold odP
  split
  · omega
  · omega
theorem xd_n {x : Int} (h1 : -2147483648 ≤ x) (h2 : x < 0) : ∀ e, e ≤ 8 → xdP x (e + 1) ≠ 0 := by
  have key : ∀ e, e ≤ 8 → (268435456 : Int) ≤ 8 ^ e * (xdP x (e + 1) + 1) := by
    intro e
    induction e with
    | zero => intro _; show (268435456 : Int) ≤ 8 ^ 0 * (x % 4294967296 / 8 + 1); omega
    | succ e ih =>
      intro he
      have i := ih (by omega)
      have b := xd_b (x := x) ⟨h1, by omega⟩ (e + 1) (by omega)
      show (268435456 : Int) ≤ 8 ^ (e + 1) * (xdP x (e + 1) % 4294967296 / 8 + 1)
      have m : xdP x (e + 1) + 1 ≤ 8 * (xdP x (e + 1) % 4294967296 / 8 + 1) := by omega
      have p : (0 : Int) ≤ 8 ^ e := by
        have : (0 : Int) < 8 ^ e := Int.pow_pos (by omega)
        omega
      have mm := Int.mul_le_mul_of_nonneg_left m p
      rw [Int.pow_succ, Int.mul_assoc]
      omega
  intro e he q
  have k := key e he
  rw [q] at k
  have t : ∀ e, e ≤ 8 → (8 : Int) ^ e * (0 + 1) < 268435456 := by decide
  have := t e he
  omega
