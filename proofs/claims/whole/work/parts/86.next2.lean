/-- class and reference go to the next order -/
def RwR (r : Nat) (n : Nat) (o : Nat → Nat) (N : MM) : Prop := (∀ i, i < n → N r i = (o i : Int)) ∧ ∀ i, i < n → o i < 8
theorem sw_b {n : Nat} {o : Nat → Nat} (h : ∀ i, i < n → o i < 8) {i j : Nat} (hi : i < n) (hj : j < n) : ∀ x, x < n → swF o i j x < 8 := fun x hx => by
  unfold swF
  split
  · exact h j hj
  · split
    · exact h i hi
    · exact h x hx
theorem sw_m {r n : Nat} {o : Nat → Nat} {N : MM} (h : RwR r n o N) {i j : Nat} (hi : i < n) (hj : j < n) : RwR r n (swF o i j) (mU (mU N r i (N r j)) r j (N r i)) := by
  refine ⟨fun x hx => ?_, sw_b h.2 hi hj⟩
  unfold swF
  by_cases e : x = j
  · subst e
    rw [mU_eq, h.1 i hi]
    by_cases q : x = i
    · rw [if_pos q, q]
    · rw [if_neg q, if_pos rfl]
  · rw [mU_ne _ _ (by omega)]
    by_cases q : x = i
    · subst q; rw [mU_eq, if_pos rfl, h.1 j hj]
    · rw [mU_ne _ _ (by omega), if_neg q, if_neg e, h.1 x hx]
theorem swapA {n : Nat} (hn : n ≤ 8) {o : Nat → Nat} {N : MM} (h : RwR 122 n o N) {i j : Nat} (hi : i < n) (hj : j < n) : ∃ N', sX4_swapInRow 121 (i : Int) (j : Int) N = some N' ∧ RwR 122 n (swF o i j) N' ∧ ∀ a, a ≠ 122 → N' a = N a := by
  refine ⟨_, ?_, sw_m h hi hj, fun a ha => by rw [mU_row _ _ ha, mU_row _ _ ha]⟩
  have zi : 0 ≤ (i : Int) ∧ (i : Int) < 8 := ⟨by omega, by omega⟩
  have zj : 0 ≤ (j : Int) ∧ (j : Int) < 8 := ⟨by omega, by omega⟩
  unfold sX4_swapInRow sX4_swapInRow_b0
  rw [wI_of (x := (i : Int)) (by omega) (by omega), wI_of (x := (j : Int)) (by omega) (by omega), if_neg (show ¬ (i : Int) < 0 by omega), if_neg (show ¬ 8 ≤ (i : Int) by omega), if_neg (show ¬ (j : Int) < 0 by omega), if_neg (show ¬ 8 ≤ (j : Int) by omega), if_pos zi, if_pos zj, if_pos zi, ob_s, if_pos zj, ob_s, g121_0, tN, tN]
theorem turnB {n : Nat} (hn : n ≤ 8) {o : Nat → Nat} {N : MM} (h : RwR 382 n o N) {i j : Nat} (hi : i < n) (hj : j < n) : ∃ N', sX12_turn 359 (i : Int) (j : Int) N = some N' ∧ RwR 382 n (swF o i j) N' ∧ ∀ a, a ≠ 382 → N' a = N a := by
  refine ⟨_, ?_, sw_m h hi hj, fun a ha => by rw [mU_row _ _ ha, mU_row _ _ ha]⟩
  have zi : 0 ≤ (i : Int) ∧ (i : Int) < 8 := ⟨by omega, by omega⟩
  have zj : 0 ≤ (j : Int) ∧ (j : Int) < 8 := ⟨by omega, by omega⟩
  unfold sX12_turn sX12_turn_b0
  rw [wI_of (x := (i : Int)) (by omega) (by omega), wI_of (x := (j : Int)) (by omega) (by omega), if_pos zi, if_pos zj, if_pos zi, ob_s, if_pos zj, ob_s, g359_52, tN, tN]
theorem revA {n p : Nat} (hn : n ≤ 8) : ∀ m a b : Nat, ∀ (o : Nat → Nat) (N : MM), RwR 122 n o N → a ≤ n → b < n → b ≤ a + m → ∀ f, m < f → ∃ N', sX4_toNextRow_b92 121 p f (a : Int) (b : Int) N = some (1, N') ∧ RwR 122 n (rvF m o a b) N' ∧ ∀ x, x ≠ 122 → N' x = N x := by
  intro m
  induction m with
  | zero =>
    intro a b o N h ha hb hm f hf
    obtain ⟨f, rfl⟩ : ∃ g, f = g + 1 := ⟨f - 1, by omega⟩
    refine ⟨N, ?_, h, fun _ _ => rfl⟩
    rw [sX4_toNextRow_b92, wI_of (x := (b : Int)) (by omega) (by omega), wI_of (x := (a : Int)) (by omega) (by omega), if_pos (show (b : Int) ≤ (a : Int) by omega)]
  | succ m ih =>
    intro a b o N h ha hb hm f hf
    obtain ⟨f, rfl⟩ : ∃ g, f = g + 1 := ⟨f - 1, by omega⟩
    rw [sX4_toNextRow_b92, wI_of (x := (b : Int)) (by omega) (by omega), wI_of (x := (a : Int)) (by omega) (by omega)]
    by_cases q : b ≤ a
    · rw [if_pos (show (b : Int) ≤ (a : Int) by omega)]
      refine ⟨N, rfl, ?_, fun _ _ => rfl⟩
      rw [show rvF (m + 1) o a b = o from if_pos q]
      exact h
    · obtain ⟨N1, e1, e2, e3⟩ := swapA hn h (i := a) (j := b) (by omega) hb
      obtain ⟨N2, k1, k2, k3⟩ := ih (a + 1) (b - 1) (swF o a b) N1 e2 (by omega) (by omega) (by omega) f (by omega)
      rw [if_neg (show ¬ (b : Int) ≤ (a : Int) by omega), e1, ob_s, ob_s, ob_s, show (a : Int) + 1 = ((a + 1 : Nat) : Int) by omega, show (b : Int) + -1 = ((b - 1 : Nat) : Int) by omega]
      refine ⟨N2, k1, ?_, fun x hx => by rw [k3 x hx, e3 x hx]⟩
      rw [show rvF (m + 1) o a b = rvF m (swF o a b) (a + 1) (b - 1) from if_neg q]
      exact k2
theorem revB {n : Nat} (hn : n ≤ 8) : ∀ m a b : Nat, ∀ (o : Nat → Nat) (N : MM), RwR 382 n o N → a ≤ n → b < n → b ≤ a + m → ∀ f, m < f → ∃ N', sX12_nextOrder_b86 359 f (a : Int) (b : Int) N = some (1, N') ∧ RwR 382 n (rvF m o a b) N' ∧ ∀ x, x ≠ 382 → N' x = N x := by
  intro m
  induction m with
  | zero =>
    intro a b o N h ha hb hm f hf
    obtain ⟨f, rfl⟩ : ∃ g, f = g + 1 := ⟨f - 1, by omega⟩
    refine ⟨N, ?_, h, fun _ _ => rfl⟩
    rw [sX12_nextOrder_b86, wI_of (x := (b : Int)) (by omega) (by omega), wI_of (x := (a : Int)) (by omega) (by omega), if_pos (show (b : Int) ≤ (a : Int) by omega)]
  | succ m ih =>
    intro a b o N h ha hb hm f hf
    obtain ⟨f, rfl⟩ : ∃ g, f = g + 1 := ⟨f - 1, by omega⟩
    rw [sX12_nextOrder_b86, wI_of (x := (b : Int)) (by omega) (by omega), wI_of (x := (a : Int)) (by omega) (by omega)]
    by_cases q : b ≤ a
    · rw [if_pos (show (b : Int) ≤ (a : Int) by omega)]
      refine ⟨N, rfl, ?_, fun _ _ => rfl⟩
      rw [show rvF (m + 1) o a b = o from if_pos q]
      exact h
    · obtain ⟨N1, e1, e2, e3⟩ := turnB hn h (i := a) (j := b) (by omega) hb
      obtain ⟨N2, k1, k2, k3⟩ := ih (a + 1) (b - 1) (swF o a b) N1 e2 (by omega) (by omega) (by omega) f (by omega)
      rw [if_neg (show ¬ (b : Int) ≤ (a : Int) by omega), e1, ob_s, ob_s, ob_s, show (a : Int) + 1 = ((a + 1 : Nat) : Int) by omega, show (b : Int) + -1 = ((b - 1 : Nat) : Int) by omega]
      refine ⟨N2, k1, ?_, fun x hx => by rw [k3 x hx, e3 x hx]⟩
      rw [show rvF (m + 1) o a b = rvF m (swF o a b) (a + 1) (b - 1) from if_neg q]
      exact k2
/-- what the step leaves -/
def NXR (r n : Nat) (o : Nat → Nat) (N : MM) (q : Option (Int × MM)) : Prop := match nxF n o with
  | none => q = some (0, N)
  | some o' => ∃ N', q = some (1, N') ∧ RwR r n o' N' ∧ ∀ x, x ≠ r → N' x = N x
theorem fj_b {o : Nat → Nat} {i : Nat} (h : o i ≤ o (i + 1)) : ∀ k, i < k → i < fjF o i k ∧ fjF o i k ≤ k := by
  intro k
  induction k with
  | zero => intro h; omega
  | succ k ih =>
    intro hk
    show i < (if o i ≤ o (k + 1) then k + 1 else fjF o i k) ∧ (if o i ≤ o (k + 1) then k + 1 else fjF o i k) ≤ k + 1
    by_cases q : o i ≤ o (k + 1)
    · rw [if_pos q]; omega
    · rw [if_neg q]
      have : i < k := by
        by_cases e : i = k
        · subst e; exact absurd h q
        · omega
      have := ih this
      omega
theorem fi_b {o : Nat → Nat} {i : Nat} : ∀ k, fiF o k = some i → i < k ∧ o i ≤ o (i + 1) := by
  intro k
  induction k with
  | zero => intro h; exact absurd h (by show ¬ none = some i; exact fun z => by cases z)
  | succ k ih =>
    intro h
    have h' : (if o k ≤ o (k + 1) then some k else fiF o k) = some i := h
    by_cases q : o k ≤ o (k + 1)
    · rw [if_pos q] at h'
      have : k = i := Option.some.inj h'
      subst this
      exact ⟨by omega, q⟩
    · rw [if_neg q] at h'
      have := ih h'
      exact ⟨by omega, this.2⟩
theorem nxA {n p : Nat} (hn : 1 ≤ n ∧ n ≤ 8) {o : Nat → Nat} {N : MM} (hp : p ≠ 122) (hN : N p 3 = (n : Int)) (h : RwR 122 n o N) : NXR 122 n o N (sX4_toNextRow 121 p N) := by
  unfold sX4_toNextRow sX4_toNextRow_b0
  rw [hN]
  have first : ∀ k, k + 1 ≤ n → ∀ f, k < f → sX4_toNextRow_b7 121 p f ((k : Int) - 1) N = match fiF o k with
      | none => some (0, N)
      | some i => sX4_toNextRow_b34 121 p (i : Int) N := by
    intro k
    induction k with
    | zero =>
      intro hk f hf
      obtain ⟨f, rfl⟩ : ∃ g, f = g + 1 := ⟨f - 1, by omega⟩
      rw [sX4_toNextRow_b7, wI_of (x := ((0 : Nat) : Int) - 1) (by omega) (by omega), if_pos (by omega)]
      unfold sX4_toNextRow_b34
      rw [wI_of (x := ((0 : Nat) : Int) - 1) (by omega) (by omega), if_neg (by omega)]
      rfl
    | succ k ih =>
      intro hk f hf
      obtain ⟨f, rfl⟩ : ∃ g, f = g + 1 := ⟨f - 1, by omega⟩
      have o1 := h.2 k (by omega)
      have o2 := h.2 (k + 1) (by omega)
      rw [show ((k + 1 : Nat) : Int) - 1 = (k : Int) by omega, sX4_toNextRow_b7, wI_of (x := (k : Int)) (by omega) (by omega), if_neg (show ¬ (k : Int) < 0 by omega), wI_of (x := (k : Int) + 1) (by omega) (by omega), if_pos (show 0 ≤ (k : Int) ∧ (k : Int) < 8 by omega), if_pos (show 0 ≤ (k : Int) + 1 ∧ (k : Int) + 1 < 8 by omega), g121_0, tN, show ((k : Int) + 1).toNat = k + 1 by omega, h.1 k (by omega), h.1 (k + 1) (by omega), wI_of (x := (o k : Int)) (by omega) (by omega), wI_of (x := (o (k + 1) : Int)) (by omega) (by omega)]
      show _ = match (if o k ≤ o (k + 1) then some k else fiF o k) with
        | none => some (0, N)
        | some i => sX4_toNextRow_b34 121 p (i : Int) N
      by_cases q : o k ≤ o (k + 1)
      · rw [if_pos (show (o k : Int) ≤ (o (k + 1) : Int) by omega), if_pos q]
      · rw [if_neg (show ¬ (o k : Int) ≤ (o (k + 1) : Int) by omega), if_neg q, ob_s]
        exact ih (by omega) f (by omega)
  rw [show (n : Int) - 2 = ((n - 1 : Nat) : Int) - 1 by omega, first (n - 1) (by omega) FU (by unfold FU; omega)]
  unfold NXR nxF
  cases hf : fiF o (n - 1) with
  | none => rfl
  | some i =>
    have ib := fi_b (n - 1) hf
    have jb := fj_b ib.2 (n - 1) ib.1
    dsimp only
    unfold sX4_toNextRow_b34
    rw [wI_of (x := (i : Int)) (by omega) (by omega), if_pos (show 0 ≤ (i : Int) by omega), hN]
    have second : ∀ k, i < k → k < n → ∀ f, k < f → sX4_toNextRow_b47 121 p f (i : Int) (k : Int) N = sX4_toNextRow_b73 121 p (i : Int) (fjF o i k : Int) N := by
      intro k
      induction k with
      | zero => intro hk; omega
      | succ k ih =>
        intro hk hk2 f hf
        obtain ⟨f, rfl⟩ : ∃ g, f = g + 1 := ⟨f - 1, by omega⟩
        have o1 := h.2 i (by omega)
        have o2 := h.2 (k + 1) (by omega)
        rw [sX4_toNextRow_b47, wI_of (x := ((k + 1 : Nat) : Int)) (by omega) (by omega), wI_of (x := (i : Int)) (by omega) (by omega), if_neg (show ¬ ((k + 1 : Nat) : Int) ≤ (i : Int) by omega), if_pos (show 0 ≤ ((k + 1 : Nat) : Int) ∧ ((k + 1 : Nat) : Int) < 8 by omega), if_pos (show 0 ≤ (i : Int) ∧ (i : Int) < 8 by omega), g121_0, tN, tN, h.1 i (by omega), h.1 (k + 1) (by omega), wI_of (x := (o i : Int)) (by omega) (by omega), wI_of (x := (o (k + 1) : Int)) (by omega) (by omega)]
        show _ = sX4_toNextRow_b73 121 p (i : Int) ((if o i ≤ o (k + 1) then k + 1 else fjF o i k : Nat) : Int) N
        by_cases q : o i ≤ o (k + 1)
        · rw [if_pos (show (o i : Int) ≤ (o (k + 1) : Int) by omega), if_pos q]
        · rw [if_neg (show ¬ (o i : Int) ≤ (o (k + 1) : Int) by omega), if_neg q, ob_s, show ((k + 1 : Nat) : Int) + -1 = (k : Int) by omega]
          have : i < k := by
            by_cases e : i = k
            · subst e; exact absurd ib.2 q
            · omega
          exact ih this (by omega) f (by omega)
    rw [show (n : Int) - 1 = ((n - 1 : Nat) : Int) by omega, second (n - 1) ib.1 (by omega) FU (by unfold FU; omega)]
    obtain ⟨N1, e1, e2, e3⟩ := swapA hn.2 h (i := i) (j := fjF o i (n - 1)) (by omega) (by omega)
    obtain ⟨N2, k1, k2, k3⟩ := revA (p := p) hn.2 n (i + 1) (n - 1) _ N1 e2 (by omega) (by omega) (by omega) FU (by unfold FU; omega)
    unfold sX4_toNextRow_b73
    rw [e1, ob_s, e3 p hp, hN, show (n : Int) - 1 = ((n - 1 : Nat) : Int) by omega, show (i : Int) + 1 = ((i + 1 : Nat) : Int) by omega]
    exact ⟨N2, k1, k2, fun x hx => by rw [k3 x hx, e3 x hx]⟩
theorem nxB {n : Nat} (hn : 1 ≤ n ∧ n ≤ 8) {o : Nat → Nat} {N : MM} (hN : N 359 26 = (n : Int)) (h : RwR 382 n o N) : NXR 382 n o N (sX12_nextOrder 359 N) := by
  unfold sX12_nextOrder sX12_nextOrder_b0
  rw [hN]
  have first : ∀ k, k + 1 ≤ n → ∀ f, k < f → sX12_nextOrder_b7 359 f ((k : Int) - 1) N = match fiF o k with
      | none => some (0, N)
      | some i => sX12_nextOrder_b34 359 (i : Int) N := by
    intro k
    induction k with
    | zero =>
      intro hk f hf
      obtain ⟨f, rfl⟩ : ∃ g, f = g + 1 := ⟨f - 1, by omega⟩
      rw [sX12_nextOrder_b7, wI_of (x := ((0 : Nat) : Int) - 1) (by omega) (by omega), if_pos (by omega)]
      unfold sX12_nextOrder_b34
      rw [wI_of (x := ((0 : Nat) : Int) - 1) (by omega) (by omega), if_neg (by omega)]
      rfl
    | succ k ih =>
      intro hk f hf
      obtain ⟨f, rfl⟩ : ∃ g, f = g + 1 := ⟨f - 1, by omega⟩
      have o1 := h.2 k (by omega)
      have o2 := h.2 (k + 1) (by omega)
      rw [show ((k + 1 : Nat) : Int) - 1 = (k : Int) by omega, sX12_nextOrder_b7, wI_of (x := (k : Int)) (by omega) (by omega), if_neg (show ¬ (k : Int) < 0 by omega), wI_of (x := (k : Int) + 1) (by omega) (by omega), if_pos (show 0 ≤ (k : Int) ∧ (k : Int) < 8 by omega), if_pos (show 0 ≤ (k : Int) + 1 ∧ (k : Int) + 1 < 8 by omega), g359_52, tN, show ((k : Int) + 1).toNat = k + 1 by omega, h.1 k (by omega), h.1 (k + 1) (by omega), wI_of (x := (o k : Int)) (by omega) (by omega), wI_of (x := (o (k + 1) : Int)) (by omega) (by omega)]
      show _ = match (if o k ≤ o (k + 1) then some k else fiF o k) with
        | none => some (0, N)
        | some i => sX12_nextOrder_b34 359 (i : Int) N
      by_cases q : o k ≤ o (k + 1)
      · rw [if_pos (show (o k : Int) ≤ (o (k + 1) : Int) by omega), if_pos q]
      · rw [if_neg (show ¬ (o k : Int) ≤ (o (k + 1) : Int) by omega), if_neg q, ob_s]
        exact ih (by omega) f (by omega)
  rw [show (n : Int) - 2 = ((n - 1 : Nat) : Int) - 1 by omega, first (n - 1) (by omega) FU (by unfold FU; omega)]
  unfold NXR nxF
  cases hf : fiF o (n - 1) with
  | none => rfl
  | some i =>
    have ib := fi_b (n - 1) hf
    have jb := fj_b ib.2 (n - 1) ib.1
    dsimp only
    unfold sX12_nextOrder_b34
    rw [wI_of (x := (i : Int)) (by omega) (by omega), if_pos (show 0 ≤ (i : Int) by omega), hN]
    obtain ⟨N1, e1, e2, e3⟩ := turnB hn.2 h (i := i) (j := fjF o i (n - 1)) (by omega) (by omega)
    obtain ⟨N2, k1, k2, k3⟩ := revB hn.2 n (i + 1) (n - 1) _ N1 e2 (by omega) (by omega) (by omega) FU (by unfold FU; omega)
    have second : ∀ k, i < k → k < n → ∀ f, k < f → fjF o i k = fjF o i (n - 1) → sX12_nextOrder_b47 359 f (i : Int) (k : Int) N = some (1, N2) := by
      intro k
      induction k with
      | zero => intro hk; omega
      | succ k ih =>
        intro hk hk2 f hf hfj
        obtain ⟨f, rfl⟩ : ∃ g, f = g + 1 := ⟨f - 1, by omega⟩
        have o1 := h.2 i (by omega)
        have o2 := h.2 (k + 1) (by omega)
        have hfj' : (if o i ≤ o (k + 1) then k + 1 else fjF o i k) = fjF o i (n - 1) := hfj
        rw [sX12_nextOrder_b47, wI_of (x := ((k + 1 : Nat) : Int)) (by omega) (by omega), wI_of (x := (i : Int)) (by omega) (by omega), if_pos (show 0 ≤ ((k + 1 : Nat) : Int) ∧ ((k + 1 : Nat) : Int) < 8 by omega), if_pos (show 0 ≤ (i : Int) ∧ (i : Int) < 8 by omega), g359_52, tN, tN, h.1 i (by omega), h.1 (k + 1) (by omega), wI_of (x := (o i : Int)) (by omega) (by omega), wI_of (x := (o (k + 1) : Int)) (by omega) (by omega)]
        by_cases q : o i ≤ o (k + 1)
        · rw [if_pos q] at hfj'
          rw [if_pos (show (o i : Int) ≤ (o (k + 1) : Int) by omega), hfj', e1, ob_s, e3 359 (by omega), hN, show (n : Int) - 1 = ((n - 1 : Nat) : Int) by omega, show (i : Int) + 1 = ((i + 1 : Nat) : Int) by omega]
          exact k1
        · rw [if_neg q] at hfj'
          rw [if_neg (show ¬ (o i : Int) ≤ (o (k + 1) : Int) by omega), ob_s, show ((k + 1 : Nat) : Int) + -1 = (k : Int) by omega]
          have : i < k := by
            by_cases e : i = k
            · subst e; exact absurd ib.2 q
            · omega
          exact ih this (by omega) f (by omega) hfj'
    rw [show (n : Int) - 1 = ((n - 1 : Nat) : Int) by omega, second (n - 1) ib.1 (by omega) FU (by unfold FU; omega) rfl]
    exact ⟨N2, rfl, k2, fun x hx => by rw [k3 x hx, e3 x hx]⟩
