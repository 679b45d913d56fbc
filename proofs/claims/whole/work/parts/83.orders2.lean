/-- both lay an order -/
theorem ordA {M0 N : MM} {p : Nat} {P : Nat → Int} (hc : PC M0 p P) (hp : p < 66) {n : Nat} (hn : P 1 = (n : Int)) (hn8 : 1 ≤ n ∧ n ≤ 8) (hr : N p = M0 p) {x : Int} (r : R32 x) : ∃ N', sX4_ordersBy 121 p x N = some (if fbP (odP x n) n = 1 * 2 ^ n - 1 ∧ (x = -1 ∨ xdP x n = 0) then 1 else 0, N') ∧ (∀ a, a ≠ 122 → N' a = N a) ∧ ∀ i, i < n → N' 122 i = (odP x n (n - 1 - i) : Int) := by
  unfold sX4_ordersBy sX4_ordersBy_b0
  rw [hr, hc.1.2.1, hn]
  have main : ∀ m e : Nat, e + m = n → ∀ f, m < f → ∀ T : MM, (∀ a, a ≠ 122 → T a = N a) → (∀ j, j < e → T 122 (n - 1 - j) = (odP x n j : Int)) → ∃ N', sX4_ordersBy_b13 121 p x f (xdP x e) (fbP (odP x n) e) ((n : Int) - 1 - (e : Int)) T = some (if fbP (odP x n) n = 1 * 2 ^ n - 1 ∧ (x = -1 ∨ xdP x n = 0) then 1 else 0, N') ∧ (∀ a, a ≠ 122 → N' a = N a) ∧ ∀ i, i < n → N' 122 i = (odP x n (n - 1 - i) : Int) := by
    intro m
    induction m with
    | zero =>
      intro e he f hf T h1 h2
      obtain ⟨f, rfl⟩ : ∃ g, f = g + 1 := ⟨f - 1, by omega⟩
      obtain rfl : e = n := by omega
      have pw := p2n e hn8.2
      have fb := fb_b (d := odP x e) e (fun j hj => od_b hn8.2 hj)
      have xr := xd_r r e
      refine ⟨T, ?_, h1, fun i hi => by have := h2 (e - 1 - i) (by omega); rw [show e - 1 - (e - 1 - i) = i by omega] at this; exact this⟩
      rw [sX4_ordersBy_b13, wI_of (x := (e : Int) - 1 - (e : Int)) (by omega) (by omega), if_pos (by omega), h1 p (by omega), hr, hc.1.2.1, hn, wI_of (x := (e : Int)) (by omega) (by omega), if_pos (show 0 ≤ (e : Int) ∧ (e : Int) < 32 by omega), tN, wI_of (x := fbP (odP x e) e) (by omega) (by omega), wI_of (x := 1 * 2 ^ e - 1) (by omega) (by omega), wI_of r.1 r.2, wI_of xr.1 xr.2]
      by_cases q1 : fbP (odP x e) e = 1 * 2 ^ e - 1
      · rw [if_pos q1]
        by_cases q2 : x = -1
        · rw [if_pos q2, if_pos ⟨q1, Or.inl q2⟩]
        · rw [if_neg q2]
          by_cases q3 : xdP x e = 0
          · rw [if_pos q3, if_pos ⟨q1, Or.inr q3⟩]
          · rw [if_neg q3, if_neg (fun z => z.2.elim q2 q3)]
      · rw [if_neg q1, if_neg (fun z => q1 z.1)]
    | succ m ih =>
      intro e he f hf T h1 h2
      obtain ⟨f, rfl⟩ : ∃ g, f = g + 1 := ⟨f - 1, by omega⟩
      have od := od_b (x := x) hn8.2 (show e < n by omega)
      have z8 : 0 ≤ (n : Int) - 1 - (e : Int) ∧ (n : Int) - 1 - (e : Int) < 8 := ⟨by omega, by omega⟩
      have head : sX4_ordersBy_b13 121 p x (f + 1) (xdP x e) (fbP (odP x n) e) ((n : Int) - 1 - (e : Int)) T = sX4_ordersBy_b13 121 p x f (xdP x (e + 1)) (fbP (odP x n) (e + 1)) ((n : Int) - 1 - ((e + 1 : Nat) : Int)) (mU T 122 (n - 1 - e) (odP x n e : Int)) := by
        have gen : ∀ v : Int, v = (odP x n e : Int) → sX4_ordersBy_b32 121 p x (fun x3 x4 x5 M => sX4_ordersBy_b13 121 p x f x3 x4 x5 M) (xdP x e) (fbP (odP x n) e) ((n : Int) - 1 - (e : Int)) v T = sX4_ordersBy_b13 121 p x f (xdP x (e + 1)) (fbP (odP x n) (e + 1)) ((n : Int) - 1 - ((e + 1 : Nat) : Int)) (mU T 122 (n - 1 - e) (odP x n e : Int)) := fun v hv => by
          subst hv
          unfold sX4_ordersBy_b32
          rw [ob_s, wI_of (x := (n : Int) - 1 - (e : Int)) (by omega) (by omega), if_pos z8, ob_s, wI_of (x := (odP x n e : Int)) (by omega) (by omega), if_pos (show 0 ≤ (odP x n e : Int) ∧ (odP x n e : Int) < 32 by omega), ob_s, ob_s, g121_0, tN, show ((n : Int) - 1 - (e : Int)).toNat = n - 1 - e by omega, show (n : Int) - 1 - (e : Int) + -1 = (n : Int) - 1 - ((e + 1 : Nat) : Int) by omega]
          rfl
        rw [sX4_ordersBy_b13, wI_of (x := (n : Int) - 1 - (e : Int)) (by omega) (by omega), if_neg (show ¬ (n : Int) - 1 - (e : Int) < 0 by omega), wI_of r.1 r.2]
        by_cases q : x = -1
        · rw [if_pos q]; exact gen _ (by unfold odP; rw [if_pos q]; omega)
        · rw [if_neg q]; exact gen _ (by unfold odP; rw [if_neg q]; omega)
      rw [head]
      refine ih (e + 1) (by omega) f (by omega) _ (fun a ha => by rw [mU_row _ _ ha]; exact h1 a ha) (fun j hj => ?_)
      by_cases q : j = e
      · subst q; rw [mU_eq]
      · rw [mU_ne _ _ (by omega)]; exact h2 j (by omega)
  have q := main n 0 (by omega) FU (by unfold FU; omega) N (fun _ _ => rfl) (fun j hj => by omega)
  rw [show (n : Int) - 1 - ((0 : Nat) : Int) = (n : Int) - 1 by omega] at q
  exact q
def ydP (x : Int) : Nat → Int
  | 0 => x
  | e + 1 => ydP x e / 8
theorem yd_b {x : Int} (r : R32 x) : ∀ e, R32 (ydP x e) := by
  intro e
  induction e with
  | zero => exact r
  | succ e ih => show R32 (ydP x e / 8); constructor <;> omega
theorem yd_x {x : Int} (h1 : 0 ≤ x) (h2 : x ≤ 2147483647) : ∀ e, ydP x e = xdP x e := by
  intro e
  induction e with
  | zero => rfl
  | succ e ih =>
    have b : 0 ≤ xdP x e ∧ xdP x e ≤ 2147483647 := by
      cases e with
      | zero => exact ⟨h1, h2⟩
      | succ e => have := xd_b (x := x) ⟨by omega, h2⟩ (e + 1) (by omega); omega
    show ydP x e / 8 = xdP x e % 4294967296 / 8
    rw [ih, Int.emod_eq_of_lt b.1 (by omega)]
theorem full_m1 : ∀ n, n < 9 → fbP (odP (-1) n) n = 1 * 2 ^ n - 1 := by decide +kernel
theorem ordB {N : MM} {n : Nat} (hn : N 359 26 = (n : Int)) (hn8 : 1 ≤ n ∧ n ≤ 8) {x : Int} (r : R32 x) : ∃ N', sX12_layOrder 359 x N = some (if fbP (odP x n) n = 1 * 2 ^ n - 1 ∧ (x = -1 ∨ xdP x n = 0) then 1 else 0, N') ∧ (∀ a, a ≠ 382 → N' a = N a) ∧ (fbP (odP x n) n = 1 * 2 ^ n - 1 ∧ (x = -1 ∨ xdP x n = 0) → ∀ i, i < n → N' 382 i = (odP x n (n - 1 - i) : Int)) := by
  obtain ⟨N1, p1, p2, p3⟩ := plaB (N := N)
  unfold sX12_layOrder sX12_layOrder_b0
  rw [p1, ob_s, wI_of r.1 r.2, p2 359 (by omega), hn]
  by_cases q : x = -1
  · subst q
    rw [if_pos rfl, if_pos ⟨full_m1 n (by omega), Or.inl rfl⟩]
    refine ⟨N1, rfl, p2, fun _ i hi => ?_⟩
    rw [p3 i (by omega)]
    unfold odP
    rw [if_pos rfl]
    omega
  · rw [if_neg q]
    have main : ∀ m e : Nat, e + m = n → ∀ f, m < f → ∀ T : MM, (∀ a, a ≠ 382 → T a = N a) → (∀ j, j < e → T 382 (n - 1 - j) = (((ydP x j % 8).toNat : Nat) : Int)) → ∃ N', sX12_layOrder_b23 359 x f (ydP x e) (fbP (fun j => (ydP x j % 8).toNat) e) ((n : Int) - 1 - (e : Int)) T = some (if 0 ≤ x ∧ ydP x n = 0 ∧ fbP (fun j => (ydP x j % 8).toNat) n = 1 * 2 ^ n - 1 then 1 else 0, N') ∧ (∀ a, a ≠ 382 → N' a = N a) ∧ ∀ i, i < n → N' 382 i = (((ydP x (n - 1 - i) % 8).toNat : Nat) : Int) := by
      intro m
      induction m with
      | zero =>
        intro e he f hf T h1 h2
        obtain ⟨f, rfl⟩ : ∃ g, f = g + 1 := ⟨f - 1, by omega⟩
        obtain rfl : e = n := by omega
        have pw := p2n e hn8.2
        have fb := fb_b (d := fun j => (ydP x j % 8).toNat) e (fun j hj => (by omega : (ydP x j % 8).toNat < 8))
        have xr := yd_b r e
        refine ⟨T, ?_, h1, fun i hi => by have := h2 (e - 1 - i) (by omega); rw [show e - 1 - (e - 1 - i) = i by omega] at this; exact this⟩
        rw [sX12_layOrder_b23, wI_of (x := (e : Int) - 1 - (e : Int)) (by omega) (by omega), if_pos (by omega), h1 359 (by omega), hn, wI_of (x := (e : Int)) (by omega) (by omega), tN, wI_of (x := fbP (fun j => (ydP x j % 8).toNat) e) (by omega) (by omega), wI_of (x := 1 * 2 ^ e - 1) (by omega) (by omega), wI_of r.1 r.2, wI_of xr.1 xr.2]
        by_cases q0 : x < 0
        · rw [if_pos q0, if_neg (fun z => by omega)]
        · rw [if_neg q0]
          by_cases q1 : ydP x e = 0
          · rw [if_pos q1, if_pos (show 0 ≤ (e : Int) ∧ (e : Int) < 32 by omega)]
            by_cases q2 : fbP (fun j => (ydP x j % 8).toNat) e = 1 * 2 ^ e - 1
            · rw [if_pos q2, if_pos ⟨by omega, q1, q2⟩]
            · rw [if_neg q2, if_neg (fun z => q2 z.2.2)]
          · rw [if_neg q1, if_neg (fun z => q1 z.2.1)]
      | succ m ih =>
        intro e he f hf T h1 h2
        obtain ⟨f, rfl⟩ : ∃ g, f = g + 1 := ⟨f - 1, by omega⟩
        have xr := yd_b r e
        have z8 : 0 ≤ (n : Int) - 1 - (e : Int) ∧ (n : Int) - 1 - (e : Int) < 8 := ⟨by omega, by omega⟩
        have ev : ydP x e % 8 = (((ydP x e % 8).toNat : Nat) : Int) := by omega
        have lt : (ydP x e % 8).toNat < 8 := by omega
        have head : sX12_layOrder_b23 359 x (f + 1) (ydP x e) (fbP (fun j => (ydP x j % 8).toNat) e) ((n : Int) - 1 - (e : Int)) T = sX12_layOrder_b23 359 x f (ydP x (e + 1)) (fbP (fun j => (ydP x j % 8).toNat) (e + 1)) ((n : Int) - 1 - ((e + 1 : Nat) : Int)) (mU T 382 (n - 1 - e) (((ydP x e % 8).toNat : Nat) : Int)) := by
          rw [sX12_layOrder_b23, wI_of (x := (n : Int) - 1 - (e : Int)) (by omega) (by omega), if_neg (show ¬ (n : Int) - 1 - (e : Int) < 0 by omega), if_pos z8, ob_s, wI_of (x := ydP x e % 8) (by omega) (by omega), if_pos (show 0 ≤ ydP x e % 8 ∧ ydP x e % 8 < 32 by omega), ob_s, ob_s, g359_52, show ((n : Int) - 1 - (e : Int)).toNat = n - 1 - e by omega, show (n : Int) - 1 - (e : Int) + -1 = (n : Int) - 1 - ((e + 1 : Nat) : Int) by omega, wI_of xr.1 xr.2, ← ev]
          rfl
        rw [head]
        refine ih (e + 1) (by omega) f (by omega) _ (fun a ha => by rw [mU_row _ _ ha]; exact h1 a ha) (fun j hj => ?_)
        by_cases q : j = e
        · subst q; rw [mU_eq]
        · rw [mU_ne _ _ (by omega)]; exact h2 j (by omega)
    obtain ⟨N', e1, e2, e3⟩ := main n 0 (by omega) FU (by unfold FU; omega) N1 p2 (fun j hj => by omega)
    rw [show (n : Int) - 1 - ((0 : Nat) : Int) = (n : Int) - 1 by omega] at e1
    refine ⟨N', ?_, e2, fun hf i hi => ?_⟩
    · refine e1.trans ?_
      by_cases q0 : x < 0
      · have nz : ¬ xdP x n = 0 := by
          obtain ⟨k, rfl⟩ : ∃ k, n = k + 1 := ⟨n - 1, by omega⟩
          exact xd_n r.1 q0 k (by omega)
        rw [if_neg (fun z => by omega), if_neg (fun z => z.2.elim q nz)]
      · have yx := yd_x (x := x) (by omega) r.2
        have fe : (fun j => (ydP x j % 8).toNat) = odP x n := by funext j; unfold odP; rw [if_neg q, yx]
        rw [fe, yx]
        by_cases a : fbP (odP x n) n = 1 * 2 ^ n - 1 ∧ (x = -1 ∨ xdP x n = 0)
        · rw [if_pos a, if_pos ⟨by omega, a.2.resolve_left q, a.1⟩]
        · rw [if_neg a, if_neg (fun z => a ⟨z.2.2, Or.inr z.2.1⟩)]
    · by_cases q0 : x < 0
      · exfalso
        obtain ⟨k, rfl⟩ : ∃ k, n = k + 1 := ⟨n - 1, by omega⟩
        exact xd_n r.1 q0 k (by omega) (hf.2.resolve_left q)
      · rw [e3 i hi, yd_x (by omega) r.2]
        unfold odP
        rw [if_neg q]
