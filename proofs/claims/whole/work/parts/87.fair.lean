/-- gaps -/
def mxF (f : Nat → Int) (n : Nat) : Int := fo (fun j s => max s (f j)) n 0
def mnF (f : Nat → Int) (n : Nat) (A : Int) : Int := fo (fun j s => min s (f j)) n A
theorem mx_s (f : Nat → Int) (n : Nat) : mxF f (n + 1) = max (mxF f n) (f n) := rfl
theorem mn_s (f : Nat → Int) (n : Nat) (A : Int) : mnF f (n + 1) A = min (mnF f n A) (f n) := rfl
theorem mx_g {f : Nat → Int} : ∀ n, 0 ≤ mxF f n ∧ ∀ j, j < n → f j ≤ mxF f n := by
  intro n
  induction n with
  | zero => exact ⟨Int.le_refl _, fun j hj => by omega⟩
  | succ n ih =>
    rw [mx_s]
    refine ⟨by omega, fun j hj => ?_⟩
    by_cases e : j = n
    · subst e; omega
    · have := ih.2 j (by omega); omega
theorem mx_l {f : Nat → Int} {B : Int} (hB : 0 ≤ B) : ∀ n, (∀ j, j < n → f j ≤ B) → mxF f n ≤ B := by
  intro n
  induction n with
  | zero => intro _; exact hB
  | succ n ih => intro h; rw [mx_s]; have := ih (fun j hj => h j (by omega)); have := h n (by omega); omega
theorem mn_g {f : Nat → Int} {A : Int} : ∀ n, mnF f n A ≤ A ∧ ∀ j, j < n → mnF f n A ≤ f j := by
  intro n
  induction n with
  | zero => exact ⟨Int.le_refl _, fun j hj => by omega⟩
  | succ n ih =>
    rw [mn_s]
    refine ⟨by omega, fun j hj => ?_⟩
    by_cases e : j = n
    · subst e; omega
    · have := ih.2 j (by omega); omega
theorem mn_l {f : Nat → Int} {A B : Int} (hB : B ≤ A) : ∀ n, (∀ j, j < n → B ≤ f j) → B ≤ mnF f n A := by
  intro n
  induction n with
  | zero => intro _; exact hB
  | succ n ih => intro h; rw [mn_s]; have := ih (fun j hj => h j (by omega)); have := h n (by omega); omega
theorem mx_p {f : Nat → Int} {o : Nat → Nat} {n : Nat} (ho : ORD o n) : mxF (fun j => f (o j)) n = mxF f n := by
  have a := mx_l (f := fun j => f (o j)) (mx_g (f := f) n).1 n (fun j hj => (mx_g n).2 (o j) (ho.1 j hj))
  have b := mx_l (f := f) (mx_g (f := fun j => f (o j)) n).1 n (fun c hc => by
    obtain ⟨j, hj, e⟩ := (pf_e o n c).1 (pf_all ho c hc)
    rw [e]; exact (mx_g (f := fun j => f (o j)) n).2 j hj)
  omega
theorem mn_p {f : Nat → Int} {o : Nat → Nat} {n : Nat} {A : Int} (ho : ORD o n) : mnF (fun j => f (o j)) n A = mnF f n A := by
  have a := mn_l (f := fun j => f (o j)) (mn_g (f := f) (A := A) n).1 n (fun j hj => (mn_g n).2 (o j) (ho.1 j hj))
  have b := mn_l (f := f) (mn_g (f := fun j => f (o j)) (A := A) n).1 n (fun c hc => by
    obtain ⟨j, hj, e⟩ := (pf_e o n c).1 (pf_all ho c hc)
    rw [e]; exact (mn_g (f := fun j => f (o j)) n).2 j hj)
  omega
theorem chW_A {P : Nat → Int} {n b : Nat} (hT : TPP P n b) {o : Nat → Nat} (ho : ORD o n) {B : Nat} (hB : 1 ≤ B) {c : Nat} (hc : c < n) : 0 ≤ chW P b n B o n c ∧ chW P b n B o n c ≤ 10 ^ (n * b) := by
  obtain ⟨j, hj, ec⟩ := (pf_e o n c).1 (pf_all ho c hc)
  have e := chW_e (P := P) (b := b) (B := B) ho hj (n - 1 - j) (by omega)
  rw [show j + 1 + (n - 1 - j) = n by omega] at e
  obtain ⟨a1, a2, a3⟩ := wW_b hT ho hB j (by omega)
  have a4 := (wW_b hT ho hB (j + 1) (by omega)).1
  have a5 := a3 hj
  have pb := p10_p b
  have m := Int.mul_le_mul_of_nonneg_left a2 (show (0 : Int) ≤ 10 ^ b by omega)
  rw [← Int.pow_add, show b + j * b = (j + 1) * b by rw [Nat.add_mul, Nat.one_mul]; omega] at m
  have pk := p10_p ((n - 1 - j) * b)
  have q := mul_c (a := 10 ^ b * wW P b n B o j - wW P b n B o (j + 1)) (A := 10 ^ ((j + 1) * b)) (b := 10 ^ ((n - 1 - j) * b)) (B := 10 ^ ((n - 1 - j) * b)) ⟨by omega, by omega⟩ ⟨by omega, by omega⟩
  rw [← Int.pow_add, ← Nat.add_mul, show j + 1 + (n - 1 - j) = n by omega] at q
  rw [ec, e]
  omega
theorem pl_f : ∀ n, n < 6 → ∀ k, k < 120 → k < (plP n).length → ∀ e, e < 6 → e ≤ n → fbP (olP n k) e < 2 ^ n := by decide +kernel
theorem pl_r : ∀ n, n < 6 → ∀ k, k < 120 → k < (plP n).length → 0 ≤ fo (fun i s => s * 8 + (olP n k i : Int)) n (0 : Int) ∧ fo (fun i s => s * 8 + (olP n k i : Int)) n (0 : Int) < 32768 := by decide +kernel
/-- the gap of an order -/
def gpP (P : Nat → Int) (b n B : Nat) (o : Nat → Nat) : Int := mxF (chW P b n B o n) n - mnF (chW P b n B o n) n (10 ^ (n * b))
theorem gapA {M0 N : MM} {p : Nat} {P : Nat → Int} (hc : PC M0 p P) {n b : Nat} (hT : TPP P n b) (hn5 : n ≤ 5) (hr : N p = M0 p) {o : Nat → Nat} (ho : ORD o n) (hrow : RwR 122 n o N) (hf : ∀ e, e ≤ n → fbP o e < 2 ^ n) {B0 : Nat} (hB0 : 1 ≤ B0) (h25 : ∀ x : Nat, (x : Int) < 2 ^ n → N 125 x = hoP P n b B0 1 (btS (x : Int))) : sX4_gapOfRow 121 p N = some (gpP P b n (B0 * 1) o) := by
  obtain ⟨t1, t2, t3, t4, t5, t6, t7, t8, t9⟩ := id hT
  have p32 : ∀ m, m < 6 → (2 : Int) ^ m ≤ 32 := by decide
  have pn := p32 n (by omega)
  have hm : P 1 * P 2 = ((n * b : Nat) : Int) := by rw [t1, t2]; simp
  have pl := p10_l (n * b) (by omega)
  have pp := p10_p (n * b)
  have cb := fun c (hc : c < n) => chW_A hT ho (B := B0 * 1) (by omega) hc
  have o8 : ∀ j, j < n → o j < 8 := fun j hj => by have := ho.1 j hj; omega
  unfold sX4_gapOfRow sX4_gapOfRow_b0 sX4_ofAll sX4_ofAll_b0
  rw [hr, hc.1.2.1, hc.1.2.2.1, hm, tenA rfl (by omega), ob_s, ob_s]
  have res : gpP P b n (B0 * 1) o = mxF (fun j => chW P b n (B0 * 1) o n (o j)) n - mnF (fun j => chW P b n (B0 * 1) o n (o j)) n (10 ^ (n * b)) := by unfold gpP; rw [mx_p ho, mn_p ho]
  rw [res]
  obtain ⟨f, hff⟩ : ∃ f : Nat → Int, ∀ j, chW P b n (B0 * 1) o n (o j) = f j := ⟨_, fun _ => rfl⟩
  have fb : ∀ j, j < n → 0 ≤ f j ∧ f j ≤ 10 ^ (n * b) := fun j hj => by rw [← hff]; exact cb _ (ho.1 j hj)
  simp only [hff]
  refine loopC (fun g y (s : (Int × Int) × Int) => sX4_gapOfRow_b15 121 p N g s.1.1 s.1.2 s.2 y) n (fun k s => s = ((mxF f k, mnF f k (10 ^ (n * b))), fbP o k)) (fun r => r = some (mxF f n - mnF f n (10 ^ (n * b)))) ?_ ?_ FU 0 ((0, 10 ^ (n * b)), 0) (by omega) rfl (by unfold FU; omega)
  · intro g s hs
    subst hs
    show sX4_gapOfRow_b15 121 p N (g + 1) (mxF f n) (mnF f n (10 ^ (n * b))) (fbP o n) (n : Int) = _
    rw [sX4_gapOfRow_b15, hr, hc.1.2.1, t1, if_pos (Int.le_refl _)]
  · intro g k s hk hs
    right
    subst hs
    have ok := o8 k hk
    have b1 := fb_b k (fun j hj => o8 j (by omega))
    have b2 := fb_b (k + 1) (fun j hj => o8 j (by omega))
    have f1 := hf k (by omega)
    have f2 := hf (k + 1) (by omega)
    have mx1 := (mx_g (f := f) k).1
    have mx2 := mx_l (f := f) (B := 10 ^ (n * b)) (by omega) k (fun j hj => (fb j (by omega)).2)
    have mn1 := (mn_g (f := f) (A := 10 ^ (n * b)) k).1
    have mn2 := mn_l (f := f) (A := 10 ^ (n * b)) (B := 0) (by omega) k (fun j hj => (fb j (by omega)).1)
    have fk := fb k hk
    have v12 : N 125 (fbP o k).toNat - N 125 (fbP o (k + 1)).toNat = f k := by
      rw [h25 _ (by omega), h25 _ (by omega), show (((fbP o k).toNat : Nat) : Int) = fbP o k by omega, show (((fbP o (k + 1)).toNat : Nat) : Int) = fbP o (k + 1) by omega, ch_ho hT ho B0 1 hk (fun c hc => fb_p k (fun j hj => o8 j (by omega)) c (by omega)) (fun c hc => fb_p (k + 1) (fun j hj => o8 j (by omega)) c (by omega))]
      exact hff k
    refine ⟨((mxF f (k + 1), mnF f (k + 1) (10 ^ (n * b))), fbP o (k + 1)), ?_, rfl⟩
    show sX4_gapOfRow_b15 121 p N (g + 1) (mxF f k) (mnF f k (10 ^ (n * b))) (fbP o k) (k : Int) = sX4_gapOfRow_b15 121 p N g (mxF f (k + 1)) (mnF f (k + 1) (10 ^ (n * b))) (fbP o (k + 1)) ((k : Int) + 1)
    have fold : oI (fbP o k) (1 * 2 ^ o k) = fbP o (k + 1) := rfl
    rw [sX4_gapOfRow_b15, hr, hc.1.2.1, t1, wI_of (x := (n : Int)) (by omega) (by omega), wI_of (x := (k : Int)) (by omega) (by omega), if_neg (show ¬ (n : Int) ≤ (k : Int) by omega), if_pos (show 0 ≤ (k : Int) ∧ (k : Int) < 8 by omega), g121_0, g121_3, tN, hrow.1 k hk, wI_of (x := (o k : Int)) (by omega) (by omega), if_pos (show 0 ≤ (o k : Int) ∧ (o k : Int) < 32 by omega), ob_s, tN, fold, wI_of (x := fbP o (k + 1)) (by omega) (by omega), if_neg (show ¬ 32 ≤ fbP o (k + 1) by omega), wI_of (x := fbP o k) (by omega) (by omega), if_pos (show 0 ≤ fbP o k ∧ fbP o k < 32 by omega), if_pos (show 0 ≤ fbP o (k + 1) ∧ fbP o (k + 1) < 32 by omega), v12, ob_s]
    unfold sX4_gapOfRow_b85
    rw [ob_s, wJ_of (x := mxF f k) (by omega) (by omega), wJ_of (x := mnF f k (10 ^ (n * b))) (by omega) (by omega), wJ_of (x := f k) (by omega) (by omega)]
    rfl
theorem unevB {N : MM} {kp : Nat} {P : Nat → Int} (hd : HD N kp) (pe : pP N kp = P) {n b : Nat} (hT : TPP P n b) {o : Nat → Nat} (ho : ORD o n) {B : Nat} (hB : 1 ≤ B) (h81 : ∀ c, c < n → N 381 c = chW P b n B o n c) : sX12_uneven 359 N = some (gpP P b n B o) := by
  obtain ⟨t1, t2, t3, t4, t5, t6, t7, t8, t9⟩ := id hT
  have pl := p10_l (n * b) (by omega)
  have pp := p10_p (n * b)
  unfold gpP
  obtain ⟨f, hff⟩ : ∃ f : Nat → Int, chW P b n B o n = f := ⟨_, rfl⟩
  have fb : ∀ j, j < n → 0 ≤ f j ∧ f j ≤ 10 ^ (n * b) := fun j hj => by rw [← hff]; exact chW_A hT ho hB hj
  rw [hff] at h81 ⊢
  have f0 := fb 0 (by omega)
  unfold sX12_uneven sX12_uneven_b0
  rw [g359_51, h81 0 (by omega)]
  have m1 : mxF f 1 = f 0 := by rw [mx_s]; show max 0 (f 0) = f 0; omega
  have m2 : mnF f 1 (10 ^ (n * b)) = f 0 := by rw [mn_s]; show min (10 ^ (n * b)) (f 0) = f 0; omega
  refine loopC (fun g y (s : Int × Int) => sX12_uneven_b17 359 N g s.1 s.2 y) n (fun k s => 1 ≤ k ∧ s = (mnF f k (10 ^ (n * b)), mxF f k)) (fun r => r = some (mxF f n - mnF f n (10 ^ (n * b)))) ?_ ?_ FU 1 (f 0, f 0) (by omega) ⟨by omega, by rw [m1, m2]⟩ (by unfold FU; omega)
  · intro g s ⟨_, hs⟩
    subst hs
    show sX12_uneven_b17 359 N (g + 1) (mnF f n (10 ^ (n * b))) (mxF f n) (n : Int) = _
    rw [sX12_uneven_b17, hd.2.2.2.1, pe, t1, if_pos (Int.le_refl _)]
  · intro g k s hk ⟨hk1, hs⟩
    right
    subst hs
    have mx1 := (mx_g (f := f) k).1
    have mx2 := mx_l (f := f) (B := 10 ^ (n * b)) (by omega) k (fun j hj => (fb j (by omega)).2)
    have mn1 := (mn_g (f := f) (A := 10 ^ (n * b)) k).1
    have mn2 := mn_l (f := f) (A := 10 ^ (n * b)) (B := 0) (by omega) k (fun j hj => (fb j (by omega)).1)
    have fk := fb k hk
    have z8 : 0 ≤ (k : Int) ∧ (k : Int) < 8 := ⟨by omega, by omega⟩
    refine ⟨(mnF f (k + 1) (10 ^ (n * b)), mxF f (k + 1)), ?_, by omega, rfl⟩
    show sX12_uneven_b17 359 N (g + 1) (mnF f k (10 ^ (n * b))) (mxF f k) (k : Int) = sX12_uneven_b17 359 N g (mnF f (k + 1) (10 ^ (n * b))) (mxF f (k + 1)) ((k : Int) + 1)
    rw [mx_s, mn_s, sX12_uneven_b17, hd.2.2.2.1, pe, t1, wI_of (x := (n : Int)) (by omega) (by omega), wI_of (x := (k : Int)) (by omega) (by omega), if_neg (show ¬ (n : Int) ≤ (k : Int) by omega), if_pos z8, if_pos z8, g359_51, tN, h81 k hk]
    unfold sX12_uneven_b49 sX12_uneven_b73
    rw [wI_of (x := (k : Int)) (by omega) (by omega), if_pos z8, if_pos z8, if_pos z8, if_pos z8, g359_51, tN, h81 k hk, wJ_of (x := mxF f k) (by omega) (by omega), wJ_of (x := mnF f k (10 ^ (n * b))) (by omega) (by omega), wJ_of (x := f k) (by omega) (by omega)]
    by_cases a : mnF f k (10 ^ (n * b)) ≤ f k
    · rw [if_pos a, show min (mnF f k (10 ^ (n * b))) (f k) = mnF f k (10 ^ (n * b)) by omega]
      by_cases c : f k ≤ mxF f k
      · rw [if_pos c, ob_s, show max (mxF f k) (f k) = mxF f k by omega]
      · rw [if_neg c, ob_s, show max (mxF f k) (f k) = f k by omega]
    · rw [if_neg a, show min (mnF f k (10 ^ (n * b))) (f k) = f k by omega]
      by_cases c : f k ≤ mxF f k
      · rw [if_pos c, ob_s, show max (mxF f k) (f k) = mxF f k by omega]
      · rw [if_neg c, ob_s, show max (mxF f k) (f k) = f k by omega]
