/-- class and reference weigh the same -/
theorem st_u {B : Nat} {P : Nat → Int} {n b : Nat} (hT : TPP P n b) (S : Nat → Bool) : ∀ k, k ≤ n → Sup B (9 * (b * k)) (stF (opP P b) S k (dlF B)) := by
  intro k
  induction k with
  | zero => intro _ x hx; show dlF B x = 0; unfold dlF; rw [if_neg (by omega)]
  | succ k ih =>
    intro hk
    have hF := hT.2.2.2.2.2.2.2.1 k (by omega)
    have hi := ih (by omega)
    have hm : b * (k + 1) = b * k + b := by rw [Nat.mul_add, Nat.mul_one]
    rw [stF_s, hm]
    split
    · have := tc_u (b := b) (l := P (30 + 13 * k)) (F := (P (29 + 13 * k)).toNat) (decide (P (28 + 13 * k) < P 3)) (by omega) hi
      rw [show 9 * (b * k) + 9 * b = 9 * (b * k + b) by omega] at this
      exact this
    · intro x hx
      exact hi x (by omega)
theorem capE {P : Nat → Int} {n b : Nat} (hT : TPP P n b) (S : Nat → Bool) (B0 lay : Nat) : wtF (capP B0 lay) (stF (opP P b) S n (dlF (capP B0 lay))) = wtF (B0 * lay) (stF (opP P b) S n (dlF (B0 * lay))) := by
  obtain ⟨B, hB⟩ : ∃ B, B = B0 * lay := ⟨_, rfl⟩
  unfold capP
  rw [← hB]
  by_cases e : B ≤ 136
  · rw [Nat.min_eq_left e]
  · rw [Nat.min_eq_right (by omega)]
    have u := st_u hT S (B := B) n (Nat.le_refl n)
    have nb := hT.2.2.2.2.2.2.1
    rw [Nat.mul_comm n b] at nb
    obtain ⟨k, hk⟩ : ∃ k, B = 136 + k := ⟨B - 136, by omega⟩
    have ed : dlF 136 = fun x => dlF B (x + k) := by
      funext x
      unfold dlF
      by_cases q : x = 136
      · rw [if_pos q, if_pos (by omega)]
      · rw [if_neg q, if_neg (by omega)]
    rw [ed, (CL_f (ops := opP P b) (fun c => CL_t _ _ _ _) S n).2.2 k (dlF B)]
    generalize stF (opP P b) S n (dlF B) = h at *
    unfold wtF
    have e1 := sm_sh (fun x => h (x + 1)) k 136
    rw [← hk] at e1
    have e2 : sm (fun x => h (x + 1)) k = sm (fun _ => 0) k := sm_ext (fun x hx => u (x + 1) (by omega))
    have e3 : sm (fun _ => (0 : Int)) k = 0 := by
      have := sm_b (f := fun _ => 0) (n := k) (B := 0) (fun _ _ => ⟨by omega, by omega⟩)
      omega
    have e4 : sm (fun x => h (x + 1 + k)) 136 = sm (fun x => h (x + k + 1)) 136 := sm_ext (fun x _ => by rw [Nat.add_right_comm])
    rw [e4]
    rw [e2, e3] at e1
    omega
theorem cnS_x {S S' : Nat → Bool} {n : Nat} (h : ∀ c, c < n → S c = S' c) : cnS S n = cnS S' n := fo_ext (fun c hc s => by rw [h c hc]) 0
theorem cnS_a {S S' : Nat → Bool} {c0 : Nat} : ∀ n, c0 < n → S c0 = false → S' c0 = true → (∀ c, c < n → c ≠ c0 → S' c = S c) → cnS S' n = cnS S n + 1 := by
  intro n
  induction n with
  | zero => intro h; omega
  | succ n ih =>
    intro h h1 h2 h3
    rw [cnS_s, cnS_s]
    by_cases e : c0 = n
    · subst e
      rw [h1, h2, if_pos rfl, if_neg (by decide), cnS_x (fun c hc => h3 c (by omega) (by omega))]
    · rw [ih (by omega) h1 h2 (fun c hc hn => h3 c (by omega) hn), h3 n (by omega) (Ne.symm e)]
      by_cases s : S n = true
      · rw [if_pos s, if_pos s]
      · rw [if_neg s, if_neg s]
theorem cnS_0 (n : Nat) : cnS (fun _ => false) n = 0 := by
  induction n with
  | zero => rfl
  | succ n ih => rw [cnS_s, ih]; rfl
theorem cnS_1 {S : Nat → Bool} : ∀ n, cnS S n = n → ∀ c, c < n → S c = true := by
  intro n
  induction n with
  | zero => intro _ c hc; omega
  | succ n ih =>
    intro h c hc
    have b := cnS_b S n
    rw [cnS_s] at h
    by_cases s : S n = true
    · rw [if_pos s] at h
      by_cases e : c = n
      · subst e; exact s
      · exact ih (by omega) c (by omega)
    · rw [if_neg s] at h; omega
theorem cnS_t {S : Nat → Bool} : ∀ n, (∀ c, c < n → S c = true) → cnS S n = n := by
  intro n
  induction n with
  | zero => intro _; rfl
  | succ n ih => intro h; rw [cnS_s, if_pos (h n (by omega)), ih (fun c hc => h c (by omega))]
theorem cnS_p {o : Nat → Nat} {n : Nat} (ho : ORD o n) : ∀ i, i ≤ n → cnS (pfS o i) n = i := by
  intro i
  induction i with
  | zero => intro _; exact cnS_0 n
  | succ i ih =>
    intro hi
    rw [cnS_a (S := pfS o i) (c0 := o i) n (ho.1 i (by omega)) ?_ ?_ (fun c _ hc => ?_), ih (by omega)]
    · cases h : pfS o i (o i)
      · rfl
      · obtain ⟨j, hj, e⟩ := (pf_e o i (o i)).1 h
        exact absurd (ho.2 i j (by omega) (by omega) e) (by omega)
    · exact (pf_e o (i + 1) (o i)).2 ⟨i, by omega, rfl⟩
    · show (pfS o i c || decide (c = o i)) = pfS o i c
      rw [decide_eq_false hc, Bool.or_false]
/-- what the class holds of a beginning of the order -/
theorem ho_p {P : Nat → Int} {n b : Nat} (hT : TPP P n b) {o : Nat → Nat} (ho : ORD o n) (B0 lay : Nat) {S : Nat → Bool} {i : Nat} (hi : i ≤ n) (hS : ∀ c, c < n → S c = pfS o i c) : hoP P n b B0 lay S = wW P b n (B0 * lay) o i * 10 ^ ((n - i) * b) := by
  unfold hoP wW
  rw [capE hT, stF_x hS, cnS_x hS, cnS_p ho i hi]
theorem chW_0 {P : Nat → Int} {b n B : Nat} {o : Nat → Nat} {c : Nat} : ∀ i, (∀ j, j < i → c ≠ o j) → chW P b n B o i c = 0 := by
  intro i
  induction i with
  | zero => intro _; rfl
  | succ i ih =>
    intro h
    show chW P b n B o i c * 10 ^ b + (if c = o i then 10 ^ b * wW P b n B o i - wW P b n B o (i + 1) else 0) = 0
    rw [ih (fun j hj => h j (by omega)), if_neg (h i (by omega)), Int.zero_mul]; rfl
theorem chW_e {P : Nat → Int} {b n B : Nat} {o : Nat → Nat} (ho : ORD o n) {j : Nat} (hj : j < n) : ∀ m, j + 1 + m ≤ n → chW P b n B o (j + 1 + m) (o j) = (10 ^ b * wW P b n B o j - wW P b n B o (j + 1)) * 10 ^ (m * b) := by
  intro m
  induction m with
  | zero =>
    intro _
    show chW P b n B o j (o j) * 10 ^ b + (if o j = o j then 10 ^ b * wW P b n B o j - wW P b n B o (j + 1) else 0) = _
    rw [chW_0 j (fun i hi e => by have := ho.2 j i hj (by omega) e; omega), if_pos rfl, Int.zero_mul, Nat.zero_mul, Int.pow_zero, Int.mul_one, Int.zero_add]
  | succ m ih =>
    intro hm
    show chW P b n B o (j + 1 + m) (o j) * 10 ^ b + (if o j = o (j + 1 + m) then 10 ^ b * wW P b n B o (j + 1 + m) - wW P b n B o (j + 1 + m + 1) else 0) = _
    rw [ih (by omega), if_neg (fun e => by have := ho.2 j (j + 1 + m) hj (by omega) e; omega), Int.add_zero, Int.mul_assoc, ← Int.pow_add, Nat.add_mul, Nat.one_mul]
/-- the chance of child o j: what was standing before, less what stands after -/
theorem ch_ho {P : Nat → Int} {n b : Nat} (hT : TPP P n b) {o : Nat → Nat} (ho : ORD o n) (B0 lay : Nat) {j : Nat} (hj : j < n) {S S' : Nat → Bool} (hS : ∀ c, c < n → S c = pfS o j c) (hS' : ∀ c, c < n → S' c = pfS o (j + 1) c) : hoP P n b B0 lay S - hoP P n b B0 lay S' = chW P b n (B0 * lay) o n (o j) := by
  have e := chW_e (P := P) (b := b) (B := B0 * lay) ho hj (n - 1 - j) (by omega)
  rw [show j + 1 + (n - 1 - j) = n by omega] at e
  rw [e, ho_p hT ho B0 lay (i := j) (by omega) hS, ho_p hT ho B0 lay (i := j + 1) (by omega) hS', show n - j = (n - 1 - j) + 1 by omega, show n - (j + 1) = n - 1 - j by omega, Nat.add_mul, Nat.one_mul, Int.pow_add, Int.sub_mul]
  congr 1
  rw [Int.mul_comm (10 ^ ((n - 1 - j) * b)), ← Int.mul_assoc, Int.mul_comm (10 ^ b)]
theorem id_ord (n : Nat) : ORD id n := ⟨fun _ h => h, fun _ _ _ _ h => h⟩
theorem pf_id (i c : Nat) : pfS id i c = decide (c < i) := by
  have := pf_e id i c
  by_cases e : c < i
  · rw [decide_eq_true e]; exact this.2 ⟨c, e, rfl⟩
  · rw [decide_eq_false e]
    cases h : pfS id i c
    · rfl
    · obtain ⟨j, hj, q⟩ := this.1 h
      exact absurd hj (by show ¬ j < i; have : c = j := q; omega)
theorem bt_tab : ∀ i, i < 9 → ∀ c, c < 9 → decide ((1 * (2 : Int) ^ i - 1) / 2 ^ c % 2 = 1) = decide (c < i) := by decide +kernel
theorem bt_full {i n : Nat} (hi : i ≤ 8) (hn : n ≤ 8) : ∀ c, c < n → btS (1 * 2 ^ i - 1) c = pfS id i c := fun c hc => by
  rw [pf_id]
  exact bt_tab i (by omega) c (by omega)
