/-- what a child picks up of a ground -/
def pkd (P R : Nat → Int) (s : Int) (n m : Nat) (c : Nat) : Int := sm (fun j => if (pkN s (P 5) (spP P) (qkP P) (R (1 + 2 * j)) n).1 = (c : Int) then R (2 + 2 * j) else 0) m
theorem pkd_b {P R : Nat → Int} {s : Int} {n m : Nat} (hm : m ≤ 25) (hR : ∀ j, j < m → 1 ≤ R (2 + 2 * j) ∧ R (2 + 2 * j) ≤ 9) (c : Nat) : 0 ≤ pkd P R s n m c ∧ pkd P R s n m c ≤ 225 := by
  have := sm_b (f := fun j => if (pkN s (P 5) (spP P) (qkP P) (R (1 + 2 * j)) n).1 = (c : Int) then R (2 + 2 * j) else 0) (n := m) (B := 9) (fun j hj => by
    have := hR j hj
    split <;> omega)
  unfold pkd
  omega
theorem pkd_bk {P R : Nat → Int} {s : Int} {n m : Nat} (hm : m ≤ 25) (hR : ∀ j, j < m → 1 ≤ R (2 + 2 * j) ∧ R (2 + 2 * j) ≤ 9) (c : Nat) (k : Nat) (hk : k ≤ m) : 0 ≤ pkd P R s n k c ∧ pkd P R s n k c ≤ 225 := pkd_b (by omega) (fun j hj => hR j (by omega)) c
/-- all that fell -/
def alF (R : Nat → Int) (m : Nat) : Int := sm (fun j => R (2 + 2 * j)) m
/-- thanks: first all give, then he gives -/
def t1S (P : Nat → Int) (s : Nat) (c : Nat) (b : Nat → Int) : Nat → Int := if c ≠ s ∧ 0 < b c ∧ P (33 + 13 * c + s) = 2 then (fun j => if j = s then b s + 1 else if j = c then b c - 1 else b j) else b
def t2S (P : Nat → Int) (s : Nat) (c : Nat) (b : Nat → Int) : Nat → Int := if c ≠ s ∧ 0 < b s ∧ P (33 + 13 * c + s) = 0 then (fun j => if j = s then b s - 1 else if j = c then b c + 1 else b j) else b
def thP (P : Nat → Int) (s n : Nat) (b : Nat → Int) : Nat → Int := fo (t2S P s) n (fo (t1S P s) n b)
theorem t1_b {P : Nat → Int} {s : Nat} {b : Nat → Int} {B : Int} (h : ∀ j, 0 ≤ b j ∧ b j ≤ B) : ∀ n : Nat, ∀ j, 0 ≤ fo (t1S P s) n b j ∧ fo (t1S P s) n b j ≤ B + n := by
  intro n
  induction n with
  | zero => intro j; have := h j; rw [fo_0]; omega
  | succ n ih =>
    intro j
    rw [fo_s]
    have i1 := ih j
    have i2 := ih s
    have i3 := ih n
    generalize fo (t1S P s) n b = d at *
    unfold t1S
    split
    · dsimp only
      split
      · omega
      · split <;> omega
    · omega
theorem t2_b {P : Nat → Int} {s : Nat} {b : Nat → Int} {B : Int} (h : ∀ j, 0 ≤ b j ∧ b j ≤ B) : ∀ n : Nat, ∀ j, 0 ≤ fo (t2S P s) n b j ∧ fo (t2S P s) n b j ≤ B + n := by
  intro n
  induction n with
  | zero => intro j; have := h j; rw [fo_0]; omega
  | succ n ih =>
    intro j
    rw [fo_s]
    have i1 := ih j
    have i2 := ih s
    have i3 := ih n
    generalize fo (t2S P s) n b = d at *
    unfold t2S
    split
    · dsimp only
      split
      · omega
      · split <;> omega
    · omega
/-- dealt one by one: what the one at place i has of w sweets among n -/
def dlP (n : Nat) (w i : Nat) : Nat := w / n + (if i < w % n then 1 else 0)
theorem dl_s {n : Nat} (hn : 1 ≤ n ∧ n ≤ 8) (w i : Nat) (hi : i < n) : dlP n (w + 1) i = dlP n w i + (if w % n = i then 1 else 0) := by
  unfold dlP
  have : n = 1 ∨ n = 2 ∨ n = 3 ∨ n = 4 ∨ n = 5 ∨ n = 6 ∨ n = 7 ∨ n = 8 := by omega
  rcases this with rfl | rfl | rfl | rfl | rfl | rfl | rfl | rfl <;> split <;> split <;> split <;> omega
theorem dl_0 (n i : Nat) : dlP n 0 i = 0 := by unfold dlP; rw [Nat.zero_div, Nat.zero_mod, if_neg (by omega)]
theorem dl_b {n : Nat} (w i : Nat) : dlP n w i ≤ w + 1 := by
  unfold dlP
  have := Nat.div_le_self w n
  split <;> omega
/-- how many go ahead of one among the first c: by age, then by number -/
def yoN (A : Nat → Int) (c : Nat) (x : Nat) : Int := sm (fun k => if A k < A x ∨ (A k = A x ∧ k < x) then 1 else 0) c
theorem sm_ins {g : Nat → Int} {q q' : Nat → Nat} {a v : Nat} (h1 : ∀ i, i < a → q' i = q i) (h2 : q' a = v) : ∀ c, a ≤ c → (∀ i, a ≤ i → i < c → q' (i + 1) = q i) → sm (fun i => g (q' i)) (c + 1) = sm (fun i => g (q i)) c + g v := by
  intro c
  induction c with
  | zero =>
    intro hac _
    have : a = 0 := by omega
    subst this
    rw [sm_s, sm_0, sm_0, h2]
  | succ c ih =>
    intro hac h3
    by_cases e : a = c + 1
    · subst e
      rw [sm_s, h2, sm_ext (g := fun i => g (q i)) (fun k hk => by rw [h1 k hk])]
    · have := ih (by omega) (fun i hi hic => h3 i hi (by omega))
      rw [sm_s, this, sm_s, h3 c (by omega) (by omega)]
      omega
theorem sm_cut {f : Nat → Int} {a : Nat} (h1 : ∀ i, i < a → f i = 1) : ∀ c, a ≤ c → (∀ i, a ≤ i → i < c → f i = 0) → sm f c = (a : Int) := by
  intro c
  induction c with
  | zero => intro h _; rw [sm_0]; omega
  | succ c ih =>
    intro hac h2
    by_cases e : a = c + 1
    · have : ∀ m, m ≤ a → sm f m = (m : Int) := by
        intro m
        induction m with
        | zero => intro _; rw [sm_0]; omega
        | succ m ihm => intro hm; rw [sm_s, ihm (by omega), h1 m (by omega)]; omega
      rw [e]; exact this (c + 1) (by omega)
    · rw [sm_s, ih (by omega) (fun i hi hic => h2 i hi (by omega)), h2 c (by omega) (by omega)]
      omega
/-- the first c children in a queue by age -/
def QUE (A : Nat → Int) (q : Nat → Nat) (c : Nat) : Prop := (∀ i, i < c → q i < c ∧ yoN A c (q i) = (i : Int)) ∧ (∀ x, x < c → ∃ i, i < c ∧ q i = x) ∧ (∀ i j, i ≤ j → j < c → A (q i) ≤ A (q j)) ∧ ∀ a : Int, sm (fun k => if A k ≤ a then 1 else 0) c = sm (fun i => if A (q i) ≤ a then 1 else 0) c
theorem QUE_0 (A : Nat → Int) (q : Nat → Nat) : QUE A q 0 := ⟨fun i hi => by omega, fun x hx => by omega, fun i j _ hj => by omega, fun a => rfl⟩
theorem QUE_s {A : Nat → Int} {q q' : Nat → Nat} {c a : Nat} (h : QUE A q c) (ha : a ≤ c) (h1 : ∀ i, i < a → q' i = q i) (h2 : q' a = c) (h3 : ∀ i, a ≤ i → i < c → q' (i + 1) = q i) (g1 : ∀ i, i < a → A (q i) ≤ A c) (g2 : ∀ i, a ≤ i → i < c → A c < A (q i)) : QUE A q' (c + 1) := by
  obtain ⟨u1, u2, u3, u4⟩ := h
  have cnt : sm (fun k => if A k ≤ A c then 1 else 0) c = (a : Int) := by
    rw [u4 (A c)]
    exact sm_cut (fun i hi => if_pos (g1 i hi)) c ha (fun i hi hic => if_neg (by have := g2 i hi hic; omega))
  have yc : yoN A (c + 1) c = (a : Int) := by
    unfold yoN
    rw [sm_s, if_neg (by omega), ← cnt, Int.add_zero]
    exact sm_ext (fun k hk => by
      by_cases z : A k ≤ A c
      · rw [if_pos z, if_pos (by omega)]
      · rw [if_neg z, if_neg (by omega)])
  have yx : ∀ x, x < c → yoN A (c + 1) x = yoN A c x + (if A c < A x then 1 else 0) := fun x hx => by
    unfold yoN
    rw [sm_s]
    congr 1
    by_cases z : A c < A x
    · rw [if_pos (Or.inl z), if_pos z]
    · rw [if_neg (by omega), if_neg z]
  refine ⟨fun i hi => ?_, fun x hx => ?_, fun i j hij hj => ?_, fun b => ?_⟩
  · by_cases e1 : i < a
    · have w := u1 i (by omega)
      have g := g1 i e1
      rw [h1 i e1, yx _ w.1, w.2, if_neg (by omega)]
      exact ⟨by omega, by omega⟩
    · by_cases e2 : i = a
      · subst e2; rw [h2, yc]; exact ⟨by omega, rfl⟩
      · obtain ⟨j, rfl⟩ : ∃ j, i = j + 1 := ⟨i - 1, by omega⟩
        have w := u1 j (by omega)
        have g := g2 j (by omega) (by omega)
        rw [h3 j (by omega) (by omega), yx _ w.1, w.2, if_pos g]
        exact ⟨by omega, by omega⟩
  · by_cases e : x = c
    · exact ⟨a, by omega, by rw [h2, e]⟩
    · obtain ⟨i, hi, hq⟩ := u2 x (by omega)
      by_cases e1 : i < a
      · exact ⟨i, by omega, by rw [h1 i e1, hq]⟩
      · exact ⟨i + 1, by omega, by rw [h3 i (by omega) hi, hq]⟩
  · -- ages along the queue
    by_cases j1 : j < a
    · rw [h1 i (by omega), h1 j j1]; exact u3 i j hij (by omega)
    · by_cases j2 : j = a
      · subst j2
        by_cases i1 : i < j
        · rw [h1 i i1, h2]; exact g1 i i1
        · have : i = j := by omega
          subst this; exact Int.le_refl _
      · obtain ⟨l, rfl⟩ : ∃ l, j = l + 1 := ⟨j - 1, by omega⟩
        rw [h3 l (by omega) (by omega)]
        by_cases i1 : i < a
        · rw [h1 i i1]; exact u3 i l (by omega) (by omega)
        · by_cases i2 : i = a
          · subst i2; rw [h2]; have := g2 l (by omega) (by omega); omega
          · obtain ⟨r, rfl⟩ : ∃ r, i = r + 1 := ⟨i - 1, by omega⟩
            rw [h3 r (by omega) (by omega)]; exact u3 r l (by omega) (by omega)
  · rw [sm_ins (g := fun k => if A k ≤ b then 1 else 0) h1 h2 c ha h3, ← u4 b, sm_s]
theorem yo_lt {A : Nat → Int} {c x : Nat} (hx : x < c) : 0 ≤ yoN A c x ∧ yoN A c x < (c : Int) := by
  have key : ∀ m, 0 ≤ yoN A m x ∧ yoN A m x ≤ (m : Int) ∧ (x < m → yoN A m x < (m : Int)) := by
    intro m
    induction m with
    | zero => unfold yoN; rw [sm_0]; exact ⟨by omega, by omega, by omega⟩
    | succ m ih =>
      unfold yoN at *
      rw [sm_s]
      by_cases e : m = x
      · subst e
        rw [if_neg (by omega)]
        omega
      · split <;> omega
  have := key c
  exact ⟨this.1, this.2.2 hx⟩
