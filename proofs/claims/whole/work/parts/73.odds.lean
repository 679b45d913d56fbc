/-- what blows do to the layers: operators on weights -/
abbrev WF : Type := Nat → Int
def blT (l : Int) (F : Nat) (p : WF × WF) : WF × WF := (fun x => (10 - l) * p.1 x, fun x => (10 - l) * p.2 x + l * p.1 x + l * p.2 (x + F))
def itT (l : Int) (F : Nat) : Nat → WF × WF → WF × WF
  | 0, p => p
  | n + 1, p => blT l F (itT l F n p)
def inF (dr : Bool) (g : WF) : WF × WF := if dr then (fun _ => 0, g) else (g, fun _ => 0)
def tcF (dr : Bool) (l : Int) (F b : Nat) (g : WF) : WF := fun x => (itT l F b (inF dr g)).1 x + (itT l F b (inF dr g)).2 x
def CL (T : WF → WF) : Prop := (∀ g h, T (fun x => g x + h x) = fun x => T g x + T h x) ∧ (∀ a g, T (fun x => a * g x) = fun x => a * T g x) ∧ ∀ k g, T (fun x => g (x + k)) = fun x => T g (x + k)
theorem CL_0 {T : WF → WF} (h : CL T) : T (fun _ => 0) = fun _ => 0 := by
  have := h.2.1 0 (fun _ => 0)
  simp only [Int.zero_mul] at this
  exact this
theorem bl_c {T : WF → WF} (h : CL T) (l : Int) (F : Nat) (p : WF × WF) : blT l F (T p.1, T p.2) = (T (blT l F p).1, T (blT l F p).2) := by
  unfold blT
  dsimp only
  rw [h.2.1, h.1 (fun x => (10 - l) * p.2 x + l * p.1 x) (fun x => l * p.2 (x + F)), h.1 (fun x => (10 - l) * p.2 x) (fun x => l * p.1 x), h.2.1, h.2.1, h.2.1 l (fun x => p.2 (x + F)), h.2.2]
theorem it_c {T : WF → WF} (h : CL T) (l : Int) (F n : Nat) (p : WF × WF) : itT l F n (T p.1, T p.2) = (T (itT l F n p).1, T (itT l F n p).2) := by
  induction n with
  | zero => rfl
  | succ n ih => show blT l F (itT l F n (T p.1, T p.2)) = _; rw [ih, bl_c h]; rfl
theorem in_c {T : WF → WF} (h : CL T) (dr : Bool) (g : WF) : inF dr (T g) = (T (inF dr g).1, T (inF dr g).2) := by
  unfold inF
  cases dr
  · show (T g, fun _ => 0) = (T g, T fun _ => 0)
    rw [CL_0 h]
  · show (fun _ => 0, T g) = (T fun _ => 0, T g)
    rw [CL_0 h]
theorem tc_c {T : WF → WF} (h : CL T) (dr : Bool) (l : Int) (F b : Nat) (g : WF) : T (tcF dr l F b g) = tcF dr l F b (T g) := by
  unfold tcF
  rw [h.1, in_c h, it_c h]
theorem CL_s (k : Nat) : CL (fun g x => g (x + k)) := ⟨fun _ _ => rfl, fun _ _ => rfl, fun k' g => by funext x; show g (x + k + k') = g (x + k' + k); rw [Nat.add_right_comm]⟩
theorem it_a (l : Int) (F n : Nat) (p q : WF × WF) : itT l F n (fun x => p.1 x + q.1 x, fun x => p.2 x + q.2 x) = (fun x => (itT l F n p).1 x + (itT l F n q).1 x, fun x => (itT l F n p).2 x + (itT l F n q).2 x) := by
  induction n with
  | zero => rfl
  | succ n ih =>
    show blT l F (itT l F n _) = (fun x => (blT l F (itT l F n p)).1 x + (blT l F (itT l F n q)).1 x, fun x => (blT l F (itT l F n p)).2 x + (blT l F (itT l F n q)).2 x)
    rw [ih]
    unfold blT
    dsimp only
    refine Prod.ext (funext fun x => ?_) (funext fun x => ?_)
    · dsimp only; rw [Int.mul_add]
    · dsimp only; rw [Int.mul_add, Int.mul_add, Int.mul_add]; omega
theorem it_m (l : Int) (F n : Nat) (a : Int) (p : WF × WF) : itT l F n (fun x => a * p.1 x, fun x => a * p.2 x) = (fun x => a * (itT l F n p).1 x, fun x => a * (itT l F n p).2 x) := by
  induction n with
  | zero => rfl
  | succ n ih =>
    show blT l F (itT l F n _) = (fun x => a * (blT l F (itT l F n p)).1 x, fun x => a * (blT l F (itT l F n p)).2 x)
    rw [ih]
    unfold blT
    dsimp only
    refine Prod.ext (funext fun x => ?_) (funext fun x => ?_)
    · dsimp only; rw [Int.mul_left_comm]
    · dsimp only; rw [Int.mul_add, Int.mul_add, Int.mul_left_comm, Int.mul_left_comm l, Int.mul_left_comm l]
theorem CL_t (dr : Bool) (l : Int) (F b : Nat) : CL (tcF dr l F b) := by
  refine ⟨fun g h => ?_, fun a g => ?_, fun k g => (tc_c (CL_s k) dr l F b g).symm⟩
  · have e : inF dr (fun x => g x + h x) = (fun x => (inF dr g).1 x + (inF dr h).1 x, fun x => (inF dr g).2 x + (inF dr h).2 x) := by
      cases dr
      · show ((fun x => g x + h x), (fun _ => (0 : Int))) = ((fun x => g x + h x), (fun _ => (0 : Int) + 0)); rfl
      · show ((fun _ => (0 : Int)), (fun x => g x + h x)) = ((fun _ => (0 : Int) + 0), (fun x => g x + h x)); rfl
    unfold tcF
    rw [e, it_a]
    funext x
    dsimp only
    omega
  · have e : inF dr (fun x => a * g x) = (fun x => a * (inF dr g).1 x, fun x => a * (inF dr g).2 x) := by
      cases dr
      · show ((fun x => a * g x), (fun _ => (0 : Int))) = ((fun x => a * g x), (fun _ => a * 0)); rw [Int.mul_zero]
      · show ((fun _ => (0 : Int)), (fun x => a * g x)) = ((fun _ => a * 0), (fun x => a * g x)); rw [Int.mul_zero]
    unfold tcF
    rw [e, it_m]
    funext x
    dsimp only
    rw [Int.mul_add]
/-- the children of a set strike, one after another -/
def stF (ops : Nat → WF → WF) (S : Nat → Bool) (n : Nat) (g : WF) : WF := fo (fun c g => if S c then ops c g else g) n g
theorem stF_s (ops : Nat → WF → WF) (S : Nat → Bool) (n : Nat) (g : WF) : stF ops S (n + 1) g = if S n then ops n (stF ops S n g) else stF ops S n g := rfl
theorem stF_x {ops : Nat → WF → WF} {S S' : Nat → Bool} {n : Nat} (h : ∀ c, c < n → S c = S' c) (g : WF) : stF ops S n g = stF ops S' n g := fo_ext (fun c hc s => by rw [h c hc]) g
theorem stF_a {ops : Nat → WF → WF} (hc : ∀ c d g, ops c (ops d g) = ops d (ops c g)) {S S' : Nat → Bool} {c0 : Nat} : ∀ n, c0 < n → S c0 = false → S' c0 = true → (∀ c, c < n → c ≠ c0 → S' c = S c) → ∀ g, stF ops S' n g = ops c0 (stF ops S n g) := by
  intro n
  induction n with
  | zero => intro h; omega
  | succ n ih =>
    intro h h1 h2 h3 g
    rw [stF_s, stF_s]
    by_cases e : c0 = n
    · subst e
      rw [h1, h2, if_pos rfl, if_neg (by decide), stF_x (fun c hc => h3 c (by omega) (by omega))]
    · rw [ih (by omega) h1 h2 (fun c hc hn => h3 c (by omega) hn), h3 n (by omega) (Ne.symm e)]
      by_cases s : S n = true
      · rw [if_pos s, if_pos s, hc]
      · rw [if_neg s, if_neg s]
theorem CL_f {ops : Nat → WF → WF} (h : ∀ c, CL (ops c)) (S : Nat → Bool) (n : Nat) : CL (stF ops S n) := by
  induction n with
  | zero => exact ⟨fun _ _ => rfl, fun _ _ => rfl, fun _ _ => rfl⟩
  | succ n ih =>
    by_cases s : S n = true
    · have e : stF ops S (n + 1) = fun g => ops n (stF ops S n g) := by funext g; rw [stF_s, if_pos s]
      rw [e]
      refine ⟨fun g k => ?_, fun a g => ?_, fun k g => ?_⟩
      · dsimp only; rw [ih.1, (h n).1]
      · dsimp only; rw [ih.2.1, (h n).2.1]
      · dsimp only; rw [ih.2.2, (h n).2.2]
    · have e : stF ops S (n + 1) = stF ops S n := by funext g; rw [stF_s, if_neg s]
      rw [e]; exact ih
/-- nothing at all at the layers that u cannot reach down to -/
def Sup (B u : Nat) (g : WF) : Prop := ∀ x, x + u < B → g x = 0
theorem bl_u {B u F : Nat} {l : Int} {p : WF × WF} (hF : F ≤ 9) (h : Sup B u p.1 ∧ Sup B u p.2) : Sup B (u + 9) (blT l F p).1 ∧ Sup B (u + 9) (blT l F p).2 := by
  refine ⟨fun x hx => ?_, fun x hx => ?_⟩
  · show (10 - l) * p.1 x = 0; rw [h.1 x (by omega), Int.mul_zero]
  · show (10 - l) * p.2 x + l * p.1 x + l * p.2 (x + F) = 0; rw [h.1 x (by omega), h.2 x (by omega), h.2 (x + F) (by omega), Int.mul_zero, Int.mul_zero]; rfl
theorem tc_u {B u F b : Nat} {l : Int} (dr : Bool) {g : WF} (hF : F ≤ 9) (h : Sup B u g) : Sup B (u + 9 * b) (tcF dr l F b g) := by
  have i0 : Sup B u (inF dr g).1 ∧ Sup B u (inF dr g).2 := by
    cases dr
    · exact ⟨h, fun _ _ => rfl⟩
    · exact ⟨fun _ _ => rfl, h⟩
  have key : ∀ n, Sup B (u + 9 * n) (itT l F n (inF dr g)).1 ∧ Sup B (u + 9 * n) (itT l F n (inF dr g)).2 := by
    intro n
    induction n with
    | zero => exact i0
    | succ n ih =>
      have := bl_u (l := l) hF ih
      rw [show u + 9 * n + 9 = u + 9 * (n + 1) by omega] at this
      exact this
  intro x hx
  show (itT l F b (inF dr g)).1 x + (itT l F b (inF dr g)).2 x = 0
  rw [(key b).1 x hx, (key b).2 x hx]; rfl
/-- nothing above B -/
def Top (B : Nat) (g : WF) : Prop := ∀ x, B < x → g x = 0
def Nng (g : WF) : Prop := ∀ x, 0 ≤ g x
theorem bl_t {B F : Nat} {l : Int} {p : WF × WF} (h : Top B p.1 ∧ Top B p.2) : Top B (blT l F p).1 ∧ Top B (blT l F p).2 := by
  refine ⟨fun x hx => ?_, fun x hx => ?_⟩
  · show (10 - l) * p.1 x = 0; rw [h.1 x hx, Int.mul_zero]
  · show (10 - l) * p.2 x + l * p.1 x + l * p.2 (x + F) = 0; rw [h.1 x hx, h.2 x hx, h.2 (x + F) (by omega), Int.mul_zero, Int.mul_zero]; rfl
theorem bl_g {F : Nat} {l : Int} (hl : 0 ≤ l ∧ l ≤ 10) {p : WF × WF} (h : Nng p.1 ∧ Nng p.2) : Nng (blT l F p).1 ∧ Nng (blT l F p).2 := by
  refine ⟨fun x => Int.mul_nonneg (by omega) (h.1 x), fun x => ?_⟩
  have a1 := Int.mul_nonneg (show 0 ≤ 10 - l by omega) (h.2 x)
  have a2 := Int.mul_nonneg hl.1 (h.1 x)
  have a3 := Int.mul_nonneg hl.1 (h.2 (x + F))
  show 0 ≤ (10 - l) * p.2 x + l * p.1 x + l * p.2 (x + F)
  omega
theorem in_t' {B : Nat} {g : WF} (dr : Bool) (h : Top B g) : Top B (inF dr g).1 ∧ Top B (inF dr g).2 := by
  cases dr
  · exact ⟨h, fun _ _ => rfl⟩
  · exact ⟨fun _ _ => rfl, h⟩
theorem in_g' {g : WF} (dr : Bool) (h : Nng g) : Nng (inF dr g).1 ∧ Nng (inF dr g).2 := by
  cases dr
  · exact ⟨h, fun _ => Int.le_refl _⟩
  · exact ⟨fun _ => Int.le_refl _, h⟩
theorem it_tg {B F : Nat} {l : Int} (hl : 0 ≤ l ∧ l ≤ 10) {p : WF × WF} (ht : Top B p.1 ∧ Top B p.2) (hg : Nng p.1 ∧ Nng p.2) (n : Nat) : (Top B (itT l F n p).1 ∧ Top B (itT l F n p).2) ∧ (Nng (itT l F n p).1 ∧ Nng (itT l F n p).2) := by
  induction n with
  | zero => exact ⟨ht, hg⟩
  | succ n ih => exact ⟨bl_t ih.1, bl_g hl ih.2⟩
/-- the weight of all that stands -/
def wtF (B : Nat) (g : WF) : Int := sm (fun x => g (x + 1)) B
theorem sm_sh (f : Nat → Int) (F n : Nat) : sm (fun x => f (x + F)) n + sm f F = sm f (n + F) := by
  induction n with
  | zero => rw [Nat.zero_add, sm_0]; omega
  | succ n ih => rw [show n + 1 + F = n + F + 1 by omega, sm_s, sm_s, ← ih]; omega
theorem sm_z {f : Nat → Int} {B : Nat} (h : ∀ x, B ≤ x → f x = 0) (k : Nat) : sm f (B + k) = sm f B := by
  induction k with
  | zero => rfl
  | succ k ih => rw [show B + (k + 1) = B + k + 1 by omega, sm_s, ih, h _ (by omega)]; omega
theorem sm_lt (f : Nat → Int) (F n : Nat) : sm (fun x => if x < F then f x else 0) n = sm f (min n F) := by
  induction n with
  | zero => rw [Nat.zero_min, sm_0, sm_0]
  | succ n ih =>
    rw [sm_s, ih]
    by_cases e : n < F
    · rw [if_pos e, Nat.min_eq_left (by omega), Nat.min_eq_left (by omega), sm_s]
    · rw [if_neg e, Nat.min_eq_right (by omega), Nat.min_eq_right (by omega)]; omega
theorem sh_wt {B F : Nat} {g : WF} (h : Top B g) : wtF B (fun x => g (x + F)) + sm (fun x => if x < F then g (x + 1) else 0) B = wtF B g := by
  have e1 := sm_sh (fun x => g (x + 1)) F B
  have e2 := sm_z (f := fun x => g (x + 1)) (B := B) (fun x hx => h (x + 1) (by omega))
  have e3 := sm_lt (fun x => g (x + 1)) F B
  unfold wtF
  rw [e3]
  have e4 : sm (fun x => g (x + 1 + F)) B = sm (fun x => g (x + F + 1)) B := sm_ext (fun k _ => by rw [Nat.add_right_comm])
  rw [e4]
  rw [e2 F] at e1
  by_cases q : F ≤ B
  · rw [Nat.min_eq_right q]; exact e1
  · rw [Nat.min_eq_left (by omega)]
    have e5 := e2 (F - B)
    rw [show B + (F - B) = F by omega] at e5
    rw [e5] at e1
    exact e1
theorem wt_a (B : Nat) (g h : WF) : wtF B (fun x => g x + h x) = wtF B g + wtF B h := by
  unfold wtF
  induction B with
  | zero => rw [sm_0, sm_0, sm_0]; rfl
  | succ n ih => rw [sm_s, sm_s, sm_s, ih]; dsimp only; omega
theorem wt_m (B : Nat) (a : Int) (g : WF) : wtF B (fun x => a * g x) = a * wtF B g := by
  unfold wtF
  induction B with
  | zero => rw [sm_0, sm_0, Int.mul_zero]
  | succ n ih => rw [sm_s, sm_s, ih, Int.mul_add]
/-- the weight that bursts at a blow -/
def bsF (B F : Nat) (l : Int) (g : WF) : Int := sm (fun x => if x < F then l * g (x + 1) else 0) B
theorem bl_w {B F : Nat} {l : Int} {p : WF × WF} (h : Top B p.1 ∧ Top B p.2) : wtF B (fun x => (blT l F p).1 x + (blT l F p).2 x) + bsF B F l p.2 = 10 * wtF B (fun x => p.1 x + p.2 x) := by
  have e := sh_wt (F := F) h.2
  have e5 : bsF B F l p.2 = l * sm (fun x => if x < F then p.2 (x + 1) else 0) B := by
    unfold bsF
    clear e h
    induction B with
    | zero => rw [sm_0, sm_0, Int.mul_zero]
    | succ n ih =>
      rw [sm_s, sm_s, ih, Int.mul_add]
      by_cases q : n < F
      · rw [if_pos q, if_pos q]
      · rw [if_neg q, if_neg q, Int.mul_zero]
  unfold blT
  dsimp only
  rw [wt_a, wt_m, wt_a, wt_a, wt_m, wt_m, wt_m, wt_a, e5, ← e]
  simp only [Int.sub_mul, Int.mul_add]
  omega
theorem wt_n {B : Nat} {g : WF} (h : Nng g) : 0 ≤ wtF B g := by
  unfold wtF
  induction B with
  | zero => rw [sm_0]; exact Int.le_refl _
  | succ n ih => rw [sm_s]; have := h (n + 1); omega
theorem bs_n {B F : Nat} {l : Int} (hl : 0 ≤ l) {g : WF} (h : Nng g) : 0 ≤ bsF B F l g := by
  unfold bsF
  induction B with
  | zero => rw [sm_0]; exact Int.le_refl _
  | succ n ih =>
    rw [sm_s]
    have := Int.mul_nonneg hl (h (n + 1))
    split <;> omega
