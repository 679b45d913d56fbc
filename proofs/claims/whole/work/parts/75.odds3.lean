/-- the class: what a set of children leaves standing -/
def cnS (S : Nat → Bool) (n : Nat) : Nat := fo (fun c k => if S c then k + 1 else k) n 0
theorem cnS_s (S : Nat → Bool) (n : Nat) : cnS S (n + 1) = if S n then cnS S n + 1 else cnS S n := rfl
theorem cnS_b (S : Nat → Bool) (n : Nat) : cnS S n ≤ n := by
  induction n with
  | zero => exact Nat.le_refl 0
  | succ n ih => rw [cnS_s]; split <;> omega
def dlF (B : Nat) : WF := fun x => if x = B then 1 else 0
theorem tc_t {B : Nat} (dr : Bool) {l : Int} {F b : Nat} {g : WF} (h : Top B g) : Top B (tcF dr l F b g) := by
  have key : ∀ n, Top B (itT l F n (inF dr g)).1 ∧ Top B (itT l F n (inF dr g)).2 := by
    intro n
    induction n with
    | zero => exact in_t' dr h
    | succ n ih => exact bl_t ih
  intro x hx
  show (itT l F b (inF dr g)).1 x + (itT l F b (inF dr g)).2 x = 0
  rw [(key b).1 x hx, (key b).2 x hx]; rfl
theorem dl_t (B : Nat) : Top B (dlF B) := fun x hx => if_neg (by omega)
theorem dl_g (B : Nat) : Nng (dlF B) := fun x => by unfold dlF; split <;> omega
theorem st_t {B : Nat} {P : Nat → Int} {b : Nat} {S : Nat → Bool} (n : Nat) {g : WF} (h : Top B g) : Top B (stF (opP P b) S n g) := by
  induction n with
  | zero => exact h
  | succ n ih =>
    rw [stF_s]
    split
    · exact tc_t _ ih
    · exact ih
theorem tc_g {dr : Bool} {l : Int} {F b : Nat} {g : WF} (hl : 0 ≤ l ∧ l ≤ 10) (h : Nng g) : Nng (tcF dr l F b g) := by
  have key : ∀ n, Nng (itT l F n (inF dr g)).1 ∧ Nng (itT l F n (inF dr g)).2 := by
    intro n
    induction n with
    | zero => exact in_g' dr h
    | succ n ih => exact bl_g hl ih
  intro x
  have a1 := (key b).1 x
  have a2 := (key b).2 x
  show 0 ≤ (itT l F b (inF dr g)).1 x + (itT l F b (inF dr g)).2 x
  omega
theorem st_g {P : Nat → Int} {n b : Nat} (hT : TPP P n b) {S : Nat → Bool} {g : WF} (h : Nng g) : ∀ k, k ≤ n → Nng (stF (opP P b) S k g) := by
  intro k
  induction k with
  | zero => intro _; exact h
  | succ k ih =>
    intro hk
    rw [stF_s]
    split
    · exact tc_g (hT.2.2.2.2.2.2.2.2 k (by omega)) (ih (by omega))
    · exact ih (by omega)
/-- the set that an int tells -/
def btS (x : Int) : Nat → Bool := fun c => decide (x / 2 ^ c % 2 = 1)
def capP (B lay : Nat) : Nat := min (B * lay) 136
def hoP (P : Nat → Int) (n b : Nat) (B lay : Nat) (S : Nat → Bool) : Int := wtF (capP B lay) (stF (opP P b) S n (dlF (capP B lay))) * 10 ^ ((n - cnS S n) * b)
theorem holdA {M0 N : MM} {p : Nat} {P : Nat → Int} (hc : PC M0 p P) (hv : PV P) (hg : PG p) (hp : p < 66) {n b : Nat} (hT : TPP P n b) (hr : F34 M0 N) {B lay : Nat} (hB : P 19 = (B : Int)) (hB1 : 1 ≤ B ∧ B ≤ 30) (hlay : 1 ≤ lay ∧ lay ≤ 9) {x : Int} (hx : 0 ≤ x ∧ x < 256) : ∃ N', sX4_holds 121 p (lay : Int) x N = some (hoP P n b B lay (btS x), N') ∧ F34 M0 N' := by
  have hT0 := hT
  obtain ⟨t1, t2, t3, t4, t5, t6, t7, t8, t9⟩ := hT
  have hv1 := hv.1
  have cB := (hc.2.2.2.1 0 (by omega)).2
  rw [show 19 + 2 * 0 = 19 from rfl, hB] at cB
  have hm : (B : Int) * (lay : Int) = ((B * lay : Nat) : Int) := by simp
  have hmb : B * lay ≤ 30 * 9 := Nat.mul_le_mul hB1.2 hlay.2
  have hmp : 1 ≤ B * lay := Nat.mul_pos hB1.1 hlay.1
  obtain ⟨cap, hcap⟩ : ∃ cap, cap = capP B lay := ⟨_, rfl⟩
  have hc136 : 1 ≤ cap ∧ cap ≤ 136 := by rw [hcap]; unfold capP; omega
  unfold sX4_holds sX4_holds_b0
  rw [hg.2.1, hr (p + 2) (by omega) (by omega), cB, hm, wI_of (x := ((B * lay : Nat) : Int)) (by omega) (by omega), show min ((B * lay : Nat) : Int) 136 = (cap : Int) by rw [hcap]; unfold capP; omega, ob_s]
  unfold hoP
  rw [← hcap]
  -- the sum at the end
  have summ : ∀ T : MM, F34 M0 T → RwA cap T (fun _ => 0, stF (opP P b) (btS x) n (dlF cap)) → ∃ N', sX4_holds_b108 121 p (lay : Int) x FU (cap : Int) ((n - cnS (btS x) n : Nat) : Int) 0 1 T = some (wtF cap (stF (opP P b) (btS x) n (dlF cap)) * 10 ^ ((n - cnS (btS x) n) * b), N') ∧ F34 M0 N' := by
    intro T h1 h2
    have cb := cnS_b (btS x) n
    have hle : (n - cnS (btS x) n) * b ≤ n * b := Nat.mul_le_mul_right b (by omega)
    refine loopC (fun f y (s : Int) => sX4_holds_b108 121 p (lay : Int) x f (cap : Int) ((n - cnS (btS x) n : Nat) : Int) s y T) (cap + 1) (fun k s => 1 ≤ k ∧ s = sm (fun x_1 => stF (opP P b) (btS x) n (dlF cap) (x_1 + 1)) (k - 1)) (fun o => ∃ N', o = some (wtF cap (stF (opP P b) (btS x) n (dlF cap)) * 10 ^ ((n - cnS (btS x) n) * b), N') ∧ F34 M0 N') ?_ ?_ FU 1 0 (by omega) ⟨by omega, by rw [show 1 - 1 = 0 from rfl, sm_0]⟩ (by unfold FU; omega)
    · intro f s ⟨_, hs⟩
      show ∃ N', sX4_holds_b108 121 p (lay : Int) x (f + 1) (cap : Int) ((n - cnS (btS x) n : Nat) : Int) s ((cap + 1 : Nat) : Int) T = some (wtF cap (stF (opP P b) (btS x) n (dlF cap)) * 10 ^ ((n - cnS (btS x) n) * b), N') ∧ F34 M0 N'
      rw [sX4_holds_b108, wI_of (x := (cap : Int)) (by omega) (by omega), wI_of (x := ((cap + 1 : Nat) : Int)) (by omega) (by omega), if_pos (by omega), h1 p (by omega) (by omega), hc.1.2.2.1, t2, tenA (d := (n - cnS (btS x) n) * b) (by simp) (by omega), ob_s, hs]
      exact ⟨T, rfl, h1⟩
    · intro f k s hk ⟨hk1, hs⟩
      right
      have z : 0 ≤ (k : Int) ∧ (k : Int) < 137 := ⟨by omega, by omega⟩
      refine ⟨s + stF (opP P b) (btS x) n (dlF cap) k, ?_, by omega, ?_⟩
      · show sX4_holds_b108 121 p (lay : Int) x (f + 1) (cap : Int) ((n - cnS (btS x) n : Nat) : Int) s (k : Int) T = _
        rw [sX4_holds_b108, wI_of (x := (cap : Int)) (by omega) (by omega), wI_of (x := (k : Int)) (by omega) (by omega), if_neg (show ¬ (cap : Int) < (k : Int) by omega), if_pos z, ob_s, ob_s, g121_2, tN, (h2 k hk1 (by omega)).2]
      · rw [hs]
        obtain ⟨j, rfl⟩ : ∃ j, k = j + 1 := ⟨k - 1, by omega⟩
        rw [show j + 1 + 1 - 1 = j + 1 by omega, show j + 1 - 1 = j by omega, sm_s]
  -- the children
  have kids : ∀ T : MM, F34 M0 T → RwA cap T (fun _ => 0, dlF cap) → ∃ N', sX4_holds_b65 121 p (lay : Int) x FU (cap : Int) (n : Int) 0 T = some (wtF cap (stF (opP P b) (btS x) n (dlF cap)) * 10 ^ ((n - cnS (btS x) n) * b), N') ∧ F34 M0 N' := by
    intro T h1 h2
    refine loopC (fun f y (s : Int × MM) => sX4_holds_b65 121 p (lay : Int) x f (cap : Int) s.1 y s.2) n (fun k s => s.1 = ((n - cnS (btS x) k : Nat) : Int) ∧ F34 M0 s.2 ∧ RwA cap s.2 (fun _ => 0, stF (opP P b) (btS x) k (dlF cap))) (fun o => ∃ N', o = some (wtF cap (stF (opP P b) (btS x) n (dlF cap)) * 10 ^ ((n - cnS (btS x) n) * b), N') ∧ F34 M0 N') ?_ ?_ FU 0 ((n : Int), T) (by omega) ⟨rfl, h1, h2⟩ (by unfold FU; omega)
    · intro f s ⟨s1, s2, s3⟩
      show ∃ N', sX4_holds_b65 121 p (lay : Int) x (f + 1) (cap : Int) s.1 (n : Int) s.2 = some (wtF cap (stF (opP P b) (btS x) n (dlF cap)) * 10 ^ ((n - cnS (btS x) n) * b), N') ∧ F34 M0 N'
      rw [sX4_holds_b65, s2 p (by omega) (by omega), hc.1.2.1, t1, if_pos (Int.le_refl _), s1]
      exact summ s.2 s2 s3
    · intro f k s hk ⟨s1, s2, s3⟩
      right
      have cb := cnS_b (btS x) k
      have bb := bit_b x (2 ^ k)
      have head : sX4_holds_b65 121 p (lay : Int) x (f + 1) (cap : Int) s.1 (k : Int) s.2 = if x / 2 ^ k % 2 = 1 then (sX4_strikeAll 121 p (k : Int) (cap : Int) s.2).bind fun q_4 => sX4_holds_b65 121 p (lay : Int) x f (cap : Int) (s.1 + -1) ((k : Int) + 1) q_4 else sX4_holds_b65 121 p (lay : Int) x f (cap : Int) s.1 ((k : Int) + 1) s.2 := by
        rw [sX4_holds_b65, s2 p (by omega) (by omega), hc.1.2.1, t1, wI_of (x := (n : Int)) (by omega) (by omega), wI_of (x := (k : Int)) (by omega) (by omega), if_neg (show ¬ (n : Int) ≤ (k : Int) by omega), if_pos (show 0 ≤ (k : Int) ∧ (k : Int) < 32 by omega), tN, Int.emod_eq_of_lt hx.1 (by omega), wI_of (x := x / 2 ^ k % 2) (by omega) (by omega)]
        rfl
      show ∃ s' : Int × MM, sX4_holds_b65 121 p (lay : Int) x (f + 1) (cap : Int) s.1 (k : Int) s.2 = sX4_holds_b65 121 p (lay : Int) x f (cap : Int) s'.1 ((k : Int) + 1) s'.2 ∧ _
      rw [head]
      by_cases e : x / 2 ^ k % 2 = 1
      · have eS : btS x k = true := decide_eq_true e
        obtain ⟨N', e1, e2, e3⟩ := allA hc hv hg hp hT0 s2 hc136.2 s3 (st_t k (dl_t cap)) hk
        rw [if_pos e, e1, ob_s]
        refine ⟨(s.1 + -1, N'), rfl, ?_, e2, ?_⟩
        · rw [cnS_s, if_pos eS, s1]; dsimp only; omega
        · rw [stF_s, if_pos eS]; exact e3
      · have eS : ¬ btS x k = true := fun q => e (of_decide_eq_true q)
        rw [if_neg e]
        refine ⟨s, rfl, ?_, s2, ?_⟩
        · rw [cnS_s, if_neg eS, s1]
        · rw [stF_s, if_neg eS]; exact s3
  refine loopC (fun f y (t : MM) => sX4_holds_b19 121 p (lay : Int) x f (cap : Int) y t) (cap + 1) (fun k t => F34 M0 t ∧ ∀ x, x < k → t 123 x = 0 ∧ t 124 x = 0) (fun o => ∃ N', o = some (wtF cap (stF (opP P b) (btS x) n (dlF cap)) * 10 ^ ((n - cnS (btS x) n) * b), N') ∧ F34 M0 N') ?_ ?_ FU 0 N (by omega) ⟨hr, fun x hx => by omega⟩ (by unfold FU; omega)
  · intro f t ⟨h1, h2⟩
    show ∃ N', sX4_holds_b19 121 p (lay : Int) x (f + 1) (cap : Int) ((cap + 1 : Nat) : Int) t = some (wtF cap (stF (opP P b) (btS x) n (dlF cap)) * 10 ^ ((n - cnS (btS x) n) * b), N') ∧ F34 M0 N'
    rw [sX4_holds_b19, wI_of (x := (cap : Int)) (by omega) (by omega), wI_of (x := ((cap + 1 : Nat) : Int)) (by omega) (by omega), if_pos (by omega), if_pos (show 0 ≤ (cap : Int) ∧ (cap : Int) < 137 by omega), ob_s, g121_2, tN, mU_row _ _ (show p ≠ 124 by omega), h1 p (by omega) (by omega), hc.1.2.1, t1]
    refine kids _ (F34_u h1 (Or.inr rfl)) (fun y y1 y2 => ⟨by rw [mU_row _ _ (by omega)]; exact (h2 y (by omega)).1, ?_⟩)
    show _ = dlF cap y
    unfold dlF
    by_cases e : y = cap
    · subst e; rw [mU_eq, if_pos rfl]
    · rw [mU_ne _ _ (by omega), if_neg e]; exact (h2 y (by omega)).2
  · intro f k t hk ⟨h1, h2⟩
    right
    have z : 0 ≤ (k : Int) ∧ (k : Int) < 137 := ⟨by omega, by omega⟩
    refine ⟨mU (mU t 123 k 0) 124 k 0, ?_, F34_u (F34_u h1 (Or.inl rfl)) (Or.inr rfl), fun y hy => ?_⟩
    · show sX4_holds_b19 121 p (lay : Int) x (f + 1) (cap : Int) (k : Int) t = _
      rw [sX4_holds_b19, wI_of (x := (cap : Int)) (by omega) (by omega), wI_of (x := (k : Int)) (by omega) (by omega), if_neg (show ¬ (cap : Int) < (k : Int) by omega), if_pos z, ob_s, if_pos z, ob_s, ob_s, g121_1, g121_2, tN]
    · by_cases e : y = k
      · subst e; rw [mU_eq, mU_row _ _ (show (123 : Nat) ≠ 124 by omega), mU_eq]; exact ⟨rfl, rfl⟩
      · rw [mU_ne _ _ (show (124 : Nat) ≠ 124 ∨ y ≠ k by omega), mU_row _ _ (show (124 : Nat) ≠ 123 by omega), mU_row _ _ (show (123 : Nat) ≠ 124 by omega), mU_ne _ _ (show (123 : Nat) ≠ 123 ∨ y ≠ k by omega)]
        exact h2 y (by omega)
