/-- the class: blows, children, sets of children -/
def RwA (cap : Nat) (N : MM) (p : WF × WF) : Prop := ∀ x, 1 ≤ x → x ≤ cap → N 123 x = p.1 x ∧ N 124 x = p.2 x
def F34 (M M' : MM) : Prop := ∀ a, a ≠ 123 → a ≠ 124 → M' a = M a
theorem F34_r (M : MM) : F34 M M := fun _ _ _ => rfl
theorem F34_t {M M' M'' : MM} (h : F34 M M') (h' : F34 M' M'') : F34 M M'' := fun a x y => (h' a x y).trans (h a x y)
theorem F34_u {M M' : MM} {b k : Nat} {x : Int} (h : F34 M M') (hb : b = 123 ∨ b = 124) : F34 M (mU M' b k x) := fun a p q => by rw [mU_row _ _ (show a ≠ b by omega)]; exact h a p q
theorem onceA {N : MM} {cap F : Nat} {l : Int} (hcap : cap ≤ 136) (hF : 1 ≤ F ∧ F ≤ 9) (hl : 0 ≤ l ∧ l ≤ 10) {p : WF × WF} (hp : RwA cap N p) (ht : Top cap p.1 ∧ Top cap p.2) : ∃ N', sX4_strikeOnce 121 l (F : Int) (cap : Int) N = some N' ∧ F34 N N' ∧ RwA cap N' (blT l F p) := by
  unfold sX4_strikeOnce sX4_strikeOnce_b0
  refine loopC (fun f y (t : MM) => sX4_strikeOnce_b9 121 l (F : Int) (cap : Int) f (10 - l) y t) (cap + 1) (fun k t => 1 ≤ k ∧ F34 N t ∧ ∀ x, 1 ≤ x → x ≤ cap → t 123 x = (if x < k then (10 - l) * p.1 x else p.1 x) ∧ t 124 x = (if x < k then (10 - l) * p.2 x + l * p.1 x else p.2 x) + (if x + F < k then l * p.2 (x + F) else 0)) (fun o => ∃ N', o = some N' ∧ F34 N N' ∧ RwA cap N' (blT l F p)) ?_ ?_ FU 1 N (by omega) ⟨by omega, F34_r N, fun x h1 h2 => ?_⟩ (by unfold FU; omega)
  · intro f t ⟨_, h1, h2⟩
    show ∃ N', sX4_strikeOnce_b9 121 l (F : Int) (cap : Int) (f + 1) (10 - l) ((cap + 1 : Nat) : Int) t = some N' ∧ _
    rw [sX4_strikeOnce_b9, wI_of (x := (cap : Int)) (by omega) (by omega), wI_of (x := ((cap + 1 : Nat) : Int)) (by omega) (by omega), if_pos (by omega)]
    refine ⟨t, rfl, h1, fun x hx1 hx2 => ?_⟩
    have q := h2 x hx1 hx2
    rw [if_pos (by omega), if_pos (by omega)] at q
    refine ⟨q.1, ?_⟩
    rw [q.2]
    show _ = (10 - l) * p.2 x + l * p.1 x + l * p.2 (x + F)
    by_cases e : x + F < cap + 1
    · rw [if_pos e]
    · rw [if_neg e, ht.2 (x + F) (by omega), Int.mul_zero]
  · intro f k t hk ⟨hk1, h1, h2⟩
    right
    have qk := h2 k hk1 (by omega)
    rw [if_neg (by omega), if_neg (by omega), if_neg (by omega), Int.add_zero] at qk
    have z : 0 ≤ (k : Int) ∧ (k : Int) < 137 := ⟨by omega, by omega⟩
    obtain ⟨U, eU⟩ : ∃ U, U = mU (mU t 124 k (p.2 k * (10 - l) + p.1 k * l)) 123 k (p.1 k * (10 - l)) := ⟨_, rfl⟩
    have fU : F34 N U := by rw [eU]; exact F34_u (F34_u h1 (Or.inr rfl)) (Or.inl rfl)
    have u3 : ∀ x, U 123 x = if x = k then p.1 k * (10 - l) else t 123 x := fun x => by
      rw [eU]
      by_cases e : x = k
      · subst e; rw [mU_eq, if_pos rfl]
      · rw [mU_ne _ _ (by omega), mU_row _ _ (by omega), if_neg e]
    have u4 : ∀ x, U 124 x = if x = k then p.2 k * (10 - l) + p.1 k * l else t 124 x := fun x => by
      rw [eU, mU_row _ _ (by omega)]
      by_cases e : x = k
      · subst e; rw [mU_eq, if_pos rfl]
      · rw [mU_ne _ _ (by omega), if_neg e]
    have head : sX4_strikeOnce_b9 121 l (F : Int) (cap : Int) (f + 1) (10 - l) (k : Int) t = if (k : Int) ≤ (F : Int) then sX4_strikeOnce_b9 121 l (F : Int) (cap : Int) f (10 - l) ((k : Int) + 1) U else sX4_strikeOnce_b9 121 l (F : Int) (cap : Int) f (10 - l) ((k : Int) + 1) (mU U 124 (k - F) (U 124 (k - F) + p.2 k * l)) := by
      rw [sX4_strikeOnce_b9, wI_of (x := (cap : Int)) (by omega) (by omega), wI_of (x := (k : Int)) (by omega) (by omega), if_neg (show ¬ (cap : Int) < (k : Int) by omega)]
      simp only [if_pos z]
      rw [ob_s, ob_s, g121_1, g121_2, tN, qk.1, qk.2, wI_of (x := (10 : Int) - l) (by omega) (by omega), wI_of (x := l) (by omega) (by omega), mU_row t _ (show (123 : Nat) ≠ 124 by omega), qk.1, ← eU]
      unfold sX4_strikeOnce_b84
      rw [ob_s, wI_of (x := (F : Int)) (by omega) (by omega)]
      by_cases e : (k : Int) ≤ (F : Int)
      · rw [if_pos e, if_pos e]
      · rw [if_neg e, if_neg e, wI_of (x := (k : Int) - (F : Int)) (by omega) (by omega), if_pos (show 0 ≤ (k : Int) - (F : Int) ∧ (k : Int) - (F : Int) < 137 by omega), if_pos (show 0 ≤ (k : Int) - (F : Int) ∧ (k : Int) - (F : Int) < 137 by omega), ob_s, ob_s, show ((k : Int) - (F : Int)).toNat = k - F by omega]
    show ∃ s' : MM, sX4_strikeOnce_b9 121 l (F : Int) (cap : Int) (f + 1) (10 - l) (k : Int) t = sX4_strikeOnce_b9 121 l (F : Int) (cap : Int) f (10 - l) ((k : Int) + 1) s' ∧ _
    rw [head]
    have c3 : ∀ x, 1 ≤ x → x ≤ cap → U 123 x = (if x < k + 1 then (10 - l) * p.1 x else p.1 x) := fun x x1 x2 => by
      rw [u3]
      by_cases e : x = k
      · subst e; rw [if_pos rfl, if_pos (by omega), Int.mul_comm]
      · rw [if_neg e, (h2 x x1 x2).1]
        by_cases e2 : x < k
        · rw [if_pos e2, if_pos (by omega)]
        · rw [if_neg e2, if_neg (by omega)]
    have c4 : ∀ x, 1 ≤ x → x ≤ cap → U 124 x = (if x < k + 1 then (10 - l) * p.2 x + l * p.1 x else p.2 x) + (if x + F < k then l * p.2 (x + F) else 0) := fun x x1 x2 => by
      rw [u4]
      by_cases e : x = k
      · subst e; rw [if_pos rfl, if_pos (by omega), if_neg (by omega), Int.mul_comm (p.2 x), Int.mul_comm (p.1 x)]; omega
      · rw [if_neg e, (h2 x x1 x2).2]
        by_cases e2 : x < k
        · rw [if_pos e2, if_pos (show x < k + 1 by omega)]
        · rw [if_neg e2, if_neg (show ¬ x < k + 1 by omega)]
    by_cases e : (k : Int) ≤ (F : Int)
    · rw [if_pos e]
      refine ⟨U, rfl, by omega, fU, fun x x1 x2 => ⟨c3 x x1 x2, ?_⟩⟩
      rw [c4 x x1 x2, if_neg (show ¬ x + F < k by omega), if_neg (show ¬ x + F < k + 1 by omega)]
    · rw [if_neg e]
      refine ⟨_, rfl, by omega, F34_u fU (Or.inr rfl), fun x x1 x2 => ⟨by rw [mU_row _ _ (by omega)]; exact c3 x x1 x2, ?_⟩⟩
      by_cases e2 : x = k - F
      · subst e2
        rw [mU_eq, c4 (k - F) x1 x2, if_neg (show ¬ k - F + F < k by omega), if_pos (show k - F + F < k + 1 by omega), show k - F + F = k by omega, Int.mul_comm (p.2 k)]
        omega
      · rw [mU_ne _ _ (by omega), c4 x x1 x2]
        by_cases e3 : x + F < k
        · rw [if_pos e3, if_pos (show x + F < k + 1 by omega)]
        · rw [if_neg e3, if_neg (show ¬ x + F < k + 1 by omega)]
  · rw [if_neg (by omega), if_neg (by omega), if_neg (by omega), Int.add_zero]
    exact hp x h1 h2
/-- the operator of one child -/
def opP (P : Nat → Int) (b c : Nat) : WF → WF := tcF (decide (P (28 + 13 * c) < P 3)) (P (30 + 13 * c)) (P (29 + 13 * c)).toNat b
theorem allA {M0 N : MM} {p : Nat} {P : Nat → Int} (hc : PC M0 p P) (hv : PV P) (hg : PG p) (hp : p < 66) {n b : Nat} (hT : TPP P n b) (hr : F34 M0 N) {cap : Nat} (hcap : cap ≤ 136) {g : WF} (hrw : RwA cap N (fun _ => 0, g)) (ht : Top cap g) {c : Nat} (hcn : c < n) : ∃ N', sX4_strikeAll 121 p (c : Int) (cap : Int) N = some N' ∧ F34 M0 N' ∧ RwA cap N' (fun _ => 0, opP P b c g) := by
  obtain ⟨t1, t2, t3, t4, t5, t6, t7, t8, t9⟩ := hT
  have hv1 := hv.1
  have hF := t8 c hcn
  have hl := t9 c hcn
  have hch := hv.2.2.2.2.2.1 c (by omega)
  have cc := hc.2.2.2.2.1 c (by omega)
  obtain ⟨F, hFF⟩ := Int.eq_ofNat_of_zero_le (show 0 ≤ P (29 + 13 * c) by omega)
  have z8 : 0 ≤ (c : Int) ∧ (c : Int) < 8 := ⟨by omega, by omega⟩
  unfold sX4_strikeAll sX4_strikeAll_b0
  rw [wI_of (x := (c : Int)) (by omega) (by omega), if_pos z8, hg.2.2.1, tN, hr (p + 3) (by omega) (by omega), cc.1, hr p (by omega) (by omega), hc.1.2.2.2.1, wI_of (x := P (28 + 13 * c)) (by omega) (by omega), wI_of (x := P 3) (by omega) (by omega)]
  -- the blows and the coming together
  have blows : ∀ T : MM, F34 M0 T → RwA cap T (inF (decide (P (28 + 13 * c) < P 3)) g) → ∃ N', sX4_strikeAll_b50 121 p (c : Int) (cap : Int) T = some N' ∧ F34 M0 N' ∧ RwA cap N' (fun _ => 0, opP P b c g) := by
    intro T hT1 hT2
    unfold sX4_strikeAll_b50
    have it := in_t' (decide (P (28 + 13 * c) < P 3)) ht
    have tops : ∀ k, Top cap (itT (P (30 + 13 * c)) F k (inF (decide (P (28 + 13 * c) < P 3)) g)).1 ∧ Top cap (itT (P (30 + 13 * c)) F k (inF (decide (P (28 + 13 * c) < P 3)) g)).2 := by
      intro k
      induction k with
      | zero => exact it
      | succ k ih => exact bl_t ih
    refine loopC (fun f y (t : MM) => sX4_strikeAll_b53 121 p (c : Int) (cap : Int) f y t) b (fun k t => F34 M0 t ∧ RwA cap t (itT (P (30 + 13 * c)) F k (inF (decide (P (28 + 13 * c) < P 3)) g))) (fun o => ∃ N', o = some N' ∧ F34 M0 N' ∧ RwA cap N' (fun _ => 0, opP P b c g)) ?_ ?_ FU 0 T (by omega) ⟨hT1, hT2⟩ (by unfold FU; omega)
    · intro f t ⟨h1, h2⟩
      show ∃ N', sX4_strikeAll_b53 121 p (c : Int) (cap : Int) (f + 1) (b : Int) t = some N' ∧ _
      rw [sX4_strikeAll_b53, h1 p (by omega) (by omega), hc.1.2.2.1, t2, if_pos (Int.le_refl _)]
      refine loopC (fun f y (t : MM) => sX4_strikeAll_b88 121 p (c : Int) (cap : Int) f y t) (cap + 1) (fun k s => 1 ≤ k ∧ F34 M0 s ∧ ∀ x, 1 ≤ x → x ≤ cap → s 123 x = (if x < k then 0 else t 123 x) ∧ s 124 x = (if x < k then t 123 x + t 124 x else t 124 x)) (fun o => ∃ N', o = some N' ∧ F34 M0 N' ∧ RwA cap N' (fun _ => 0, opP P b c g)) ?_ ?_ FU 1 t (by omega) ⟨by omega, h1, fun x x1 x2 => by rw [if_neg (by omega), if_neg (by omega)]; exact ⟨rfl, rfl⟩⟩ (by unfold FU; omega)
      · intro f s ⟨_, s1, s2⟩
        show ∃ N', sX4_strikeAll_b88 121 p (c : Int) (cap : Int) (f + 1) ((cap + 1 : Nat) : Int) s = some N' ∧ _
        rw [sX4_strikeAll_b88, wI_of (x := (cap : Int)) (by omega) (by omega), wI_of (x := ((cap + 1 : Nat) : Int)) (by omega) (by omega), if_pos (by omega)]
        refine ⟨s, rfl, s1, fun x x1 x2 => ?_⟩
        have q := s2 x x1 x2
        rw [if_pos (by omega), if_pos (by omega), (h2 x x1 x2).1, (h2 x x1 x2).2] at q
        refine ⟨q.1, ?_⟩
        rw [q.2]
        show _ = opP P b c g x
        unfold opP tcF
        rw [hFF, tN]
      · intro f k s hk ⟨hk1, s1, s2⟩
        right
        have z : 0 ≤ (k : Int) ∧ (k : Int) < 137 := ⟨by omega, by omega⟩
        have qk := s2 k hk1 (by omega)
        rw [if_neg (by omega), if_neg (by omega)] at qk
        refine ⟨mU (mU s 124 k (t 124 k + t 123 k)) 123 k 0, ?_, by omega, F34_u (F34_u s1 (Or.inr rfl)) (Or.inl rfl), fun x x1 x2 => ?_⟩
        · show sX4_strikeAll_b88 121 p (c : Int) (cap : Int) (f + 1) (k : Int) s = _
          rw [sX4_strikeAll_b88, wI_of (x := (cap : Int)) (by omega) (by omega), wI_of (x := (k : Int)) (by omega) (by omega), if_neg (show ¬ (cap : Int) < (k : Int) by omega)]
          simp only [if_pos z]
          rw [ob_s, ob_s, ob_s, g121_1, g121_2, tN, qk.1, qk.2]
        · by_cases e : x = k
          · subst e
            rw [mU_eq, mU_row _ _ (show (124 : Nat) ≠ 123 by omega), mU_eq, if_pos (by omega), if_pos (by omega)]
            exact ⟨rfl, by omega⟩
          · rw [mU_ne _ _ (show (123 : Nat) ≠ 123 ∨ x ≠ k by omega), mU_row _ _ (show (123 : Nat) ≠ 124 by omega), mU_row _ _ (show (124 : Nat) ≠ 123 by omega), mU_ne _ _ (show (124 : Nat) ≠ 124 ∨ x ≠ k by omega), (s2 x x1 x2).1, (s2 x x1 x2).2]
            by_cases e2 : x < k
            · rw [if_pos e2, if_pos e2, if_pos (by omega), if_pos (by omega)]; exact ⟨rfl, rfl⟩
            · rw [if_neg e2, if_neg e2, if_neg (by omega), if_neg (by omega)]; exact ⟨rfl, rfl⟩
    · intro f k t hk ⟨h1, h2⟩
      right
      obtain ⟨N', e1, e2, e3⟩ := onceA (l := P (30 + 13 * c)) (F := F) hcap ⟨by omega, by omega⟩ hl h2 (tops k)
      refine ⟨N', ?_, F34_t h1 e2, e3⟩
      show sX4_strikeAll_b53 121 p (c : Int) (cap : Int) (f + 1) (k : Int) t = _
      rw [sX4_strikeAll_b53, h1 p (by omega) (by omega), hc.1.2.2.1, t2, wI_of (x := (b : Int)) (by omega) (by omega), wI_of (x := (k : Int)) (by omega) (by omega), if_neg (show ¬ (b : Int) ≤ (k : Int) by omega), wI_of (x := (c : Int)) (by omega) (by omega), if_pos z8, if_pos z8, hg.2.2.2.2.1, hg.2.2.2.1, tN, h1 (p + 5) (by omega) (by omega), h1 (p + 4) (by omega) (by omega), cc.2.1, cc.2.2.1, hFF, e1, ob_s, ob_s]
  by_cases dr : P (28 + 13 * c) < P 3
  · rw [if_pos dr]
    refine blows N hr ?_
    rw [decide_eq_true dr]
    exact hrw
  · rw [if_neg dr]
    refine loopC (fun f y (t : MM) => sX4_strikeAll_b16 121 p (c : Int) (cap : Int) f y t) (cap + 1) (fun k s => 1 ≤ k ∧ F34 M0 s ∧ ∀ x, 1 ≤ x → x ≤ cap → s 123 x = (if x < k then g x else 0) ∧ s 124 x = (if x < k then 0 else g x)) (fun o => ∃ N', o = some N' ∧ F34 M0 N' ∧ RwA cap N' (fun _ => 0, opP P b c g)) ?_ ?_ FU 1 N (by omega) ⟨by omega, hr, fun x x1 x2 => by rw [if_neg (by omega), if_neg (by omega)]; exact hrw x x1 x2⟩ (by unfold FU; omega)
    · intro f s ⟨_, s1, s2⟩
      show ∃ N', sX4_strikeAll_b16 121 p (c : Int) (cap : Int) (f + 1) ((cap + 1 : Nat) : Int) s = some N' ∧ _
      rw [sX4_strikeAll_b16, wI_of (x := (cap : Int)) (by omega) (by omega), wI_of (x := ((cap + 1 : Nat) : Int)) (by omega) (by omega), if_pos (by omega)]
      refine blows s s1 ?_
      rw [decide_eq_false dr]
      intro x x1 x2
      have q := s2 x x1 x2
      rw [if_pos (by omega), if_pos (by omega)] at q
      exact q
    · intro f k s hk ⟨hk1, s1, s2⟩
      right
      have z : 0 ≤ (k : Int) ∧ (k : Int) < 137 := ⟨by omega, by omega⟩
      have qk := s2 k hk1 (by omega)
      rw [if_neg (by omega), if_neg (by omega)] at qk
      refine ⟨mU (mU s 123 k (g k)) 124 k 0, ?_, by omega, F34_u (F34_u s1 (Or.inl rfl)) (Or.inr rfl), fun x x1 x2 => ?_⟩
      · show sX4_strikeAll_b16 121 p (c : Int) (cap : Int) (f + 1) (k : Int) s = _
        rw [sX4_strikeAll_b16, wI_of (x := (cap : Int)) (by omega) (by omega), wI_of (x := (k : Int)) (by omega) (by omega), if_neg (show ¬ (cap : Int) < (k : Int) by omega)]
        simp only [if_pos z]
        rw [ob_s, ob_s, ob_s, g121_1, g121_2, tN, qk.2]
      · by_cases e : x = k
        · subst e
          rw [mU_eq, mU_row _ _ (show (123 : Nat) ≠ 124 by omega), mU_eq, if_pos (by omega), if_pos (by omega)]
          exact ⟨rfl, rfl⟩
        · rw [mU_ne _ _ (show (124 : Nat) ≠ 124 ∨ x ≠ k by omega), mU_row _ _ (show (124 : Nat) ≠ 123 by omega), mU_row _ _ (show (123 : Nat) ≠ 124 by omega), mU_ne _ _ (show (123 : Nat) ≠ 123 ∨ x ≠ k by omega), (s2 x x1 x2).1, (s2 x x1 x2).2]
          by_cases e2 : x < k
          · rw [if_pos e2, if_pos e2, if_pos (by omega), if_pos (by omega)]; exact ⟨rfl, rfl⟩
          · rw [if_neg e2, if_neg e2, if_neg (by omega), if_neg (by omega)]; exact ⟨rfl, rfl⟩
