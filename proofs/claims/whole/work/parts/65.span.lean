/-- two plays of one book, with bellies of B and of v -/
def Sim (B v : Int) (a c : PS) : Prop := a.1 = c.1 ∧ a.1 4 = -1 ∧ (∀ p, p ≠ 0 → a.2.1 p = c.2.1 p) ∧ a.2.1 0 = B - a.1 12 ∧ c.2.1 0 = v - a.1 12 ∧ a.1 12 < B ∧ a.1 12 < v
theorem la_x {P f L L' : Nat → Int} (w h : Int) (hl : ∀ p, (0 < L p) = (0 < L' p)) : laP P f L w h = laP P f L' w h := by
  have e : ∀ off n, suN P f L w h off n = suN P f L' w h off n := fun off n => fo_ext (fun k _ b => by
    show (if b = -1 ∧ 0 < L k ∧ ofP P f L w h k = off then (k : Int) else b) = (if b = -1 ∧ 0 < L' k ∧ ofP P f L w h k = off then (k : Int) else b)
    simp only [hl k]) _
  unfold laP
  rw [e, e]
theorem deb_x {P : Nat → Int} {a c : PS} {k x : Int} (h : a.1 = c.1) : dePb P a k x = dePb P c k x := by unfold dePb; rw [h]
theorem sim_s {P : Nat → Int} (hv : PV P) {K : Nat} {B v : Int} {a c : PS} (hs : SV P K a) (h : Sim B v a c) {k x : Int} (hk : 0 ≤ k ∧ k ≤ 5) (hd : dePb P a k x) (y : Int) : (deP P a k x y).1 7 = (deP P c k x y).1 7 ∧ (deP P a k x y).1 8 = (deP P c k x y).1 8 ∧ (deP P a k x y).1 12 = (deP P c k x y).1 12 ∧ a.1 12 ≤ (deP P a k x y).1 12 ∧ ((deP P a k x y).1 4 = -1 ↔ (deP P a k x y).1 12 < B) ∧ ((deP P c k x y).1 4 = -1 ↔ (deP P a k x y).1 12 < v) ∧ (¬ (deP P a k x y).1 4 = -1 → (deP P a k x y).1 13 = (deP P a k x y).1 12 - a.1 12) ∧ ((deP P a k x y).1 12 < B → (deP P a k x y).1 12 < v → Sim B v (deP P a k x y) (deP P c k x y)) := by
  obtain ⟨f, L, D⟩ := a
  obtain ⟨f', L', D'⟩ := c
  obtain ⟨h1, h2, h3, h4, h5, h6, h7⟩ := h
  dsimp only at h1
  subst h1
  dsimp only at *
  have same : ∀ g : Nat → Int, g 12 = f 12 → g 4 = f 4 → Sim B v (g, L, D) (g, L', D') := fun g g1 g2 => by
    refine ⟨rfl, ?_, h3, ?_, ?_, ?_, ?_⟩ <;> dsimp only <;> omega
  have done : ∀ g : Nat → Int, g 12 = f 12 → g 4 = f 4 → g 7 = g 7 ∧ g 8 = g 8 ∧ g 12 = g 12 ∧ f 12 ≤ g 12 ∧ (g 4 = -1 ↔ g 12 < B) ∧ (g 4 = -1 ↔ g 12 < v) ∧ (¬ g 4 = -1 → g 13 = g 12 - f 12) ∧ (g 12 < B → g 12 < v → Sim B v (g, L, D) (g, L', D')) := fun g g1 g2 => by
    refine ⟨rfl, rfl, rfl, by omega, by omega, by omega, fun q => by omega, fun _ _ => same g g1 g2⟩
  have k6 : k = 0 ∨ k = 1 ∨ k = 2 ∨ k = 3 ∨ k = 4 ∨ k = 5 := by omega
  rcases k6 with rfl | rfl | rfl | rfl | rfl | rfl
  · exact done (uF (uF (uF (uF f 0 x) 1 0) 2 (-1)) 6 (oI (f 6) (1 * 2 ^ x.toNat))) rfl rfl
  · exact done (uF f 2 x) rfl rfl
  · have e1 : deP P (f, L, D) 2 x y = stQ P (f, L, D) (laP P f L x y) := rfl
    have e2 : deP P (f, L', D') 2 x y = stQ P (f, L', D') (laP P f L' x y) := rfl
    have hl : ∀ p, (0 < L p) = (0 < L' p) := fun p => by
      by_cases e : p = 0
      · subst e; rw [h4, h5]; apply propext; omega
      · rw [h3 p e]
    rw [e1, e2, ← la_x x y hl]
    have li := la_i P f L x y
    generalize laP P f L x y = la at *
    obtain ⟨l, pt⟩ := la
    have hwho : f 0 ≠ -1 := hd.2.2.1
    have hs0 := hs.1
    have hv1 := hv.1
    dsimp only at *
    obtain ⟨w, hw⟩ := Int.eq_ofNat_of_zero_le (show 0 ≤ f 0 by omega)
    have hch := hv.2.2.2.2.2.1 w (by omega)
    have hF : 0 ≤ foP P f l := by
      unfold foP
      rw [hw, tN]
      split <;> omega
    unfold stQ
    dsimp only
    by_cases q : pt = -1
    · rw [if_pos q, if_pos q]
      exact done (uF (uF (uF f 7 0) 8 (-1)) 1 (f 1 + 1)) rfl rfl
    · rw [if_neg q, if_neg q]
      by_cases q0 : pt = 0
      · subst q0
        have z : (0 : Int).toNat = 0 := rfl
        simp only [z, if_pos, true_and]
        generalize foP P f l = F at *
        by_cases b1 : L 0 ≤ F
        · by_cases b2 : L' 0 ≤ F
          · rw [if_pos b1, if_pos b2]
            refine ⟨rfl, rfl, rfl, ?_, ?_, ?_, ?_, ?_⟩
            · show f 12 ≤ f 12 + F; omega
            · show (f 0 = -1 ↔ f 12 + F < B); omega
            · show (f 0 = -1 ↔ f 12 + F < v); omega
            · intro _; show F = f 12 + F - f 12; omega
            · intro q1 _; exfalso; have : f 12 + F < B := q1; omega
          · rw [if_pos b1, if_neg b2]
            refine ⟨rfl, rfl, rfl, ?_, ?_, ?_, ?_, ?_⟩
            · show f 12 ≤ f 12 + F; omega
            · show (f 0 = -1 ↔ f 12 + F < B); omega
            · show (f 4 = -1 ↔ f 12 + F < v); omega
            · intro _; show F = f 12 + F - f 12; omega
            · intro q1 _; exfalso; have : f 12 + F < B := q1; omega
        · by_cases b2 : L' 0 ≤ F
          · rw [if_neg b1, if_pos b2]
            refine ⟨rfl, rfl, rfl, ?_, ?_, ?_, ?_, ?_⟩
            · show f 12 ≤ f 12 + F; omega
            · show (f 4 = -1 ↔ f 12 + F < B); omega
            · show (f 0 = -1 ↔ f 12 + F < v); omega
            · intro _; show F = f 12 + F - f 12; omega
            · intro _ q1; exfalso; have : f 12 + F < v := q1; omega
          · rw [if_neg b1, if_neg b2]
            refine ⟨rfl, rfl, rfl, ?_, ?_, ?_, ?_, ?_⟩
            · show f 12 ≤ f 12 + F; omega
            · show (f 4 = -1 ↔ f 12 + F < B); omega
            · show (f 4 = -1 ↔ f 12 + F < v); omega
            · intro _; show F = f 12 + F - f 12; omega
            · intro q1 q2
              refine ⟨rfl, h2, fun p hp => ?_, ?_, ?_, q1, q2⟩
              · dsimp only; rw [uF_n _ _ hp, uF_n _ _ hp]; exact h3 p hp
              · show L 0 - min (L 0) F = B - (f 12 + F); omega
              · show L' 0 - min (L' 0) F = v - (f 12 + F); omega
      · have q1 : ¬ (pt = 0 ∧ L 0 ≤ foP P f l) := fun z => q0 z.1
        have q2 : ¬ (pt = 0 ∧ L' 0 ≤ foP P f l) := fun z => q0 z.1
        rw [if_neg q0, if_neg q0, if_neg q1, if_neg q2]
        dsimp only
        have hp0 : pt.toNat ≠ 0 := by omega
        refine ⟨rfl, rfl, rfl, ?_, ?_, ?_, ?_, ?_⟩
        · show f 12 ≤ f 12; omega
        · show (f 4 = -1 ↔ f 12 < B); omega
        · show (f 4 = -1 ↔ f 12 < v); omega
        · intro q; exact absurd h2 q
        · intro _ _
          refine ⟨rfl, h2, fun p hp => ?_, ?_, ?_, h6, h7⟩
          · dsimp only
            by_cases e : p = pt.toNat
            · subst e; rw [uF_e, uF_e, h3 _ hp]
            · rw [uF_n _ _ e, uF_n _ _ e]; exact h3 p hp
          · dsimp only; rw [uF_n _ _ (Ne.symm hp0)]; exact h4
          · dsimp only; rw [uF_n _ _ (Ne.symm hp0)]; exact h5
  · exact done (uF f 3 (f 3 + x)) rfl rfl
  · exact done (uF f 3 (f 3 - x)) rfl rfl
  · exact done (uF f 5 1) rfl rfl
