/-- the reference: all the chances of one order -/
def pfS (o : Nat → Nat) : Nat → Nat → Bool
  | 0, _ => false
  | i + 1, c => pfS o i c || decide (c = o i)
theorem pf_e (o : Nat → Nat) (i c : Nat) : pfS o i c = true ↔ ∃ j, j < i ∧ c = o j := by
  induction i with
  | zero => exact ⟨fun h => absurd h (by show ¬ false = true; decide), fun ⟨j, hj, _⟩ => by omega⟩
  | succ i ih =>
    show (pfS o i c || decide (c = o i)) = true ↔ _
    rw [Bool.or_eq_true, ih, decide_eq_true_iff]
    constructor
    · rintro (⟨j, hj, e⟩ | e)
      · exact ⟨j, by omega, e⟩
      · exact ⟨i, by omega, e⟩
    · rintro ⟨j, hj, e⟩
      by_cases q : j = i
      · subst q; exact Or.inr e
      · exact Or.inl ⟨j, by omega, e⟩
def ORD (o : Nat → Nat) (n : Nat) : Prop := (∀ i, i < n → o i < n) ∧ ∀ i j, i < n → j < n → o i = o j → i = j
theorem opP_c (P : Nat → Int) (b c d : Nat) (g : WF) : opP P b c (opP P b d g) = opP P b d (opP P b c g) := tc_c (CL_t _ _ _ _) _ _ _ _ _
theorem pf_s {P : Nat → Int} {b n : Nat} {o : Nat → Nat} (ho : ORD o n) {i : Nat} (hi : i < n) (g : WF) : stF (opP P b) (pfS o (i + 1)) n g = opP P b (o i) (stF (opP P b) (pfS o i) n g) := by
  refine stF_a (opP_c P b) n (ho.1 i hi) ?_ ?_ (fun c _ hc => ?_) g
  · cases h : pfS o i (o i)
    · rfl
    · obtain ⟨j, hj, e⟩ := (pf_e o i (o i)).1 h
      exact absurd (ho.2 i j hi (by omega) e) (by omega)
  · exact (pf_e o (i + 1) (o i)).2 ⟨i, by omega, rfl⟩
  · show (pfS o i c || decide (c = o i)) = pfS o i c
    rw [decide_eq_false hc, Bool.or_false]
def wW (P : Nat → Int) (b n B : Nat) (o : Nat → Nat) (i : Nat) : Int := wtF B (stF (opP P b) (pfS o i) n (dlF B))
def chW (P : Nat → Int) (b n B : Nat) (o : Nat → Nat) : Nat → Nat → Int
  | 0, _ => 0
  | i + 1, c => chW P b n B o i c * 10 ^ b + if c = o i then 10 ^ b * wW P b n B o i - wW P b n B o (i + 1) else 0
def FQ (N N' : MM) : Prop := (∀ a, a ≠ 359 → a ≠ 379 → a ≠ 380 → a ≠ 381 → N' a = N a) ∧ ∀ j, j < 53 ∨ 56 < j → N' 359 j = N 359 j
theorem FQ_r (N : MM) : FQ N N := ⟨fun _ _ _ _ _ => rfl, fun _ _ => rfl⟩
theorem FQ_t {N N' N'' : MM} (h : FQ N N') (h' : FQ N' N'') : FQ N N'' := ⟨fun a w x y z => (h'.1 a w x y z).trans (h.1 a w x y z), fun j hj => (h'.2 j hj).trans (h.2 j hj)⟩
theorem FQ_u {N N' : MM} {r k : Nat} {x : Int} (h : FQ N N') (hb : r = 379 ∨ r = 380 ∨ r = 381 ∨ (r = 359 ∧ 53 ≤ k ∧ k ≤ 56)) : FQ N (mU N' r k x) := ⟨fun a w p q s => by rw [mU_row _ _ (show a ≠ r by omega)]; exact h.1 a w p q s, fun j hj => by rw [mU_ne _ _ (by omega)]; exact h.2 j hj⟩
theorem FQ_90 {N N' : MM} (h : F90 N N') : FQ N N' := ⟨fun a _ x y _ => h a x y, fun j _ => by rw [h 359 (by omega) (by omega)]⟩
theorem FQ_HD {N N' : MM} {k : Nat} (h : FQ N N') (hd : HD N k) : HD N' k := HD_c hd (h.1 365 (by omega) (by omega) (by omega) (by omega)) (fun j _ _ => h.2 j (by omega))
theorem FQ_p {N N' : MM} (h : FQ N N') (k : Nat) : pP N' k = pP N k := pP_c (h.1 365 (by omega) (by omega) (by omega) (by omega)) k
theorem FQ_FR {N N' : MM} (h : FQ N N') : FR N N' := fun a ha hb => h.1 a ha (by omega) (by omega) (by omega)
theorem turB {N : MM} {B : Nat} (hB : 1 ≤ B ∧ B ≤ 270) {q : WF × WF} (hq : RwB B N q) : ∃ N', sX12_turnTo 359 (B : Int) N = some N' ∧ (∀ a, a ≠ 379 → N' a = N a) ∧ RwB B N' (fun x => q.1 x + q.2 x, fun _ => 0) := by
  unfold sX12_turnTo sX12_turnTo_b0
  refine loopC (fun f y (t : MM) => sX12_turnTo_b2 359 (B : Int) f y t) (B + 1) (fun k t => (∀ a, a ≠ 379 → t a = N a) ∧ ∀ x, x ≤ B → t 379 x = (if x < k then N 379 x + N 379 (271 + x) else N 379 x) ∧ t 379 (271 + x) = (if x < k then 0 else N 379 (271 + x))) (fun o => ∃ N', o = some N' ∧ (∀ a, a ≠ 379 → N' a = N a) ∧ RwB B N' (fun x => q.1 x + q.2 x, fun _ => 0)) ?_ ?_ FU 0 N (by omega) ⟨fun _ _ => rfl, fun x _ => by rw [if_neg (by omega), if_neg (by omega)]; exact ⟨rfl, rfl⟩⟩ (by unfold FU; omega)
  · intro f t ⟨s1, s2⟩
    show ∃ N', sX12_turnTo_b2 359 (B : Int) (f + 1) ((B + 1 : Nat) : Int) t = some N' ∧ _
    rw [sX12_turnTo_b2, wI_of (x := (B : Int)) (by omega) (by omega), wI_of (x := ((B + 1 : Nat) : Int)) (by omega) (by omega), if_pos (by omega)]
    refine ⟨t, rfl, s1, fun x x1 x2 => ?_⟩
    have a := s2 x x2
    rw [if_pos (by omega), if_pos (by omega), (hq x x1 x2).1, (hq x x1 x2).2] at a
    exact a
  · intro f k t hk ⟨s1, s2⟩
    right
    have z0 : 0 ≤ (k : Int) ∧ (k : Int) < 542 := ⟨by omega, by omega⟩
    have z1 : 0 ≤ 271 + (k : Int) ∧ 271 + (k : Int) < 542 := ⟨by omega, by omega⟩
    have qk := s2 k (by omega)
    rw [if_neg (by omega), if_neg (by omega)] at qk
    refine ⟨mU (mU t 379 k (N 379 k + N 379 (271 + k))) 379 (271 + k) 0, ?_, fun a ha => by rw [mU_row _ _ ha, mU_row _ _ ha]; exact s1 a ha, fun x hx => ?_⟩
    · show sX12_turnTo_b2 359 (B : Int) (f + 1) (k : Int) t = _
      rw [sX12_turnTo_b2, wI_of (x := (B : Int)) (by omega) (by omega), wI_of (x := (k : Int)) (by omega) (by omega), if_neg (show ¬ (B : Int) < (k : Int) by omega), wI_of (x := 271 + (k : Int)) (by omega) (by omega), if_pos z0, if_pos z1, if_pos z0, ob_s, if_pos z1, ob_s, ob_s, g359_49, tN, show (271 + (k : Int)).toNat = 271 + k by omega, qk.1, qk.2]
    · by_cases e : x = k
      · subst e
        rw [mU_ne _ _ (show (379 : Nat) ≠ 379 ∨ x ≠ 271 + x by omega), mU_eq, mU_eq, if_pos (by omega), if_pos (by omega)]
        exact ⟨rfl, rfl⟩
      · rw [mU_ne _ _ (show (379 : Nat) ≠ 379 ∨ x ≠ 271 + k by omega), mU_ne _ _ (show (379 : Nat) ≠ 379 ∨ x ≠ k by omega), mU_ne _ _ (show (379 : Nat) ≠ 379 ∨ 271 + x ≠ 271 + k by omega), mU_ne _ _ (show (379 : Nat) ≠ 379 ∨ 271 + x ≠ k by omega), (s2 x hx).1, (s2 x hx).2]
        by_cases e2 : x < k
        · rw [if_pos e2, if_pos e2, if_pos (by omega), if_pos (by omega)]; exact ⟨rfl, rfl⟩
        · rw [if_neg e2, if_neg e2, if_neg (by omega), if_neg (by omega)]; exact ⟨rfl, rfl⟩
theorem staB {N : MM} {B : Nat} (hB : 1 ≤ B ∧ B ≤ 270) {q : WF × WF} (hq : RwB B N q) : sX12_standing 359 (B : Int) N = some (wtF B (fun x => q.1 x + q.2 x)) := by
  unfold sX12_standing sX12_standing_b0
  refine loopC (fun f y (s : Int) => sX12_standing_b5 359 (B : Int) N f s y) (B + 1) (fun k s => 1 ≤ k ∧ s = sm (fun x => q.1 (x + 1) + q.2 (x + 1)) (k - 1)) (fun o => o = some (wtF B (fun x => q.1 x + q.2 x))) ?_ ?_ FU 1 0 (by omega) ⟨by omega, by rw [show 1 - 1 = 0 from rfl, sm_0]⟩ (by unfold FU; omega)
  · intro f s ⟨_, hs⟩
    show sX12_standing_b5 359 (B : Int) N (f + 1) s ((B + 1 : Nat) : Int) = _
    rw [sX12_standing_b5, wI_of (x := (B : Int)) (by omega) (by omega), wI_of (x := ((B + 1 : Nat) : Int)) (by omega) (by omega), if_pos (by omega), hs]
    rfl
  · intro f k s hk ⟨hk1, hs⟩
    right
    refine ⟨s + (q.1 k + q.2 k), ?_, by omega, ?_⟩
    · show sX12_standing_b5 359 (B : Int) N (f + 1) s (k : Int) = _
      rw [sX12_standing_b5, wI_of (x := (B : Int)) (by omega) (by omega), wI_of (x := (k : Int)) (by omega) (by omega), if_neg (show ¬ (B : Int) < (k : Int) by omega), wI_of (x := 271 + (k : Int)) (by omega) (by omega), if_pos ⟨by omega, by omega⟩, if_pos ⟨by omega, by omega⟩, ob_s, ob_s, g359_49, tN, show (271 + (k : Int)).toNat = 271 + k by omega, (hq k hk1 (by omega)).1, (hq k hk1 (by omega)).2]
    · rw [hs]
      obtain ⟨j, rfl⟩ : ∃ j, k = j + 1 := ⟨k - 1, by omega⟩
      rw [show j + 1 + 1 - 1 = j + 1 by omega, show j + 1 - 1 = j by omega, sm_s]
theorem wt_x {B : Nat} {g h : WF} (e : ∀ x, 1 ≤ x → x ≤ B → g x = h x) : wtF B g = wtF B h := sm_ext (fun k hk => e (k + 1) (by omega) (by omega))
theorem swp_w (dr : Bool) (p : WF × WF) : (fun x => (swp dr p).1 x + (swp dr p).2 x) = fun x => p.1 x + p.2 x := by
  cases dr
  · rfl
  · funext x; show p.2 x + p.1 x = p.1 x + p.2 x; omega
theorem swp_i (dr : Bool) (g : WF) : swp dr (inF dr g) = (g, fun _ => 0) := by cases dr <;> rfl
