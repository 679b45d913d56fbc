def uF (f : Nat → Int) (k : Nat) (v : Int) : Nat → Int := fun j => if j = k then v else f j
theorem uF_e (f : Nat → Int) (k : Nat) (v : Int) : uF f k v k = v := if_pos rfl
theorem uF_n (f : Nat → Int) {k j : Nat} (v : Int) (h : j ≠ k) : uF f k v j = f j := if_neg h
/-- a play's state: its fields, strengths left, what each child did -/
abbrev PS : Type := (Nat → Int) × (Nat → Int) × (Nat → Int)
def ofP (P : Nat → Int) (f L : Nat → Int) (w h : Int) (p : Nat) : Int := (if 0 ≤ P (18 + 2 * p) + f 3 - h then P (18 + 2 * p) + f 3 - h else -(P (18 + 2 * p) + f 3 - h)) + sX12_apart (f 2) w
def suS (P : Nat → Int) (f L : Nat → Int) (w h off : Int) (p : Nat) (b : Int) : Int := if b = -1 ∧ 0 < L p ∧ ofP P f L w h p = off then (p : Int) else b
def suN (P : Nat → Int) (f L : Nat → Int) (w h off : Int) (n : Nat) : Int := fo (suS P f L w h off) n (-1)
theorem su_i (P : Nat → Int) (f L : Nat → Int) (w h off : Int) (n : Nat) : suN P f L w h off n = -1 ∨ (0 ≤ suN P f L w h off n ∧ suN P f L w h off n < (n : Int) ∧ 0 < L (suN P f L w h off n).toNat) := by
  induction n with
  | zero => exact Or.inl rfl
  | succ n ih =>
    have e : suN P f L w h off (n + 1) = suS P f L w h off n (suN P f L w h off n) := fo_s _ _ _
    rw [e]
    generalize suN P f L w h off n = b at *
    unfold suS
    by_cases q : b = -1 ∧ 0 < L n ∧ ofP P f L w h n = off
    · rw [if_pos q]; right; exact ⟨by omega, by omega, by rw [tN]; exact q.2.1⟩
    · rw [if_neg q]
      rcases ih with h1 | ⟨h1, h2, h3⟩
      · exact Or.inl h1
      · exact Or.inr ⟨h1, by omega, h3⟩
/-- which part a blow is at, how it is (2 square, 1 grazing, 0 air) -/
def laP (P : Nat → Int) (f L : Nat → Int) (w h : Int) : Int × Int := if suN P f L w h 0 (P 0).toNat = -1 then (if suN P f L w h 1 (P 0).toNat = -1 then (0, -1) else (1, suN P f L w h 1 (P 0).toNat)) else (2, suN P f L w h 0 (P 0).toNat)
def foP (P : Nat → Int) (f : Nat → Int) (l : Int) : Int := if l = 2 then P (29 + 13 * (f 0).toNat) else P (29 + 13 * (f 0).toNat) / 2
/-- a blow -/
def stP (P : Nat → Int) (s : PS) (w h : Int) : PS := if (laP P s.1 s.2.1 w h).2 = -1 then (uF (uF (uF s.1 7 0) 8 (-1)) 1 (s.1 1 + 1), s.2.1, uF s.2.2 (4 * (s.1 0).toNat) (s.2.2 (4 * (s.1 0).toNat) + 1)) else (uF (uF (uF (uF (uF (uF s.1 7 (laP P s.1 s.2.1 w h).1) 8 (laP P s.1 s.2.1 w h).2) 1 (s.1 1 + 1)) 12 (if (laP P s.1 s.2.1 w h).2 = 0 then s.1 12 + foP P s.1 (laP P s.1 s.2.1 w h).1 else s.1 12)) 13 (if (laP P s.1 s.2.1 w h).2 = 0 then foP P s.1 (laP P s.1 s.2.1 w h).1 else s.1 13)) 4 (if (laP P s.1 s.2.1 w h).2 = 0 ∧ s.2.1 0 ≤ foP P s.1 (laP P s.1 s.2.1 w h).1 then s.1 0 else s.1 4), uF s.2.1 (laP P s.1 s.2.1 w h).2.toNat (s.2.1 (laP P s.1 s.2.1 w h).2.toNat - min (s.2.1 (laP P s.1 s.2.1 w h).2.toNat) (foP P s.1 (laP P s.1 s.2.1 w h).1)), uF (uF s.2.2 (4 * (s.1 0).toNat + (laP P s.1 s.2.1 w h).1.toNat) (s.2.2 (4 * (s.1 0).toNat + (laP P s.1 s.2.1 w h).1.toNat) + 1)) (4 * (s.1 0).toNat + 3) (s.2.2 (4 * (s.1 0).toNat + 3) + min (s.2.1 (laP P s.1 s.2.1 w h).2.toNat) (foP P s.1 (laP P s.1 s.2.1 w h).1)))
/-- a deed: whether it can be, and what then is -/
def dePb (P : Nat → Int) (s : PS) (k a : Int) : Prop := s.1 4 = -1 ∧ s.1 5 = 0 ∧ (if k = 0 then 0 ≤ a ∧ a < P 1 ∧ s.1 6 / 2 ^ a.toNat % 2 = 0 ∧ (s.1 0 = -1 ∨ P 2 ≤ s.1 1) else if k = 1 then s.1 0 ≠ -1 ∧ s.1 1 ≤ 0 else if k = 2 then s.1 0 ≠ -1 ∧ s.1 2 ≠ -1 ∧ s.1 1 < P 2 else if k = 3 then 0 ≤ s.1 3 + a ∧ s.1 3 + a ≤ 9 else if k = 4 then 0 ≤ s.1 3 - a ∧ s.1 3 - a ≤ 9 else s.1 6 = 2 ^ (P 1).toNat - 1)
def deP (P : Nat → Int) (s : PS) (k a b : Int) : PS := if k = 0 then (uF (uF (uF (uF s.1 0 a) 1 0) 2 (-1)) 6 (oI (s.1 6) (1 * 2 ^ a.toNat)), s.2) else if k = 1 then (uF s.1 2 a, s.2) else if k = 2 then stP P s a b else if k = 3 then (uF s.1 3 (s.1 3 + a), s.2) else if k = 4 then (uF s.1 3 (s.1 3 - a), s.2) else (uF s.1 5 1, s.2)
/-- a state that can be, behind at most K deeds -/
def SV (P : Nat → Int) (K : Nat) (s : PS) : Prop := (-1 ≤ s.1 0 ∧ s.1 0 < P 1) ∧ (0 ≤ s.1 1 ∧ s.1 1 ≤ 5) ∧ (-1 ≤ s.1 2 ∧ s.1 2 ≤ 7) ∧ (0 ≤ s.1 3 ∧ s.1 3 ≤ 9) ∧ (-1 ≤ s.1 4 ∧ s.1 4 < P 1) ∧ (0 ≤ s.1 5 ∧ s.1 5 ≤ 1) ∧ (0 ≤ s.1 6 ∧ s.1 6 < 256) ∧ (-1 ≤ s.1 7 ∧ s.1 7 ≤ 2) ∧ (-1 ≤ s.1 8 ∧ s.1 8 < P 0) ∧ (∀ p : Nat, (p : Int) < P 0 → 0 ≤ s.2.1 p ∧ s.2.1 p ≤ 30) ∧ (s.1 4 = -1 → 0 < s.2.1 0) ∧ (0 ≤ s.1 12 ∧ s.1 12 ≤ 9 * (K : Int)) ∧ (0 ≤ s.1 13 ∧ s.1 13 ≤ 9)
def s0P (P : Nat → Int) (belly : Int) : PS := (fun j => if j = 0 then -1 else if j = 1 then 0 else if j = 2 then -1 else if j = 3 then 0 else if j = 4 then -1 else if j = 7 then -1 else if j = 8 then -1 else 0, uF (fun p => P (19 + 2 * p)) 0 belly, fun _ => 0)
theorem s0_v {P : Nat → Int} (hv : PV P) {belly : Int} (hb : 1 ≤ belly ∧ belly ≤ 30) : SV P 0 (s0P P belly) := by
  have hv1 := hv.1
  unfold SV s0P
  refine ⟨?_, ?_, ?_, ?_, ?_, ?_, ?_, ?_, ?_, fun p hp => ?_, fun _ => by show 0 < uF (fun p => P (19 + 2 * p)) 0 belly 0; rw [uF_e]; omega, ?_, ?_⟩
  all_goals try (simp <;> omega)
  all_goals try (simp; done)
  dsimp only
  by_cases q : p = 0
  · subst q; rw [uF_e]; omega
  · rw [uF_n _ _ q]; have := hv.2.2.2.2.1 p hp; omega
theorem oI_tab : ∀ x, x < 256 → ∀ a, a < 8 → 0 ≤ oI ((x : Nat) : Int) (1 * 2 ^ a) ∧ oI ((x : Nat) : Int) (1 * 2 ^ a) < 256 := by decide +kernel
theorem oI_8 {x : Int} (hx : 0 ≤ x ∧ x < 256) {a : Nat} (ha : a < 8) : 0 ≤ oI x (1 * 2 ^ a) ∧ oI x (1 * 2 ^ a) < 256 := by
  obtain ⟨y, rfl⟩ := Int.eq_ofNat_of_zero_le hx.1
  exact oI_tab y (by omega) a ha
theorem la_i (P : Nat → Int) (f L : Nat → Int) (w h : Int) : ((laP P f L w h).1 = 0 ∧ (laP P f L w h).2 = -1) ∨ (((laP P f L w h).1 = 1 ∨ (laP P f L w h).1 = 2) ∧ 0 ≤ (laP P f L w h).2 ∧ (laP P f L w h).2 < ((P 0).toNat : Int) ∧ 0 < L (laP P f L w h).2.toNat) := by
  have a := su_i P f L w h 0 (P 0).toNat
  have b := su_i P f L w h 1 (P 0).toNat
  unfold laP
  by_cases q : suN P f L w h 0 (P 0).toNat = -1
  · rw [if_pos q]
    by_cases q2 : suN P f L w h 1 (P 0).toNat = -1
    · rw [if_pos q2]; exact Or.inl ⟨rfl, rfl⟩
    · rw [if_neg q2]; right; exact ⟨Or.inl rfl, by rcases b with b | b; exact absurd b q2; exact b⟩
  · rw [if_neg q]; right; exact ⟨Or.inr rfl, by rcases a with a | a; exact absurd a q; exact a⟩
theorem de_v {P : Nat → Int} (hv : PV P) {K : Nat} {s : PS} (h : SV P K s) {k a b : Int} (hk : 0 ≤ k ∧ k ≤ 5) (ha : -1 ≤ a ∧ a ≤ 9) (ha2 : k ≤ 2 → 0 ≤ a ∧ a ≤ 7) (hp : dePb P s k a) : SV P (K + 1) (deP P s k a b) := by
  have hv1 := hv.1
  obtain ⟨f, L, D⟩ := s
  obtain ⟨h0, h1, h2, h3, h4, h5, h6, h7, h8, h9, h10, h11, h12⟩ := h
  obtain ⟨p1, p2, p3⟩ := hp
  dsimp only at *
  have hK : (9 : Int) * ((K + 1 : Nat) : Int) = 9 * (K : Int) + 9 := by omega
  unfold deP
  by_cases k0 : k = 0
  · rw [if_pos k0] at p3 ⊢
    have o := oI_8 h6 (a := a.toNat) (by omega)
    rw [Int.one_mul] at o
    refine ⟨?_, ?_, ?_, ?_, ?_, ?_, ?_, ?_, ?_, ?_, ?_, ?_, ?_⟩ <;> (try simp only [uF]) <;> (try simp) <;> first | omega | assumption | (intro q; exact h10 q)
  rw [if_neg k0] at p3 ⊢
  by_cases k1 : k = 1
  · rw [if_pos k1] at p3 ⊢
    refine ⟨?_, ?_, ?_, ?_, ?_, ?_, ?_, ?_, ?_, ?_, ?_, ?_, ?_⟩ <;> (try simp only [uF]) <;> (try simp) <;> first | omega | assumption | (intro q; exact h10 q)
  rw [if_neg k1] at p3 ⊢
  by_cases k2 : k = 2
  · rw [if_pos k2] at p3 ⊢
    have li := la_i P f L a b
    have hch := hv.2.2.2.2.2.1 (f 0).toNat (by omega)
    have hF : ∀ l, 0 ≤ foP P f l ∧ foP P f l ≤ 9 := fun l => by
      unfold foP
      split <;> omega
    unfold stP
    dsimp only
    generalize laP P f L a b = la at *
    obtain ⟨l, pt⟩ := la
    dsimp only at *
    have hFl := hF l
    generalize foP P f l = F at *
    by_cases q : pt = -1
    · rw [if_pos q]
      refine ⟨?_, ?_, ?_, ?_, ?_, ?_, ?_, ?_, ?_, ?_, ?_, ?_, ?_⟩ <;> (try simp only [uF]) <;> (try simp) <;> first | omega | assumption | (intro q; exact h10 q)
    · rw [if_neg q]
      rcases li with ⟨-, li⟩ | ⟨l1, l2, l3, l4⟩
      · exact absurd li q
      have hL := h9 pt.toNat (by omega)
      refine ⟨?_, ?_, ?_, ?_, ?_, ?_, ?_, ?_, ?_, fun p hp => ?_, fun q4 => ?_, ?_, ?_⟩
      · simp [uF]; omega
      · simp [uF]; omega
      · simp [uF]; omega
      · simp [uF]; omega
      · simp only [uF]; simp; split <;> omega
      · simp [uF]; omega
      · simp [uF]; omega
      · simp [uF]; omega
      · simp [uF]; omega
      · dsimp only
        by_cases e : p = pt.toNat
        · rw [e, uF_e]; omega
        · rw [uF_n _ _ e]; exact h9 p hp
      · dsimp only at q4 ⊢
        rw [uF_e] at q4
        by_cases e : pt = 0
        · subst e
          by_cases e2 : L 0 ≤ F
          · rw [if_pos ⟨rfl, e2⟩] at q4; omega
          · show 0 < uF L 0 (L 0 - min (L 0) F) 0
            rw [uF_e]; omega
        · rw [uF_n _ _ (show (0 : Nat) ≠ pt.toNat by omega)]; exact h10 p1
      · simp only [uF]; simp; split <;> omega
      · simp only [uF]; simp; split <;> omega
  rw [if_neg k2] at p3 ⊢
  by_cases k3 : k = 3
  · rw [if_pos k3] at p3 ⊢
    refine ⟨?_, ?_, ?_, ?_, ?_, ?_, ?_, ?_, ?_, ?_, ?_, ?_, ?_⟩ <;> (try simp only [uF]) <;> (try simp) <;> first | omega | assumption | (intro q; exact h10 q)
  rw [if_neg k3] at p3 ⊢
  by_cases k4 : k = 4
  · rw [if_pos k4] at p3 ⊢
    refine ⟨?_, ?_, ?_, ?_, ?_, ?_, ?_, ?_, ?_, ?_, ?_, ?_, ?_⟩ <;> (try simp only [uF]) <;> (try simp) <;> first | omega | assumption | (intro q; exact h10 q)
  rw [if_neg k4] at p3 ⊢
  refine ⟨?_, ?_, ?_, ?_, ?_, ?_, ?_, ?_, ?_, ?_, ?_, ?_, ?_⟩ <;> (try simp only [uF]) <;> (try simp) <;> first | omega | assumption | (intro q; exact h10 q)
