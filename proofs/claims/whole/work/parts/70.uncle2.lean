/-- the class's table -/
theorem inT {i x : Nat} (hi : i ≤ 15) (hx : x ≤ 30) : sX4_isInTable (i : Int) (x : Int) = 1 := by
  unfold sX4_isInTable sX4_isInTable_b0
  rw [wI_of (x := (i : Int)) (by omega) (by omega), wI_of (x := (x : Int)) (by omega) (by omega), if_neg (by omega), if_neg (by omega), if_neg (by omega), if_neg (by omega)]
theorem setA {i x : Nat} (hi : i ≤ 15) (hx : x ≤ 30) (y : Int) (M : MM) : sX4_setBest 121 (i : Int) (x : Int) y M = some (mU M 126 (31 * i + x) y) := by
  unfold sX4_setBest sX4_setBest_b0
  rw [inT hi hx, i10, wI_of (x := (i : Int) * 31 + (x : Int)) (by omega) (by omega), if_pos ⟨by omega, by omega⟩, ob_s, g121_4, show ((i : Int) * 31 + (x : Int)).toNat = 31 * i + x by omega]
theorem atA {i x : Nat} (hi : i ≤ 15) (hx : x ≤ 30) (M : MM) : sX4_bestAt 121 (i : Int) (x : Int) M = some (M 126 (31 * i + x)) := by
  unfold sX4_bestAt sX4_bestAt_b0
  rw [inT hi hx, i10, wI_of (x := (i : Int) * 31 + (x : Int)) (by omega) (by omega), if_pos ⟨by omega, by omega⟩, g121_4, show ((i : Int) * 31 + (x : Int)).toNat = 31 * i + x by omega]
/-- a party whose blows can be told -/
def TPP (P : Nat → Int) (n b : Nat) : Prop := P 1 = (n : Int) ∧ P 2 = (b : Int) ∧ 1 ≤ n ∧ n ≤ 8 ∧ 1 ≤ b ∧ b ≤ 5 ∧ n * b ≤ 15 ∧ (∀ c : Nat, c < n → 1 ≤ P (29 + 13 * c) ∧ P (29 + 13 * c) ≤ 9) ∧ ∀ c : Nat, c < n → 0 ≤ P (30 + 13 * c) ∧ P (30 + 13 * c) ≤ 10
theorem notA {M0 N : MM} {p : Nat} {P : Nat → Int} (hc : PC M0 p P) (hg : PG p) (hp : p < 66) {n b : Nat} (hT : TPP P n b) (hr : ∀ a, a ≠ 126 → N a = M0 a) {D : Nat} (hD : D < n * b) (ht : TbP (N 126) P n b D) {x : Nat} (hx : 1 ≤ x ∧ x ≤ 30) {c : Nat} (hcn : c < n) : sX4_ifNotLifted 121 p (c : Int) ((n * b - (D + 1) : Nat) : Int) (x : Int) N = some (tkP P n b D c (x : Int)) := by
  obtain ⟨t1, t2, t3, t4, t5, t6, t7, t8, t9⟩ := hT
  have hF := t8 c hcn
  have cF := (hc.2.2.2.2.1 c (by omega)).2.1
  have hmul : P 1 * P 2 = ((n * b : Nat) : Int) := by rw [t1, t2]; simp
  unfold sX4_ifNotLifted sX4_ifNotLifted_b0
  rw [wI_of (x := (c : Int)) (by omega) (by omega), if_pos (show 0 ≤ (c : Int) ∧ (c : Int) < 8 by omega), if_pos (show 0 ≤ (c : Int) ∧ (c : Int) < 8 by omega), hg.2.2.2.1, tN, hr (p + 4) (by omega), cF, hr p (by omega), hc.1.2.1, hc.1.2.2.1, hmul, wI_of (x := (x : Int)) (by omega) (by omega), wI_of (x := P (29 + 13 * c)) (by omega) (by omega), t1, wI_of (x := (n : Int) - 1) (by omega) (by omega)]
  obtain ⟨F, hFF⟩ := Int.eq_ofNat_of_zero_le (show 0 ≤ P (29 + 13 * c) by omega)
  unfold tkP
  rw [hFF]
  by_cases q : (x : Int) ≤ (F : Int)
  · rw [if_pos q, if_neg (show ¬ (F : Int) < (x : Int) by omega)]
    by_cases q2 : c + 1 = n
    · rw [if_pos (show (c : Int) = (n : Int) - 1 by omega), if_pos q2, tenA (d := D) (by omega) (by omega), ob_s]
    · rw [if_neg (show ¬ (c : Int) = (n : Int) - 1 by omega), if_neg q2]
  · rw [if_neg q, if_pos (show (F : Int) < (x : Int) by omega), show ((n * b - (D + 1) : Nat) : Int) + 1 = ((n * b - D : Nat) : Int) by omega, show (x : Int) - (F : Int) = ((x - F : Nat) : Int) by omega, atA (by omega) (by omega), ob_s, ht D (Nat.le_refl D) (x - F) (by omega) (by omega)]
theorem weiA {M0 N : MM} {p : Nat} {P : Nat → Int} (hc : PC M0 p P) (hg : PG p) (hp : p < 66) {n b : Nat} (hT : TPP P n b) (hr : ∀ a, a ≠ 126 → N a = M0 a) {D : Nat} (hD : D < n * b) (ht : TbP (N 126) P n b D) {c : Nat} (hcn : c = (n * b - (D + 1)) / b) {k : Int} (hk : k = ((n * b - (D + 1) : Nat) : Int)) : ∃ N', sX4_weighLifting 121 p (c : Int) k N = some N' ∧ (∀ a, a ≠ 126 → N' a = M0 a) ∧ TbP (N' 126) P n b (D + 1) := by
  have hT0 := hT
  obtain ⟨t1, t2, t3, t4, t5, t6, t7, t8, t9⟩ := hT
  have hcl : c < n := by rw [hcn]; exact chd_l hD
  have hl := t9 c hcl
  have cl := (hc.2.2.2.2.1 c (by omega)).2.2.1
  subst hk
  unfold sX4_weighLifting sX4_weighLifting_b0
  rw [wI_of (x := (c : Int)) (by omega) (by omega), if_pos (show 0 ≤ (c : Int) ∧ (c : Int) < 8 by omega), hg.2.2.2.2.1, tN, hr (p + 5) (by omega), cl]
  refine loopC (fun f y (t : MM) => sX4_weighLifting_b11 121 p (c : Int) ((n * b - (D + 1) : Nat) : Int) f (P (30 + 13 * c)) y t) 31 (fun x t => 1 ≤ x ∧ (∀ a, a ≠ 126 → t a = M0 a) ∧ TbP (t 126) P n b D ∧ ∀ y, 1 ≤ y → y < x → t 126 (31 * (n * b - (D + 1)) + y) = wrP P n b (D + 1) (y : Int)) (fun o => ∃ N', o = some N' ∧ (∀ a, a ≠ 126 → N' a = M0 a) ∧ TbP (N' 126) P n b (D + 1)) ?_ ?_ FU 1 N (by omega) ⟨by omega, hr, ht, fun y h1 h2 => by omega⟩ (by unfold FU; omega)
  · intro f t ⟨_, h1, h2, h3⟩
    show ∃ N', sX4_weighLifting_b11 121 p (c : Int) ((n * b - (D + 1) : Nat) : Int) (f + 1) (P (30 + 13 * c)) ((31 : Nat) : Int) t = some N' ∧ _
    rw [sX4_weighLifting_b11, wI_of (x := ((31 : Nat) : Int)) (by omega) (by omega), if_pos (by omega)]
    refine ⟨t, rfl, h1, fun d hd x hx1 hx2 => ?_⟩
    by_cases e : d = D + 1
    · subst e; exact h3 x hx1 (by omega)
    · exact h2 d (by omega) x hx1 hx2
  · intro f x t hx ⟨hx1, h1, h2, h3⟩
    right
    have b1 := wr_b (b := b) t9 D (x : Int) (by omega)
    have b2 := tk_b (b := b) t9 (show D ≤ n * b by omega) c (x : Int)
    have pl := p10_l D (by omega)
    have ws := wr_s P n b D (x : Int)
    rw [← hcn] at ws
    refine ⟨mU t 126 (31 * (n * b - (D + 1)) + x) (wrP P n b (D + 1) (x : Int)), ?_, by omega, fun a ha => by rw [mU_row _ _ ha]; exact h1 a ha, fun d hd y hy1 hy2 => ?_, fun y hy1 hy2 => ?_⟩
    · show sX4_weighLifting_b11 121 p (c : Int) ((n * b - (D + 1) : Nat) : Int) (f + 1) (P (30 + 13 * c)) (x : Int) t = _
      rw [sX4_weighLifting_b11, wI_of (x := (x : Int)) (by omega) (by omega), if_neg (show ¬ 31 ≤ (x : Int) by omega), notA hc hg hp hT0 h1 hD h2 ⟨hx1, by omega⟩ hcl, show ((n * b - (D + 1) : Nat) : Int) + 1 = ((n * b - D : Nat) : Int) by omega, atA (by omega) (by omega), ob_s, ob_s, h2 D (Nat.le_refl D) x hx1 (by omega), wI_of (x := P (30 + 13 * c)) (by omega) (by omega), wI_of (x := 10 - P (30 + 13 * c)) (by omega) (by omega)]
      generalize wrP P n b D (x : Int) = v at *
      generalize tkP P n b D c (x : Int) = tk at *
      generalize (10 : Int) ^ D = A at *
      rw [wJ_of (x := v) (by omega) (by omega), wJ_of (x := tk) (by omega) (by omega), ← ws, setA (by omega) (by omega), ob_s, ob_s]
    · rw [mU_ne _ _ (by omega)]
      exact h2 d hd y hy1 hy2
    · by_cases e : y = x
      · subst e; rw [mU_eq]
      · rw [mU_ne _ _ (by omega)]; exact h3 y hy1 (by omega)
theorem knoA {M0 : MM} {p : Nat} {P : Nat → Int} (hc : PC M0 p P) (hg : PG p) (hp : p < 66) {n b : Nat} (hT : TPP P n b) : ∃ N', sX4_knowsAll 121 p M0 = some N' ∧ (∀ a, a ≠ 126 → N' a = M0 a) ∧ TbP (N' 126) P n b (n * b) := by
  have hT0 := hT
  obtain ⟨t1, t2, t3, t4, t5, t6, t7, t8, t9⟩ := hT
  have hmul : P 1 * P 2 = ((n * b : Nat) : Int) := by rw [t1, t2]; simp
  unfold sX4_knowsAll sX4_knowsAll_b0
  rw [hc.1.2.1, hc.1.2.2.1, hmul]
  have main : ∀ m e : Nat, e + m = n → ∀ f, m < f → ∀ N : MM, (∀ a, a ≠ 126 → N a = M0 a) → TbP (N 126) P n b (e * b) → ∃ N', sX4_knowsAll_b43 121 p f ((n * b : Nat) - (e * b : Nat) - 1 : Int) ((n : Int) - 1 - (e : Int)) N = some N' ∧ (∀ a, a ≠ 126 → N' a = M0 a) ∧ TbP (N' 126) P n b (n * b) := by
    intro m
    induction m with
    | zero =>
      intro e he f hf N h1 h2
      obtain ⟨f, rfl⟩ : ∃ g, f = g + 1 := ⟨f - 1, by omega⟩
      obtain rfl : e = n := by omega
      rw [sX4_knowsAll_b43, wI_of (x := (e : Int) - 1 - (e : Int)) (by omega) (by omega), if_pos (by omega)]
      exact ⟨N, rfl, h1, h2⟩
    | succ m ih =>
      intro e he f hf N h1 h2
      obtain ⟨f, rfl⟩ : ∃ g, f = g + 1 := ⟨f - 1, by omega⟩
      have heb : e * b + b ≤ n * b := by
        have : (e + 1) * b ≤ n * b := Nat.mul_le_mul_right b (by omega)
        rw [Nat.add_mul, Nat.one_mul] at this
        exact this
      rw [sX4_knowsAll_b43, wI_of (x := (n : Int) - 1 - (e : Int)) (by omega) (by omega), if_neg (show ¬ (n : Int) - 1 - (e : Int) < 0 by omega)]
      refine loopC (fun g y (s : Int × MM) => sX4_knowsAll_b51 121 p (fun x3 x4 M => sX4_knowsAll_b43 121 p f x3 x4 M) g s.1 ((n : Int) - 1 - (e : Int)) y s.2) b (fun j s => s.1 = ((n * b : Nat) - (e * b : Nat) - 1 : Int) - (j : Int) ∧ (∀ a, a ≠ 126 → s.2 a = M0 a) ∧ TbP (s.2 126) P n b (e * b + j)) (fun o => ∃ N', o = some N' ∧ (∀ a, a ≠ 126 → N' a = M0 a) ∧ TbP (N' 126) P n b (n * b)) ?_ ?_ FU 0 (((n * b : Nat) - (e * b : Nat) - 1 : Int), N) (by omega) ⟨by show _ = _ - ((0 : Nat) : Int); omega, h1, h2⟩ (by unfold FU; omega)
      · intro g s ⟨s1, s2, s3⟩
        show ∃ N', sX4_knowsAll_b51 121 p (fun x3 x4 M => sX4_knowsAll_b43 121 p f x3 x4 M) (g + 1) s.1 ((n : Int) - 1 - (e : Int)) (b : Int) s.2 = some N' ∧ _
        rw [sX4_knowsAll_b51, s2 p (by omega), hc.1.2.2.1, t2, if_pos (Int.le_refl _), ob_s]
        have q := ih (e + 1) (by omega) f (by omega) s.2 s2 (by rw [Nat.add_mul, Nat.one_mul]; exact s3)
        rw [show ((n * b : Nat) - ((e + 1) * b : Nat) - 1 : Int) = s.1 by rw [s1, Nat.add_mul, Nat.one_mul]; omega, show (n : Int) - 1 - ((e + 1 : Nat) : Int) = (n : Int) - 1 - (e : Int) + -1 by omega] at q
        exact q
      · intro g j s hj ⟨s1, s2, s3⟩
        right
        have hch := chd_e (n := n) (b := b) (e := e) (j := j) (by omega) hj
        obtain ⟨N', e1, e2, e3⟩ := weiA hc hg hp hT0 s2 (D := e * b + j) (by omega) s3 (c := n - 1 - e) hch.symm (k := s.1) (by rw [s1]; omega)
        refine ⟨(s.1 + -1, N'), ?_, ?_, e2, e3⟩
        · show sX4_knowsAll_b51 121 p (fun x3 x4 M => sX4_knowsAll_b43 121 p f x3 x4 M) (g + 1) s.1 ((n : Int) - 1 - (e : Int)) (j : Int) s.2 = _
          rw [sX4_knowsAll_b51, s2 p (by omega), hc.1.2.2.1, t2, wI_of (x := (b : Int)) (by omega) (by omega), wI_of (x := (j : Int)) (by omega) (by omega), if_neg (show ¬ (b : Int) ≤ (j : Int) by omega), show (n : Int) - 1 - (e : Int) = ((n - 1 - e : Nat) : Int) by omega, e1, ob_s, ob_s, ob_s]
        · show s.1 + -1 = _
          rw [s1]; omega
  refine loopC (fun f y (t : MM) => sX4_knowsAll_b12 121 p f ((n * b : Nat) : Int) y t) 31 (fun x t => (∀ a, a ≠ 126 → t a = M0 a) ∧ ∀ y, y < x → t 126 (31 * (n * b) + y) = 0) (fun o => ∃ N', o = some N' ∧ (∀ a, a ≠ 126 → N' a = M0 a) ∧ TbP (N' 126) P n b (n * b)) ?_ ?_ FU 0 M0 (by omega) ⟨fun _ _ => rfl, fun y hy => by omega⟩ (by unfold FU; omega)
  · intro f t ⟨h1, h2⟩
    show ∃ N', sX4_knowsAll_b12 121 p (f + 1) ((n * b : Nat) : Int) ((31 : Nat) : Int) t = some N' ∧ _
    rw [sX4_knowsAll_b12, wI_of (x := ((31 : Nat) : Int)) (by omega) (by omega), if_pos (by omega), h1 p (by omega), hc.1.2.1, t1]
    have q := main n 0 (by omega) FU (by unfold FU; omega) t h1 (fun d hd x h3 h4 => by
      rw [Nat.zero_mul] at hd
      obtain rfl : d = 0 := by omega
      rw [Nat.sub_zero]
      exact h2 x (by omega))
    rw [Nat.zero_mul, show (((n * b : Nat) : Int) - ((0 : Nat) : Int) - 1) = ((n * b : Nat) : Int) - 1 by omega, show (n : Int) - 1 - ((0 : Nat) : Int) = (n : Int) - 1 by omega] at q
    exact q
  · intro f x t hx ⟨h1, h2⟩
    right
    refine ⟨mU t 126 (31 * (n * b) + x) 0, ?_, fun a ha => by rw [mU_row _ _ ha]; exact h1 a ha, fun y hy => ?_⟩
    · show sX4_knowsAll_b12 121 p (f + 1) ((n * b : Nat) : Int) (x : Int) t = _
      rw [sX4_knowsAll_b12, wI_of (x := (x : Int)) (by omega) (by omega), if_neg (show ¬ 31 ≤ (x : Int) by omega), setA (by omega) (by omega), ob_s, ob_s]
    · by_cases e : y = x
      · subst e; rw [mU_eq]
      · rw [mU_ne _ _ (by omega)]; exact h2 y (by omega)
