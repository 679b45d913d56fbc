/-- the reference's table, and the calls uncle and lifts -/
theorem takB {M0 N : MM} {kp : Nat} (hd : HD M0 kp) {n b : Nat} (hT : TPP (pP M0 kp) n b) (hr : ∀ a, a ≠ 383 → N a = M0 a) {D : Nat} (hD : D < n * b) (ht : TbP (N 383) (pP M0 kp) n b D) {x : Nat} (hx : 1 ≤ x ∧ x ≤ 30) {c : Nat} (hcn : c < n) : sX12_ifTaken 359 (c : Int) ((n * b - (D + 1) : Nat) : Int) (x : Int) N = some (tkP (pP M0 kp) n b D c (x : Int)) := by
  obtain ⟨t1, t2, t3, t4, t5, t6, t7, t8, t9⟩ := hT
  have hd' : HD N kp := HD_c hd (hr 365 (by omega)) (fun j _ _ => by rw [hr 359 (by omega)])
  have pe : pP N kp = pP M0 kp := pP_c (hr 365 (by omega)) kp
  have hF := t8 c hcn
  have hmul : pP M0 kp 1 * pP M0 kp 2 = ((n * b : Nat) : Int) := by rw [t1, t2]; simp
  unfold sX12_ifTaken sX12_ifTaken_b0
  rw [ofC_e hd' ⟨by omega, by omega⟩ ⟨by omega, by omega⟩, ob_s, pe, show (28 + 13 * (c : Int) + 1).toNat = 29 + 13 * c by omega, wI_of (x := (c : Int)) (by omega) (by omega), wI_of (x := (x : Int)) (by omega) (by omega), wI_of (x := pP M0 kp (29 + 13 * c)) (by omega) (by omega), hd'.2.2.2.1, hd'.2.2.2.2.1, pe, hmul, t1, wI_of (x := (n : Int) - 1) (by omega) (by omega), g359_57]
  obtain ⟨F, hFF⟩ := Int.eq_ofNat_of_zero_le (show 0 ≤ pP M0 kp (29 + 13 * c) by omega)
  unfold tkP
  rw [hFF]
  by_cases q : (F : Int) < (x : Int)
  · rw [if_pos q, if_pos q, wI_of (x := 31 * (((n * b - (D + 1) : Nat) : Int) + 1) + (x : Int) - (F : Int)) (by omega) (by omega), if_pos ⟨by omega, by omega⟩, show (31 * (((n * b - (D + 1) : Nat) : Int) + 1) + (x : Int) - (F : Int)).toNat = 31 * (n * b - D) + (x - F) by omega, ht D (Nat.le_refl D) (x - F) (by omega) (by omega), show (x : Int) - (F : Int) = ((x - F : Nat) : Int) by omega]
  · rw [if_neg q, if_neg q]
    by_cases q2 : c + 1 = n
    · rw [if_pos (show (c : Int) = (n : Int) - 1 by omega), if_pos q2, tenB (d := D) (by omega) (by omega), ob_s]
    · rw [if_neg (show ¬ (c : Int) = (n : Int) - 1 by omega), if_neg q2]
theorem finB {M0 : MM} {kp : Nat} (hd : HD M0 kp) {n b : Nat} (hT : TPP (pP M0 kp) n b) : ∃ N', sX12_findWorth 359 M0 = some N' ∧ (∀ a, a ≠ 383 → N' a = M0 a) ∧ TbP (N' 383) (pP M0 kp) n b (n * b) := by
  have hT0 := hT
  obtain ⟨t1, t2, t3, t4, t5, t6, t7, t8, t9⟩ := hT
  have hmul : pP M0 kp 1 * pP M0 kp 2 = ((n * b : Nat) : Int) := by rw [t1, t2]; simp
  unfold sX12_findWorth sX12_findWorth_b0
  rw [hd.2.2.2.1, hd.2.2.2.2.1, hmul]
  have main : ∀ m D : Nat, D + m = n * b → ∀ f, m < f → ∀ N : MM, (∀ a, a ≠ 383 → N a = M0 a) → TbP (N 383) (pP M0 kp) n b D → ∃ N', sX12_findWorth_b40 359 f (((n * b : Nat) : Int) - 1 - (D : Int)) N = some N' ∧ (∀ a, a ≠ 383 → N' a = M0 a) ∧ TbP (N' 383) (pP M0 kp) n b (n * b) := by
    intro m
    induction m with
    | zero =>
      intro D he f hf N h1 h2
      obtain ⟨f, rfl⟩ : ∃ g, f = g + 1 := ⟨f - 1, by omega⟩
      rw [sX12_findWorth_b40, wI_of (x := ((n * b : Nat) : Int) - 1 - (D : Int)) (by omega) (by omega), if_pos (by omega)]
      have e : D = n * b := by omega
      rw [e] at h2
      exact ⟨N, rfl, h1, h2⟩
    | succ m ih =>
      intro D he f hf N h1 h2
      obtain ⟨f, rfl⟩ : ∃ g, f = g + 1 := ⟨f - 1, by omega⟩
      have hd' : HD N kp := HD_c hd (h1 365 (by omega)) (fun j _ _ => by rw [h1 359 (by omega)])
      have pe : pP N kp = pP M0 kp := pP_c (h1 365 (by omega)) kp
      obtain ⟨c, hc⟩ : ∃ c, c = (n * b - (D + 1)) / b := ⟨_, rfl⟩
      have hcl : c < n := by rw [hc]; exact chd_l (by omega)
      have hl := t9 c hcl
      rw [sX12_findWorth_b40, show ((n * b : Nat) : Int) - 1 - (D : Int) = ((n * b - (D + 1) : Nat) : Int) by omega, hd'.2.2.2.2.1, pe, t2, wI_of (x := ((n * b - (D + 1) : Nat) : Int)) (by omega) (by omega), wI_of (x := (b : Int)) (by omega) (by omega), if_neg (show ¬ ((n * b - (D + 1) : Nat) : Int) < 0 by omega), if_pos (show (b : Int) ≠ 0 by omega), td_n, ← hc, ob_s, ofC_e hd' ⟨by omega, by omega⟩ ⟨by omega, by omega⟩, ob_s, pe, show (28 + 13 * (c : Int) + 2).toNat = 30 + 13 * c by omega]
      refine loopC (fun g y (t : MM) => sX12_findWorth_b62 359 (fun x2 M => sX12_findWorth_b40 359 f x2 M) g ((n * b - (D + 1) : Nat) : Int) (c : Int) (pP M0 kp (30 + 13 * c)) y t) 31 (fun x t => 1 ≤ x ∧ (∀ a, a ≠ 383 → t a = M0 a) ∧ TbP (t 383) (pP M0 kp) n b D ∧ ∀ y, 1 ≤ y → y < x → t 383 (31 * (n * b - (D + 1)) + y) = wrP (pP M0 kp) n b (D + 1) (y : Int)) (fun o => ∃ N', o = some N' ∧ (∀ a, a ≠ 383 → N' a = M0 a) ∧ TbP (N' 383) (pP M0 kp) n b (n * b)) ?_ ?_ FU 1 N (by omega) ⟨by omega, h1, h2, fun y h1 h2 => by omega⟩ (by unfold FU; omega)
      · intro g t ⟨_, h1, h2, h3⟩
        show ∃ N', sX12_findWorth_b62 359 (fun x2 M => sX12_findWorth_b40 359 f x2 M) (g + 1) ((n * b - (D + 1) : Nat) : Int) (c : Int) (pP M0 kp (30 + 13 * c)) ((31 : Nat) : Int) t = some N' ∧ _
        rw [sX12_findWorth_b62, wI_of (x := ((31 : Nat) : Int)) (by omega) (by omega), if_pos (by omega), ob_s, show ((n * b - (D + 1) : Nat) : Int) + -1 = ((n * b : Nat) : Int) - 1 - ((D + 1 : Nat) : Int) by omega]
        refine ih (D + 1) (by omega) f (by omega) t h1 (fun d hd x hx1 hx2 => ?_)
        by_cases e : d = D + 1
        · subst e; exact h3 x hx1 (by omega)
        · exact h2 d (by omega) x hx1 hx2
      · intro g x t hx ⟨hx1, h1, h2, h3⟩
        right
        have b1 := wr_b (b := b) t9 D (x : Int) (by omega)
        have b2 := tk_b (b := b) t9 (show D ≤ n * b by omega) c (x : Int)
        have pl := p10_l D (by omega)
        have ws := wr_s (pP M0 kp) n b D (x : Int)
        rw [← hc] at ws
        refine ⟨mU t 383 (31 * (n * b - (D + 1)) + x) (wrP (pP M0 kp) n b (D + 1) (x : Int)), ?_, by omega, fun a ha => by rw [mU_row _ _ ha]; exact h1 a ha, fun d hd y hy1 hy2 => ?_, fun y hy1 hy2 => ?_⟩
        · show sX12_findWorth_b62 359 (fun x2 M => sX12_findWorth_b40 359 f x2 M) (g + 1) ((n * b - (D + 1) : Nat) : Int) (c : Int) (pP M0 kp (30 + 13 * c)) (x : Int) t = _
          rw [sX12_findWorth_b62, wI_of (x := (x : Int)) (by omega) (by omega), if_neg (show ¬ 30 < (x : Int) by omega), wI_of (x := 31 * (((n * b - (D + 1) : Nat) : Int) + 1) + (x : Int)) (by omega) (by omega), if_pos (show 0 ≤ 31 * (((n * b - (D + 1) : Nat) : Int) + 1) + (x : Int) ∧ 31 * (((n * b - (D + 1) : Nat) : Int) + 1) + (x : Int) < 496 by omega), ob_s, g359_57, show (31 * (((n * b - (D + 1) : Nat) : Int) + 1) + (x : Int)).toNat = 31 * (n * b - D) + x by omega, h2 D (Nat.le_refl D) x hx1 (by omega), takB hd hT0 h1 (by omega) h2 ⟨hx1, by omega⟩ hcl, ob_s, wI_of (x := pP M0 kp (30 + 13 * c)) (by omega) (by omega), wI_of (x := 10 - pP M0 kp (30 + 13 * c)) (by omega) (by omega)]
          unfold sX12_findWorth_b133
          rw [wI_of (x := 31 * ((n * b - (D + 1) : Nat) : Int) + (x : Int)) (by omega) (by omega), if_pos (show 0 ≤ 31 * ((n * b - (D + 1) : Nat) : Int) + (x : Int) ∧ 31 * ((n * b - (D + 1) : Nat) : Int) + (x : Int) < 496 by omega), show (31 * ((n * b - (D + 1) : Nat) : Int) + (x : Int)).toNat = 31 * (n * b - (D + 1)) + x by omega, ws]
          generalize wrP (pP M0 kp) n b D (x : Int) = v at *
          generalize tkP (pP M0 kp) n b D c (x : Int) = tk at *
          generalize (10 : Int) ^ D = A at *
          rw [wJ_of (x := v) (by omega) (by omega), wJ_of (x := tk) (by omega) (by omega)]
          by_cases q : tk ≤ v
          · rw [if_pos q, ob_s, ob_s, show max v tk = v by omega]
          · rw [if_neg q, if_pos (show 0 ≤ 31 * ((n * b - (D + 1) : Nat) : Int) + (x : Int) ∧ 31 * ((n * b - (D + 1) : Nat) : Int) + (x : Int) < 496 by omega), ob_s, ob_s, show max v tk = tk by omega]
        · rw [mU_ne _ _ (by omega)]
          exact h2 d hd y hy1 hy2
        · by_cases e : y = x
          · subst e; rw [mU_eq]
          · rw [mU_ne _ _ (by omega)]; exact h3 y hy1 (by omega)
  refine loopC (fun f y (t : MM) => sX12_findWorth_b12 359 f ((n * b : Nat) : Int) y t) 31 (fun x t => (∀ a, a ≠ 383 → t a = M0 a) ∧ ∀ y, y < x → t 383 (31 * (n * b) + y) = 0) (fun o => ∃ N', o = some N' ∧ (∀ a, a ≠ 383 → N' a = M0 a) ∧ TbP (N' 383) (pP M0 kp) n b (n * b)) ?_ ?_ FU 0 M0 (by omega) ⟨fun _ _ => rfl, fun y hy => by omega⟩ (by unfold FU; omega)
  · intro f t ⟨h1, h2⟩
    show ∃ N', sX12_findWorth_b12 359 (f + 1) ((n * b : Nat) : Int) ((31 : Nat) : Int) t = some N' ∧ _
    rw [sX12_findWorth_b12, wI_of (x := ((31 : Nat) : Int)) (by omega) (by omega), if_pos (by omega)]
    have q := main (n * b) 0 (by omega) FU (by unfold FU; omega) t h1 (fun d hd x h3 h4 => by
      obtain rfl : d = 0 := by omega
      rw [Nat.sub_zero]
      exact h2 x (by omega))
    rw [show ((n * b : Nat) : Int) - 1 - ((0 : Nat) : Int) = ((n * b : Nat) : Int) - 1 by omega] at q
    exact q
  · intro f x t hx ⟨h1, h2⟩
    right
    refine ⟨mU t 383 (31 * (n * b) + x) 0, ?_, fun a ha => by rw [mU_row _ _ ha]; exact h1 a ha, fun y hy => ?_⟩
    · show sX12_findWorth_b12 359 (f + 1) ((n * b : Nat) : Int) (x : Int) t = _
      rw [sX12_findWorth_b12, wI_of (x := (x : Int)) (by omega) (by omega), if_neg (show ¬ 30 < (x : Int) by omega), wI_of (x := 31 * ((n * b : Nat) : Int) + (x : Int)) (by omega) (by omega), if_pos ⟨by omega, by omega⟩, ob_s, ob_s, g359_57, show (31 * ((n * b : Nat) : Int) + (x : Int)).toNat = 31 * (n * b) + x by omega]
    · by_cases e : y = x
      · subst e; rw [mU_eq]
      · rw [mU_ne _ _ (by omega)]; exact h2 y (by omega)
