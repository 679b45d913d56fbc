theorem has_e {M : MM} {p : Nat} {n : Int} (h : M p 3 = n) (hn : 0 ≤ n ∧ n ≤ 8) {x : Int} (r : R32 x) : sX5_has p x M = if 0 ≤ x ∧ x < n then 1 else 0 := by
  unfold sX5_has sX5_has_b0
  rw [h, wI_of r.1 r.2, wI_of (x := n) (by omega) (by omega)]
  by_cases a : 0 ≤ x ∧ x < n
  · rw [if_neg (by omega), if_neg (by omega), if_pos a]
  · rw [if_neg a]
    by_cases b : x < 0
    · rw [if_pos b]
    · rw [if_neg b, if_pos (by omega)]
theorem may_e {M : MM} {p : Nat} {n : Int} (h : M p 3 = n) (hn : 0 ≤ n ∧ n ≤ 8) {x : Int} (r : R32 x) : sX5_mayStrike p x M = if x = -1 ∨ (0 ≤ x ∧ x < n) then 1 else 0 := by
  unfold sX5_mayStrike sX5_mayStrike_b0
  rw [has_e h hn r, wI_of r.1 r.2]
  by_cases a : x = -1
  · rw [if_pos a, if_pos (Or.inl a)]
  · rw [if_neg a]
    by_cases b : 0 ≤ x ∧ x < n
    · rw [if_pos b, if_pos (Or.inr b), wI_1, i1z]
    · rw [if_neg b, wI_0, if_pos rfl, if_neg (by omega)]
theorem chi_e {M : MM} {n : Int} (h : M 359 26 = n) (hn : 0 ≤ n ∧ n ≤ 8) {x : Int} (r : R32 x) : sX12_isChild 359 x M = some (if 0 ≤ x ∧ x < n then 1 else 0) := by
  unfold sX12_isChild sX12_isChild_b0
  rw [h]
  by_cases a : 0 ≤ x ∧ x < n
  · rw [in_t r ⟨by omega, by omega⟩ ⟨by omega, by omega⟩ ⟨a.1, by omega⟩, if_pos a]; rfl
  · rw [in_f r ⟨by omega, by omega⟩ ⟨by omega, by omega⟩ (by omega), if_neg a]; rfl
theorem hand_0 {M : MM} (h : INV M) {k : Nat} (hk : (k : Int) < M 364 0) : ∃ N, sX12_hand 359 (k : Int) (mU M 359 0 0) = some (1, N) ∧ FR M N ∧ HD N k ∧ pP N k = pP M k := by
  obtain ⟨N, e, f, hd⟩ := hand_t (M := mU M 359 0 0) (k := k) (by rw [m0_364]; exact (i_size h (s := 0) (by omega)).2) (by rw [m0_364]; exact hk)
  exact ⟨N, e, FR_t (FR_0 M) (F24_FR f), hd, pP_c ((f.1 365 (by omega)).trans (mU_row _ _ (by omega))) k⟩
theorem hand_0f {M : MM} (h : INV M) {x : Int} (r : R32 x) (hx : ¬ (0 ≤ x ∧ x < M 364 0)) : sX12_hand 359 x (mU M 359 0 0) = some (0, mU M 359 0 0) := hand_f (by rw [m0_364]; exact (i_size h (s := 0) (by omega)).2) r (by rw [m0_364]; exact hx)
def aC (P : Nat → Int) (c : Nat) (x : Int) : Int := if 10 ≤ x ∧ x < 10 + P 1 then P (33 + 13 * c + (x - 10).toNat) else if 0 ≤ x ∧ x ≤ 4 then P (28 + 13 * c + x.toNat) else -1
theorem cA_child {M : MM} {p : Nat} {P : Nat → Int} (hc : PC M p P) (hv : PV P) (hg : PG p) {c : Nat} (hcn : (c : Int) < P 1) {x : Int} (r : R32 x) : sX5_answerOf p (c : Int) x M = some (aC P c x) := by
  obtain ⟨⟨v1, v2, v3, v4, -⟩, -⟩ := hv
  obtain ⟨⟨c1, c2, -⟩, -, -, -, d4, d5, d6⟩ := hc
  obtain ⟨-, -, g4, g5, g6, g7, g8, g9, -⟩ := hg
  have hp : 0 ≤ (c : Int) ∧ (c : Int) < 8 := ⟨by omega, by omega⟩
  have hP : 0 ≤ (c : Int) ∧ (c : Int) < P 1 := ⟨by omega, hcn⟩
  have hb : sX5_answerOf_b37 p (c : Int) x M = some (if 0 ≤ x ∧ x ≤ 4 then P (28 + 13 * c + x.toNat) else -1) := by
    unfold sX5_answerOf_b37
    rw [wI_of r.1 r.2, wI_of (x := (c : Int)) (by omega) (by omega), if_pos hp, if_pos hp, if_pos hp, if_pos hp, if_pos hp, tN, g4, g5, g6, g7, g8, (d4 c hcn).1, (d4 c hcn).2.1, (d4 c hcn).2.2.1, (d4 c hcn).2.2.2, d5 c (by omega)]
    by_cases a5 : 0 ≤ x ∧ x ≤ 4
    · rw [if_pos a5]
      have : x = 0 ∨ x = 1 ∨ x = 2 ∨ x = 3 ∨ x = 4 := by omega
      rcases this with rfl | rfl | rfl | rfl | rfl
      · rfl
      · rw [if_neg (by omega), if_pos rfl, show 28 + 13 * c + (1 : Int).toNat = 29 + 13 * c by simp; omega]
      · rw [if_neg (by omega), if_neg (by omega), if_pos rfl, show 28 + 13 * c + (2 : Int).toNat = 30 + 13 * c by simp; omega]
      · rw [if_neg (by omega), if_neg (by omega), if_neg (by omega), if_pos rfl, show 28 + 13 * c + (3 : Int).toNat = 31 + 13 * c by simp; omega]
      · rw [if_neg (by omega), if_neg (by omega), if_neg (by omega), if_neg (by omega), if_pos rfl, show 28 + 13 * c + (4 : Int).toNat = 32 + 13 * c by simp; omega]
    · rw [if_neg a5, if_neg (by omega), if_neg (by omega), if_neg (by omega), if_neg (by omega), if_neg (by omega)]
  unfold sX5_answerOf sX5_answerOf_b0 aC
  rw [has_e c2 ⟨by omega, v4⟩ (x := (c : Int)) ⟨by omega, by omega⟩, if_pos hP, wI_1, i1z, hb, c2, wI_of r.1 r.2, wI_of (x := 10 + P 1) (by omega) (by omega)]
  by_cases a : 10 ≤ x ∧ x < 10 + P 1
  · obtain ⟨o, rfl⟩ : ∃ o : Nat, x = 10 + (o : Int) := ⟨(x - 10).toNat, by omega⟩
    rw [if_neg (by omega), if_neg (by omega), if_pos a]
    unfold sX5_tieOf sX5_tieOf_b0
    rw [has_e c2 ⟨by omega, v4⟩ (x := (c : Int)) ⟨by omega, by omega⟩, if_pos hP, wI_1, i1z, has_e c2 ⟨by omega, v4⟩ (x := 10 + (o : Int) - 10) ⟨by omega, by omega⟩, if_pos (show 0 ≤ 10 + (o : Int) - 10 ∧ 10 + (o : Int) - 10 < P 1 from ⟨by omega, by omega⟩), wI_1, i1z, wI_of (x := (c : Int) * 8 + (10 + (o : Int) - 10)) (by omega) (by omega), if_pos (by omega), ob_s, g9, show ((c : Int) * 8 + (10 + (o : Int) - 10)).toNat = 8 * c + o by omega, d6 c (by omega) o (by omega), show (10 + (o : Int) - 10).toNat = o by omega]
  · rw [if_neg a]
    by_cases b : x < 10
    · rw [if_pos b]
    · rw [if_neg b, if_pos (by omega)]
theorem e_child {M : MM} (h : INV M) {x1 x2 x3 : Int} (r1 : R32 x1) (r2 : R32 x2) (r3 : R32 x3) : ∃ v v' M2, sX11_child 0 x1 x2 x3 M = some v ∧ sX12_child 359 x1 x2 x3 M = some (v', M2) ∧ wI v = wI v' ∧ INV M2 := by
  unfold sX11_child sX11_child_b0 sX12_child sX12_child_b0
  rw [ob_s]
  rcases a_party h r1 with ⟨k, hk, rfl, hlt, e⟩ | ⟨hn, e⟩
  · obtain ⟨N, en, f, hd, ep⟩ := hand_0 h hlt
    obtain ⟨hc, hv⟩ := i_party h hlt
    have h26 := hd.2.2.2.1
    rw [ep] at h26
    have hv1 := hv.1
    rw [e, ob_s, nMs_, en, ob_s]
    show ∃ v v' M2, _ ∧ (if wI 1 = 0 then _ else _) = _ ∧ _
    rw [i10, has_e hc.1.2.1 ⟨by omega, by omega⟩ r2, chi_e h26 ⟨by omega, by omega⟩ r2, ob_s]
    by_cases a : 0 ≤ x2 ∧ x2 < pP M k 1
    · obtain ⟨c, rfl⟩ := Int.eq_ofNat_of_zero_le a.1
      rw [if_pos a, wI_1, i1z, if_neg (by omega), cA_child hc hv (PG_p k hk) a.2 r3, ob_s]
      refine ⟨_, aC (pP M k) c x3, N, rfl, ?_, rfl, INV_2 f h⟩
      unfold aC
      dsimp only
      simp only [h26]
      by_cases b : 10 ≤ x3 ∧ x3 < 10 + pP M k 1
      · rw [in_f r3 ⟨by omega, by omega⟩ ⟨by omega, by omega⟩ (by omega), wI_0, if_pos rfl, in_1 r3.1 r3.2 (by omega) (by omega) (by omega) (by omega), i1z, if_pos b, ofC_e hd ⟨by omega, by omega⟩ ⟨by omega, by omega⟩, ob_s, ep, show (28 + 13 * (c : Int) + (5 + x3 - 10)).toNat = 33 + 13 * c + (x3 - 10).toNat by omega]
      · rw [if_neg b]
        by_cases b2 : 0 ≤ x3 ∧ x3 ≤ 4
        · rw [in_1 r3.1 r3.2 (by omega) (by omega) (by omega) (by omega), i1z, if_pos b2, ofC_e hd ⟨by omega, by omega⟩ ⟨by omega, by omega⟩, ob_s, ep, show (28 + 13 * (c : Int) + x3).toNat = 28 + 13 * c + x3.toNat by omega]
        · rw [in_f r3 ⟨by omega, by omega⟩ ⟨by omega, by omega⟩ (by omega), wI_0, if_pos rfl, in_f r3 ⟨by omega, by omega⟩ ⟨by omega, by omega⟩ (by omega), wI_0, if_pos rfl, if_neg b2]
    · rw [if_neg a, wI_0, if_pos rfl, if_pos rfl]
      exact ⟨_, _, _, rfl, rfl, rfl, INV_2 f h⟩
  · rw [e, ob_s, nM0_, hand_0f h r1 hn, ob_s]
    exact ⟨-1, -1, _, rfl, rfl, rfl, INV_2 (FR_0 M) h⟩
theorem st_tab : ∀ a, a < 25 → ∀ b, b < 25 → sX11_stepsBetween ((a : Nat) : Int) ((b : Nat) : Int) = some (sX12_stepsTo (a : Int) (b : Int)) ∧ 0 ≤ sX12_stepsTo (a : Int) (b : Int) ∧ sX12_stepsTo (a : Int) (b : Int) ≤ 4 := by decide +kernel
theorem st_e {a b : Int} (ha : 0 ≤ a ∧ a ≤ 24) (hb : 0 ≤ b ∧ b ≤ 24) : sX11_stepsBetween a b = some (sX12_stepsTo a b) ∧ 0 ≤ sX12_stepsTo a b ∧ sX12_stepsTo a b ≤ 4 := by
  obtain ⟨x, rfl⟩ := Int.eq_ofNat_of_zero_le ha.1
  obtain ⟨y, rfl⟩ := Int.eq_ofNat_of_zero_le hb.1
  exact st_tab x (by omega) y (by omega)
theorem rg_tab : ∀ a, a < 25 → sX11_ringOf ((a : Nat) : Int) = some (sX12_ringOf (a : Int)) ∧ 0 ≤ sX12_ringOf (a : Int) ∧ sX12_ringOf (a : Int) ≤ 2 ∧ sX11_sideOf (a : Int) = (if a = 12 then -1 else sX12_sideOf (a : Int)) ∧ 0 ≤ sX12_sideOf (a : Int) ∧ sX12_sideOf (a : Int) ≤ 7 ∧ (1 ≤ sX12_ringOf (a : Int) → a ≠ 12) := by decide +kernel
theorem rg_e {a : Int} (ha : 0 ≤ a ∧ a ≤ 24) : sX11_ringOf a = some (sX12_ringOf a) ∧ 0 ≤ sX12_ringOf a ∧ sX12_ringOf a ≤ 2 := by
  obtain ⟨x, rfl⟩ := Int.eq_ofNat_of_zero_le ha.1
  have := rg_tab x (by omega)
  exact ⟨this.1, this.2.1, this.2.2.1⟩
/-- how far a child is from a cell; who picks it -/
def wY (s bd : Int) (Q : Nat → Int) (cell : Int) (c : Nat) : Int := if (c : Int) = s then sX12_stepsTo 12 cell + bd else sX12_stepsTo (Q c) cell
def pkS (s bd : Int) (Q qk : Nat → Int) (cell : Int) (c : Nat) (b : Int × Int) : Int × Int := if b.1 = -1 ∨ wY s bd Q cell c < b.2 ∨ (wY s bd Q cell c = b.2 ∧ qk b.1.toNat < qk c) then ((c : Int), wY s bd Q cell c) else b
def pkN (s bd : Int) (Q qk : Nat → Int) (cell : Int) (n : Nat) : Int × Int := fo (pkS s bd Q qk cell) n (-1, 0)
theorem pk_i (s bd : Int) (Q qk : Nat → Int) (cell : Int) (n : Nat) : (n = 0 ∧ (pkN s bd Q qk cell n).1 = -1) ∨ (0 ≤ (pkN s bd Q qk cell n).1 ∧ (pkN s bd Q qk cell n).1 < (n : Int) ∧ (pkN s bd Q qk cell n).2 = wY s bd Q cell (pkN s bd Q qk cell n).1.toNat) := by
  induction n with
  | zero => left; exact ⟨rfl, rfl⟩
  | succ n ih =>
    right
    have e : pkN s bd Q qk cell (n + 1) = pkS s bd Q qk cell n (pkN s bd Q qk cell n) := rfl
    rw [e]
    generalize pkN s bd Q qk cell n = b at *
    unfold pkS
    split
    · exact ⟨by omega, by omega, by simp⟩
    · rename_i h
      rcases ih with ⟨h1, h2⟩ | ⟨h1, h2, h3⟩
      · exact absurd (Or.inl h2) h
      · exact ⟨h1, by omega, h3⟩
theorem pk_r {s bd : Int} {Q qk : Nat → Int} {cell : Int} {n : Nat} (hn : 0 < n) : 0 ≤ (pkN s bd Q qk cell n).1 ∧ (pkN s bd Q qk cell n).1 < (n : Int) := by
  rcases pk_i s bd Q qk cell n with ⟨h, -⟩ | ⟨h1, h2, -⟩
  · omega
  · exact ⟨h1, h2⟩
theorem wY_b {s bd : Int} {Q : Nat → Int} {cell : Int} {c : Nat} (hbd : 0 ≤ bd ∧ bd ≤ 9) (hQ : 0 ≤ Q c ∧ Q c ≤ 24) (hc : 0 ≤ cell ∧ cell ≤ 24) : 0 ≤ wY s bd Q cell c ∧ wY s bd Q cell c ≤ 13 := by
  unfold wY
  have a := st_e (a := 12) (b := cell) ⟨by omega, by omega⟩ hc
  have b := st_e (a := Q c) (b := cell) hQ hc
  split <;> omega
def qkP (P : Nat → Int) (c : Nat) : Int := P (31 + 13 * c)
def spP (P : Nat → Int) (c : Nat) : Int := P (32 + 13 * c)
def moQ (P : Nat → Int) (mo pl : Int) (c : Nat) : Int := if (c : Int) = mo then pl else spP P c
theorem pickA {M : MM} {p : Nat} {P : Nat → Int} (hc : PC M p P) (hv : PV P) (hg : PG p) (a0 : Nat) {s cell mo pl : Int} (rs : R32 s) (hcell : 0 ≤ cell ∧ cell ≤ 24) (rm : R32 mo) (hpl : 0 ≤ pl ∧ pl ≤ 24) {n : Nat} (hn : P 1 = (n : Int)) : sX10_whoPicksIf a0 p s cell mo pl M = some (pkN s (P 5) (moQ P mo pl) (qkP P) cell n).1 := by
  obtain ⟨⟨v1, v2, v3, v4, v5, v6, v7, v8, v9, v10, v11, v12, -⟩, -, -, -, -, w5, w6, -⟩ := hv
  obtain ⟨⟨c1, c2, -, -, -, c6, -⟩, -, -, -, d4, d5, -⟩ := hc
  obtain ⟨-, -, -, -, -, g7, g8, -⟩ := hg
  have hQ : ∀ c, c < 8 → 0 ≤ moQ P mo pl c ∧ moQ P mo pl c ≤ 24 := fun c hc => by
    have := w6 c hc
    unfold moQ spP
    split <;> omega
  unfold sX10_whoPicksIf sX10_whoPicksIf_b0
  refine loopC (fun f x (t : Int × Int) => sX10_whoPicksIf_b9 a0 p s cell mo pl M f t.1 t.2 x) n (fun c t => t = pkN s (P 5) (moQ P mo pl) (qkP P) cell c) (fun o => o = some (pkN s (P 5) (moQ P mo pl) (qkP P) cell n).1) ?_ ?_ FU 0 (-1, 0) (by omega) rfl (by unfold FU; omega)
  · intro f t ht
    show sX10_whoPicksIf_b9 a0 p s cell mo pl M (f + 1) t.1 t.2 (n : Int) = _
    rw [sX10_whoPicksIf_b9, c2, hn, if_pos (Int.le_refl _), ht]
  · intro f c t hcn ht
    right
    have hpi := pk_i s (P 5) (moQ P mo pl) (qkP P) cell c
    rw [← ht] at hpi
    have e : pkN s (P 5) (moQ P mo pl) (qkP P) cell (c + 1) = pkS s (P 5) (moQ P mo pl) (qkP P) cell c t := by rw [ht]; rfl
    refine ⟨pkS s (P 5) (moQ P mo pl) (qkP P) cell c t, ?_, e.symm⟩
    obtain ⟨b, st⟩ := t
    simp only at hpi
    have hwb := wY_b (s := s) (bd := P 5) (Q := moQ P mo pl) (cell := cell) (c := c) ⟨by omega, by omega⟩ (hQ c (by omega)) hcell
    have hq := w5 c (by omega)
    have key : sX10_whoPicksIf_b37 a0 p s cell mo pl M (fun x6 x7 x8 => sX10_whoPicksIf_b9 a0 p s cell mo pl M f x6 x7 x8) b st (c : Int) (moQ P mo pl c) = sX10_whoPicksIf_b9 a0 p s cell mo pl M f (pkS s (P 5) (moQ P mo pl) (qkP P) cell c (b, st)).1 (pkS s (P 5) (moQ P mo pl) (qkP P) cell c (b, st)).2 ((c : Int) + 1) := by
      have hst : 0 ≤ st ∧ st ≤ 13 ∨ b = -1 := by
        rcases hpi with ⟨-, h⟩ | ⟨h1, h2, h3⟩
        · exact Or.inr h
        · left
          rw [h3]
          exact wY_b ⟨by omega, by omega⟩ (hQ _ (by omega)) hcell
      have key2 : sX10_whoPicksIf_b62 a0 p s cell mo pl M (fun x6 x7 x8 => sX10_whoPicksIf_b9 a0 p s cell mo pl M f x6 x7 x8) b st (c : Int) (wY s (P 5) (moQ P mo pl) cell c) = sX10_whoPicksIf_b9 a0 p s cell mo pl M f (pkS s (P 5) (moQ P mo pl) (qkP P) cell c (b, st)).1 (pkS s (P 5) (moQ P mo pl) (qkP P) cell c (b, st)).2 ((c : Int) + 1) := by
        have p1 : (b = -1 ∨ wY s (P 5) (moQ P mo pl) cell c < st ∨ (wY s (P 5) (moQ P mo pl) cell c = st ∧ P (31 + 13 * b.toNat) < P (31 + 13 * c))) → pkS s (P 5) (moQ P mo pl) (qkP P) cell c (b, st) = ((c : Int), wY s (P 5) (moQ P mo pl) cell c) := fun q => if_pos q
        have p2 : ¬ (b = -1 ∨ wY s (P 5) (moQ P mo pl) cell c < st ∨ (wY s (P 5) (moQ P mo pl) cell c = st ∧ P (31 + 13 * b.toNat) < P (31 + 13 * c))) → pkS s (P 5) (moQ P mo pl) (qkP P) cell c (b, st) = (b, st) := fun q => if_neg q
        unfold sX10_whoPicksIf_b62 sX10_whoPicksIf_b99 sX10_whoPicksIf_b107
        simp only [ob_s]
        by_cases z1 : b = -1
        · rw [p1 (Or.inl z1), if_pos (show wI b = -1 by rw [z1]; exact wI_m1)]
        · obtain ⟨h1, h2, h3⟩ : 0 ≤ b ∧ b < (c : Int) ∧ st = _ := by
            rcases hpi with ⟨-, h⟩ | h
            · exact absurd h z1
            · exact h
          have hst' : 0 ≤ st ∧ st ≤ 13 := by omega
          have hqb := w5 b.toNat (by omega)
          rw [wI_of (x := b) (by omega) (by omega), if_neg z1, wI_of (x := wY s (P 5) (moQ P mo pl) cell c) (by omega) (by omega), wI_of (x := st) (by omega) (by omega), wI_of (x := (c : Int)) (by omega) (by omega), tN, if_pos (show 0 ≤ (c : Int) ∧ (c : Int) < 8 by omega), if_pos (show 0 ≤ b ∧ b < 8 by omega), g7, (d4 c (by omega)).2.2.2, (d4 b.toNat (by omega)).2.2.2, wI_of (x := P (31 + 13 * c)) (by omega) (by omega), wI_of (x := P (31 + 13 * b.toNat)) (by omega) (by omega)]
          by_cases z2 : wY s (P 5) (moQ P mo pl) cell c < st
          · rw [if_pos z2, p1 (Or.inr (Or.inl z2))]
          · rw [if_neg z2]
            by_cases z3 : wY s (P 5) (moQ P mo pl) cell c = st
            · rw [if_pos z3]
              by_cases z4 : P (31 + 13 * c) ≤ P (31 + 13 * b.toNat)
              · rw [if_pos z4, p2 (by omega)]
              · rw [if_neg z4, p1 (Or.inr (Or.inr ⟨z3, by omega⟩))]
            · rw [if_neg z3, p2 (by omega)]
      unfold sX10_whoPicksIf_b37
      rw [(st_e (hQ c (by omega)) hcell).1, ob_s, wI_of (x := (c : Int)) (by omega) (by omega), wI_of rs.1 rs.2, (st_e (a := 12) ⟨by omega, by omega⟩ hcell).1, ob_s, c6]
      unfold wY at key2
      by_cases z : (c : Int) = s
      · rw [if_pos z]
        simp only [if_pos z] at key2
        exact key2
      · rw [if_neg z]
        simp only [if_neg z] at key2
        exact key2
    show sX10_whoPicksIf_b9 a0 p s cell mo pl M (f + 1) b st (c : Int) = _
    rw [sX10_whoPicksIf_b9, c2, hn, wI_of (x := (n : Int)) (by omega) (by omega), wI_of (x := (c : Int)) (by omega) (by omega), if_neg (by omega), wI_of rm.1 rm.2, if_pos (show 0 ≤ (c : Int) ∧ (c : Int) < 8 by omega), tN, g8, d5 c (by omega)]
    unfold moQ spP at key
    by_cases z : (c : Int) = mo
    · rw [if_pos z]
      simp only [if_pos z] at key
      exact key
    · rw [if_neg z]
      simp only [if_neg z] at key
      exact key
