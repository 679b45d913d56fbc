/-- the reference's yard: party k in hand, the striker, where they stand -/
def YB (M : MM) (k : Nat) (s : Int) (Q : Nat → Int) : Prop := HD M k ∧ M 359 58 = s ∧ ∀ c : Nat, (c : Int) < pP M k 1 → M 384 c = Q c
theorem wayB {M : MM} {k : Nat} {s : Int} {Q : Nat → Int} (h : YB M k s Q) (hv : PV (pP M k)) (rs : R32 s) {cell : Int} {c : Nat} (hc : (c : Int) < pP M k 1) : sX12_wayTo 359 (c : Int) cell M = some (wY s (pP M k 5) Q cell c) := by
  obtain ⟨hd, h58, hQ⟩ := h
  obtain ⟨⟨v1, v2, v3, v4, -⟩, -⟩ := hv
  unfold sX12_wayTo sX12_wayTo_b0 wY
  rw [h58, wI_of (x := (c : Int)) (by omega) (by omega), wI_of rs.1 rs.2, of_e hd ⟨by omega, by omega⟩, ob_s, if_pos (show 0 ≤ (c : Int) ∧ (c : Int) < 8 by omega), tN, g359_59, hQ c hc, show (5 : Int).toNat = 5 from rfl]
  by_cases z : (c : Int) = s
  · rw [if_pos z, if_pos z]
  · rw [if_neg z, if_neg z]
theorem pickB {M : MM} {k : Nat} {s : Int} {Q : Nat → Int} (h : YB M k s Q) (hv : PV (pP M k)) (rs : R32 s) (hQ : ∀ c : Nat, (c : Int) < pP M k 1 → 0 ≤ Q c ∧ Q c ≤ 24) {cell : Int} (hcell : 0 ≤ cell ∧ cell ≤ 24) {n : Nat} (hn : pP M k 1 = (n : Int)) : sX12_picks 359 cell M = some (pkN s (pP M k 5) Q (qkP (pP M k)) cell n).1 := by
  have hv0 := hv
  obtain ⟨⟨v1, v2, v3, v4, v5, v6, v7, v8, v9, v10, v11, v12, -⟩, -, -, -, -, w5, -⟩ := hv
  have h26 := h.1.2.2.2.1
  unfold sX12_picks sX12_picks_b0
  refine loopC (fun f x (t : Int) => sX12_picks_b4 359 cell M f t x) n (fun c t => 0 < c ∧ t = (pkN s (pP M k 5) Q (qkP (pP M k)) cell c).1) (fun o => o = some (pkN s (pP M k 5) Q (qkP (pP M k)) cell n).1) ?_ ?_ FU 1 0 (by omega) ⟨by omega, ?_⟩ (by unfold FU; omega)
  · intro f t ht
    show sX12_picks_b4 359 cell M (f + 1) t (n : Int) = _
    rw [sX12_picks_b4, h26, hn, if_pos (Int.le_refl _), ht.2]
  · intro f c t hcn ht
    right
    obtain ⟨hc0, ht⟩ := ht
    have hpi := pk_i s (pP M k 5) Q (qkP (pP M k)) cell c
    have e : (pkN s (pP M k 5) Q (qkP (pP M k)) cell (c + 1)).1 = (pkS s (pP M k 5) Q (qkP (pP M k)) cell c (pkN s (pP M k 5) Q (qkP (pP M k)) cell c)).1 := rfl
    refine ⟨(pkN s (pP M k 5) Q (qkP (pP M k)) cell (c + 1)).1, ?_, by omega, rfl⟩
    obtain ⟨b, st, hb⟩ : ∃ b st, pkN s (pP M k 5) Q (qkP (pP M k)) cell c = (b, st) := ⟨_, _, rfl⟩
    rw [e, hb]
    rw [hb] at hpi ht
    simp only at hpi ht
    subst ht
    rcases hpi with ⟨h', -⟩ | ⟨h1, h2, h3⟩
    · omega
    obtain ⟨j, rfl⟩ := Int.eq_ofNat_of_zero_le h1
    rw [tN] at h3
    have b1 := wY_b (s := s) (bd := pP M k 5) (Q := Q) (cell := cell) (c := c) ⟨by omega, by omega⟩ (hQ c (by omega)) hcell
    have b2 := wY_b (s := s) (bd := pP M k 5) (Q := Q) (cell := cell) (c := j) ⟨by omega, by omega⟩ (hQ j (by omega)) hcell
    have q1 := w5 c (by omega)
    have q2 := w5 j (by omega)
    show sX12_picks_b4 359 cell M (f + 1) (j : Int) (c : Int) = sX12_picks_b4 359 cell M f _ _
    rw [sX12_picks_b4, h26, hn, wI_of (x := (n : Int)) (by omega) (by omega), wI_of (x := (c : Int)) (by omega) (by omega), if_neg (by omega), wayB h hv0 rs (by omega), ob_s, wayB h hv0 rs (by omega), ob_s, ofC_e h.1 ⟨by omega, by omega⟩ ⟨by omega, by omega⟩, ob_s, ofC_e h.1 ⟨by omega, by omega⟩ ⟨by omega, by omega⟩, ob_s, wI_of (x := _ - _) (by omega) (by omega), show (28 + 13 * (c : Int) + 3).toNat = 31 + 13 * c by omega, show (28 + 13 * (j : Int) + 3).toNat = 31 + 13 * j by omega, wI_of (x := pP M k (31 + 13 * c)) (by omega) (by omega), wI_of (x := pP M k (31 + 13 * j)) (by omega) (by omega)]
    have p1 : ((j : Int) = -1 ∨ wY s (pP M k 5) Q cell c < st ∨ (wY s (pP M k 5) Q cell c = st ∧ pP M k (31 + 13 * j) < pP M k (31 + 13 * c))) → pkS s (pP M k 5) Q (qkP (pP M k)) cell c ((j : Int), st) = ((c : Int), wY s (pP M k 5) Q cell c) := fun q => if_pos q
    have p2 : ¬ ((j : Int) = -1 ∨ wY s (pP M k 5) Q cell c < st ∨ (wY s (pP M k 5) Q cell c = st ∧ pP M k (31 + 13 * j) < pP M k (31 + 13 * c))) → pkS s (pP M k 5) Q (qkP (pP M k)) cell c ((j : Int), st) = ((j : Int), st) := fun q => if_neg q
    unfold sX12_picks_b52 sX12_picks_b56 sX12_picks_b57
    simp only [ob_s]
    by_cases z1 : wY s (pP M k 5) Q cell c - wY s (pP M k 5) Q cell j < 0
    · rw [if_pos z1, p1 (Or.inr (Or.inl (by omega)))]
    · rw [if_neg z1]
      by_cases z2 : wY s (pP M k 5) Q cell c - wY s (pP M k 5) Q cell j = 0
      · rw [if_pos z2]
        by_cases z3 : pP M k (31 + 13 * c) ≤ pP M k (31 + 13 * j)
        · rw [if_pos z3, p2 (by omega)]
        · rw [if_neg z3, p1 (Or.inr (Or.inr ⟨by omega, by omega⟩))]
      · rw [if_neg z2, p2 (by omega)]
  · show (0 : Int) = (pkS s (pP M k 5) Q (qkP (pP M k)) cell 0 (-1, 0)).1
    unfold pkS
    rw [if_pos (Or.inl rfl)]
    rfl
/-- the weight of a cell -/
def wtP (P : Nat → Int) (cell : Int) : Int := P (15 + (sX12_ringOf cell).toNat)
theorem wt_b {P : Nat → Int} (hv : PV P) {cell : Int} (hc : 0 ≤ cell ∧ cell ≤ 24) : 0 ≤ wtP P cell ∧ wtP P cell ≤ 9 := by
  have := rg_e hc
  exact hv.2.2.1 _ (by omega)
theorem wtA {M : MM} {p : Nat} {P : Nat → Int} (hc : PC M p P) (hg : PG p) {cell : Int} (hcell : 0 ≤ cell ∧ cell ≤ 24) : sX5_weightOf p cell M = some (wtP P cell) := by
  have h := rg_e hcell
  unfold sX5_weightOf sX5_weightOf_b0 wtP
  rw [h.1, ob_s, wI_of (x := sX12_ringOf cell) (by omega) (by omega), if_neg (by omega), if_neg (by omega), if_pos (by omega), hg.2.2.2.2.2.2.2.2.2, hc.2.2.1 _ (by omega)]
theorem wtB {M : MM} {k : Nat} (h : HD M k) {cell : Int} (hcell : 0 ≤ cell ∧ cell ≤ 24) : sX12_weightOf 359 cell M = some (wtP (pP M k) cell) := by
  have hr := rg_e hcell
  unfold sX12_weightOf sX12_weightOf_b0 wtP
  rw [of_e h ⟨by omega, by omega⟩, ob_s, show (15 + sX12_ringOf cell).toNat = 15 + (sX12_ringOf cell).toNat by omega]
def alP (P : Nat → Int) : Int := sm (fun c => wtP P (c : Int)) 25
theorem al_b {P : Nat → Int} (hv : PV P) : 0 ≤ alP P ∧ alP P ≤ 225 := by
  have := sm_b (f := fun c => wtP P (c : Int)) (n := 25) (B := 9) (fun c hc => wt_b hv ⟨by omega, by omega⟩)
  unfold alP
  omega
theorem sm_bk {f : Nat → Int} {n k : Nat} {B : Int} (hB : 0 ≤ B) (h : ∀ k, k < n → 0 ≤ f k ∧ f k ≤ B) (hk : k ≤ n) : 0 ≤ sm f k ∧ sm f k ≤ B * (k : Int) := sm_b (fun j hj => h j (by omega))
theorem alA {M : MM} {p : Nat} {P : Nat → Int} (hc : PC M p P) (hg : PG p) (a0 : Nat) : sX10_weightOfAll a0 p M = some (alP P) := by
  unfold sX10_weightOfAll sX10_weightOfAll_b0
  refine loopC (fun f x (t : Int) => sX10_weightOfAll_b4 a0 p M f t x) 25 (fun c t => t = sm (fun c => wtP P (c : Int)) c) (fun o => o = some (alP P)) ?_ ?_ FU 0 0 (by omega) rfl (by unfold FU; omega)
  · intro f t ht
    show sX10_weightOfAll_b4 a0 p M (f + 1) t ((25 : Nat) : Int) = _
    rw [sX10_weightOfAll_b4, wI_of (by omega) (by omega), if_pos (by omega), ht]; rfl
  · intro f c t hcn ht
    right
    refine ⟨t + wtP P (c : Int), ?_, by rw [ht, sm_s]⟩
    show sX10_weightOfAll_b4 a0 p M (f + 1) t (c : Int) = _
    rw [sX10_weightOfAll_b4, wI_of (by omega) (by omega), if_neg (by omega), wtA hc hg ⟨by omega, by omega⟩, ob_s, ob_s]
theorem alB {M : MM} {k : Nat} (h : HD M k) : sX12_allCells 359 M = some (alP (pP M k)) := by
  unfold sX12_allCells sX12_allCells_b0
  refine loopC (fun f x (t : Int) => sX12_allCells_b4 359 M f t x) 25 (fun c t => t = sm (fun c => wtP (pP M k) (c : Int)) c) (fun o => o = some (alP (pP M k))) ?_ ?_ FU 0 0 (by omega) rfl (by unfold FU; omega)
  · intro f t ht
    show sX12_allCells_b4 359 M (f + 1) t ((25 : Nat) : Int) = _
    rw [sX12_allCells_b4, wI_of (by omega) (by omega), if_pos (by omega), ht]; rfl
  · intro f c t hcn ht
    right
    refine ⟨t + wtP (pP M k) (c : Int), ?_, by rw [ht, sm_s]⟩
    show sX12_allCells_b4 359 M (f + 1) t (c : Int) = _
    rw [sX12_allCells_b4, wI_of (by omega) (by omega), if_neg (by omega), wtB h ⟨by omega, by omega⟩, ob_s, ob_s]
/-- what a child's share weighs -/
def shP (P : Nat → Int) (s : Int) (Q : Nat → Int) (n : Nat) (c : Int) : Int := sm (fun j => if (pkN s (P 5) Q (qkP P) (j : Int) n).1 = c then wtP P (j : Int) else 0) 25
theorem shP_b {P : Nat → Int} (hv : PV P) (s : Int) (Q : Nat → Int) (n : Nat) (c : Int) : 0 ≤ shP P s Q n c ∧ shP P s Q n c ≤ 225 := by
  have := sm_b (f := fun j => if (pkN s (P 5) Q (qkP P) (j : Int) n).1 = c then wtP P (j : Int) else 0) (n := 25) (B := 9) (fun j hj => by
    have := wt_b hv (cell := (j : Int)) ⟨by omega, by omega⟩
    show 0 ≤ (if _ then wtP P (j : Int) else 0) ∧ (if _ then wtP P (j : Int) else 0) ≤ 9
    split <;> omega)
  unfold shP
  omega
theorem shareA {M : MM} {p : Nat} {P : Nat → Int} (hc : PC M p P) (hv : PV P) (hg : PG p) (a0 : Nat) {s c mo pl : Int} (rs : R32 s) (rc : R32 c) (rm : R32 mo) (hpl : 0 ≤ pl ∧ pl ≤ 24) {n : Nat} (hn : P 1 = (n : Int)) : sX10_shareIf a0 p s c mo pl M = some (shP P s (moQ P mo pl) n c) := by
  have hn1 : 0 < n := by have := hv.1; omega
  have hn8 : n ≤ 8 := by have := hv.1; omega
  unfold sX10_shareIf sX10_shareIf_b0
  refine loopC (fun f x (t : Int) => sX10_shareIf_b6 a0 p s c mo pl M f t x) 25 (fun j t => t = sm (fun j => if (pkN s (P 5) (moQ P mo pl) (qkP P) (j : Int) n).1 = c then wtP P (j : Int) else 0) j) (fun o => o = some (shP P s (moQ P mo pl) n c)) ?_ ?_ FU 0 0 (by omega) rfl (by unfold FU; omega)
  · intro f t ht
    show sX10_shareIf_b6 a0 p s c mo pl M (f + 1) t ((25 : Nat) : Int) = _
    rw [sX10_shareIf_b6, wI_of (by omega) (by omega), if_pos (by omega), ht]; rfl
  · intro f j t hj ht
    right
    have hp := pk_r (s := s) (bd := P 5) (Q := moQ P mo pl) (qk := qkP P) (cell := (j : Int)) hn1
    refine ⟨t + (if (pkN s (P 5) (moQ P mo pl) (qkP P) (j : Int) n).1 = c then wtP P (j : Int) else 0), ?_, by rw [ht, sm_s]⟩
    show sX10_shareIf_b6 a0 p s c mo pl M (f + 1) t (j : Int) = _
    rw [sX10_shareIf_b6, wI_of (x := (j : Int)) (by omega) (by omega), if_neg (by omega), pickA hc hv hg a0 rs ⟨by omega, by omega⟩ rm hpl hn, ob_s, wI_of (x := (pkN s (P 5) (moQ P mo pl) (qkP P) (j : Int) n).1) (by omega) (by omega), wI_of rc.1 rc.2, wtA hc hg ⟨by omega, by omega⟩, ob_s]
    unfold sX10_shareIf_b40
    rw [ob_s, ob_s]
    by_cases z : (pkN s (P 5) (moQ P mo pl) (qkP P) (j : Int) n).1 = c
    · rw [if_pos z, if_pos z]
    · rw [if_neg z, if_neg z, Int.add_zero]
theorem shareB {M : MM} {k : Nat} {s : Int} {Q : Nat → Int} (h : YB M k s Q) (hv : PV (pP M k)) (rs : R32 s) (hQ : ∀ c : Nat, (c : Int) < pP M k 1 → 0 ≤ Q c ∧ Q c ≤ 24) {c : Int} (rc : R32 c) {n : Nat} (hn : pP M k 1 = (n : Int)) : sX12_shareOf 359 c M = some (shP (pP M k) s Q n c) := by
  have hn1 : 0 < n := by have := hv.1; omega
  have hn8 : n ≤ 8 := by have := hv.1; omega
  unfold sX12_shareOf sX12_shareOf_b0
  refine loopC (fun f x (t : Int) => sX12_shareOf_b4 359 c M f t x) 25 (fun j t => t = sm (fun j => if (pkN s (pP M k 5) Q (qkP (pP M k)) (j : Int) n).1 = c then wtP (pP M k) (j : Int) else 0) j) (fun o => o = some (shP (pP M k) s Q n c)) ?_ ?_ FU 0 0 (by omega) rfl (by unfold FU; omega)
  · intro f t ht
    show sX12_shareOf_b4 359 c M (f + 1) t ((25 : Nat) : Int) = _
    rw [sX12_shareOf_b4, wI_of (by omega) (by omega), if_pos (by omega), ht]; rfl
  · intro f j t hj ht
    right
    have hp := pk_r (s := s) (bd := pP M k 5) (Q := Q) (qk := qkP (pP M k)) (cell := (j : Int)) hn1
    refine ⟨t + (if (pkN s (pP M k 5) Q (qkP (pP M k)) (j : Int) n).1 = c then wtP (pP M k) (j : Int) else 0), ?_, by rw [ht, sm_s]⟩
    show sX12_shareOf_b4 359 c M (f + 1) t (j : Int) = _
    rw [sX12_shareOf_b4, wI_of (x := (j : Int)) (by omega) (by omega), if_neg (by omega), pickB h hv rs hQ ⟨by omega, by omega⟩ hn, ob_s, wI_of (x := (pkN s (pP M k 5) Q (qkP (pP M k)) (j : Int) n).1) (by omega) (by omega), wI_of rc.1 rc.2, wtB h.1 ⟨by omega, by omega⟩, ob_s]
    unfold sX12_shareOf_b29
    rw [ob_s, ob_s]
    by_cases z : (pkN s (pP M k 5) Q (qkP (pP M k)) (j : Int) n).1 = c
    · rw [if_pos z, if_pos z]
    · rw [if_neg z, if_neg z]
/-- the reference lays a striker -/
theorem lay_t {M : MM} (h0 : 0 ≤ M 364 0 ∧ M 364 0 ≤ 2) {k : Nat} (hk : (k : Int) < M 364 0) (hv : PV (pP M k)) {s : Int} (rs : R32 s) (hs : s = -1 ∨ (0 ≤ s ∧ s < pP M k 1)) : ∃ N, sX12_layStriker 359 (k : Int) s M = some (1, N) ∧ (∀ a, a ≠ 359 → a ≠ 384 → N a = M a) ∧ (∀ j, j < 24 ∨ 28 < j → j ≠ 58 → N 359 j = M 359 j) ∧ YB N k s (spP (pP M k)) := by
  obtain ⟨M1, e1, f1, hd1⟩ := hand_t h0 hk
  have ep : pP M1 k = pP M k := pP_c (f1.1 365 (by omega)) k
  obtain ⟨⟨v1, v2, v3, v4, -⟩, -, -, -, -, -, w6, -⟩ := hv
  obtain ⟨n, hn⟩ := Int.eq_ofNat_of_zero_le (show 0 ≤ pP M k 1 by omega)
  have h26 := hd1.2.2.2.1
  rw [ep] at h26
  have hb : ∃ N, sX12_layStriker_b23 359 (k : Int) s M1 = some (1, N) ∧ (∀ a, a ≠ 359 → a ≠ 384 → N a = M1 a) ∧ (∀ j, j ≠ 58 → N 359 j = M1 359 j) ∧ N 359 58 = s ∧ ∀ c : Nat, c < n → N 384 c = spP (pP M k) c := by
    unfold sX12_layStriker_b23
    rw [ob_s]
    refine loopC (fun f x (t : MM) => sX12_layStriker_b30 359 (k : Int) s f x t) n (fun j t => (∀ a, a ≠ 359 → a ≠ 384 → t a = M1 a) ∧ (∀ j, j ≠ 58 → t 359 j = M1 359 j) ∧ t 359 58 = s ∧ ∀ c : Nat, c < j → t 384 c = spP (pP M k) c) (fun o => ∃ N, o = some (1, N) ∧ (∀ a, a ≠ 359 → a ≠ 384 → N a = M1 a) ∧ (∀ j, j ≠ 58 → N 359 j = M1 359 j) ∧ N 359 58 = s ∧ ∀ c : Nat, c < n → N 384 c = spP (pP M k) c) ?_ ?_ FU 0 _ (by omega) ⟨fun a ha _ => mU_row _ _ ha, fun j hj => mU_ne _ _ (by omega), mU_eq _ _ _ _, fun c hc => by omega⟩ (by unfold FU; omega)
    · intro f t ht
      show ∃ N, sX12_layStriker_b30 359 (k : Int) s (f + 1) (n : Int) t = _ ∧ _
      rw [sX12_layStriker_b30, ht.2.1 26 (by omega), h26, hn, if_pos (Int.le_refl _)]
      exact ⟨t, rfl, ht⟩
    · intro f j t hj ht
      right
      obtain ⟨t1, t2, t3, t4⟩ := ht
      have hd : HD t k := HD_c hd1 (t1 365 (by omega) (by omega)) (fun j a b => t2 j (by omega))
      have ept : pP t k = pP M k := (pP_c (t1 365 (by omega) (by omega)) k).trans ep
      refine ⟨mU t 384 j (spP (pP M k) j), ?_, fun a ha hb => ?_, fun i hi => ?_, ?_, fun c hc => ?_⟩
      · show sX12_layStriker_b30 359 (k : Int) s (f + 1) (j : Int) t = _
        rw [sX12_layStriker_b30, t2 26 (by omega), h26, hn, wI_of (x := (n : Int)) (by omega) (by omega), wI_of (x := (j : Int)) (by omega) (by omega), if_neg (by omega), ofC_e hd ⟨by omega, by omega⟩ ⟨by omega, by omega⟩, ob_s, if_pos (by omega), ob_s, ob_s, g359_59, tN, ept, show (28 + 13 * (j : Int) + 4).toNat = 32 + 13 * j by omega]
        rfl
      · rw [mU_row _ _ hb]; exact t1 a ha hb
      · rw [mU_row _ _ (by omega)]; exact t2 i hi
      · rw [mU_row _ _ (by omega)]; exact t3
      · by_cases hcj : c = j
        · subst hcj; rw [mU_eq]
        · rw [mU_ne _ _ (by omega)]; exact t4 c (by omega)
  obtain ⟨N, e, n1, n2, n3, n4⟩ := hb
  have epN : pP N k = pP M k := (pP_c (n1 365 (by omega) (by omega)) k).trans ep
  refine ⟨N, ?_, fun a ha hb => (n1 a ha hb).trans (f1.1 a ha), fun j hj hj' => (n2 j hj').trans (f1.2 j hj), HD_c hd1 (n1 365 (by omega) (by omega)) (fun j a b => n2 j (by omega)), n3, fun c hc => n4 c (by rw [epN, hn] at hc; omega)⟩
  unfold sX12_layStriker sX12_layStriker_b0
  rw [e1, ob_s]
  show (if wI 1 = 0 then _ else _) = _
  rw [i10, wI_of rs.1 rs.2, chi_e h26 ⟨by omega, by omega⟩ rs, ob_s]
  by_cases z : s = -1
  · rw [if_pos z]; exact e
  · rw [if_neg z, if_pos (show 0 ≤ s ∧ s < pP M k 1 by omega), wI_1, i1z]; exact e
theorem lay_f {M : MM} (h0 : 0 ≤ M 364 0 ∧ M 364 0 ≤ 2) {x s : Int} (r : R32 x) (rs : R32 s) (hx : ∀ k : Nat, (k : Int) < M 364 0 → PV (pP M k)) (h : ¬ ∃ k : Nat, x = (k : Int) ∧ (k : Int) < M 364 0 ∧ (s = -1 ∨ (0 ≤ s ∧ s < pP M k 1))) : ∃ N, sX12_layStriker 359 x s M = some (0, N) ∧ (∀ a, a ≠ 359 → N a = M a) ∧ (∀ j, j < 24 ∨ 28 < j → N 359 j = M 359 j) := by
  unfold sX12_layStriker sX12_layStriker_b0
  by_cases hk : 0 ≤ x ∧ x < M 364 0
  · obtain ⟨k, rfl⟩ := Int.eq_ofNat_of_zero_le hk.1
    obtain ⟨M1, e1, f1, hd1⟩ := hand_t h0 hk.2
    have ep : pP M1 k = pP M k := pP_c (f1.1 365 (by omega)) k
    have h26 := hd1.2.2.2.1
    rw [ep] at h26
    have hv1 := (hx k hk.2).1
    rw [e1, ob_s]
    show ∃ N, (if wI 1 = 0 then _ else _) = _ ∧ _
    have hs : ¬ (s = -1 ∨ (0 ≤ s ∧ s < pP M k 1)) := fun q => h ⟨k, rfl, hk.2, q⟩
    rw [wI_1, i1z, wI_of rs.1 rs.2, if_neg (show ¬ s = -1 by omega), chi_e h26 ⟨by omega, by omega⟩ rs, ob_s, if_neg (show ¬ (0 ≤ s ∧ s < pP M k 1) by omega), i00]
    exact ⟨M1, rfl, f1.1, f1.2⟩
  · rw [hand_f h0 r hk, ob_s]
    exact ⟨M, rfl, fun _ _ => rfl, fun _ _ => rfl⟩
