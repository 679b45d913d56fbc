theorem ch_b {h fc : Int} (hf : 0 ≤ fc) : ∀ (m : Nat) (t : Int × Int × Int × Int), (0 ≤ t.2.2.1 ∧ t.2.2.1 ≤ 30 ∧ 0 ≤ t.2.2.2 ∧ t.2.2.2 ≤ 1) → ((chN h fc m t).1 = 0 ∨ (chN h fc m t).1 = 1) ∧ 0 ≤ (chN h fc m t).2.2.2 ∧ (chN h fc m t).2.2.2 ≤ 30 := by
  intro m
  induction m with
  | zero => intro t ht; exact ⟨Or.inl rfl, ht.1, ht.2.1⟩
  | succ m ih =>
    intro t ht
    have hb := bw_b (h := h) (fc := fc) (t := t) hf ht
    unfold chN
    by_cases z : (bwS h fc t).2.2.1 = 0
    · rw [if_pos z]; exact ⟨Or.inr rfl, hb.1, hb.2.1⟩
    · rw [if_neg z]; exact ih _ hb
/-- all children one behind the other: who burst it, seed, blows, strength -/
def alN (P : Nat → Int) (nb : Nat) : Nat → Nat → Int × Int × Int → Int × Int × Int × Int
  | 0, _, t => (-1, t)
  | m + 1, c, t => if (chN (P (30 + 13 * c)) (P (29 + 13 * c)) nb (t.1, t.2.1, t.2.2, if P (28 + 13 * c) < P 3 then 0 else 1)).1 = 1 then ((c : Int), (chN (P (30 + 13 * c)) (P (29 + 13 * c)) nb (t.1, t.2.1, t.2.2, if P (28 + 13 * c) < P 3 then 0 else 1)).2) else alN P nb m (c + 1) (chN (P (30 + 13 * c)) (P (29 + 13 * c)) nb (t.1, t.2.1, t.2.2, if P (28 + 13 * c) < P 3 then 0 else 1)).2
theorem al_i {P : Nat → Int} {nb n : Nat} : ∀ (m c : Nat) (t : Int × Int × Int), c + m = n → (alN P nb m c t).1 = -1 ∨ (0 ≤ (alN P nb m c t).1 ∧ (alN P nb m c t).1 < (n : Int)) := by
  intro m
  induction m with
  | zero => intro c t _; exact Or.inl rfl
  | succ m ih =>
    intro c t h
    unfold alN
    generalize chN (P (30 + 13 * c)) (P (29 + 13 * c)) nb (t.1, t.2.1, t.2.2, if P (28 + 13 * c) < P 3 then 0 else 1) = r
    by_cases q : r.1 = 1
    · rw [if_pos q]; right; exact ⟨by show (0 : Int) ≤ (c : Int); omega, by show (c : Int) < (n : Int); omega⟩
    · rw [if_neg q]; exact ih (c + 1) _ (by omega)
/-- the cell on which a number falls -/
def FCK (P : Nat → Int) (x : Int) (k : Nat) : Prop := k < 25 ∧ (∀ j, j < k → sm (fun c => wtP P (c : Int)) (j + 1) ≤ x) ∧ x < sm (fun c => wtP P (c : Int)) (k + 1)
theorem fck_e {P : Nat → Int} {x : Int} (h : x < alP P) (h0 : 0 ≤ x) : ∃ k, FCK P x k := by
  have key : ∀ n, n ≤ 25 → (∃ k, FCK P x k) ∨ ∀ j, j < n → sm (fun c => wtP P (c : Int)) (j + 1) ≤ x := by
    intro n
    induction n with
    | zero => intro _; right; intro j hj; omega
    | succ n ih =>
      intro hn
      rcases ih (by omega) with h1 | h1
      · exact Or.inl h1
      · by_cases q : sm (fun c => wtP P (c : Int)) (n + 1) ≤ x
        · right
          intro j hj
          by_cases e : j = n
          · subst e; exact q
          · exact h1 j (by omega)
        · exact Or.inl ⟨n, by omega, h1, by omega⟩
  rcases key 25 (Nat.le_refl 25) with h1 | h1
  · exact h1
  · have h2 : alP P ≤ x := h1 24 (by omega)
    omega
theorem fallA {M : MM} {p : Nat} {P : Nat → Int} (hc : PC M p P) (hv : PV P) (hg : PG p) {x : Int} (hx : 0 ≤ x ∧ x < 225) {k : Nat} (hk : FCK P x k) : sX0_fallsOn p x M = some (k : Int) := by
  unfold sX0_fallsOn sX0_fallsOn_b0
  refine loopC (fun f y (t : Int) => sX0_fallsOn_b4 p x M f t y) (k + 1) (fun j t => j ≤ k ∧ t = sm (fun c => wtP P (c : Int)) j) (fun o => o = some (k : Int)) ?_ ?_ FU 0 0 (by omega) ⟨by omega, rfl⟩ (by have := hk.1; unfold FU; omega)
  · intro f t ht; omega
  · intro f j t hj ht
    have hw := wt_b hv (cell := (j : Int)) ⟨by omega, by have := hk.1; omega⟩
    have hs := sm_b (f := fun c => wtP P (c : Int)) (n := j + 1) (B := 9) (fun c hc => wt_b hv ⟨by omega, by have := hk.1; omega⟩)
    have hj25 := hk.1
    have es := sm_s (fun c => wtP P (c : Int)) j
    rw [ht.2]
    show sX0_fallsOn_b4 p x M (f + 1) _ (j : Int) = _ ∨ ∃ s', sX0_fallsOn_b4 p x M (f + 1) _ (j : Int) = sX0_fallsOn_b4 p x M f s' ((j : Int) + 1) ∧ _
    rw [sX0_fallsOn_b4, wI_of (x := (j : Int)) (by omega) (by omega), if_neg (show ¬ 25 ≤ (j : Int) by omega), wtA hc hg ⟨by omega, by omega⟩, ob_s, ← es, wI_of (x := sm (fun c => wtP P (c : Int)) (j + 1)) (by omega) (by omega), wI_of (x := x) (by omega) (by omega), ob_s]
    by_cases z : j = k
    · left
      subst z
      rw [if_neg (by have := hk.2.2; omega)]
    · right
      rw [if_pos (hk.2.1 j (by omega))]
      exact ⟨_, rfl, by omega, rfl⟩
theorem cellB {M : MM} {i : Nat} (hd : HD M i) (hv : PV (pP M i)) {x : Int} (hx : 0 ≤ x ∧ x < 225) {k : Nat} (hk : FCK (pP M i) x k) : sX12_cellBy 359 x M = some (k : Int) := by
  unfold sX12_cellBy sX12_cellBy_b0
  rw [wtB hd (cell := 0) ⟨by omega, by omega⟩, ob_s]
  refine loopC (fun f y (t : Int) => sX12_cellBy_b8 359 x M f y t) (k + 1) (fun j t => j ≤ k ∧ t = sm (fun c => wtP (pP M i) (c : Int)) (j + 1)) (fun o => o = some (k : Int)) ?_ ?_ FU 0 _ (by omega) ⟨by omega, ?_⟩ (by have := hk.1; unfold FU; omega)
  · intro f t ht; omega
  · intro f j t hj ht
    have hs := sm_b (f := fun c => wtP (pP M i) (c : Int)) (n := j + 1) (B := 9) (fun c hc => wt_b hv ⟨by omega, by have := hk.1; omega⟩)
    have hj25 := hk.1
    rw [ht.2]
    show sX12_cellBy_b8 359 x M (f + 1) (j : Int) _ = _ ∨ ∃ s', sX12_cellBy_b8 359 x M (f + 1) (j : Int) _ = sX12_cellBy_b8 359 x M f ((j : Int) + 1) s' ∧ _
    rw [sX12_cellBy_b8, wI_of (x := sm (fun c => wtP (pP M i) (c : Int)) (j + 1)) (by omega) (by omega), wI_of (x := x) (by omega) (by omega), ob_s]
    by_cases z : j = k
    · left
      subst z
      rw [if_pos hk.2.2]
    · right
      have := hk.2.1 j (by omega)
      rw [if_neg (by omega), wtB hd ⟨by omega, by omega⟩, ob_s]
      exact ⟨_, rfl, by omega, (sm_s (fun c => wtP (pP M i) (c : Int)) (j + 1)).symm⟩
  · rw [sm_s, sm_0, Int.zero_add]; rfl
theorem bagsA (M : MM) : ∃ M', sX10_emptyBags 127 M = some M' ∧ (∀ a, a ≠ 128 → M' a = M a) ∧ ∀ c, c < 8 → M' 128 c = 0 := by
  unfold sX10_emptyBags sX10_emptyBags_b0
  refine loopC (fun f y (t : MM) => sX10_emptyBags_b2 127 f y t) 8 (fun j t => (∀ a, a ≠ 128 → t a = M a) ∧ ∀ c, c < j → t 128 c = 0) (fun o => ∃ M', o = some M' ∧ (∀ a, a ≠ 128 → M' a = M a) ∧ ∀ c, c < 8 → M' 128 c = 0) ?_ ?_ FU 0 M (by omega) ⟨fun _ _ => rfl, fun c hc => by omega⟩ (by unfold FU; omega)
  · intro f t ht
    show ∃ M', sX10_emptyBags_b2 127 (f + 1) ((8 : Nat) : Int) t = some M' ∧ _
    rw [sX10_emptyBags_b2, wI_of (by omega) (by omega), if_pos (by omega)]
    exact ⟨t, rfl, ht⟩
  · intro f j t hj ht
    right
    refine ⟨mU t 128 j 0, ?_, fun a ha => by rw [mU_row _ _ ha]; exact ht.1 a ha, fun c hc => ?_⟩
    · show sX10_emptyBags_b2 127 (f + 1) (j : Int) t = _
      rw [sX10_emptyBags_b2, wI_of (by omega) (by omega), if_neg (by omega), if_pos (by omega), ob_s, ob_s, g127_0, tN]
    · by_cases e : c = j
      · subst e; rw [mU_eq]
      · rw [mU_ne _ _ (by omega)]; exact ht.2 c (by omega)
theorem addA (M : MM) {c : Nat} (hc : c < 8) (x : Int) : sX10_addToBag 127 (c : Int) x M = some (mU M 128 c (M 128 c + x)) := by
  have hp : 0 ≤ (c : Int) ∧ (c : Int) < 8 := ⟨by omega, by omega⟩
  unfold sX10_addToBag sX10_addToBag_b0
  rw [wI_of (by omega) (by omega), if_neg (show ¬ (c : Int) < 0 by omega), if_neg (show ¬ 8 ≤ (c : Int) by omega), if_pos hp, if_pos hp, ob_s, g127_0, tN]
/-- sweets that fall: k more of them from seed x; what is in the bags changes alike -/
theorem sweets {M0 N0 : MM} {p k : Nat} {P : Nat → Int} (hc : PC M0 p P) (hv : PV P) (hg : PG p) (hp : p < 77) (hd : HD N0 k) (ep : pP N0 k = P) {n : Nat} (hn : P 1 = (n : Int)) {s : Int} (rs : R32 s) (hy : ∀ c : Nat, c < n → N0 384 c = spP P c) (hs : N0 359 58 = s) (hall : 0 < alP P) {x1 x2 x3 : Int} {sw : Nat} (hsw : P 4 = (sw : Int)) : ∀ m j : Nat, j + m = sw → ∀ f, m < f → ∀ (M N : MM) (x : Int), (∀ a, a ≠ 130 → a ≠ 128 → M a = M0 a) → M 130 1 = s → M 130 2 = M0 130 2 → M 130 3 = M0 130 3 → M 130 0 = x → (∀ a, a ≠ 359 → a ≠ 386 → N a = N0 a) → (∀ j, j ≠ 64 → N 359 j = N0 359 j) → N 359 64 = x → (∀ c, c < 8 → M 128 c = N 386 c) → ∃ M' N', sX0_passes_b72 130 p x1 127 f (alP P) (j : Int) M = some M' ∧ sX12_drawn_b138 359 x1 x2 x3 f (alP P) (j : Int) N = sX12_drawn_b182 359 x1 x2 x3 N' ∧ (∀ a, a ≠ 130 → a ≠ 128 → M' a = M0 a) ∧ M' 130 1 = s ∧ M' 130 2 = M0 130 2 ∧ M' 130 3 = M0 130 3 ∧ (∀ a, a ≠ 359 → a ≠ 386 → N' a = N0 a) ∧ (∀ j, j ≠ 64 → N' 359 j = N0 359 j) ∧ ∀ c, c < 8 → M' 128 c = N' 386 c := by
  have hv1 := hv.1
  have ab := al_b hv
  intro m
  induction m with
  | zero =>
    intro j hj f hf M N x fM b1 b2 b3 b0 fN c1 c0 hbg
    obtain ⟨f, rfl⟩ : ∃ g, f = g + 1 := ⟨f - 1, by omega⟩
    have hdN : HD N k := HD_c hd (fN 365 (by omega) (by omega)) (fun i a b => c1 i (by omega))
    have epN : pP N k = P := (pP_c (fN 365 (by omega) (by omega)) k).trans ep
    refine ⟨M, N, ?_, ?_, fM, b1, b2, b3, fN, c1, hbg⟩
    · rw [sX0_passes_b72, fM p (by omega) (by omega), hc.1.2.2.2.2.1, hsw, if_pos (show wI (sw : Int) ≤ wI (j : Int) by rw [show j = sw by omega]; exact Int.le_refl _)]
    · rw [sX12_drawn_b138, of_e hdN ⟨by omega, by omega⟩, ob_s, epN, show (4 : Int).toNat = 4 from rfl, hsw, if_pos (show wI (sw : Int) ≤ wI (j : Int) by rw [show j = sw by omega]; exact Int.le_refl _)]
  | succ m ih =>
    intro j hj f hf M N x fM b1 b2 b3 b0 fN c1 c0 hbg
    obtain ⟨f, rfl⟩ : ∃ g, f = g + 1 := ⟨f - 1, by omega⟩
    have hdN : HD N k := HD_c hd (fN 365 (by omega) (by omega)) (fun i a b => c1 i (by omega))
    have epN : pP N k = P := (pP_c (fN 365 (by omega) (by omega)) k).trans ep
    have dv := dv_b x (n := alP P) hall
    obtain ⟨cl, hcl⟩ := fck_e dv.2 dv.1
    have hpk := pk_r (s := s) (bd := P 5) (Q := spP P) (qk := qkP P) (cell := (cl : Int)) (n := n) (by omega)
    obtain ⟨q, hq⟩ := Int.eq_ofNat_of_zero_le hpk.1
    have hq8 : 0 ≤ (q : Int) ∧ (q : Int) < 8 := ⟨by omega, by omega⟩
    have fA : ∀ a, a ≠ 130 → a ≠ 128 → mU M 130 0 (dxN x) a = M0 a := fun a ha hb => by rw [mU_row _ _ ha]; exact fM a ha hb
    have hcA : PC (mU M 130 0 (dxN x)) p P := PC_c (fun i hi => fA (p + i) (by omega) (by omega)) hc
    have fB : ∀ a, a ≠ 359 → a ≠ 386 → mU N 359 64 (dxN x) a = N0 a := fun a ha hb => by rw [mU_row _ _ ha]; exact fN a ha hb
    have fB2 : ∀ i, i ≠ 64 → mU N 359 64 (dxN x) 359 i = N0 359 i := fun i hi => by rw [mU_ne _ _ (by omega)]; exact c1 i hi
    have hdB : HD (mU N 359 64 (dxN x)) k := HD_u hdN (by omega)
    have epB : pP (mU N 359 64 (dxN x)) k = P := (pP_c (mU_row _ _ (by omega)) k).trans epN
    have hyB : YB (mU N 359 64 (dxN x)) k s (spP P) := ⟨hdB, by rw [fB2 58 (by omega)]; exact hs, fun c hc => by rw [fB 384 (by omega) (by omega)]; exact hy c (by rw [epB] at hc; omega)⟩
    have e1 : sX10_whoPicks 127 p s (cl : Int) (mU M 130 0 (dxN x)) = some (q : Int) := by
      unfold sX10_whoPicks sX10_whoPicks_b0
      rw [pickA hcA hv hg 127 rs ⟨by omega, by have := hcl.1; omega⟩ (mo := -1) (pl := 0) ⟨by omega, by omega⟩ ⟨by omega, by omega⟩ hn, ob_s, pk_x (fun c _ => moQ_1 P 0 c), hq]
    have e2 : sX12_picks 359 (cl : Int) (mU N 359 64 (dxN x)) = some (q : Int) := by
      rw [pickB hyB (by rw [epB]; exact hv) rs (by rw [epB]; exact spP_b hv) ⟨by omega, by have := hcl.1; omega⟩ (n := n) (by rw [epB]; exact hn), epB, hq]
    obtain ⟨M', N', r1, r2, r3⟩ := ih (j + 1) (by omega) f (by omega) (mU (mU M 130 0 (dxN x)) 128 q (mU M 130 0 (dxN x) 128 q + 1)) (mU (mU N 359 64 (dxN x)) 386 q (mU N 359 64 (dxN x) 386 q + 1)) (dxN x) (fun a ha hb => by rw [mU_row _ _ hb]; exact fA a ha hb) (by rw [mU_ne _ _ (by omega), mU_ne _ _ (by omega)]; exact b1) (by rw [mU_ne _ _ (by omega), mU_ne _ _ (by omega)]; exact b2) (by rw [mU_ne _ _ (by omega), mU_ne _ _ (by omega)]; exact b3) (by rw [mU_ne _ _ (by omega), mU_eq]) (fun a ha hb => by rw [mU_row _ _ hb]; exact fB a ha hb) (fun i hi => by rw [mU_ne _ _ (by omega)]; exact fB2 i hi) (by rw [mU_ne _ _ (by omega), mU_eq]) (fun c hc8 => by
      by_cases e : c = q
      · subst e; rw [mU_eq, mU_eq, mU_ne _ _ (by omega), mU_ne _ _ (by omega), hbg c hc8]
      · rw [mU_ne _ _ (by omega), mU_ne _ _ (by omega), mU_ne _ _ (by omega), mU_ne _ _ (by omega)]; exact hbg c hc8)
    refine ⟨M', N', ?_, ?_, r3⟩
    · rw [sX0_passes_b72, fM p (by omega) (by omega), hc.1.2.2.2.2.1, hsw, wI_of (x := (sw : Int)) (by omega) (by omega), wI_of (x := (j : Int)) (by omega) (by omega), if_neg (by omega), wI_of (x := alP P) (by omega) (by omega), if_neg (by omega), belowA M ⟨hall, by omega⟩, ob_s, b0]
      dsimp only
      rw [fallA hcA hv hg ⟨dv.1, by omega⟩ hcl, ob_s, mU_ne _ _ (show (130 : Nat) ≠ 130 ∨ (1 : Nat) ≠ 0 by omega), b1, e1, ob_s, addA _ (by omega) 1, ob_s, ob_s]
      exact r1
    · rw [sX12_drawn_b138, of_e hdN ⟨by omega, by omega⟩, ob_s, epN, show (4 : Int).toNat = 4 from rfl, hsw, wI_of (x := (sw : Int)) (by omega) (by omega), wI_of (x := (j : Int)) (by omega) (by omega), if_neg (by omega), wI_of (x := alP P) (by omega) (by omega), if_neg (by omega), drawB N ⟨hall, by omega⟩, ob_s, c0]
      dsimp only
      rw [cellB hdB (by rw [epB]; exact hv) ⟨dv.1, by omega⟩ (by rw [epB]; exact hcl), ob_s, e2, ob_s, wI_of (x := (q : Int)) (by omega) (by omega), if_pos hq8, if_pos hq8, ob_s, ob_s, g359_62, tN]
      exact r2
