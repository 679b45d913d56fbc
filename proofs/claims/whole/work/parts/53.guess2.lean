def arW (W : Nat → Int) (f : Int) (w : Nat) : Int := f * W w + (W ((w + 1) % 8) + W ((w + 7) % 8))
theorem ar_b {W : Nat → Int} (h : ∀ w, w < 8 → 0 ≤ W w ∧ W w ≤ 5188320900000000) {f : Int} (hf : f = 1 ∨ f = 2) {w : Nat} (hw : w < 8) : 0 ≤ arW W f w ∧ arW W f w ≤ 20753283600000000 := by
  have a := h w hw
  have b := h ((w + 1) % 8) (by omega)
  have c := h ((w + 7) % 8) (by omega)
  unfold arW
  rcases hf with rfl | rfl <;> omega
theorem besideA (M : MM) {w : Nat} (hw : w < 8) : sX2_beside 119 (w : Int) M = some (M 120 ((w + 1) % 8) + M 120 ((w + 7) % 8)) := by
  unfold sX2_beside sX2_beside_b0
  rw [wI_of (x := ((w : Int) + 1) % 8) (by omega) (by omega), wI_of (x := ((w : Int) + 7) % 8) (by omega) (by omega), if_pos (by omega), if_pos (by omega), g119_0, show (((w : Int) + 1) % 8).toNat = (w + 1) % 8 by omega, show (((w : Int) + 7) % 8).toNat = (w + 7) % 8 by omega]
theorem aroundB (M : MM) {w : Nat} (hw : w < 8) (f : Int) : sX12_around 359 (w : Int) f M = some (arW (M 378) f w) := by
  have e1 : Int.tmod ((w : Int) + 1) 8 = (((w + 1) % 8 : Nat) : Int) := by rw [show (w : Int) + 1 = ((w + 1 : Nat) : Int) from rfl, show (8 : Int) = ((8 : Nat) : Int) from rfl, tm_n]
  have e2 : Int.tmod ((w : Int) + 8 - 1) 8 = (((w + 7) % 8 : Nat) : Int) := by rw [show (w : Int) + 8 - 1 = ((w + 7 : Nat) : Int) by omega, show (8 : Int) = ((8 : Nat) : Int) from rfl, tm_n]
  have z1 : 0 ≤ (((w + 1) % 8 : Nat) : Int) ∧ (((w + 1) % 8 : Nat) : Int) < 8 := ⟨by omega, by omega⟩
  have z2 : 0 ≤ (((w + 7) % 8 : Nat) : Int) ∧ (((w + 7) % 8 : Nat) : Int) < 8 := ⟨by omega, by omega⟩
  unfold sX12_around sX12_around_b0 arW
  rw [wI_of (x := (w : Int)) (by omega) (by omega), if_pos (show 0 ≤ (w : Int) ∧ (w : Int) < 8 by omega), wI_of (x := (w : Int) + 1) (by omega) (by omega), wI_of (x := (w : Int) + 8 - 1) (by omega) (by omega), e1, e2, wI_of (x := (((w + 1) % 8 : Nat) : Int)) (by omega) (by omega), wI_of (x := (((w + 7) % 8 : Nat) : Int)) (by omega) (by omega), if_pos z1, if_pos z2, g359_47, tN, tN, tN, Int.add_assoc]
/-- the way at which to strike -/
def aiS (W : Nat → Int) (w : Nat) (b : Int) : Int := if b = -1 ∨ arW W 2 b.toNat < arW W 2 w then (w : Int) else b
def aiN (W : Nat → Int) (n : Nat) : Int := fo (aiS W) n (-1)
def aiP (W : Nat → Int) (all : Int) : Int := if all ≤ 0 then -1 else aiN W 8
theorem ai_i (W : Nat → Int) (n : Nat) : (n = 0 ∧ aiN W n = -1) ∨ (0 ≤ aiN W n ∧ aiN W n < (n : Int)) := by
  induction n with
  | zero => exact Or.inl ⟨rfl, rfl⟩
  | succ n ih =>
    right
    have e : aiN W (n + 1) = aiS W n (aiN W n) := fo_s _ _ _
    rw [e]
    generalize aiN W n = b at *
    unfold aiS
    by_cases q : b = -1 ∨ arW W 2 b.toNat < arW W 2 n
    · rw [if_pos q]; omega
    · rw [if_neg q]; omega
theorem ai_x {W W' : Nat → Int} (h : ∀ w, w < 8 → W w = W' w) : aiN W 8 = aiN W' 8 := by
  have ha : ∀ w, w < 8 → arW W 2 w = arW W' 2 w := fun w hw => by
    unfold arW
    rw [h w hw, h _ (show (w + 1) % 8 < 8 by omega), h _ (show (w + 7) % 8 < 8 by omega)]
  have key : ∀ n, n ≤ 8 → aiN W n = aiN W' n := by
    intro n
    induction n with
    | zero => intro _; rfl
    | succ n ih =>
      intro hn
      have i := ai_i W n
      have e : aiN W (n + 1) = aiS W n (aiN W n) := fo_s _ _ _
      have e' : aiN W' (n + 1) = aiS W' n (aiN W' n) := fo_s _ _ _
      rw [e, e', ← ih (by omega)]
      unfold aiS
      by_cases q : aiN W n = -1
      · rw [if_pos (Or.inl q), if_pos (Or.inl q)]
      · rw [ha n (by omega), ha (aiN W n).toNat (by omega)]
  exact key 8 (Nat.le_refl 8)
theorem aiP_x {W W' : Nat → Int} {a : Int} (h : ∀ w, w < 8 → W w = W' w) : aiP W a = aiP W' a := by unfold aiP; rw [ai_x h]
theorem aiP_b (W : Nat → Int) (a : Int) : -1 ≤ aiP W a ∧ aiP W a ≤ 7 ∧ (aiP W a = -1 ↔ a ≤ 0) := by
  have := ai_i W 8
  unfold aiP
  by_cases q : a ≤ 0
  · rw [if_pos q]; exact ⟨by omega, by omega, fun _ => q, fun _ => rfl⟩
  · rw [if_neg q]
    rcases this with ⟨h, -⟩ | h
    · omega
    · exact ⟨by omega, by omega, fun _ => by omega, fun _ => by omega⟩
theorem bestA {M0 : MM} {p c : Nat} {P R : Nat → Int} (hc : PC M0 p P) (hv : PV P) (hg : PG p) (hp : p < 66) (hcc : CC M0 c R) (hw : CV R) (hl : LG (c + 1) 8) (g0 : gR c 0 = c + 1) (g1 : gR c 1 = c + 5) (hcp : c < 70) {but : Int} (rb : R32 but) {K : Nat} (hK : R 0 = (K : Int)) : ∃ M', sX2_bestWay 119 p c but M0 = some (aiP (wgP P R but K) (alW P R but K 8), M') ∧ (∀ a, a ≠ 119 → a ≠ 120 → M' a = M0 a) := by
  obtain ⟨N, n1, n2, n3, n4⟩ := weighsA hc hv hg hp hcc hw hl g0 g1 hcp rb hK
  have ab := alW_b hv hw but (K := K) (by omega) (n := 8) (by omega)
  have wb : ∀ w, w < 8 → 0 ≤ wgP P R but K w ∧ wgP P R but K w ≤ 5188320900000000 := fun w hw8 => wg_b hv hw but hw8 K (by omega)
  have ex : aiN (wgP P R but K) 8 = aiN (N 120) 8 := ai_x (fun w hw => (n4 w hw).symm)
  have nb : ∀ w, w < 8 → 0 ≤ N 120 w ∧ N 120 w ≤ 5188320900000000 := fun w hw8 => by rw [n4 w hw8]; exact wb w hw8
  refine ⟨N, ?_, n2⟩
  unfold sX2_bestWay sX2_bestWay_b0 aiP
  rw [n1, ob_s, n3, wJ_of (x := alW P R but K 8) (by omega) (by omega), ex]
  by_cases z : alW P R but K 8 = 0
  · rw [if_pos z, if_pos (by omega)]
  rw [if_neg z, if_neg (by omega)]
  refine loopC (fun f y (t : Int) => sX2_bestWay_b24 119 p c but f t y N) 8 (fun w t => 0 < w ∧ t = aiN (N 120) w) (fun o => o = some (aiN (N 120) 8, N)) ?_ ?_ FU 1 0 (by omega) ⟨by omega, ?_⟩ (by unfold FU; omega)
  · intro f t ht
    show sX2_bestWay_b24 119 p c but (f + 1) t ((8 : Nat) : Int) N = _
    rw [sX2_bestWay_b24, wI_of (by omega) (by omega), if_pos (by omega), ht.2]
  · intro f w t hw8 ht
    right
    obtain ⟨h0, rfl⟩ := ht
    have i := ai_i (N 120) w
    obtain ⟨b, hb⟩ := Int.eq_ofNat_of_zero_le (show 0 ≤ aiN (N 120) w by omega)
    have e : aiN (N 120) (w + 1) = aiS (N 120) w (aiN (N 120) w) := fo_s _ _ _
    have a1 := ar_b nb (f := 2) (Or.inr rfl) (w := w) hw8
    have a2 := ar_b nb (f := 2) (Or.inr rfl) (w := b) (by omega)
    refine ⟨aiN (N 120) (w + 1), ?_, by omega, rfl⟩
    rw [e, hb]
    have s1 : arW (N 120) 2 b < arW (N 120) 2 w → aiS (N 120) w (b : Int) = (w : Int) := fun q => if_pos (Or.inr q)
    have s2 : ¬ arW (N 120) 2 b < arW (N 120) 2 w → aiS (N 120) w (b : Int) = (b : Int) := fun q => if_neg (by rw [tN]; omega)
    show sX2_bestWay_b24 119 p c but (f + 1) (b : Int) (w : Int) N = sX2_bestWay_b24 119 p c but f _ ((w : Int) + 1) N
    rw [sX2_bestWay_b24, wI_of (x := (w : Int)) (by omega) (by omega), if_neg (show ¬ 8 ≤ (w : Int) by omega), if_pos (show 0 ≤ (w : Int) ∧ (w : Int) < 8 by omega), besideA N hw8, ob_s, wI_of (x := (b : Int)) (by omega) (by omega), if_pos (show 0 ≤ (b : Int) ∧ (b : Int) < 8 by omega), besideA N (by omega), ob_s, g119_0, tN, tN]
    show (if wJ (arW (N 120) 2 w) ≤ wJ (arW (N 120) 2 b) then _ else _) = _
    rw [wJ_of (x := arW (N 120) 2 w) (by omega) (by omega), wJ_of (x := arW (N 120) 2 b) (by omega) (by omega)]
    unfold sX2_bestWay_b75
    simp only [ob_s]
    by_cases z2 : arW (N 120) 2 w ≤ arW (N 120) 2 b
    · rw [if_pos z2, s2 (by omega)]
    · rw [if_neg z2, s1 (by omega)]
  · show (0 : Int) = aiS (N 120) 0 (-1)
    unfold aiS
    rw [if_pos (Or.inl rfl)]
    rfl
theorem aimB {M : MM} {all : Int} (h48 : M 359 48 = all) (ha : 0 ≤ all ∧ all ≤ 41506567200000000) (nb : ∀ w, w < 8 → 0 ≤ M 378 w ∧ M 378 w ≤ 5188320900000000) : sX12_aimNow 359 M = some (aiP (M 378) all) := by
  unfold sX12_aimNow sX12_aimNow_b0 aiP
  by_cases z : all ≤ 0
  · rw [if_pos z, show FU = 99999 + 1 from rfl, sX12_aimNow_b4, wI_0, if_neg (by omega), h48, wJ_of (by omega) (by omega), if_pos z]
    rfl
  rw [if_neg z]
  refine loopC (fun f y (t : Int) => sX12_aimNow_b4 359 M f t y) 8 (fun w t => t = aiN (M 378) w) (fun o => o = some (aiN (M 378) 8)) ?_ ?_ FU 0 (-1) (by omega) rfl (by unfold FU; omega)
  · intro f t ht
    show sX12_aimNow_b4 359 M (f + 1) t ((8 : Nat) : Int) = _
    rw [sX12_aimNow_b4, wI_of (by omega) (by omega), if_pos (by omega), ht]
    rfl
  · intro f w t hw8 ht
    right
    subst ht
    have i := ai_i (M 378) w
    have e : aiN (M 378) (w + 1) = aiS (M 378) w (aiN (M 378) w) := fo_s _ _ _
    refine ⟨aiN (M 378) (w + 1), ?_, rfl⟩
    rw [e]
    show sX12_aimNow_b4 359 M (f + 1) (aiN (M 378) w) (w : Int) = sX12_aimNow_b4 359 M f _ ((w : Int) + 1)
    rw [sX12_aimNow_b4, wI_of (x := (w : Int)) (by omega) (by omega), if_neg (show ¬ 8 ≤ (w : Int) by omega), h48, wJ_of (x := all) (by omega) (by omega), if_neg z, wI_of (x := aiN (M 378) w) (by omega) (by omega)]
    unfold sX12_aimNow_b44 sX12_aimNow_b49
    simp only [ob_s]
    by_cases q : aiN (M 378) w = -1
    · rw [if_pos q]
      have : aiS (M 378) w (aiN (M 378) w) = (w : Int) := if_pos (Or.inl q)
      rw [this]
    · rw [if_neg q]
      obtain ⟨b, hb⟩ := Int.eq_ofNat_of_zero_le (show 0 ≤ aiN (M 378) w by omega)
      have a1 := ar_b nb (f := 2) (Or.inr rfl) (w := w) hw8
      have a2 := ar_b nb (f := 2) (Or.inr rfl) (w := b) (by omega)
      rw [hb]
      have s1 : arW (M 378) 2 b < arW (M 378) 2 w → aiS (M 378) w (b : Int) = (w : Int) := fun q => if_pos (Or.inr q)
      have s2 : ¬ arW (M 378) 2 b < arW (M 378) 2 w → aiS (M 378) w (b : Int) = (b : Int) := fun q => if_neg (by rw [tN]; omega)
      rw [aroundB M hw8, aroundB M (w := b) (by omega), ob_s, ob_s, wJ_of (x := arW (M 378) 2 w) (by omega) (by omega), wJ_of (x := arW (M 378) 2 b) (by omega) (by omega)]
      by_cases z2 : arW (M 378) 2 w ≤ arW (M 378) 2 b
      · rw [if_pos z2, s2 (by omega)]
      · rw [if_neg z2, s1 (by omega)]
/-- bits -/
theorem oI_r (x y : Int) : R32 (oI x y) := by
  have e : oI x y = wI (oI x y) := by
    unfold oI
    rw [← eI_toInt, eI_of]
  rw [e]
  exact ⟨wI_ge _, wI_le _⟩
theorem oI_0 {x : Int} (r : R32 x) : oI x 0 = x := by
  unfold oI
  rw [show eI 0 = 0 from rfl, Int32.or_zero, eI_toInt, wI_of r.1 r.2]
/-- a set of those for which it holds -/
def biS (q : Nat → Bool) (k : Nat) (b : Int) : Int := if q k = true then oI b (1 * 2 ^ k) else b
def biN (q : Nat → Bool) (n : Nat) : Int := fo (biS q) n 0
theorem bi_r (q : Nat → Bool) (n : Nat) : R32 (biN q n) := by
  induction n with
  | zero => exact ⟨by show (-2147483648 : Int) ≤ 0; omega, by show (0 : Int) ≤ 2147483647; omega⟩
  | succ n ih =>
    have e : biN q (n + 1) = biS q n (biN q n) := fo_s _ _ _
    rw [e]
    unfold biS
    split
    · exact oI_r _ _
    · exact ih
theorem bi_f {q : Nat → Bool} {n : Nat} (h : ∀ k, k < n → q k = false) : biN q n = 0 := by
  induction n with
  | zero => rfl
  | succ n ih =>
    have e : biN q (n + 1) = biS q n (biN q n) := fo_s _ _ _
    rw [e, ih (fun k hk => h k (by omega))]
    unfold biS
    rw [h n (by omega)]
    rfl
theorem bi_x {q q' : Nat → Bool} {n : Nat} (h : ∀ k, k < n → q k = q' k) : biN q n = biN q' n := fo_ext (fun k hk b => by unfold biS; rw [h k hk]) _
