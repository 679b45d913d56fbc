def dgP (P : Nat → Int) (c : Nat) (st : Int) : Int := if 1 ≤ sX12_ringOf (P (32 + 13 * c)) ∧ sX12_ringOf (P (32 + 13 * c)) ≤ st then P (7 + ((8 - sX12_sideOf (P (32 + 13 * c))) % 8).toNat) else 0
theorem dg_b {P : Nat → Int} (hv : PV P) (c : Nat) (st : Int) : 0 ≤ dgP P c st ∧ dgP P c st ≤ 9 := by
  unfold dgP
  split
  · exact hv.2.1 _ (by omega)
  · omega
theorem dgA {M : MM} {p : Nat} {P : Nat → Int} (hc : PC M p P) (hv : PV P) (hg : PG p) {c : Nat} (hcn : (c : Int) < P 1) {st : Int} (hst : 0 ≤ st ∧ st ≤ 3) : sX5_dangerOf p (c : Int) st M = some (dgP P c st) := by
  have hv1 := hv.1
  have hcell := hv.2.2.2.2.2.2.1 c (by omega)
  have rg := rg_e hcell
  have hp : 0 ≤ (c : Int) ∧ (c : Int) < 8 := ⟨by omega, by omega⟩
  unfold sX5_dangerOf sX5_dangerOf_b0 sX5_dangerOf_b21 dgP
  rw [has_e hc.1.2.1 ⟨by omega, by omega⟩ (x := (c : Int)) ⟨by omega, by omega⟩, if_pos (show 0 ≤ (c : Int) ∧ (c : Int) < P 1 from ⟨by omega, hcn⟩), i10, wI_of (x := (c : Int)) (by omega) (by omega), if_pos hp, tN, hg.2.2.2.2.2.2.1, hc.2.2.2.2.2.1 c (by omega), rg.1, ob_s, wI_of (x := sX12_ringOf (P (32 + 13 * c))) (by omega) (by omega), wI_of (x := st) (by omega) (by omega)]
  by_cases z : sX12_ringOf (P (32 + 13 * c)) < 1
  · rw [if_pos z, if_neg (by omega)]
  · rw [if_neg z]
    by_cases z2 : sX12_ringOf (P (32 + 13 * c)) ≤ st
    · obtain ⟨j, hj⟩ := Int.eq_ofNat_of_zero_le hcell.1
      have t := rg_tab j (by omega)
      rw [← hj] at t
      rw [if_pos z2, if_pos hp, if_pos (show 1 ≤ sX12_ringOf (P (32 + 13 * c)) ∧ sX12_ringOf (P (32 + 13 * c)) ≤ st from ⟨by omega, z2⟩), t.2.2.2.1, if_neg (t.2.2.2.2.2.2 (by omega)), wI_of (x := (8 - sX12_sideOf (P (32 + 13 * c))) % 8) (by omega) (by omega), if_pos (by omega), hg.2.2.2.2.2.2.2.2.1, hc.2.1 _ (by omega)]
    · rw [if_neg z2, if_neg (by omega)]
theorem dgB {M : MM} {k : Nat} (h : HD M k) (hv : PV (pP M k)) {c : Nat} (hcn : (c : Int) < pP M k 1) {st : Int} (hst : 0 ≤ st ∧ st ≤ 3) : sX12_dangerOf 359 (c : Int) st M = some (dgP (pP M k) c st) := by
  have hv1 := hv.1
  have hcell := hv.2.2.2.2.2.2.1 c (by omega)
  have rg := rg_e hcell
  obtain ⟨j, hj⟩ := Int.eq_ofNat_of_zero_le hcell.1
  have t := rg_tab j (by omega)
  rw [← hj] at t
  unfold sX12_dangerOf sX12_dangerOf_b0 dgP
  rw [ofC_e h ⟨by omega, by omega⟩ ⟨by omega, by omega⟩, ob_s, show (28 + 13 * (c : Int) + 4).toNat = 32 + 13 * c by omega]
  by_cases z : 1 ≤ sX12_ringOf (pP M k (32 + 13 * c)) ∧ sX12_ringOf (pP M k (32 + 13 * c)) ≤ st
  · rw [in_1 (by omega) (by omega) (by omega) (by omega) z.1 z.2, i1z, if_pos z, wI_of (x := 8 - sX12_sideOf (pP M k (32 + 13 * c))) (by omega) (by omega), Int.tmod_eq_emod_of_nonneg (by omega), of_e h ⟨by omega, by omega⟩, ob_s, show (7 + (8 - sX12_sideOf (pP M k (32 + 13 * c))) % 8).toNat = 7 + ((8 - sX12_sideOf (pP M k (32 + 13 * c))) % 8).toNat by omega]
  · rw [in_f ⟨by omega, by omega⟩ ⟨by omega, by omega⟩ ⟨by omega, by omega⟩ z, wI_0, if_pos rfl, if_neg z]
def tuP (P : Nat → Int) : Int := sm (fun w => P (7 + w)) 8
theorem sm_pos {f : Nat → Int} {n : Nat} (h : ∀ k, k < n → 0 ≤ f k) (w : ∃ k, k < n ∧ 0 < f k) : 0 < sm f n := by
  have nn : ∀ m, m ≤ n → 0 ≤ sm f m := by
    intro m
    induction m with
    | zero => intro _; rw [sm_0]; omega
    | succ m ih => intro hm; rw [sm_s]; have := ih (by omega); have := h m (by omega); omega
  obtain ⟨k, hk, hp⟩ := w
  have up : ∀ m, k < m → m ≤ n → 0 < sm f m := by
    intro m
    induction m with
    | zero => intro h; omega
    | succ m ih =>
      intro hm hn
      rw [sm_s]
      by_cases e : k = m
      · subst e; have := nn k (by omega); omega
      · have := ih (by omega) (by omega); have := h m (by omega); omega
  exact up n hk (Nat.le_refl n)
theorem tu_b {P : Nat → Int} (hv : PV P) : 0 < tuP P ∧ tuP P ≤ 72 := by
  have := sm_b (f := fun w => P (7 + w)) (n := 8) (B := 9) (fun w hw => hv.2.1 w hw)
  have := sm_pos (f := fun w => P (7 + w)) (n := 8) (fun w hw => (hv.2.1 w hw).1) hv.2.2.2.1
  unfold tuP
  omega
theorem tuA {M : MM} {p : Nat} {P : Nat → Int} (hc : PC M p P) (hg : PG p) : sX5_turnedOfAll p M = some (tuP P) := by
  unfold sX5_turnedOfAll sX5_turnedOfAll_b0
  refine loopC (fun f x (t : Int) => sX5_turnedOfAll_b4 p M f t x) 8 (fun w t => t = sm (fun w => P (7 + w)) w) (fun o => o = some (tuP P)) ?_ ?_ FU 0 0 (by omega) rfl (by unfold FU; omega)
  · intro f t ht
    show sX5_turnedOfAll_b4 p M (f + 1) t ((8 : Nat) : Int) = _
    rw [sX5_turnedOfAll_b4, wI_of (by omega) (by omega), if_pos (by omega), ht]; rfl
  · intro f w t hw ht
    right
    refine ⟨t + P (7 + w), ?_, by rw [ht, sm_s]⟩
    show sX5_turnedOfAll_b4 p M (f + 1) t (w : Int) = _
    rw [sX5_turnedOfAll_b4, wI_of (by omega) (by omega), if_neg (by omega), if_pos (by omega), ob_s, ob_s, hg.2.2.2.2.2.2.2.2.1, tN, hc.2.1 w hw]
theorem tuB {M : MM} {k : Nat} (h : HD M k) : sX12_allTurned 359 M = some (tuP (pP M k)) := by
  unfold sX12_allTurned sX12_allTurned_b0
  refine loopC (fun f x (t : Int) => sX12_allTurned_b4 359 M f t x) 8 (fun w t => t = sm (fun w => pP M k (7 + w)) w) (fun o => o = some (tuP (pP M k))) ?_ ?_ FU 0 0 (by omega) rfl (by unfold FU; omega)
  · intro f t ht
    show sX12_allTurned_b4 359 M (f + 1) t ((8 : Nat) : Int) = _
    rw [sX12_allTurned_b4, wI_of (by omega) (by omega), if_pos (by omega), ht]; rfl
  · intro f w t hw ht
    right
    refine ⟨t + pP M k (7 + w), ?_, by rw [ht, sm_s]⟩
    show sX12_allTurned_b4 359 M (f + 1) t (w : Int) = _
    rw [sX12_allTurned_b4, wI_of (by omega) (by omega), if_neg (by omega), of_e h ⟨by omega, by omega⟩, ob_s, ob_s, show (7 + (w : Int)).toNat = 7 + w by omega]
theorem e_danger {M : MM} (h : INV M) {x1 x2 x3 : Int} (r1 : R32 x1) (r2 : R32 x2) : ∃ v v' M2, sX11_danger 0 x1 x2 x3 M = some v ∧ sX12_danger 359 x1 x2 x3 M = some (v', M2) ∧ wI v = wI v' ∧ INV M2 := by
  unfold sX11_danger sX11_danger_b0 sX12_danger sX12_danger_b0
  rw [ob_s]
  rcases a_party h r1 with ⟨k, hk, rfl, hlt, e⟩ | ⟨hn, e⟩
  · obtain ⟨N, en, f, hd, ep⟩ := hand_0 h hlt
    obtain ⟨hc, hv⟩ := i_party h hlt
    have h26 := hd.2.2.2.1
    rw [ep] at h26
    have hv1 := hv.1
    have hvN : PV (pP N k) := by rw [ep]; exact hv
    rw [e, ob_s, nMs_, en, ob_s]
    show ∃ v v' M2, _ ∧ (if wI 1 = 0 then _ else _) = _ ∧ _
    rw [i10, has_e hc.1.2.1 ⟨by omega, by omega⟩ r2, chi_e h26 ⟨by omega, by omega⟩ r2, ob_s]
    by_cases a : 0 ≤ x2 ∧ x2 < pP M k 1
    · obtain ⟨c, rfl⟩ := Int.eq_ofNat_of_zero_le a.1
      have tb := tu_b hv
      have db := dg_b hv c (pP M k 6)
      rw [if_pos a, wI_1, i1z, i1z, hc.1.2.2.2.2.2.2, dgA hc hv (PG_p k hk) a.2 ⟨by omega, by omega⟩, ob_s, tuA hc (PG_p k hk), ob_s, of_e hd ⟨by omega, by omega⟩, ob_s, show (6 : Int).toNat = 6 from rfl, dgB hd hvN (by rw [ep]; exact a.2) (by rw [ep]; exact ⟨by omega, by omega⟩), ob_s, tuB hd, ob_s, ep, wI_of (x := dgP (pP M k) c (pP M k 6)) (by omega) (by omega), wI_of (x := tuP (pP M k)) (by omega) (by omega)]
      obtain ⟨v, e1, e2⟩ := fr_eqi (n := dgP (pP M k) c (pP M k 6)) (d := tuP (pP M k)) ⟨by omega, by omega⟩ ⟨by omega, by omega⟩ x3
      rw [e1, e2]
      exact ⟨_, _, _, rfl, rfl, rfl, INV_2 f h⟩
    · rw [if_neg a, wI_0, if_pos rfl, if_pos rfl]
      exact ⟨_, _, _, rfl, rfl, rfl, INV_2 f h⟩
  · rw [e, ob_s, nM0_, hand_0f h r1 hn, ob_s]
    exact ⟨-1, -1, _, rfl, rfl, rfl, INV_2 (FR_0 M) h⟩
theorem mul_c {a b A B : Int} (ha : 0 ≤ a ∧ a ≤ A) (hb : 0 ≤ b ∧ b ≤ B) : 0 ≤ a * b ∧ a * b ≤ A * B := ⟨Int.mul_nonneg ha.1 hb.1, Int.mul_le_mul ha.2 hb.2 hb.1 (by omega)⟩
def sfP (P : Nat → Int) (n : Nat) (st h : Int) : Int := if ∀ c, c < n → 100 * dgP P c st ≤ h * tuP P then 1 else 0
theorem sfA {M : MM} {p : Nat} {P : Nat → Int} (hc : PC M p P) (hv : PV P) (hg : PG p) {n : Nat} (hn : P 1 = (n : Int)) {st h : Int} (hst : 0 ≤ st ∧ st ≤ 3) (hh : 0 ≤ h ∧ h ≤ 100) : sX5_isSafe p st h M = some (sfP P n st h) := by
  have hv1 := hv.1
  have tb := tu_b hv
  have mb := mul_c hh (b := tuP P) (B := 72) ⟨by omega, tb.2⟩
  unfold sX5_isSafe sX5_isSafe_b0
  rw [tuA hc hg, ob_s]
  refine loopC (fun f x (_ : Unit) => sX5_isSafe_b8 p st h M f (tuP P) x) n (fun j _ => ∀ c, c < j → 100 * dgP P c st ≤ h * tuP P) (fun o => o = some (sfP P n st h)) ?_ ?_ FU 0 () (by omega) (fun c hc => by omega) (by unfold FU; omega)
  · intro f _ ht
    show sX5_isSafe_b8 p st h M (f + 1) (tuP P) (n : Int) = _
    unfold sfP
    rw [sX5_isSafe_b8, hc.1.2.1, hn, if_pos (Int.le_refl _), if_pos ht]
  · intro f j _ hj ht
    have db := dg_b hv j st
    show sX5_isSafe_b8 p st h M (f + 1) (tuP P) (j : Int) = some (sfP P n st h) ∨ ∃ s' : Unit, sX5_isSafe_b8 p st h M (f + 1) (tuP P) (j : Int) = _ ∧ _
    rw [sX5_isSafe_b8, hc.1.2.1, hn, wI_of (x := (n : Int)) (by omega) (by omega), wI_of (x := (j : Int)) (by omega) (by omega), if_neg (by omega), dgA hc hv hg (by omega) hst, ob_s, wI_of (x := 100 * dgP P j st) (by omega) (by omega), wI_of (x := h * tuP P) (by omega) (by omega)]
    by_cases z : 100 * dgP P j st ≤ h * tuP P
    · right
      rw [if_pos z, ob_s]
      refine ⟨(), rfl, fun c hc => ?_⟩
      by_cases q : c = j
      · subst q; exact z
      · exact ht c (by omega)
    · left
      unfold sfP
      rw [if_neg z, if_neg (fun q => z (q j hj))]
theorem sfB {M : MM} {k : Nat} (hd : HD M k) (hv : PV (pP M k)) {n : Nat} (hn : pP M k 1 = (n : Int)) {st h : Int} (hst : 0 ≤ st ∧ st ≤ 3) (hh : 0 ≤ h ∧ h ≤ 100) : sX12_isSafe 359 st h M = some (sfP (pP M k) n st h) := by
  have hv1 := hv.1
  have tb := tu_b hv
  have mb := mul_c hh (b := tuP (pP M k)) (B := 72) ⟨by omega, tb.2⟩
  have h26 := hd.2.2.2.1
  unfold sX12_isSafe sX12_isSafe_b0
  refine loopC (fun f x (_ : Unit) => sX12_isSafe_b2 359 st h M f x) n (fun j _ => ∀ c, c < j → 100 * dgP (pP M k) c st ≤ h * tuP (pP M k)) (fun o => o = some (sfP (pP M k) n st h)) ?_ ?_ FU 0 () (by omega) (fun c hc => by omega) (by unfold FU; omega)
  · intro f _ ht
    show sX12_isSafe_b2 359 st h M (f + 1) (n : Int) = _
    unfold sfP
    rw [sX12_isSafe_b2, h26, hn, if_pos (Int.le_refl _), if_pos ht]
  · intro f j _ hj ht
    have db := dg_b hv j st
    show sX12_isSafe_b2 359 st h M (f + 1) (j : Int) = some (sfP (pP M k) n st h) ∨ ∃ s' : Unit, sX12_isSafe_b2 359 st h M (f + 1) (j : Int) = _ ∧ _
    rw [sX12_isSafe_b2, h26, hn, wI_of (x := (n : Int)) (by omega) (by omega), wI_of (x := (j : Int)) (by omega) (by omega), if_neg (by omega), dgB hd hv (by omega) hst, ob_s, tuB hd, ob_s, wI_of (x := 100 * dgP (pP M k) j st) (by omega) (by omega), wI_of (x := h * tuP (pP M k)) (by omega) (by omega)]
    by_cases z : 100 * dgP (pP M k) j st ≤ h * tuP (pP M k)
    · right
      rw [if_pos z, ob_s]
      refine ⟨(), rfl, fun c hc => ?_⟩
      by_cases q : c = j
      · subst q; exact z
      · exact ht c (by omega)
    · left
      unfold sfP
      rw [if_neg z, if_neg (fun q => z (q j hj))]
theorem sf_0 {P : Nat → Int} (hv : PV P) (n : Nat) {h : Int} (hh : 0 ≤ h) : sfP P n 0 h = 1 := by
  unfold sfP
  rw [if_pos (fun c _ => ?_)]
  have : dgP P c 0 = 0 := by unfold dgP; rw [if_neg (by omega)]
  rw [this]
  have := Int.mul_nonneg hh (show 0 ≤ tuP P by have := tu_b hv; omega)
  omega
theorem sf_01 (P : Nat → Int) (n : Nat) (st h : Int) : sfP P n st h = 0 ∨ sfP P n st h = 1 := by
  unfold sfP
  split
  · exact Or.inr rfl
  · exact Or.inl rfl
theorem safe_l {M N : MM} {k : Nat} (hk : k < 2) (hc : PC M (9 + 34 * k) (pP M k)) (hv : PV (pP M k)) (hd : HD N k) (ep : pP N k = pP M k) {n : Nat} (hn : pP M k 1 = (n : Int)) {x1 h : Int} (hh : 0 ≤ h ∧ h ≤ 100) : ∀ s : Nat, s ≤ 3 → ∀ f, s < f → ∃ v, sX11_safe_b25 0 x1 h M f (9 + 34 * k) (s : Int) = some v ∧ sX12_safe_b27 359 x1 h f (s : Int) N = some (v, N) := by
  intro s
  induction s with
  | zero =>
    intro _ f hf
    obtain ⟨f, rfl⟩ : ∃ g, f = g + 1 := ⟨f - 1, by omega⟩
    rw [sX11_safe_b25, sX12_safe_b27, sfB hd (by rw [ep]; exact hv) (n := n) (by rw [ep]; exact hn) (st := ((0 : Nat) : Int)) ⟨by omega, by omega⟩ hh, ob_s, show ((0 : Nat) : Int) = 0 from rfl, sf_0 (by rw [ep]; exact hv) n hh.1, ob_s, i10, wI_0, if_pos (show (0 : Int) ≤ 0 by omega)]
    exact ⟨0, rfl, rfl⟩
  | succ s ih =>
    intro hs f hf
    obtain ⟨f, rfl⟩ : ∃ g, f = g + 1 := ⟨f - 1, by omega⟩
    obtain ⟨v, e1, e2⟩ := ih (by omega) f (by omega)
    rw [sX11_safe_b25, sX12_safe_b27, sfA hc hv (PG_p k hk) hn ⟨by omega, by omega⟩ hh, ob_s, sfB hd (by rw [ep]; exact hv) (n := n) (by rw [ep]; exact hn) ⟨by omega, by omega⟩ hh, ob_s, ep, wI_of (x := ((s + 1 : Nat) : Int)) (by omega) (by omega), if_neg (by omega), ob_s, ob_s, show ((s + 1 : Nat) : Int) + -1 = (s : Int) by omega]
    rcases sf_01 (pP M k) n ((s + 1 : Nat) : Int) h with q | q
    · rw [q, wI_0, if_pos rfl, if_pos rfl]; exact ⟨v, e1, e2⟩
    · rw [q, wI_1, i1z, if_neg (by omega)]; exact ⟨_, rfl, rfl⟩
theorem e_safe {M : MM} (h : INV M) {x1 x2 : Int} (r1 : R32 x1) (r2 : R32 x2) : ∃ v v' M2, sX11_safe 0 x1 x2 M = some v ∧ sX12_safe 359 x1 x2 M = some (v', M2) ∧ wI v = wI v' ∧ INV M2 := by
  unfold sX11_safe sX11_safe_b0 sX12_safe sX12_safe_b0
  rw [ob_s, wI_of r2.1 r2.2]
  by_cases a : 0 ≤ x2 ∧ x2 ≤ 100
  · rw [in_1 r2.1 r2.2 (by omega) (by omega) a.1 a.2, i1z]
    rcases a_party h r1 with ⟨k, hk, rfl, hlt, e⟩ | ⟨hn, e⟩
    · obtain ⟨N, en, f, hd, ep⟩ := hand_0 h hlt
      obtain ⟨hc, hv⟩ := i_party h hlt
      have hv1 := hv.1
      obtain ⟨n, hn⟩ := Int.eq_ofNat_of_zero_le (show 0 ≤ pP M k 1 by omega)
      rw [e, ob_s, nMs_, en, ob_s, if_neg (by omega), if_pos a.2]
      show ∃ v v' M2, _ ∧ (if wI 1 = 0 then _ else _) = _ ∧ _
      rw [i10]
      obtain ⟨v, e1, e2⟩ := safe_l (x1 := (k : Int)) hk hc hv hd ep hn a 3 (by omega) FU (by unfold FU; omega)
      exact ⟨v, v, N, e1, e2, rfl, INV_2 f h⟩
    · rw [e, ob_s, nM0_, hand_0f h r1 hn, ob_s]
      exact ⟨-1, -1, _, rfl, rfl, rfl, INV_2 (FR_0 M) h⟩
  · rw [in_f r2 ⟨by omega, by omega⟩ ⟨by omega, by omega⟩ a, wI_0, if_pos rfl]
    refine ⟨-1, -1, _, ?_, rfl, rfl, INV_2 (FR_0 M) h⟩
    rcases a_party h r1 with ⟨k, hk, rfl, hlt, e⟩ | ⟨hn, e⟩
    · rw [e, ob_s, nMs_]
      by_cases b : x2 < 0
      · rw [if_pos b]
      · rw [if_neg b, if_neg (by omega)]
    · rw [e, ob_s, nM0_]
