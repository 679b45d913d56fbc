def akP (P R : Nat → Int) (K : Nat) (but : Int) : Int := aiP (wgP P R but K) (alW P R but K 8)
theorem misA {M0 : MM} {p c : Nat} {P R : Nat → Int} (hc : PC M0 p P) (hv : PV P) (hg : PG p) (hp : p < 66) (hcc : CC M0 c R) (hw : CV R) (hl : LG (c + 1) 8) (g0 : gR c 0 = c + 1) (g1 : gR c 1 = c + 5) (hcp : c < 70) {K : Nat} (hK : R 0 = (K : Int)) : ∃ M', sX2_misled 119 p c M0 = some (biN (fun k => decide (akP P R K (-1) ≠ -1 ∧ akP P R K (k : Int) ≠ akP P R K (-1))) K, M') ∧ (∀ a, a ≠ 119 → a ≠ 120 → M' a = M0 a) := by
  have hr := hw.2.1
  obtain ⟨N, n1, n2⟩ := bestA hc hv hg hp hcc hw hl g0 g1 hcp (but := -1) ⟨by omega, by omega⟩ hK
  have ab := aiP_b (wgP P R (-1) K) (alW P R (-1) K 8)
  unfold sX2_misled sX2_misled_b0
  rw [n1, ob_s]
  show ∃ M', sX2_misled_b14 119 p c FU (akP P R K (-1)) 0 0 N = _ ∧ _
  have ab' : -1 ≤ akP P R K (-1) ∧ akP P R K (-1) ≤ 7 := ⟨ab.1, ab.2.1⟩
  generalize hA : akP P R K (-1) = A at *
  by_cases z : A = -1
  · have e0 : biN (fun k => decide (A ≠ -1 ∧ akP P R K (k : Int) ≠ A)) K = 0 := bi_f (fun k hk => decide_eq_false (fun q => q.1 z))
    rw [e0]
    refine ⟨N, ?_, n2⟩
    rw [show FU = 99999 + 1 from rfl, sX2_misled_b14, z, wI_m1, if_pos rfl]
    unfold sX2_misled_b58
    split <;> rfl
  · refine loopC (fun f y (t : Int × MM) => sX2_misled_b14 119 p c f A t.1 y t.2) K (fun k t => t.1 = biN (fun k => decide (A ≠ -1 ∧ akP P R K (k : Int) ≠ A)) k ∧ (∀ a, a ≠ 119 → a ≠ 120 → t.2 a = M0 a)) (fun o => ∃ M', o = some (biN (fun k => decide (A ≠ -1 ∧ akP P R K (k : Int) ≠ A)) K, M') ∧ (∀ a, a ≠ 119 → a ≠ 120 → M' a = M0 a)) ?_ ?_ FU 0 (0, N) (by omega) ⟨rfl, n2⟩ (by unfold FU; omega)
    · intro f t ht
      show ∃ M', sX2_misled_b14 119 p c (f + 1) A t.1 (K : Int) t.2 = _ ∧ _
      rw [sX2_misled_b14, g0, ht.2 (c + 1) (by omega) (by omega), hcc.1, hK, if_pos (Int.le_refl _), ht.1]
      exact ⟨t.2, rfl, ht.2⟩
    · intro f k t hk ht
      right
      obtain ⟨b, T⟩ := t
      obtain ⟨ht1, ht2⟩ := ht
      dsimp only at ht1 ht2
      obtain ⟨N2, m1, m2⟩ := bestA (PC_c (fun j hj => ht2 _ (by omega) (by omega)) hc) hv hg hp (CC_c (fun j hj => ht2 _ (by omega) (by omega)) hcc) hw hl g0 g1 hcp (but := (k : Int)) ⟨by omega, by omega⟩ hK
      have akb := aiP_b (wgP P R (k : Int) K) (alW P R (k : Int) K 8)
      have e := fo_s (biS (fun k => decide (A ≠ -1 ∧ akP P R K (k : Int) ≠ A))) k 0
      have fr : ∀ a, a ≠ 119 → a ≠ 120 → N2 a = M0 a := fun a ha hb => (m2 a ha hb).trans (ht2 a ha hb)
      change _ = biS _ k (biN _ k) at e
      show ∃ s' : Int × MM, sX2_misled_b14 119 p c (f + 1) A b (k : Int) T = sX2_misled_b14 119 p c f A s'.1 ((k : Int) + 1) s'.2 ∧ s'.1 = biN _ (k + 1) ∧ _
      rw [show biN (fun k => decide (A ≠ -1 ∧ akP P R K (k : Int) ≠ A)) (k + 1) = _ from e, ← ht1]
      change sX2_bestWay 119 p c (k : Int) T = some (akP P R K (k : Int), N2) at m1
      change -1 ≤ akP P R K (k : Int) ∧ akP P R K (k : Int) ≤ 7 ∧ _ at akb
      rw [sX2_misled_b14, g0, ht2 (c + 1) (by omega) (by omega), hcc.1, hK, wI_of (x := (K : Int)) (by omega) (by omega), wI_of (x := (k : Int)) (by omega) (by omega), if_neg (show ¬ (K : Int) ≤ (k : Int) by omega), wI_of (x := A) (by omega) (by omega), if_neg z, m1, ob_s]
      dsimp only
      rw [wI_of (x := akP P R K (k : Int)) (by omega) (by omega)]
      unfold sX2_misled_b52 biS
      simp only [ob_s]
      by_cases q : akP P R K (k : Int) = A
      · rw [if_pos q, if_neg (by rw [decide_eq_true_iff]; exact fun w => w.2 q)]
        exact ⟨(b, N2), rfl, rfl, fr⟩
      · rw [if_neg q, if_pos (show 0 ≤ (k : Int) ∧ (k : Int) < 32 by omega), if_pos (decide_eq_true ⟨z, q⟩), tN]
        exact ⟨(oI b (1 * 2 ^ k), N2), rfl, rfl, fr⟩
theorem conA {M0 : MM} {p c : Nat} {P R : Nat → Int} (hc : PC M0 p P) (hv : PV P) (hg : PG p) (hp : p < 66) (hcc : CC M0 c R) (hw : CV R) (hl : LG (c + 1) 8) (g0 : gR c 0 = c + 1) (g1 : gR c 1 = c + 5) (hcp : c < 70) {K : Nat} (hK : R 0 = (K : Int)) : ∃ M', sX2_contrary 119 p c M0 = some (biN (fun k => decide (akP P R K (-1) = -1 ∧ 0 < alW P R (k : Int) K 8)) K, M') ∧ (∀ a, a ≠ 119 → a ≠ 120 → M' a = M0 a) := by
  have hr := hw.2.1
  obtain ⟨N, n1, n2, n3, -⟩ := weighsA hc hv hg hp hcc hw hl g0 g1 hcp (but := -1) ⟨by omega, by omega⟩ hK
  have al0 := alW_b hv hw (-1) (K := K) (by omega) (n := 8) (by omega)
  have ab := aiP_b (wgP P R (-1) K) (alW P R (-1) K 8)
  change -1 ≤ akP P R K (-1) ∧ akP P R K (-1) ≤ 7 ∧ (akP P R K (-1) = -1 ↔ _) at ab
  unfold sX2_contrary sX2_contrary_b0 sX2_contrary_b21
  rw [n1, ob_s, n3, wJ_of (x := alW P R (-1) K 8) (by omega) (by omega)]
  generalize akP P R K (-1) = A at *
  by_cases z : A = -1
  · have z0 : alW P R (-1) K 8 = 0 := by have := ab.2.2.mp z; omega
    rw [if_pos z0]
    refine loopC (fun f y (t : Int × MM) => sX2_contrary_b28 119 p c f 1 t.1 y t.2) K (fun k t => t.1 = biN (fun k => decide (A = -1 ∧ 0 < alW P R (k : Int) K 8)) k ∧ (∀ a, a ≠ 119 → a ≠ 120 → t.2 a = M0 a)) (fun o => ∃ M', o = some (biN (fun k => decide (A = -1 ∧ 0 < alW P R (k : Int) K 8)) K, M') ∧ (∀ a, a ≠ 119 → a ≠ 120 → M' a = M0 a)) ?_ ?_ FU 0 (0, N) (by omega) ⟨rfl, n2⟩ (by unfold FU; omega)
    · intro f t ht
      show ∃ M', sX2_contrary_b28 119 p c (f + 1) 1 t.1 (K : Int) t.2 = _ ∧ _
      rw [sX2_contrary_b28, g0, ht.2 (c + 1) (by omega) (by omega), hcc.1, hK, if_pos (Int.le_refl _), ht.1]
      exact ⟨t.2, rfl, ht.2⟩
    · intro f k t hk ht
      right
      obtain ⟨b, T⟩ := t
      obtain ⟨ht1, ht2⟩ := ht
      dsimp only at ht1 ht2
      obtain ⟨N2, m1, m2, m3, -⟩ := weighsA (PC_c (fun j hj => ht2 _ (by omega) (by omega)) hc) hv hg hp (CC_c (fun j hj => ht2 _ (by omega) (by omega)) hcc) hw hl g0 g1 hcp (but := (k : Int)) ⟨by omega, by omega⟩ hK
      have alk := alW_b hv hw (k : Int) (K := K) (by omega) (n := 8) (by omega)
      have e := fo_s (biS (fun k => decide (A = -1 ∧ 0 < alW P R (k : Int) K 8))) k 0
      have fr : ∀ a, a ≠ 119 → a ≠ 120 → N2 a = M0 a := fun a ha hb => (m2 a ha hb).trans (ht2 a ha hb)
      change _ = biS _ k (biN _ k) at e
      show ∃ s' : Int × MM, sX2_contrary_b28 119 p c (f + 1) 1 b (k : Int) T = sX2_contrary_b28 119 p c f 1 s'.1 ((k : Int) + 1) s'.2 ∧ s'.1 = biN _ (k + 1) ∧ _
      rw [show biN (fun k => decide (A = -1 ∧ 0 < alW P R (k : Int) K 8)) (k + 1) = _ from e, ← ht1]
      rw [sX2_contrary_b28, g0, ht2 (c + 1) (by omega) (by omega), hcc.1, hK, wI_of (x := (K : Int)) (by omega) (by omega), wI_of (x := (k : Int)) (by omega) (by omega), if_neg (show ¬ (K : Int) ≤ (k : Int) by omega), wI_1, i1z, m1, ob_s, m3, wJ_of (x := alW P R (k : Int) K 8) (by omega) (by omega)]
      unfold sX2_contrary_b70 biS
      simp only [ob_s]
      by_cases q : alW P R (k : Int) K 8 ≤ 0
      · rw [if_pos q, if_neg (by rw [decide_eq_true_iff]; exact fun w => by have := w.2; omega)]
        exact ⟨(b, N2), rfl, rfl, fr⟩
      · rw [if_neg q, if_pos (show 0 ≤ (k : Int) ∧ (k : Int) < 32 by omega), if_pos (decide_eq_true ⟨z, by omega⟩), tN]
        exact ⟨(oI b (1 * 2 ^ k), N2), rfl, rfl, fr⟩
  · have z0 : ¬ alW P R (-1) K 8 = 0 := fun q => z (ab.2.2.mpr (by omega))
    have e0 : biN (fun k => decide (A = -1 ∧ 0 < alW P R (k : Int) K 8)) K = 0 := bi_f (fun k hk => decide_eq_false (fun q => z q.1))
    rw [if_neg z0, e0]
    refine ⟨N, ?_, n2⟩
    rw [show FU = 99999 + 1 from rfl, sX2_contrary_b28, wI_0, if_pos rfl]
    unfold sX2_contrary_b76
    split <;> rfl
theorem aim45 {M0 : MM} {k kc : Nat} (hd : HD M0 k) (hv : PV (pP M0 k)) (hkc : kc < 2) (h46 : M0 359 46 = (kc : Int)) (hw : CV (cC M0 kc)) {K : Nat} (hK : cC M0 kc 0 = (K : Int)) {what : Int} (hwh : what = 1 ∨ what = 2) (x1 x2 : Int) : ∃ M', sX12_aim_b45 359 x1 x2 what FU (akP (pP M0 k) (cC M0 kc) K (-1)) 0 0 M0 = some ((if what = 1 then biN (fun j => decide (akP (pP M0 k) (cC M0 kc) K (-1) ≠ -1 ∧ akP (pP M0 k) (cC M0 kc) K (j : Int) ≠ akP (pP M0 k) (cC M0 kc) K (-1))) K else biN (fun j => decide (akP (pP M0 k) (cC M0 kc) K (-1) = -1 ∧ 0 < alW (pP M0 k) (cC M0 kc) (j : Int) K 8)) K), M') ∧ F48 M0 M' := by
  have hr := hw.2.1
  have ab := aiP_b (wgP (pP M0 k) (cC M0 kc) (-1) K) (alW (pP M0 k) (cC M0 kc) (-1) K 8)
  change -1 ≤ akP (pP M0 k) (cC M0 kc) K (-1) ∧ akP (pP M0 k) (cC M0 kc) K (-1) ≤ 7 ∧ _ at ab
  obtain ⟨ab1, ab2, -⟩ := ab
  generalize akP (pP M0 k) (cC M0 kc) K (-1) = A at *
  have eq : (if what = 1 then biN (fun j => decide (A ≠ -1 ∧ akP (pP M0 k) (cC M0 kc) K (j : Int) ≠ A)) K else biN (fun j => decide (A = -1 ∧ 0 < alW (pP M0 k) (cC M0 kc) (j : Int) K 8)) K) = biN (fun j => if what = 1 then decide (A ≠ -1 ∧ akP (pP M0 k) (cC M0 kc) K (j : Int) ≠ A) else decide (A = -1 ∧ 0 < alW (pP M0 k) (cC M0 kc) (j : Int) K 8)) K := by
    by_cases q : what = 1
    · simp only [if_pos q]
    · simp only [if_neg q]
  rw [eq]
  refine loopC (fun f y (t : Int × MM) => sX12_aim_b45 359 x1 x2 what f A t.1 y t.2) K (fun j t => t.1 = biN (fun j => if what = 1 then decide (A ≠ -1 ∧ akP (pP M0 k) (cC M0 kc) K (j : Int) ≠ A) else decide (A = -1 ∧ 0 < alW (pP M0 k) (cC M0 kc) (j : Int) K 8)) j ∧ F48 M0 t.2) (fun o => ∃ M', o = some (biN (fun j => if what = 1 then decide (A ≠ -1 ∧ akP (pP M0 k) (cC M0 kc) K (j : Int) ≠ A) else decide (A = -1 ∧ 0 < alW (pP M0 k) (cC M0 kc) (j : Int) K 8)) K, M') ∧ F48 M0 M') ?_ ?_ FU 0 (0, M0) (by omega) ⟨rfl, fun _ _ _ => rfl, fun _ _ => rfl⟩ (by unfold FU; omega)
  · intro f t ht
    have e46 : t.2 359 46 = (kc : Int) := (ht.2.2 46 (by omega)).trans h46
    show ∃ M', sX12_aim_b45 359 x1 x2 what (f + 1) A t.1 (K : Int) t.2 = _ ∧ _
    rw [sX12_aim_b45, told_e hkc e46, ob_s, F48_c ht.2 kc, hK, if_pos (Int.le_refl _), ht.1]
    exact ⟨t.2, rfl, ht.2⟩
  · intro f j t hj ht
    right
    obtain ⟨b, T⟩ := t
    obtain ⟨ht1, ht2⟩ := ht
    dsimp only at ht1 ht2
    have e46 : T 359 46 = (kc : Int) := (ht2.2 46 (by omega)).trans h46
    have epT := F48_p ht2 k
    have ecT := F48_c ht2 kc
    obtain ⟨N, n1, n2, n3, n4⟩ := weighB (F48_HD ht2 hd) (by rw [epT]; exact hv) hkc e46 (by rw [ecT]; exact hw) (but := (j : Int)) ⟨by omega, by omega⟩ (K := K) (by rw [ecT]; exact hK)
    rw [epT, ecT] at n3 n4
    have fr : F48 M0 N := F48_t ht2 n2
    have alj := alW_b hv hw (j : Int) (K := K) (by omega) (n := 8) (by omega)
    have wb : ∀ w, w < 8 → 0 ≤ N 378 w ∧ N 378 w ≤ 5188320900000000 := fun w hw8 => by rw [n4 w hw8]; exact wg_b hv hw (j : Int) hw8 K (by omega)
    have am := aimB n3 alj wb
    have am' : aiP (N 378) (alW (pP M0 k) (cC M0 kc) (j : Int) K 8) = akP (pP M0 k) (cC M0 kc) K (j : Int) := aiP_x n4
    have akb := aiP_b (N 378) (alW (pP M0 k) (cC M0 kc) (j : Int) K 8)
    rw [am'] at am akb
    have e := fo_s (biS (fun j => if what = 1 then decide (A ≠ -1 ∧ akP (pP M0 k) (cC M0 kc) K (j : Int) ≠ A) else decide (A = -1 ∧ 0 < alW (pP M0 k) (cC M0 kc) (j : Int) K 8))) j 0
    change _ = biS _ j (biN _ j) at e
    have br := bi_r (fun j => if what = 1 then decide (A ≠ -1 ∧ akP (pP M0 k) (cC M0 kc) K (j : Int) ≠ A) else decide (A = -1 ∧ 0 < alW (pP M0 k) (cC M0 kc) (j : Int) K 8)) j
    rw [← ht1] at br
    show ∃ s' : Int × MM, sX12_aim_b45 359 x1 x2 what (f + 1) A b (j : Int) T = sX12_aim_b45 359 x1 x2 what f A s'.1 ((j : Int) + 1) s'.2 ∧ s'.1 = biN _ (j + 1) ∧ _
    rw [show biN (fun j => if what = 1 then decide (A ≠ -1 ∧ akP (pP M0 k) (cC M0 kc) K (j : Int) ≠ A) else decide (A = -1 ∧ 0 < alW (pP M0 k) (cC M0 kc) (j : Int) K 8)) (j + 1) = _ from e, ← ht1]
    rw [sX12_aim_b45, told_e hkc e46, ob_s, ecT, hK, wI_of (x := (K : Int)) (by omega) (by omega), wI_of (x := (j : Int)) (by omega) (by omega), if_neg (show ¬ (K : Int) ≤ (j : Int) by omega), n1, ob_s, wI_of (x := what) (by omega) (by omega), wI_of (x := A) (by omega) (by omega), am, ob_s, n3, wJ_of (x := alW (pP M0 k) (cC M0 kc) (j : Int) K 8) (by omega) (by omega), wI_of (x := akP (pP M0 k) (cC M0 kc) K (j : Int)) (by omega) (by omega)]
    unfold sX12_aim_b84 sX12_aim_b107 sX12_aim_b108 sX12_aim_b125 biS
    simp only [ob_s]
    rw [i00, i10, oI_0 br, wI_of (x := (j : Int)) (by omega) (by omega), if_pos (show 0 ≤ (j : Int) ∧ (j : Int) < 32 by omega), tN]
    by_cases q1 : what = 1
    · simp only [if_pos q1]
      by_cases q2 : A = -1
      · rw [if_pos q2, if_neg (by rw [decide_eq_true_iff]; exact fun w => w.1 q2)]
        exact ⟨(b, N), rfl, rfl, fr⟩
      · rw [if_neg q2]
        by_cases q3 : akP (pP M0 k) (cC M0 kc) K (j : Int) = A
        · rw [if_pos q3, if_neg (by rw [decide_eq_true_iff]; exact fun w => w.2 q3)]
          exact ⟨(b, N), rfl, rfl, fr⟩
        · rw [if_neg q3, if_pos (decide_eq_true ⟨q2, q3⟩)]
          exact ⟨(oI b (1 * 2 ^ j), N), rfl, rfl, fr⟩
    · simp only [if_neg q1]
      by_cases q2 : A = -1
      · rw [if_pos q2]
        by_cases q3 : alW (pP M0 k) (cC M0 kc) (j : Int) K 8 ≤ 0
        · rw [if_pos q3, if_neg (by rw [decide_eq_true_iff]; exact fun w => by have := w.2; omega)]
          exact ⟨(b, N), rfl, rfl, fr⟩
        · rw [if_neg q3, if_pos (decide_eq_true ⟨q2, by omega⟩)]
          exact ⟨(oI b (1 * 2 ^ j), N), rfl, rfl, fr⟩
      · rw [if_neg q2, if_neg (by rw [decide_eq_true_iff]; exact fun w => q2 w.1)]
        exact ⟨(b, N), rfl, rfl, fr⟩
theorem e_aim {M : MM} (h : INV M) {x1 x2 x3 : Int} (r1 : R32 x1) (r2 : R32 x2) (r3 : R32 x3) : ∃ v v' M1 M2, sX11_aim 0 x1 x2 x3 M = some (v, M1) ∧ sX12_aim 359 x1 x2 x3 M1 = some (v', M2) ∧ wI v = wI v' ∧ INV M2 := by
  unfold sX11_aim sX11_aim_b0
  have refNo : ¬ (0 ≤ x3 ∧ x3 ≤ 2) → ∃ N, sX12_aim 359 x1 x2 x3 M = some (-2, N) ∧ FR M N := fun z => by
    unfold sX12_aim sX12_aim_b0
    rw [ob_s, in_f r3 ⟨by omega, by omega⟩ ⟨by omega, by omega⟩ z, i00]
    exact ⟨_, rfl, FR_0 M⟩
  rcases twoC h r1 r2 (some ((-2 : Int), M)) (fun m_2 m_6 => (if wI x3 = 0 then ((sX2_bestWay (gR 0 5) m_2 m_6 (-1) M).bind fun q_9 => (some (((q_9.1), q_9.2)))) else (if wI x3 = 1 then ((sX2_misled (gR 0 5) m_2 m_6 M).bind fun q_12 => (some (((q_12.1), q_12.2)))) else (if wI x3 = 2 then ((sX2_contrary (gR 0 5) m_2 m_6 M).bind fun q_15 => (some (((q_15.1), q_15.2)))) else (some (((-2), M))))))) with ⟨k, kc, hk, hkc, rfl, rfl, hlt, hltc, e⟩ | ⟨hno, e⟩
  · rw [e]
    obtain ⟨hc, hv⟩ := i_party h hlt
    obtain ⟨hcc, hw⟩ := i_clues h hltc
    obtain ⟨K, hK⟩ := Int.eq_ofNat_of_zero_le hw.1
    have gk := gC_k kc hkc
    have hl : LG (24 + 34 * kc + 1) 8 := by have := LG_ck kc hkc; rwa [show 25 + 34 * kc = 24 + 34 * kc + 1 by omega] at this
    have hg0 : gR (24 + 34 * kc) 0 = 24 + 34 * kc + 1 := by rw [gk.1]; omega
    have hg1 : gR (24 + 34 * kc) 1 = 24 + 34 * kc + 5 := by rw [gk.2]; omega
    have al0 := alW_b hv hw (-1) (K := K) (by omega) (n := 8) (by omega)
    rw [wI_of r3.1 r3.2, g0_5]
    by_cases z : 0 ≤ x3 ∧ x3 ≤ 2
    · have ref : ∀ M1 : MM, (∀ a, a ≠ 119 → a ≠ 120 → M1 a = M a) → ∃ N, sX12_aim 359 (k : Int) (kc : Int) x3 M1 = some ((if x3 = 0 then akP (pP M k) (cC M kc) K (-1) else if x3 = 1 then biN (fun j => decide (akP (pP M k) (cC M kc) K (-1) ≠ -1 ∧ akP (pP M k) (cC M kc) K (j : Int) ≠ akP (pP M k) (cC M kc) K (-1))) K else biN (fun j => decide (akP (pP M k) (cC M kc) K (-1) = -1 ∧ 0 < alW (pP M k) (cC M kc) (j : Int) K 8)) K), N) ∧ INV N := by
        intro M1 m2
        have f1 := FC_g m2
        have h1 := INV_1 f1 h
        have ep1 : pP M1 k = pP M k := pP_c (m2 365 (by omega) (by omega)) k
        have ec1 : cC M1 kc = cC M kc := by unfold cC; rw [m2 367 (by omega) (by omega)]
        rcases layC h1 r1 r2 with ⟨k', kc', -, -, ek, ekc, -, -, N, n1, n2, n3, n4, n5, n6, n7⟩ | ⟨hno, -⟩
        · have : k' = k := by omega
          subst this
          have : kc' = kc := by omega
          subst this
          rw [ep1] at n4
          rw [ec1] at n5
          rw [ep1, ec1] at n7
          obtain ⟨n8, n9⟩ := n7 K hK
          have wb : ∀ w, w < 8 → 0 ≤ N 378 w ∧ N 378 w ≤ 5188320900000000 := fun w hw8 => by rw [n9 w hw8]; exact wg_b hv hw (-1) hw8 K (by omega)
          have am := aimB n8 al0 wb
          rw [show aiP (N 378) (alW (pP M k') (cC M kc') (-1) K 8) = akP (pP M k') (cC M kc') K (-1) from aiP_x n9] at am
          have head : sX12_aim 359 (k' : Int) (kc' : Int) x3 M1 = if x3 = 0 then some (akP (pP M k') (cC M kc') K (-1), N) else sX12_aim_b45 359 (k' : Int) (kc' : Int) x3 FU (akP (pP M k') (cC M kc') K (-1)) 0 0 N := by
            unfold sX12_aim sX12_aim_b0
            rw [ob_s, in_1 r3.1 r3.2 (by omega) (by omega) z.1 z.2, i1z, n1, ob_s]
            show (if wI 1 = 0 then _ else _) = _
            rw [i10]
            dsimp only
            rw [am, ob_s, wI_of r3.1 r3.2]
          rw [head]
          by_cases q : x3 = 0
          · rw [if_pos q, if_pos q]; exact ⟨N, rfl, INV_2 n2 h1⟩
          · rw [if_neg q, if_neg q]
            obtain ⟨N2, w1, w2⟩ := aim45 n3 (by rw [n4]; exact hv) hkc n6 (by rw [n5]; exact hw) (K := K) (by rw [n5]; exact hK) (what := x3) (by omega) (k' : Int) (kc' : Int)
            rw [n4, n5] at w1
            exact ⟨N2, w1, INV_2 (FR_t n2 (F48_FR w2)) h1⟩
        · exact absurd ⟨⟨by omega, by rw [m2 364 (by omega) (by omega)]; exact hlt⟩, ⟨by omega, by rw [m2 364 (by omega) (by omega)]; exact hltc⟩⟩ hno
      by_cases q0 : x3 = 0
      · obtain ⟨M1, m1, m2⟩ := bestA hc hv (PG_p k hk) (by omega) hcc hw hl hg0 hg1 (by omega) (but := -1) ⟨by omega, by omega⟩ hK
        obtain ⟨N, n1, n2⟩ := ref M1 m2
        rw [if_pos q0, m1, ob_s]
        rw [if_pos q0] at n1
        exact ⟨_, _, M1, N, rfl, n1, rfl, n2⟩
      · rw [if_neg q0]
        by_cases q1 : x3 = 1
        · obtain ⟨M1, m1, m2⟩ := misA hc hv (PG_p k hk) (by omega) hcc hw hl hg0 hg1 (by omega) hK
          obtain ⟨N, n1, n2⟩ := ref M1 m2
          rw [if_pos q1, m1, ob_s]
          rw [if_neg q0, if_pos q1] at n1
          exact ⟨_, _, M1, N, rfl, n1, rfl, n2⟩
        · obtain ⟨M1, m1, m2⟩ := conA hc hv (PG_p k hk) (by omega) hcc hw hl hg0 hg1 (by omega) hK
          obtain ⟨N, n1, n2⟩ := ref M1 m2
          rw [if_neg q1, if_pos (show x3 = 2 by omega), m1, ob_s]
          rw [if_neg q0, if_neg q1] at n1
          exact ⟨_, _, M1, N, rfl, n1, rfl, n2⟩
    · obtain ⟨N, n1, n2⟩ := refNo z
      rw [if_neg (show ¬ x3 = 0 by omega), if_neg (show ¬ x3 = 1 by omega), if_neg (show ¬ x3 = 2 by omega)]
      exact ⟨-2, -2, M, N, rfl, n1, rfl, INV_2 n2 h⟩
  · rw [e]
    by_cases z : 0 ≤ x3 ∧ x3 ≤ 2
    · unfold sX12_aim sX12_aim_b0
      rcases layC h r1 r2 with ⟨k', kc', -, -, ek, ekc, a1, a2, N, n1, n2, -⟩ | ⟨-, N, n1, n2⟩
      · exact absurd ⟨⟨by omega, by omega⟩, ⟨by omega, by omega⟩⟩ hno
      · refine ⟨-2, -2, M, N, rfl, ?_, rfl, INV_2 n2 h⟩
        rw [ob_s, in_1 r3.1 r3.2 (by omega) (by omega) z.1 z.2, i1z, n1, ob_s]
        show (if wI 0 = 0 then _ else _) = _
        rw [i00]
    · obtain ⟨N, n1, n2⟩ := refNo z
      exact ⟨-2, -2, M, N, rfl, n1, rfl, INV_2 n2 h⟩
