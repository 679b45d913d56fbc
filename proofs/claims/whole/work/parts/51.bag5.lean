theorem packB {M0 : MM} {k kg : Nat} {s : Int} (h : GB M0 k kg s) (hv : PV (pP M0 k)) (hw : DV (dD M0 kg)) {n m : Nat} (hn : pP M0 k 1 = (n : Int)) (hm : dD M0 kg 0 = (m : Int)) (hs : s = -1 ∨ (0 ≤ s ∧ s < n)) (h5 : ∀ c, c < 8 → M0 385 c = pkd (pP M0 k) (dD M0 kg) s n m c) {law : Int} (hlaw : 0 ≤ law ∧ law ≤ 3) : ∃ M', sX12_pack 359 law M0 = some M' ∧ (∀ a, a ≠ 386 → M' a = M0 a) ∧ ∀ c, c < n → M' 386 c = bgP (pP M0 k) (dD M0 kg) s n m law c := by
  have hv1 := hv.1
  have hn8 : 1 ≤ n ∧ n ≤ 8 := by omega
  have hm25 : m ≤ 25 := by have := hw.2.1; omega
  have hR : ∀ j, j < m → 1 ≤ dD M0 kg (2 + 2 * j) ∧ dD M0 kg (2 + 2 * j) ≤ 9 := fun j hj => by have := hw.2.2 j (by omega); omega
  have ab := alF_b hm25 hR
  obtain ⟨w, hww⟩ := Int.eq_ofNat_of_zero_le ab.1
  unfold sX12_pack sX12_pack_b0
  rw [allFellB h.2.2 h.2.1 hm hm25, ob_s, hww]
  -- what is laid for c ahead of the thanks
  have first : ∃ T, (∀ a, a ≠ 386 → T a = M0 a) ∧ (∀ c, c < n → T 386 c = if law = 2 then pkd (pP M0 k) (dD M0 kg) s n m c else bgP (pP M0 k) (dD M0 kg) s n m law c) ∧ sX12_pack_b7 359 law FU (w : Int) 0 M0 = (if law = 2 then (sX12_thanks 359 T).bind fun q_3 => some q_3 else some T) := by
    refine loopC (fun f y (t : MM) => sX12_pack_b7 359 law f (w : Int) y t) n (fun c t => (∀ a, a ≠ 386 → t a = M0 a) ∧ ∀ j, j < c → t 386 j = if law = 2 then pkd (pP M0 k) (dD M0 kg) s n m j else bgP (pP M0 k) (dD M0 kg) s n m law j) (fun o => ∃ T, (∀ a, a ≠ 386 → T a = M0 a) ∧ (∀ c, c < n → T 386 c = if law = 2 then pkd (pP M0 k) (dD M0 kg) s n m c else bgP (pP M0 k) (dD M0 kg) s n m law c) ∧ o = (if law = 2 then (sX12_thanks 359 T).bind fun q_3 => some q_3 else some T)) ?_ ?_ FU 0 M0 (by omega) ⟨fun _ _ => rfl, fun c hc => by omega⟩ (by unfold FU; omega)
    · intro f t ht
      have gt := GB_c h (fun a _ ha => ht.1 a ha)
      have ep : pP t k = pP M0 k := pP_c (ht.1 365 (by omega)) k
      have h26 := gt.1.1.2.2.2.1
      rw [ep] at h26
      refine ⟨t, ht.1, ht.2, ?_⟩
      show sX12_pack_b7 359 law (f + 1) (w : Int) (n : Int) t = _
      rw [sX12_pack_b7, h26, hn, if_pos (Int.le_refl _), wI_of (x := law) (by omega) (by omega)]
    · intro f c t hcn ht
      right
      obtain ⟨ht1, ht2⟩ := ht
      have gt := GB_c h (fun a _ ha => ht1 a ha)
      have ep : pP t k = pP M0 k := pP_c (ht1 365 (by omega)) k
      have h26 := gt.1.1.2.2.2.1
      rw [ep] at h26
      have zc : 0 ≤ (c : Int) ∧ (c : Int) < 8 := ⟨by omega, by omega⟩
      have yb := yo_b (agP (pP M0 k)) n c
      obtain ⟨y, hy⟩ := Int.eq_ofNat_of_zero_le yb.1
      have hyo := youngB gt.1.1 (by rw [ep]; exact hv) (n := n) (by rw [ep]; exact hn) hcn
      rw [ep, hy] at hyo
      have fin : ∀ v : Int, (v = if law = 2 then pkd (pP M0 k) (dD M0 kg) s n m c else bgP (pP M0 k) (dD M0 kg) s n m law c) → (∀ a, a ≠ 386 → mU t 386 c v a = M0 a) ∧ ∀ j, j < c + 1 → mU t 386 c v 386 j = if law = 2 then pkd (pP M0 k) (dD M0 kg) s n m j else bgP (pP M0 k) (dD M0 kg) s n m law j := fun v hvv => ⟨fun a ha => by rw [mU_row _ _ ha]; exact ht1 a ha, fun j hj => by
        by_cases e : j = c
        · subst e; rw [mU_eq]; exact hvv
        · rw [mU_ne _ _ (by omega)]; exact ht2 j (by omega)⟩
      -- dealt: n times alike and one more for the first
      have deal : ∀ i : Nat, i ≤ 8 → bgP (pP M0 k) (dD M0 kg) s n m law c = (dlP n w i : Int) → law ≠ 2 → law ≠ 0 → ∃ s', sX12_pack_b29 359 law (fun x2 x3 M => sX12_pack_b7 359 law f x2 x3 M) (w : Int) (c : Int) (i : Int) t = sX12_pack_b7 359 law f (w : Int) ((c : Int) + 1) s' ∧ (∀ a, a ≠ 386 → s' a = M0 a) ∧ ∀ j, j < c + 1 → s' 386 j = if law = 2 then pkd (pP M0 k) (dD M0 kg) s n m j else bgP (pP M0 k) (dD M0 kg) s n m law j := by
        intro i hi8 hi l2 l0
        · have hmod : w % n < n := Nat.mod_lt _ (by omega)
          refine ⟨mU t 386 c (dlP n w i : Int), ?_, fin _ (by rw [if_neg l2, hi])⟩
          unfold sX12_pack_b29 sX12_pack_b76 sX12_pack_b77
          rw [wI_of (x := law) (by omega) (by omega), if_neg l0, if_neg l2, h26, hn, wI_of (x := (n : Int)) (by omega) (by omega), if_pos (show (n : Int) ≠ 0 by omega), if_pos (show (n : Int) ≠ 0 by omega), wI_of (x := (w : Int)) (by omega) (by omega), tm_n, td_n, wI_of (x := ((w % n : Nat) : Int)) (by omega) (by omega), wI_of (x := (i : Int)) (by omega) (by omega), wI_of (x := (c : Int)) (by omega) (by omega), if_pos zc, g359_62, tN, if_pos zc, ob_s, ob_s, ob_s, ob_s]
          unfold dlP
          by_cases z : ((w % n : Nat) : Int) ≤ (i : Int)
          · rw [if_pos z, if_neg (show ¬ i < w % n by omega)]; rfl
          · rw [if_neg z, if_pos (show i < w % n by omega)]; rfl
      have copy : law = 0 ∨ law = 2 → ∀ y : Int, ∃ s', sX12_pack_b29 359 law (fun x2 x3 M => sX12_pack_b7 359 law f x2 x3 M) (w : Int) (c : Int) y t = sX12_pack_b7 359 law f (w : Int) ((c : Int) + 1) s' ∧ (∀ a, a ≠ 386 → s' a = M0 a) ∧ ∀ j, j < c + 1 → s' 386 j = if law = 2 then pkd (pP M0 k) (dD M0 kg) s n m j else bgP (pP M0 k) (dD M0 kg) s n m law j := by
        intro l y
        refine ⟨mU t 386 c (pkd (pP M0 k) (dD M0 kg) s n m c), ?_, fin _ ?_⟩
        · unfold sX12_pack_b29 sX12_pack_b45 sX12_pack_b77
          rw [wI_of (x := law) (by omega) (by omega), wI_of (x := (c : Int)) (by omega) (by omega), if_pos zc, if_pos zc, g359_61, g359_62, tN, ht1 385 (by omega), h5 c (by omega), ob_s, ob_s]
          by_cases l0 : law = 0
          · rw [if_pos l0]
          · rw [if_neg l0, if_pos (by omega)]
        · by_cases l2 : law = 2
          · rw [if_pos l2]
          · rw [if_neg l2]; unfold bgP; rw [if_pos (by omega)]
      show ∃ s', sX12_pack_b7 359 law (f + 1) (w : Int) (c : Int) t = _ ∧ _
      rw [sX12_pack_b7, h26, hn, wI_of (x := (n : Int)) (by omega) (by omega), wI_of (x := (c : Int)) (by omega) (by omega), if_neg (show ¬ (n : Int) ≤ (c : Int) by omega), wI_of (x := law) (by omega) (by omega), hyo, ob_s]
      by_cases l1 : law = 1
      · rw [if_pos l1]
        exact deal c (by omega) (by unfold bgP; rw [if_neg (by omega), if_pos l1, hww, tN]) (by omega) (by omega)
      · rw [if_neg l1]
        by_cases l3 : law = 3
        · exact deal y (by omega) (by unfold bgP; rw [if_neg (by omega), if_neg l1, if_pos l3, hww, tN, hy, tN]) (by omega) (by omega)
        · exact copy (by omega) _
  obtain ⟨T, t1, t2, t3⟩ := first
  rw [t3]
  by_cases l2 : law = 2
  · rw [if_pos l2]
    have t2' : ∀ c, c < n → T 386 c = pkd (pP M0 k) (dD M0 kg) s n m c := fun c hc => by rw [t2 c hc, if_pos l2]
    have gt := GB_c h (fun a _ ha => t1 a ha)
    have ep : pP T k = pP M0 k := pP_c (t1 365 (by omega)) k
    by_cases z : s = -1
    · have h26 := gt.1.1.2.2.2.1
      rw [ep] at h26
      have e : sX12_thanks 359 T = some T := by
        unfold sX12_thanks sX12_thanks_b0
        rw [show FU = 99999 + 1 from rfl, sX12_thanks_b2, h26, hn, wI_of (x := (n : Int)) (by omega) (by omega), wI_0, if_neg (by omega), gt.1.2.1, z, wI_m1, if_pos rfl]
        unfold sX12_thanks_b79
        rw [show FU = 99999 + 1 from rfl, sX12_thanks_b81, h26, hn, wI_of (x := (n : Int)) (by omega) (by omega), wI_0, if_neg (by omega), gt.1.2.1, z, wI_m1, if_pos rfl]
      rw [e, ob_s]
      refine ⟨T, rfl, t1, fun c hc => ?_⟩
      unfold bgP
      rw [if_neg (by omega), if_neg (by omega), if_neg (by omega), if_pos z]
      exact t2' c hc
    · obtain ⟨s', rfl⟩ := Int.eq_ofNat_of_zero_le (show 0 ≤ s by omega)
      obtain ⟨N, n1, n2, n3⟩ := thankB gt (by rw [ep]; exact hv) (n := n) (by rw [ep]; exact hn) (by omega) (b := pkd (pP M0 k) (dD M0 kg) (s' : Int) n m) (pkd_b hm25 hR) (fun c hc => by rw [t1 385 (by omega)]; exact h5 c hc) t2'
      rw [n1, ob_s]
      refine ⟨N, rfl, fun a ha => (n2 a ha).trans (t1 a ha), fun c hc => ?_⟩
      rw [n3 c hc, ep]
      unfold bgP
      rw [if_neg (by omega), if_neg (by omega), if_neg (by omega), if_neg z, tN]
  · rw [if_neg l2]
    refine ⟨T, rfl, t1, fun c hc => ?_⟩
    rw [t2 c hc, if_neg l2]
theorem le_e {x y : Int} (hx : R32 x) (hy : R32 y) : sX12_lesser x y = min x y := by
  unfold sX12_lesser sX12_lesser_b0
  rw [wI_of hx.1 hx.2, wI_of hy.1 hy.2]
  split <;> omega
theorem ge_e {x y : Int} (hx : R32 x) (hy : R32 y) : sX12_greater x y = max x y := by
  unfold sX12_greater sX12_greater_b0
  rw [wI_of hx.1 hx.2, wI_of hy.1 hy.2]
  split <;> omega
theorem unevenB {M0 : MM} {k kg : Nat} {s : Int} (h : GB M0 k kg s) (hv : PV (pP M0 k)) (hw : DV (dD M0 kg)) {n m : Nat} (hn : pP M0 k 1 = (n : Int)) (hm : dD M0 kg 0 = (m : Int)) (hs : s = -1 ∨ (0 ≤ s ∧ s < n)) (h5 : ∀ c, c < 8 → M0 385 c = pkd (pP M0 k) (dD M0 kg) s n m c) {law : Int} (hlaw : 0 ≤ law ∧ law ≤ 3) : ∃ M', sX12_unevenBags 359 law M0 = some (unP (pP M0 k) (dD M0 kg) s n m law, M') ∧ (∀ a, a ≠ 386 → M' a = M0 a) ∧ ∀ c, c < n → M' 386 c = bgP (pP M0 k) (dD M0 kg) s n m law c := by
  have hv1 := hv.1
  have hn8 : 1 ≤ n ∧ n ≤ 8 := by omega
  have hm25 : m ≤ 25 := by have := hw.2.1; omega
  have hR : ∀ j, j < m → 1 ≤ dD M0 kg (2 + 2 * j) ∧ dD M0 kg (2 + 2 * j) ≤ 9 := fun j hj => by have := hw.2.2 j (by omega); omega
  obtain ⟨N, n1, n2, n3⟩ := packB h hv hw hn hm hs h5 hlaw
  refine ⟨N, ?_, n2, n3⟩
  have gn := GB_c h (fun a _ ha => n2 a ha)
  have ep : pP N k = pP M0 k := pP_c (n2 365 (by omega)) k
  have h26 := gn.1.1.2.2.2.1
  rw [ep] at h26
  have hb := bg_b (P := pP M0 k) (s := s) (n := n) hn8.2 hm25 hR law
  unfold sX12_unevenBags sX12_unevenBags_b0 unP
  rw [n1, ob_s, g359_62, n3 0 (by omega)]
  generalize bgP (pP M0 k) (dD M0 kg) s n m law = b at *
  refine loopC (fun f y (t : Int × Int) => sX12_unevenBags_b22 359 law f t.1 t.2 y N) n (fun c t => t = (mnN b c, mxN b c)) (fun o => o = some (mxN b n - mnN b n, N)) ?_ ?_ FU 1 (b 0, b 0) (by omega) ?_ (by unfold FU; omega)
  · intro f t ht
    show sX12_unevenBags_b22 359 law (f + 1) t.1 t.2 (n : Int) N = _
    rw [sX12_unevenBags_b22, h26, hn, if_pos (Int.le_refl _), ht]
  · intro f c t hcn ht
    right
    have mb := mx_b hb c
    have bc := hb c
    have z8 : 0 ≤ (c : Int) ∧ (c : Int) < 8 := ⟨by omega, by omega⟩
    refine ⟨(mnN b (c + 1), mxN b (c + 1)), ?_, rfl⟩
    subst ht
    show sX12_unevenBags_b22 359 law (f + 1) (mnN b c) (mxN b c) (c : Int) N = sX12_unevenBags_b22 359 law f (min (mnN b c) (b c)) (max (mxN b c) (b c)) ((c : Int) + 1) N
    rw [sX12_unevenBags_b22, h26, hn, wI_of (x := (n : Int)) (by omega) (by omega), wI_of (x := (c : Int)) (by omega) (by omega), if_neg (show ¬ (n : Int) ≤ (c : Int) by omega), if_pos z8, ob_s, if_pos z8, ob_s, ob_s, g359_62, tN, n3 c hcn, le_e ⟨by omega, by omega⟩ ⟨by omega, by omega⟩, ge_e ⟨by omega, by omega⟩ ⟨by omega, by omega⟩]
  · show (b 0, b 0) = (min (b 0) (b 0), max (b 0) (b 0))
    rw [Int.max_self, Int.min_self]
theorem justB {M0 : MM} {k kg : Nat} {s : Int} (h : GB M0 k kg s) (hv : PV (pP M0 k)) (hw : DV (dD M0 kg)) {n m : Nat} (hn : pP M0 k 1 = (n : Int)) (hm : dD M0 kg 0 = (m : Int)) (hs : s = -1 ∨ (0 ≤ s ∧ s < n)) (h5 : ∀ c, c < 8 → M0 385 c = pkd (pP M0 k) (dD M0 kg) s n m c) : ∃ M', sX12_just 359 M0 = some ((fo (juS (unP (pP M0 k) (dD M0 kg) s n m)) 4 (-1, 0)).1, M') ∧ (∀ a, a ≠ 386 → M' a = M0 a) := by
  have hv1 := hv.1
  have hn8 : 1 ≤ n ∧ n ≤ 8 := by omega
  have hm25 : m ≤ 25 := by have := hw.2.1; omega
  have hR : ∀ j, j < m → 1 ≤ dD M0 kg (2 + 2 * j) ∧ dD M0 kg (2 + 2 * j) ≤ 9 := fun j hj => by have := hw.2.2 j (by omega); omega
  have ub : ∀ law, -300 ≤ unP (pP M0 k) (dD M0 kg) s n m law ∧ unP (pP M0 k) (dD M0 kg) s n m law ≤ 300 := fun law => by
    have := mx_b (b := bgP (pP M0 k) (dD M0 kg) s n m law) (B := 300) (bg_b hn8.2 hm25 hR law) n
    unfold unP
    omega
  have step : ∀ T : MM, (∀ a, a ≠ 386 → T a = M0 a) → ∀ law, 0 ≤ law ∧ law ≤ 3 → ∃ M', sX12_unevenBags 359 law T = some (unP (pP M0 k) (dD M0 kg) s n m law, M') ∧ (∀ a, a ≠ 386 → M' a = M0 a) := by
    intro T hT law hl
    have gt := GB_c h (fun a _ ha => hT a ha)
    have ep : pP T k = pP M0 k := pP_c (hT 365 (by omega)) k
    have ed := dD_c (hT 368 (by omega)) kg
    obtain ⟨N, a1, a2, a3⟩ := unevenB gt (by rw [ep]; exact hv) (by rw [ed]; exact hw) (n := n) (m := m) (by rw [ep]; exact hn) (by rw [ed]; exact hm) hs (fun c hc => by rw [ep, ed, hT 385 (by omega)]; exact h5 c hc) hl
    rw [ep, ed] at a1
    exact ⟨N, a1, fun a ha => (a2 a ha).trans (hT a ha)⟩
  unfold sX12_just sX12_just_b0
  refine loopC (fun f y (t : Int × MM) => sX12_just_b4 359 f t.1 y t.2) 4 (fun l t => 0 < l ∧ t.1 = (fo (juS (unP (pP M0 k) (dD M0 kg) s n m)) l (-1, 0)).1 ∧ (∀ a, a ≠ 386 → t.2 a = M0 a)) (fun o => ∃ M', o = some ((fo (juS (unP (pP M0 k) (dD M0 kg) s n m)) 4 (-1, 0)).1, M') ∧ (∀ a, a ≠ 386 → M' a = M0 a)) ?_ ?_ FU 1 (0, M0) (by omega) ⟨by omega, ?_, fun _ _ => rfl⟩ (by unfold FU; omega)
  · intro f t ht
    show ∃ M', sX12_just_b4 359 (f + 1) t.1 ((4 : Nat) : Int) t.2 = _ ∧ _
    rw [sX12_just_b4, wI_of (by omega) (by omega), if_pos (by omega), ht.2.1]
    exact ⟨_, rfl, ht.2.2⟩
  · intro f l t hl4 ht
    right
    obtain ⟨b, T⟩ := t
    obtain ⟨hl0, ht1, ht2⟩ := ht
    dsimp only at ht1 ht2
    have e := fo_s (juS (unP (pP M0 k) (dD M0 kg) s n m)) l (-1, 0)
    rcases ju_i (unP (pP M0 k) (dD M0 kg) s n m) l with ⟨h0, -⟩ | ⟨-, j1, j2, j3⟩
    · omega
    obtain ⟨N1, a1, a2⟩ := step T ht2 (l : Int) ⟨by omega, by omega⟩
    obtain ⟨N2, a3, a4⟩ := step N1 a2 b (by rw [ht1]; omega)
    have u1 := ub (l : Int)
    have u2 := ub b
    rw [← ht1] at j1 j2 j3
    show ∃ s', sX12_just_b4 359 (f + 1) b (l : Int) T = _ ∧ _
    rw [e, sX12_just_b4, wI_of (x := (l : Int)) (by omega) (by omega), if_neg (show ¬ 4 ≤ (l : Int) by omega), a1, ob_s]
    dsimp only
    rw [a3, ob_s]
    dsimp only
    unfold sX12_just_b27
    simp only [ob_s]
    clear e
    generalize fo (juS (unP (pP M0 k) (dD M0 kg) s n m)) l (-1, 0) = t at *
    have s1 : (t.1 = -1 ∨ unP (pP M0 k) (dD M0 kg) s n m (l : Int) < t.2) → (juS (unP (pP M0 k) (dD M0 kg) s n m) l t).1 = (l : Int) := fun q => by unfold juS; rw [if_pos q]
    have s2 : ¬ (t.1 = -1 ∨ unP (pP M0 k) (dD M0 kg) s n m (l : Int) < t.2) → (juS (unP (pP M0 k) (dD M0 kg) s n m) l t).1 = t.1 := fun q => by unfold juS; rw [if_neg q]
    generalize juS (unP (pP M0 k) (dD M0 kg) s n m) l t = t' at *
    generalize unP (pP M0 k) (dD M0 kg) s n m (l : Int) = U at *
    generalize unP (pP M0 k) (dD M0 kg) s n m b = V at *
    rw [wI_of (x := U) (by omega) (by omega), wI_of (x := V) (by omega) (by omega)]
    by_cases z : V ≤ U
    · rw [if_pos z, s2 (by omega)]
      exact ⟨(b, N2), rfl, by omega, ht1, a4⟩
    · rw [if_neg z, s1 (by omega)]
      exact ⟨((l : Int), N2), rfl, by omega, rfl, a4⟩
  · show (0 : Int) = (juS (unP (pP M0 k) (dD M0 kg) s n m) 0 (-1, 0)).1
    unfold juS
    rw [if_pos (Or.inl rfl)]
    rfl
theorem e_bag {M : MM} (h : INV M) {x1 x2 x3 x4 x5 : Int} (r1 : R32 x1) (r2 : R32 x2) (r3 : R32 x3) (r4 : R32 x4) (r5 : R32 x5) : ∃ v v' M1 M2, sX11_bag 0 x1 x2 x3 x4 x5 M = some (v, M1) ∧ sX12_bag 359 x1 x2 x3 x4 x5 M1 = some (v', M2) ∧ wI v = wI v' ∧ INV M2 := by
  -- the class with what it leaves; the reference from there
  have refNo : ∀ M1 : MM, FC M M1 → ¬ ((0 ≤ x2 ∧ x2 < M 364 3) ∧ (∃ k : Nat, x1 = (k : Int) ∧ (k : Int) < M 364 0 ∧ (x3 = -1 ∨ (0 ≤ x3 ∧ x3 < pP M k 1)) ∧ (-1 ≤ x4 ∧ x4 ≤ 3) ∧ (x5 = -1 ∨ ((0 ≤ x5 ∧ x5 < pP M k 1) ∧ x4 ≠ -1)))) → ∃ N, sX12_bag 359 x1 x2 x3 x4 x5 M1 = some (-1, N) ∧ FR M1 N := by
    intro M1 f1 hno
    have h1 := INV_1 f1 h
    have hsz := (i_size h1 (s := 3) (by omega)).2
    have hb := has_g (M := mU M1 359 0 0) (x := x2) (by rw [m0_364]; exact hsz) r2
    have ep1 : ∀ k, pP M1 k = pP M k := fun k => pP_c (f1 365 (by omega)) k
    unfold sX12_bag sX12_bag_b0
    rw [ob_s, hb, ob_s, m0_364, f1 364 (by omega)]
    have fr1 : FR M1 (mU (mU M1 359 0 0) 359 60 x2) := FR_u (FR_0 M1) (by omega)
    by_cases g : 0 ≤ x2 ∧ x2 < M 364 3
    · rw [if_pos g]
      show ∃ N, (if wI 1 = 0 then _ else _) = _ ∧ _
      rw [i10]
      dsimp only
      have hz : 0 ≤ mU (mU M1 359 0 0) 359 60 x2 364 0 ∧ mU (mU M1 359 0 0) 359 60 x2 364 0 ≤ 2 := by
        rw [mU_row _ _ (by omega), mU_row _ _ (by omega)]; exact (i_size h1 (s := 0) (by omega)).2
      have e0 : mU (mU M1 359 0 0) 359 60 x2 364 0 = M 364 0 := by rw [mU_row _ _ (by omega), mU_row _ _ (by omega), f1 364 (by omega)]
      have ep2 : ∀ k, pP (mU (mU M1 359 0 0) 359 60 x2) k = pP M k := fun k => by rw [pP_c (mU_row _ _ (by omega)), pP_c (mU_row _ _ (by omega)), ep1]
      by_cases q : ∃ k : Nat, x1 = (k : Int) ∧ (k : Int) < M 364 0 ∧ (x3 = -1 ∨ (0 ≤ x3 ∧ x3 < pP M k 1))
      · obtain ⟨k, rfl, hlt, hs⟩ := q
        have hv := (i_party h hlt).2
        obtain ⟨N, e, n1, n2, n3⟩ := lay_t hz (k := k) (by rw [e0]; exact hlt) (by rw [ep2]; exact hv) r3 (by rw [ep2]; exact hs)
        have frN : FR M1 N := FR_t fr1 (FR_lay n1)
        have h26 := n3.1.2.2.2.1
        rw [(pP_c (n1 365 (by omega) (by omega)) k), ep2] at h26
        have hv1 := hv.1
        rw [e, ob_s]
        show ∃ N, (if wI 1 = 0 then _ else _) = _ ∧ _
        rw [i10, wI_of r5.1 r5.2, wI_of r4.1 r4.2]
        by_cases z4 : -1 ≤ x4 ∧ x4 ≤ 3
        · rw [in_1 r4.1 r4.2 (by omega) (by omega) z4.1 z4.2, i1z]
          by_cases z5 : x5 = -1
          · exact absurd ⟨g, k, rfl, hlt, hs, z4, Or.inl z5⟩ hno
          · rw [if_neg z5, chi_e h26 ⟨by omega, by omega⟩ r5, ob_s]
            by_cases z6 : 0 ≤ x5 ∧ x5 < pP M k 1
            · rw [if_pos z6, i10]
              by_cases z7 : x4 = -1
              · rw [if_pos z7]; exact ⟨N, rfl, frN⟩
              · exact absurd ⟨g, k, rfl, hlt, hs, z4, Or.inr ⟨z6, z7⟩⟩ hno
            · rw [if_neg z6, i00]; exact ⟨N, rfl, frN⟩
        · rw [in_f r4 ⟨by omega, by omega⟩ ⟨by omega, by omega⟩ z4, i00]; exact ⟨N, rfl, frN⟩
      · obtain ⟨N, e, n1, n2⟩ := lay_f hz r1 r3 (fun k hk => by rw [e0] at hk; rw [ep2]; exact (i_party h hk).2) (fun ⟨k, a, b, c⟩ => q ⟨k, a, by rw [e0] at b; exact b, by rw [ep2] at c; exact c⟩)
        rw [e, ob_s]
        show ∃ N, (if wI 0 = 0 then _ else _) = _ ∧ _
        rw [i00]
        exact ⟨N, rfl, FR_t fr1 (FR_lay (fun a ha _ => n1 a ha))⟩
    · rw [if_neg g]
      show ∃ N, (if wI 0 = 0 then _ else _) = _ ∧ _
      rw [i00]
      exact ⟨_, rfl, fr1⟩
  have no : (sX11_bag 0 x1 x2 x3 x4 x5 M = some (-1, M)) → ¬ ((0 ≤ x2 ∧ x2 < M 364 3) ∧ (∃ k : Nat, x1 = (k : Int) ∧ (k : Int) < M 364 0 ∧ (x3 = -1 ∨ (0 ≤ x3 ∧ x3 < pP M k 1)) ∧ (-1 ≤ x4 ∧ x4 ≤ 3) ∧ (x5 = -1 ∨ ((0 ≤ x5 ∧ x5 < pP M k 1) ∧ x4 ≠ -1)))) → ∃ v v' M1 M2, sX11_bag 0 x1 x2 x3 x4 x5 M = some (v, M1) ∧ sX12_bag 359 x1 x2 x3 x4 x5 M1 = some (v', M2) ∧ wI v = wI v' ∧ INV M2 := fun e hno => by
    obtain ⟨N, n1, n2⟩ := refNo M (FC_r M) hno
    exact ⟨-1, -1, M, N, e, n1, rfl, INV_2 n2 h⟩
  rcases a_party h r1 with ⟨k, hk, hxk, hlt, e⟩ | ⟨hn, e⟩
  · subst hxk
    obtain ⟨hc, hv⟩ := i_party h hlt
    have hg := PG_p k hk
    have hv1 := hv.1
    obtain ⟨n, hn⟩ := Int.eq_ofNat_of_zero_le (show 0 ≤ pP M k 1 by omega)
    have kk : ∀ k' : Nat, (k : Int) = (k' : Int) → k' = k := fun k' q => by omega
    rcases a_ground h r2 with ⟨kg, hkg, hxg, hltg, eg⟩ | ⟨hng, eg⟩
    · subst hxg
      obtain ⟨hd, hw⟩ := i_ground h hltg
      obtain ⟨m, hm⟩ := Int.eq_ofNat_of_zero_le hw.1
      have hm25 : m ≤ 25 := by have := hw.2.1; omega
      by_cases hs : x3 = -1 ∨ (0 ≤ x3 ∧ x3 < pP M k 1)
      · have hs' : x3 = -1 ∨ (0 ≤ x3 ∧ x3 < (n : Int)) := by rw [← hn]; exact hs
        have head : sX11_bag 0 (k : Int) (kg : Int) x3 x4 x5 M = if x5 = -1 then sX11_bag_b51 0 (k : Int) (kg : Int) x3 x4 x5 (9 + 34 * k) (30 + 34 * kg) M else if 0 ≤ x5 ∧ x5 < pP M k 1 then sX11_bag_b51 0 (k : Int) (kg : Int) x3 x4 x5 (9 + 34 * k) (30 + 34 * kg) M else some (-1, M) := by
          unfold sX11_bag sX11_bag_b0
          rw [e, ob_s, nMs_, eg, ob_s, nMs_, may_e hc.1.2.1 ⟨by omega, by omega⟩ r3, if_pos hs, i10, wI_of r5.1 r5.2, has_e hc.1.2.1 ⟨by omega, by omega⟩ r5]
          by_cases z5 : x5 = -1
          · rw [if_pos z5, if_pos z5]
          · rw [if_neg z5, if_neg z5]
            by_cases z6 : 0 ≤ x5 ∧ x5 < pP M k 1
            · rw [if_pos z6, if_pos z6, i10]
            · rw [if_neg z6, if_neg z6, i00]
        by_cases ok : (-1 ≤ x4 ∧ x4 ≤ 3) ∧ (x5 = -1 ∨ ((0 ≤ x5 ∧ x5 < pP M k 1) ∧ x4 ≠ -1))
        · -- both reckon
          have refYes : ∀ M1 : MM, FC M M1 → ∃ N, FR M1 N ∧ GB N k kg x3 ∧ pP N k = pP M k ∧ dD N kg = dD M kg ∧ (∀ c, c < 8 → N 385 c = pkd (pP M k) (dD M kg) x3 n m c) ∧ sX12_bag 359 (k : Int) (kg : Int) x3 x4 x5 M1 = (if x4 = -1 then (sX12_just 359 N).bind fun q_7 => some (q_7.1, q_7.2) else (sX12_unevenBags 359 x4 N).bind fun q_3 => if x5 = -1 then some (q_3.1, q_3.2) else if 0 ≤ x5 ∧ x5 < 8 then some (q_3.2 386 x5.toNat, q_3.2) else none) := by
            intro M1 f1
            have h1 := INV_1 f1 h
            have hb := has_g (M := mU M1 359 0 0) (x := (kg : Int)) (by rw [m0_364]; exact (i_size h1 (s := 3) (by omega)).2) r2
            have fr1 : FR M1 (mU (mU M1 359 0 0) 359 60 (kg : Int)) := FR_u (FR_0 M1) (by omega)
            have e0 : mU (mU M1 359 0 0) 359 60 (kg : Int) 364 0 = M 364 0 := by rw [mU_row _ _ (by omega), mU_row _ _ (by omega), f1 364 (by omega)]
            have ep2 : pP (mU (mU M1 359 0 0) 359 60 (kg : Int)) k = pP M k := by rw [pP_c (mU_row _ _ (by omega)), pP_c (mU_row _ _ (by omega)), pP_c (f1 365 (by omega))]
            obtain ⟨N, el, n1, n2, n3⟩ := lay_t (M := mU (mU M1 359 0 0) 359 60 (kg : Int)) (by rw [e0]; exact (i_size h (s := 0) (by omega)).2) (k := k) (by rw [e0]; exact hlt) (by rw [ep2]; exact hv) r3 (by rw [ep2]; exact hs)
            have epN : pP N k = pP M k := (pP_c (n1 365 (by omega) (by omega)) k).trans ep2
            have edN : dD N kg = dD M kg := by rw [dD_c (n1 368 (by omega) (by omega)), dD_c (mU_row _ _ (by omega)), dD_c (mU_row _ _ (by omega)), dD_c (f1 368 (by omega))]
            have gN : GB N k kg x3 := ⟨by rw [epN]; rw [ep2] at n3; exact n3, by rw [n2 60 (by omega) (by omega), mU_eq], hkg⟩
            obtain ⟨N', p1, p2, p3⟩ := pickUpB r3 gN (by rw [epN]; exact hv) (by rw [edN]; exact hw) (n := n) (m := m) (by rw [epN]; exact hn) (by rw [edN]; exact hm)
            rw [epN, edN] at p3
            have gN' := GB_c gN (fun a ha _ => p2 a ha)
            have h26 := n3.1.2.2.2.1
            rw [epN] at h26
            refine ⟨N', FR_t (FR_t fr1 (FR_lay n1)) (fun a ha hb => p2 a (by omega)), gN', (pP_c (p2 365 (by omega)) k).trans epN, (dD_c (p2 368 (by omega)) kg).trans edN, p3, ?_⟩
            have e55 : sX12_bag_b55 359 (k : Int) (kg : Int) x3 x4 x5 N = (if x4 = -1 then (sX12_just 359 N').bind fun q_7 => some (q_7.1, q_7.2) else (sX12_unevenBags 359 x4 N').bind fun q_3 => if x5 = -1 then some (q_3.1, q_3.2) else if 0 ≤ x5 ∧ x5 < 8 then some (q_3.2 386 x5.toNat, q_3.2) else none) := by
              unfold sX12_bag_b55
              rw [p1, ob_s, wI_of r4.1 r4.2, wI_of r5.1 r5.2, g359_62]
            unfold sX12_bag sX12_bag_b0
            rw [ob_s, hb, ob_s, m0_364, f1 364 (by omega), if_pos (show 0 ≤ (kg : Int) ∧ (kg : Int) < M 364 3 from ⟨by omega, hltg⟩)]
            show (if wI 1 = 0 then _ else _) = _
            rw [i10]
            dsimp only
            rw [el, ob_s]
            show (if wI 1 = 0 then _ else _) = _
            rw [i10, in_1 r4.1 r4.2 (by omega) (by omega) ok.1.1 ok.1.2, i1z, e55, chi_e h26 ⟨by omega, by omega⟩ r5, ob_s, wI_of r4.1 r4.2, wI_of r5.1 r5.2]
            by_cases z5 : x5 = -1
            · rw [if_pos z5]
            · rw [if_neg z5, if_pos (show 0 ≤ x5 ∧ x5 < pP M k 1 by omega), i10, if_neg (show ¬ x4 = -1 by omega)]
          have head2 : sX11_bag 0 (k : Int) (kg : Int) x3 x4 x5 M = sX11_bag_b51 0 (k : Int) (kg : Int) x3 x4 x5 (9 + 34 * k) (30 + 34 * kg) M := by
            rw [head]
            by_cases z5 : x5 = -1
            · rw [if_pos z5]
            · rw [if_neg z5, if_pos (by omega)]
          unfold sX11_bag_b51 sX11_bag_b76 at head2
          rw [wI_of r4.1 r4.2, wI_of r5.1 r5.2, g0_7] at head2
          by_cases z4 : x4 = -1
          · have z5 : x5 = -1 := by omega
            obtain ⟨M1, j1, j2⟩ := justA hc hv hg (by omega) hd hw (LG_gk kg hkg) (by omega) hn hm (s := x3) hs'
            have f1 : FC M M1 := fun a ha => j2 a (by omega) (by omega)
            obtain ⟨N, q1, q2, q3, q4, q5, q6⟩ := refYes M1 f1
            obtain ⟨N2, w1, w2⟩ := justB q2 (by rw [q3]; exact hv) (by rw [q4]; exact hw) (n := n) (m := m) (by rw [q3]; exact hn) (by rw [q4]; exact hm) hs' (by rw [q3, q4]; exact q5)
            rw [q3, q4] at w1
            rw [if_pos z4, if_pos z5, j1, ob_s] at head2
            rw [if_pos z4, w1, ob_s] at q6
            exact ⟨_, _, M1, N2, head2, q6, rfl, INV_2 (FR_t q1 (fun a ha hb => w2 a (by omega))) (INV_1 f1 h)⟩
          · obtain ⟨M1, j1, j2, j3⟩ := fillA hc hv hg (by omega) hd hw (LG_gk kg hkg) (by omega) hn hm (s := x3) hs' (law := x4) ⟨by omega, by omega⟩
            have f1 : FC M M1 := fun a ha => j2 a (by omega) (by omega)
            obtain ⟨N, q1, q2, q3, q4, q5, q6⟩ := refYes M1 f1
            obtain ⟨N2, w1, w2, w3⟩ := unevenB q2 (by rw [q3]; exact hv) (by rw [q4]; exact hw) (n := n) (m := m) (by rw [q3]; exact hn) (by rw [q4]; exact hm) hs' (by rw [q3, q4]; exact q5) (law := x4) ⟨by omega, by omega⟩
            rw [q3, q4] at w1 w3
            have hR : ∀ j, j < m → 1 ≤ dD M kg (2 + 2 * j) ∧ dD M kg (2 + 2 * j) ≤ 9 := fun j hj => by have := hw.2.2 j (by omega); omega
            have un := unevenA (PC_c (fun j hj => j2 _ (by omega) (by omega)) hc) hn ⟨by omega, by omega⟩ (b := bgP (pP M k) (dD M kg) x3 n m x4) (bg_b (by omega) hm25 hR _) j3
            rw [if_neg z4, if_neg (show ¬ x4 < 0 by omega), if_pos (show x4 ≤ 3 by omega), j1, ob_s, g127_0, un, ob_s] at head2
            rw [if_neg z4, w1, ob_s] at q6
            have fin := INV_2 (FR_t q1 (fun a ha hb => w2 a (by omega))) (INV_1 f1 h)
            by_cases z5 : x5 = -1
            · rw [if_pos z5] at head2 q6
              exact ⟨_, _, M1, N2, head2, q6, rfl, fin⟩
            · obtain ⟨c, rfl⟩ := Int.eq_ofNat_of_zero_le (show 0 ≤ x5 by omega)
              have z8 : 0 ≤ (c : Int) ∧ (c : Int) < 8 := ⟨by omega, by omega⟩
              rw [if_neg z5, if_pos z8, tN] at head2 q6
              exact ⟨_, _, M1, N2, head2, q6, by rw [j3 c (by omega)]; exact congrArg wI (w3 c (by omega)).symm, fin⟩
        · refine no ?_ (fun q => ?_)
          · rw [head]
            unfold sX11_bag_b51 sX11_bag_b76
            rw [wI_of r4.1 r4.2, wI_of r5.1 r5.2]
            by_cases z5 : x5 = -1
            · rw [if_pos z5, if_neg (show ¬ x4 = -1 by omega)]
              by_cases z : x4 < 0
              · rw [if_pos z]
              · rw [if_neg z, if_neg (by omega)]
            · rw [if_neg z5]
              by_cases z6 : 0 ≤ x5 ∧ x5 < pP M k 1
              · rw [if_pos z6, if_neg z5]
                have e1 : (if x4 < 0 then some (-1, M) else if x4 ≤ 3 then (sX10_fillBags (gR 0 7) (9 + 34 * k) (30 + 34 * kg) x3 x4 M).bind fun q_4 => if 0 ≤ x5 ∧ x5 < 8 then some (q_4 (gR (gR 0 7) 0) x5.toNat, q_4) else none else some (-1, M)) = some (-1, M) := by
                  by_cases z : x4 < 0
                  · rw [if_pos z]
                  · rw [if_neg z, if_neg (by omega)]
                by_cases z : x4 = -1
                · rw [if_pos z, if_pos (by omega)]
                · rw [if_neg z]
                  by_cases z' : x4 < 0
                  · rw [if_pos z']
                  · rw [if_neg z', if_neg (by omega)]
              · rw [if_neg z6]
          · obtain ⟨-, k', hk', -, -, o1, o2⟩ := q
            have := kk k' hk'
            subst this
            exact ok ⟨o1, o2⟩
      · refine no ?_ (fun q => ?_)
        · unfold sX11_bag sX11_bag_b0
          rw [e, ob_s, nMs_, eg, ob_s, nMs_, may_e hc.1.2.1 ⟨by omega, by omega⟩ r3, if_neg hs, i00]
        · obtain ⟨-, k', hk', -, o, -⟩ := q
          have := kk k' hk'
          subst this
          exact hs o
    · refine no ?_ (fun q => hng q.1)
      unfold sX11_bag sX11_bag_b0
      rw [e, ob_s, nMs_, eg, ob_s, nM0_]
  · refine no ?_ (fun q => ?_)
    · unfold sX11_bag sX11_bag_b0
      rw [e, ob_s, nM0_]
      rcases a_ground h r2 with ⟨kg, hkg, hxg, hltg, eg⟩ | ⟨hng, eg⟩
      · rw [eg, ob_s, nMs_]
      · rw [eg, ob_s, nM0_]
    · obtain ⟨-, k, hk, hlt, -⟩ := q
      exact hn ⟨by omega, by omega⟩
