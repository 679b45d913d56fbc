/-- the reference's ground kg, party k, striker s -/
def GB (M : MM) (k kg : Nat) (s : Int) : Prop := YB M k s (spP (pP M k)) ∧ M 359 60 = (kg : Int) ∧ kg < 2
theorem GB_c {M M' : MM} {k kg : Nat} {s : Int} (h : GB M k kg s) (e : ∀ a, a ≠ 385 → a ≠ 386 → M' a = M a) : GB M' k kg s := by
  have ep : pP M' k = pP M k := pP_c (e 365 (by omega) (by omega)) k
  have e9 := e 359 (by omega) (by omega)
  unfold GB YB
  rw [ep, e9, e 384 (by omega) (by omega)]
  exact ⟨⟨HD_c h.1.1 (e 365 (by omega) (by omega)) (fun j _ _ => by rw [e9]), h.1.2.1, h.1.2.2⟩, h.2.1, h.2.2⟩
theorem dD_c {M M' : MM} (h : M' 368 = M 368) (k : Nat) : dD M' k = dD M k := by unfold dD; rw [h]
theorem allFellB {M : MM} {kg m : Nat} (hk : kg < 2) (h : M 359 60 = (kg : Int)) (hm : dD M kg 0 = (m : Int)) (hm25 : m ≤ 25) : sX12_allFell 359 M = some (alF (dD M kg) m) := by
  unfold sX12_allFell sX12_allFell_b0
  refine loopC (fun f x (s : Int) => sX12_allFell_b4 359 M f s x) m (fun k' s => s = sm (fun j => dD M kg (2 + 2 * j)) k') (fun o => o = some (alF (dD M kg) m)) ?_ ?_ FU 0 0 (by omega) rfl (by unfold FU; omega)
  · intro f s hs
    show sX12_allFell_b4 359 M (f + 1) s m = _
    rw [sX12_allFell_b4, falls_e hk h, ob_s, hm, if_pos (Int.le_refl _), hs]; rfl
  · intro f j s hj hs
    right
    refine ⟨s + dD M kg (2 + 2 * j), ?_, by rw [hs, sm_s]⟩
    show sX12_allFell_b4 359 M (f + 1) s j = _
    rw [sX12_allFell_b4, falls_e hk h, ob_s, hm, wI_of (x := (m : Int)) (by omega) (by omega), wI_of (x := (j : Int)) (by omega) (by omega), if_neg (by omega), fallOf_e hk h ⟨by omega, by omega⟩ ⟨by omega, by omega⟩, ob_s, ob_s, show (1 + 2 * (j : Int) + 1).toNat = 2 + 2 * j by omega]
theorem pickUpB {M0 : MM} {k kg : Nat} {s : Int} (rs : R32 s) (h : GB M0 k kg s) (hv : PV (pP M0 k)) (hw : DV (dD M0 kg)) {n m : Nat} (hn : pP M0 k 1 = (n : Int)) (hm : dD M0 kg 0 = (m : Int)) : ∃ M', sX12_pickUp 359 M0 = some M' ∧ (∀ a, a ≠ 385 → M' a = M0 a) ∧ ∀ c, c < 8 → M' 385 c = pkd (pP M0 k) (dD M0 kg) s n m c := by
  have hv1 := hv.1
  have hm25 : m ≤ 25 := by have := hw.2.1; omega
  have second : ∀ T : MM, (∀ a, a ≠ 385 → T a = M0 a) → (∀ c, c < 8 → T 385 c = 0) → ∃ M', sX12_pickUp_b23 359 FU 0 T = some M' ∧ (∀ a, a ≠ 385 → M' a = M0 a) ∧ ∀ c, c < 8 → M' 385 c = pkd (pP M0 k) (dD M0 kg) s n m c := by
    intro T hT hTb
    refine loopC (fun f y (t : MM) => sX12_pickUp_b23 359 f y t) m (fun j t => (∀ a, a ≠ 385 → t a = M0 a) ∧ ∀ c, c < 8 → t 385 c = pkd (pP M0 k) (dD M0 kg) s n j c) (fun o => ∃ M', o = some M' ∧ (∀ a, a ≠ 385 → M' a = M0 a) ∧ ∀ c, c < 8 → M' 385 c = pkd (pP M0 k) (dD M0 kg) s n m c) ?_ ?_ FU 0 T (by omega) ⟨hT, hTb⟩ (by unfold FU; omega)
    · intro f t ht
      have gt := GB_c h (fun a ha _ => ht.1 a ha)
      have ed := dD_c (ht.1 368 (by omega)) kg
      show ∃ M', sX12_pickUp_b23 359 (f + 1) (m : Int) t = some M' ∧ _
      rw [sX12_pickUp_b23, falls_e gt.2.2 gt.2.1, ob_s, ed, hm, if_pos (Int.le_refl _)]
      exact ⟨t, rfl, ht⟩
    · intro f j t hj ht
      right
      obtain ⟨ht1, ht2⟩ := ht
      have gt := GB_c h (fun a ha _ => ht1 a ha)
      have ed := dD_c (ht1 368 (by omega)) kg
      have ep : pP t k = pP M0 k := pP_c (ht1 365 (by omega)) k
      have wj := hw.2.2 j (by omega)
      have hpk := pk_r (s := s) (bd := pP M0 k 5) (Q := spP (pP M0 k)) (qk := qkP (pP M0 k)) (cell := dD M0 kg (1 + 2 * j)) (n := n) (by omega)
      obtain ⟨q, hq⟩ := Int.eq_ofNat_of_zero_le hpk.1
      have zq : 0 ≤ (q : Int) ∧ (q : Int) < 8 := ⟨by omega, by omega⟩
      have e1 : sX12_picks 359 (dD M0 kg (1 + 2 * j)) t = some (q : Int) := by
        rw [pickB gt.1 (by rw [ep]; exact hv) rs (by rw [ep]; exact spP_b hv) ⟨wj.1, wj.2.1⟩ (n := n) (by rw [ep]; exact hn), ep, hq]
      refine ⟨mU t 385 q (t 385 q + dD M0 kg (2 + 2 * j)), ?_, fun a ha => by rw [mU_row _ _ ha]; exact ht1 a ha, fun c hc => ?_⟩
      · show sX12_pickUp_b23 359 (f + 1) (j : Int) t = _
        rw [sX12_pickUp_b23, falls_e gt.2.2 gt.2.1, ob_s, ed, hm, wI_of (x := (m : Int)) (by omega) (by omega), wI_of (x := (j : Int)) (by omega) (by omega), if_neg (by omega), fallOf_e gt.2.2 gt.2.1 ⟨by omega, by omega⟩ ⟨by omega, by omega⟩, ob_s, fallOf_e gt.2.2 gt.2.1 ⟨by omega, by omega⟩ ⟨by omega, by omega⟩, ed, show (1 + 2 * (j : Int) + 0).toNat = 1 + 2 * j by omega, show (1 + 2 * (j : Int) + 1).toNat = 2 + 2 * j by omega, e1, ob_s, wI_of (x := (q : Int)) (by omega) (by omega), if_pos zq, ob_s, if_pos zq, ob_s, ob_s, g359_61, tN]
      · have es : pkd (pP M0 k) (dD M0 kg) s n (j + 1) c = pkd (pP M0 k) (dD M0 kg) s n j c + (if (pkN s (pP M0 k 5) (spP (pP M0 k)) (qkP (pP M0 k)) (dD M0 kg (1 + 2 * j)) n).1 = (c : Int) then dD M0 kg (2 + 2 * j) else 0) := rfl
        rw [es, hq]
        by_cases e : c = q
        · subst e; rw [mU_eq, if_pos rfl, ht2 c hc]
        · rw [mU_ne _ _ (by omega), if_neg (by omega), ht2 c hc, Int.add_zero]
  unfold sX12_pickUp sX12_pickUp_b0
  refine loopC (fun f y (t : MM) => sX12_pickUp_b2 359 f y t) 8 (fun j t => (∀ a, a ≠ 385 → t a = M0 a) ∧ ∀ c, c < j → t 385 c = 0) (fun o => ∃ M', o = some M' ∧ (∀ a, a ≠ 385 → M' a = M0 a) ∧ ∀ c, c < 8 → M' 385 c = pkd (pP M0 k) (dD M0 kg) s n m c) ?_ ?_ FU 0 M0 (by omega) ⟨fun _ _ => rfl, fun c hc => by omega⟩ (by unfold FU; omega)
  · intro f t ht
    show ∃ M', sX12_pickUp_b2 359 (f + 1) ((8 : Nat) : Int) t = some M' ∧ _
    rw [sX12_pickUp_b2, wI_of (by omega) (by omega), if_pos (by omega)]
    exact second t ht.1 ht.2
  · intro f j t hj ht
    right
    refine ⟨mU t 385 j 0, ?_, fun a ha => by rw [mU_row _ _ ha]; exact ht.1 a ha, fun c hc => ?_⟩
    · show sX12_pickUp_b2 359 (f + 1) (j : Int) t = _
      rw [sX12_pickUp_b2, wI_of (by omega) (by omega), if_neg (by omega), if_pos (by omega), ob_s, ob_s, g359_61, tN]
    · by_cases e : c = j
      · subst e; rw [mU_eq]
      · rw [mU_ne _ _ (by omega)]; exact ht.2 c (by omega)
theorem yo_b (A : Nat → Int) (c x : Nat) : 0 ≤ yoN A c x ∧ yoN A c x ≤ (c : Int) := sm_01 (fun k _ => by split <;> omega)
theorem youngB {M : MM} {k : Nat} (hd : HD M k) (hv : PV (pP M k)) {n : Nat} (hn : pP M k 1 = (n : Int)) {x : Nat} (hx : x < n) : sX12_younger 359 (x : Int) M = some (yoN (agP (pP M k)) n x) := by
  have hv1 := hv.1
  have h26 := hd.2.2.2.1
  unfold sX12_younger sX12_younger_b0
  refine loopC (fun f y (t : Int) => sX12_younger_b4 359 (x : Int) M f t y) n (fun c t => t = yoN (agP (pP M k)) c x) (fun o => o = some (yoN (agP (pP M k)) n x)) ?_ ?_ FU 0 0 (by omega) rfl (by unfold FU; omega)
  · intro f t ht
    show sX12_younger_b4 359 (x : Int) M (f + 1) t (n : Int) = _
    rw [sX12_younger_b4, h26, hn, if_pos (Int.le_refl _), ht]
  · intro f c t hcn ht
    right
    have a1 := hv.2.2.2.2.2.1 c (by omega)
    have a2 := hv.2.2.2.2.2.1 x (by omega)
    refine ⟨t + (if agP (pP M k) c < agP (pP M k) x ∨ (agP (pP M k) c = agP (pP M k) x ∧ c < x) then 1 else 0), ?_, by rw [ht]; rfl⟩
    show sX12_younger_b4 359 (x : Int) M (f + 1) t (c : Int) = _
    rw [sX12_younger_b4, h26, hn, wI_of (x := (n : Int)) (by omega) (by omega), wI_of (x := (c : Int)) (by omega) (by omega), if_neg (by omega), ofC_e hd ⟨by omega, by omega⟩ ⟨by omega, by omega⟩, ob_s, ofC_e hd ⟨by omega, by omega⟩ ⟨by omega, by omega⟩, ob_s, show (28 + 13 * (c : Int) + 0).toNat = 28 + 13 * c by omega, show (28 + 13 * (x : Int) + 0).toNat = 28 + 13 * x by omega, wI_of (x := pP M k (28 + 13 * c) - pP M k (28 + 13 * x)) (by omega) (by omega), wI_of (x := (x : Int)) (by omega) (by omega)]
    unfold sX12_younger_b43 sX12_younger_b47 sX12_younger_b48
    simp only [ob_s]
    unfold agP
    by_cases z1 : pP M k (28 + 13 * c) - pP M k (28 + 13 * x) < 0
    · rw [if_pos z1, if_pos (by omega)]
    · rw [if_neg z1]
      by_cases z2 : pP M k (28 + 13 * c) - pP M k (28 + 13 * x) = 0
      · rw [if_pos z2]
        by_cases z3 : (x : Int) ≤ (c : Int)
        · rw [if_pos z3, if_neg (by omega)]
        · rw [if_neg z3, if_pos (by omega)]
      · rw [if_neg z2, if_neg (by omega)]
theorem t1_keep {P : Nat → Int} {s : Nat} {b : Nat → Int} : ∀ n c : Nat, n ≤ c → c ≠ s → fo (t1S P s) n b c = b c := by
  intro n
  induction n with
  | zero => intro c _ _; rfl
  | succ n ih =>
    intro c hc hs
    rw [fo_s]
    have := ih c (by omega) hs
    generalize fo (t1S P s) n b = d at *
    unfold t1S
    split
    · show (if c = s then d s + 1 else if c = n then d n - 1 else d c) = b c
      rw [if_neg hs, if_neg (by omega)]; exact this
    · exact this
theorem thankB {M0 : MM} {k kg : Nat} {s : Nat} (h : GB M0 k kg (s : Int)) (hv : PV (pP M0 k)) {n : Nat} (hn : pP M0 k 1 = (n : Int)) (hs : s < n) {b : Nat → Int} (hb : ∀ j, 0 ≤ b j ∧ b j ≤ 225) (h5 : ∀ c, c < 8 → M0 385 c = b c) (h6 : ∀ c, c < n → M0 386 c = b c) : ∃ M', sX12_thanks 359 M0 = some M' ∧ (∀ a, a ≠ 386 → M' a = M0 a) ∧ ∀ c, c < n → M' 386 c = thP (pP M0 k) s n b c := by
  have hv1 := hv.1
  have hn8 : n ≤ 8 := by omega
  have zs : 0 ≤ (s : Int) ∧ (s : Int) < 8 := ⟨by omega, by omega⟩
  have b1 := fun c => t1_b (P := pP M0 k) (s := s) hb c
  have second : ∀ T : MM, (∀ a, a ≠ 386 → T a = M0 a) → (∀ j, j < n → T 386 j = fo (t1S (pP M0 k) s) n b j) → ∃ M', sX12_thanks_b81 359 FU 0 T = some M' ∧ (∀ a, a ≠ 386 → M' a = M0 a) ∧ ∀ c, c < n → M' 386 c = thP (pP M0 k) s n b c := by
    intro T hT hTb
    have b2 := fun c => t2_b (P := pP M0 k) (s := s) (b1 n) c
    refine loopC (fun f y (t : MM) => sX12_thanks_b81 359 f y t) n (fun c t => (∀ a, a ≠ 386 → t a = M0 a) ∧ ∀ j, j < n → t 386 j = fo (t2S (pP M0 k) s) c (fo (t1S (pP M0 k) s) n b) j) (fun o => ∃ M', o = some M' ∧ (∀ a, a ≠ 386 → M' a = M0 a) ∧ ∀ c, c < n → M' 386 c = thP (pP M0 k) s n b c) ?_ ?_ FU 0 T (by omega) ⟨hT, hTb⟩ (by unfold FU; omega)
    · intro f t ht
      have gt := GB_c h (fun a _ ha => ht.1 a ha)
      have ep : pP t k = pP M0 k := pP_c (ht.1 365 (by omega)) k
      have h26 := gt.1.1.2.2.2.1
      rw [ep] at h26
      show ∃ M', sX12_thanks_b81 359 (f + 1) (n : Int) t = some M' ∧ _
      rw [sX12_thanks_b81, h26, hn, if_pos (Int.le_refl _)]
      exact ⟨t, rfl, ht⟩
    · intro f c t hcn ht
      right
      obtain ⟨ht1, ht2⟩ := ht
      have gt := GB_c h (fun a _ ha => ht1 a ha)
      have ep : pP t k = pP M0 k := pP_c (ht1 365 (by omega)) k
      have h26 := gt.1.1.2.2.2.1
      rw [ep] at h26
      have h58 := gt.1.2.1
      have zc : 0 ≤ (c : Int) ∧ (c : Int) < 8 := ⟨by omega, by omega⟩
      have bs := b2 c s
      have bc := b2 c c
      have tv := hv.2.2.2.2.2.2.2 c (by omega) s (by omega)
      have e := fo_s (t2S (pP M0 k) s) c (fo (t1S (pP M0 k) s) n b)
      have h58' : ∀ y, mU t 386 c y 359 58 = (s : Int) := fun y => by rw [mU_ne _ _ (by omega)]; exact h58
      generalize fo (t2S (pP M0 k) s) c (fo (t1S (pP M0 k) s) n b) = d at *
      show ∃ s', sX12_thanks_b81 359 (f + 1) (c : Int) t = _ ∧ _
      rw [e, sX12_thanks_b81, h26, hn, wI_of (x := (n : Int)) (by omega) (by omega), wI_of (x := (c : Int)) (by omega) (by omega), if_neg (show ¬ (n : Int) ≤ (c : Int) by omega), h58, wI_of (x := (s : Int)) (by omega) (by omega), if_neg (show ¬ (s : Int) = -1 by omega), if_pos zs, g359_62, tN, tN, ht2 s hs, wI_of (x := d s) (by omega) (by omega), ofC_e gt.1.1 ⟨by omega, by omega⟩ ⟨by omega, by omega⟩, ob_s, ep, show (28 + 13 * (c : Int) + (5 + (s : Int))).toNat = 33 + 13 * c + s by omega, wI_of (x := pP M0 k (33 + 13 * c + s)) (by omega) (by omega), if_pos zc, if_pos zc, ob_s, h58', wI_of (x := (s : Int)) (by omega) (by omega), if_pos zs, if_pos zs, ob_s, tN]
      unfold sX12_thanks_b154
      simp only [ob_s]
      unfold t2S
      by_cases z1 : (c : Int) = (s : Int)
      · rw [if_pos z1, if_neg (by omega)]
        exact ⟨t, rfl, ht1, ht2⟩
      rw [if_neg z1]
      by_cases z2 : d s ≤ 0
      · rw [if_pos z2, if_neg (by omega)]
        exact ⟨t, rfl, ht1, ht2⟩
      rw [if_neg z2]
      by_cases z3 : pP M0 k (33 + 13 * c + s) = 0
      · rw [if_pos z3, if_pos (show c ≠ s ∧ 0 < d s ∧ pP M0 k (33 + 13 * c + s) = 0 from ⟨by omega, by omega, z3⟩)]
        refine ⟨_, rfl, fun a ha => by rw [mU_row _ _ ha, mU_row _ _ ha]; exact ht1 a ha, fun j hj => ?_⟩
        by_cases e1 : j = s
        · subst e1; rw [mU_eq, if_pos rfl, mU_ne _ _ (by omega), ht2 j hj]
        · rw [if_neg e1]
          by_cases e2 : j = c
          · subst e2; rw [mU_ne _ _ (by omega), mU_eq, if_pos rfl, ht2 j hj]
          · rw [if_neg e2, mU_ne _ _ (by omega), mU_ne _ _ (by omega), ht2 j hj]
      · rw [if_neg z3, if_neg (by omega)]
        exact ⟨t, rfl, ht1, ht2⟩
  unfold sX12_thanks sX12_thanks_b0
  refine loopC (fun f y (t : MM) => sX12_thanks_b2 359 f y t) n (fun c t => (∀ a, a ≠ 386 → t a = M0 a) ∧ ∀ j, j < n → t 386 j = fo (t1S (pP M0 k) s) c b j) (fun o => ∃ M', o = some M' ∧ (∀ a, a ≠ 386 → M' a = M0 a) ∧ ∀ c, c < n → M' 386 c = thP (pP M0 k) s n b c) ?_ ?_ FU 0 M0 (by omega) ⟨fun _ _ => rfl, h6⟩ (by unfold FU; omega)
  · intro f t ht
    have gt := GB_c h (fun a _ ha => ht.1 a ha)
    have ep : pP t k = pP M0 k := pP_c (ht.1 365 (by omega)) k
    have h26 := gt.1.1.2.2.2.1
    rw [ep] at h26
    show ∃ M', sX12_thanks_b2 359 (f + 1) (n : Int) t = some M' ∧ _
    rw [sX12_thanks_b2, h26, hn, if_pos (Int.le_refl _)]
    exact second t ht.1 ht.2
  · intro f c t hcn ht
    right
    obtain ⟨ht1, ht2⟩ := ht
    have gt := GB_c h (fun a _ ha => ht1 a ha)
    have ep : pP t k = pP M0 k := pP_c (ht1 365 (by omega)) k
    have h26 := gt.1.1.2.2.2.1
    rw [ep] at h26
    have h58 := gt.1.2.1
    have zc : 0 ≤ (c : Int) ∧ (c : Int) < 8 := ⟨by omega, by omega⟩
    have bs := b1 c s
    have bc := b1 c c
    have tv := hv.2.2.2.2.2.2.2 c (by omega) s (by omega)
    have e := fo_s (t1S (pP M0 k) s) c b
    have kp : c ≠ s → fo (t1S (pP M0 k) s) c b c = b c := t1_keep c c (Nat.le_refl c)
    have hbc := hb c
    have h58' : ∀ y, mU t 386 c y 359 58 = (s : Int) := fun y => by rw [mU_ne _ _ (by omega)]; exact h58
    generalize fo (t1S (pP M0 k) s) c b = d at *
    show ∃ s', sX12_thanks_b2 359 (f + 1) (c : Int) t = _ ∧ _
    rw [e, sX12_thanks_b2, h26, hn, wI_of (x := (n : Int)) (by omega) (by omega), wI_of (x := (c : Int)) (by omega) (by omega), if_neg (show ¬ (n : Int) ≤ (c : Int) by omega), h58, wI_of (x := (s : Int)) (by omega) (by omega), if_neg (show ¬ (s : Int) = -1 by omega), if_pos zc, g359_61, g359_62, tN, ht1 385 (by omega), h5 c (by omega), wI_of (x := b c) (by omega) (by omega), ofC_e gt.1.1 ⟨by omega, by omega⟩ ⟨by omega, by omega⟩, ob_s, ep, show (28 + 13 * (c : Int) + (5 + (s : Int))).toNat = 33 + 13 * c + s by omega, wI_of (x := pP M0 k (33 + 13 * c + s)) (by omega) (by omega), if_pos zc, if_pos zc, ob_s, h58', wI_of (x := (s : Int)) (by omega) (by omega), if_pos zs, if_pos zs, ob_s, tN]
    unfold sX12_thanks_b73
    simp only [ob_s]
    unfold t1S
    by_cases z1 : (c : Int) = (s : Int)
    · rw [if_pos z1, if_neg (by omega)]
      exact ⟨t, rfl, ht1, ht2⟩
    have kc := kp (by omega)
    rw [if_neg z1]
    by_cases z2 : b c ≤ 0
    · rw [if_pos z2, if_neg (by omega)]
      exact ⟨t, rfl, ht1, ht2⟩
    rw [if_neg z2]
    by_cases z3 : pP M0 k (33 + 13 * c + s) = 2
    · rw [if_pos z3, if_pos (show c ≠ s ∧ 0 < d c ∧ pP M0 k (33 + 13 * c + s) = 2 from ⟨by omega, by omega, z3⟩)]
      refine ⟨_, rfl, fun a ha => by rw [mU_row _ _ ha, mU_row _ _ ha]; exact ht1 a ha, fun j hj => ?_⟩
      by_cases e1 : j = s
      · subst e1; rw [mU_eq, if_pos rfl, mU_ne _ _ (by omega), ht2 j hj]
      · rw [if_neg e1]
        by_cases e2 : j = c
        · subst e2; rw [mU_ne _ _ (by omega), mU_eq, if_pos rfl, ht2 j hj]
        · rw [if_neg e2, mU_ne _ _ (by omega), mU_ne _ _ (by omega), ht2 j hj]
    · rw [if_neg z3, if_neg (by omega)]
      exact ⟨t, rfl, ht1, ht2⟩
