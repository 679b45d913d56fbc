/-- the bags by a law -/
def bgP (P R : Nat → Int) (s : Int) (n m : Nat) (law : Int) (c : Nat) : Int := if law = 0 then pkd P R s n m c else if law = 1 then (dlP n (alF R m).toNat c : Int) else if law = 3 then (dlP n (alF R m).toNat (yoN (agP P) n c).toNat : Int) else if s = -1 then pkd P R s n m c else thP P s.toNat n (pkd P R s n m) c
theorem alF_b {R : Nat → Int} {m : Nat} (hm : m ≤ 25) (hR : ∀ j, j < m → 1 ≤ R (2 + 2 * j) ∧ R (2 + 2 * j) ≤ 9) : 0 ≤ alF R m ∧ alF R m ≤ 225 := by
  have := sm_b (f := fun j => R (2 + 2 * j)) (n := m) (B := 9) (fun j hj => by have := hR j hj; omega)
  unfold alF
  omega
theorem bg_b {P R : Nat → Int} {s : Int} {n m : Nat} (hn : n ≤ 8) (hm : m ≤ 25) (hR : ∀ j, j < m → 1 ≤ R (2 + 2 * j) ∧ R (2 + 2 * j) ≤ 9) (law : Int) (c : Nat) : 0 ≤ bgP P R s n m law c ∧ bgP P R s n m law c ≤ 300 := by
  have h1 := pkd_b (P := P) (s := s) (n := n) hm hR
  have h2 := alF_b hm hR
  have h3 := dl_b (n := n) (alF R m).toNat c
  have h4 := dl_b (n := n) (alF R m).toNat (yoN (agP P) n c).toNat
  have h5 := t2_b (P := P) (s := s.toNat) (t1_b (P := P) (s := s.toNat) h1 n) n c
  have h6 := h1 c
  unfold bgP thP
  split
  · omega
  · split
    · omega
    · split
      · omega
      · split
        · omega
        · omega
theorem tieA {M : MM} {p : Nat} {P : Nat → Int} (hc : PC M p P) (hv : PV P) (hg : PG p) {c s : Nat} (hcn : (c : Int) < P 1) (hs : (s : Int) < P 1) : sX5_tieOf p (c : Int) (s : Int) M = some (P (33 + 13 * c + s)) := by
  have hv1 := hv.1
  unfold sX5_tieOf sX5_tieOf_b0
  rw [has_e hc.1.2.1 ⟨by omega, by omega⟩ (x := (c : Int)) ⟨by omega, by omega⟩, if_pos (show 0 ≤ (c : Int) ∧ (c : Int) < P 1 from ⟨by omega, hcn⟩), i10, has_e hc.1.2.1 ⟨by omega, by omega⟩ (x := (s : Int)) ⟨by omega, by omega⟩, if_pos (show 0 ≤ (s : Int) ∧ (s : Int) < P 1 from ⟨by omega, hs⟩), i10, wI_of (x := (c : Int) * 8 + (s : Int)) (by omega) (by omega), if_pos (by omega), hg.2.2.2.2.2.2.2.1, show ((c : Int) * 8 + (s : Int)).toNat = 8 * c + s by omega, hc.2.2.2.2.2.2 c (by omega) s (by omega)]
theorem thankA {M0 : MM} {p : Nat} {P : Nat → Int} (hc : PC M0 p P) (hv : PV P) (hg : PG p) (hp : p < 77) {n : Nat} (hn : P 1 = (n : Int)) {s : Nat} (hs : s < n) {b : Nat → Int} (hb : ∀ j, 0 ≤ b j ∧ b j ≤ 225) (h0 : ∀ j, j < 8 → M0 128 j = b j) : ∃ M', sX10_giveThanks 127 p (s : Int) M0 = some M' ∧ (∀ a, a ≠ 128 → M' a = M0 a) ∧ ∀ j, j < 8 → M' 128 j = thP P s n b j := by
  have hv1 := hv.1
  have hn8 : n ≤ 8 := by omega
  have zs : 0 ≤ (s : Int) ∧ (s : Int) < 8 := ⟨by omega, by omega⟩
  have b1 := fun c => t1_b (P := P) (s := s) hb c
  have second : ∀ T : MM, (∀ a, a ≠ 128 → T a = M0 a) → (∀ j, j < 8 → T 128 j = fo (t1S P s) n b j) → ∃ M', sX10_giveThanks_b62 127 p (s : Int) FU 0 T = some M' ∧ (∀ a, a ≠ 128 → M' a = M0 a) ∧ ∀ j, j < 8 → M' 128 j = thP P s n b j := by
    intro T hT hTb
    have b2 := fun c => t2_b (P := P) (s := s) (b1 n) c
    refine loopC (fun f y (t : MM) => sX10_giveThanks_b62 127 p (s : Int) f y t) n (fun c t => (∀ a, a ≠ 128 → t a = M0 a) ∧ ∀ j, j < 8 → t 128 j = fo (t2S P s) c (fo (t1S P s) n b) j) (fun o => ∃ M', o = some M' ∧ (∀ a, a ≠ 128 → M' a = M0 a) ∧ ∀ j, j < 8 → M' 128 j = thP P s n b j) ?_ ?_ FU 0 T (by omega) ⟨hT, hTb⟩ (by unfold FU; omega)
    · intro f t ht
      show ∃ M', sX10_giveThanks_b62 127 p (s : Int) (f + 1) (n : Int) t = _ ∧ _
      rw [sX10_giveThanks_b62, ht.1 p (by omega), hc.1.2.1, hn, if_pos (Int.le_refl _)]
      exact ⟨t, rfl, ht⟩
    · intro f c t hcn ht
      right
      obtain ⟨ht1, ht2⟩ := ht
      have zc : 0 ≤ (c : Int) ∧ (c : Int) < 8 := ⟨by omega, by omega⟩
      have hct : PC t p P := PC_c (fun j hj => ht1 _ (by omega)) hc
      have bs := b2 c s
      have bc := b2 c c
      have tv := hv.2.2.2.2.2.2.2 c (by omega) s (by omega)
      have e := fo_s (t2S P s) c (fo (t1S P s) n b)
      generalize fo (t2S P s) c (fo (t1S P s) n b) = d at *
      show ∃ s', sX10_giveThanks_b62 127 p (s : Int) (f + 1) (c : Int) t = _ ∧ _
      rw [e, sX10_giveThanks_b62, ht1 p (by omega), hc.1.2.1, hn, wI_of (x := (n : Int)) (by omega) (by omega), wI_of (x := (c : Int)) (by omega) (by omega), if_neg (show ¬ (n : Int) ≤ (c : Int) by omega), wI_of (x := (s : Int)) (by omega) (by omega), if_pos zs, g127_0, tN, tN, ht2 s (by omega), wI_of (x := d s) (by omega) (by omega), tieA hct hv hg (by omega) (by omega), ob_s, wI_of (x := P (33 + 13 * c + s)) (by omega) (by omega), if_pos zs, if_pos zs, ob_s, if_pos zc, if_pos zc, ob_s]
      unfold sX10_giveThanks_b113
      simp only [ob_s]
      unfold t2S
      by_cases z1 : (c : Int) = (s : Int)
      · rw [if_pos z1, if_neg (by omega)]
        exact ⟨t, rfl, ht1, ht2⟩
      rw [if_neg z1]
      by_cases z2 : d s ≤ 0
      · rw [if_pos z2, if_neg (by omega)]
        exact ⟨t, rfl, ht1, ht2⟩
      rw [if_neg z2]
      by_cases z3 : P (33 + 13 * c + s) = 0
      · rw [if_pos z3, if_pos (show c ≠ s ∧ 0 < d s ∧ P (33 + 13 * c + s) = 0 from ⟨by omega, by omega, z3⟩)]
        refine ⟨_, rfl, fun a ha => by rw [mU_row _ _ ha, mU_row _ _ ha]; exact ht1 a ha, fun j hj => ?_⟩
        by_cases e1 : j = s
        · subst e1; rw [mU_ne _ _ (by omega), mU_eq, if_pos rfl]
        · rw [if_neg e1]
          by_cases e2 : j = c
          · subst e2; rw [mU_eq, if_pos rfl, mU_ne _ _ (by omega), ht2 j hj]
          · rw [if_neg e2, mU_ne _ _ (by omega), mU_ne _ _ (by omega), ht2 j hj]
      · rw [if_neg z3, if_neg (by omega)]
        exact ⟨t, rfl, ht1, ht2⟩
  unfold sX10_giveThanks sX10_giveThanks_b0
  refine loopC (fun f y (t : MM) => sX10_giveThanks_b2 127 p (s : Int) f y t) n (fun c t => (∀ a, a ≠ 128 → t a = M0 a) ∧ ∀ j, j < 8 → t 128 j = fo (t1S P s) c b j) (fun o => ∃ M', o = some M' ∧ (∀ a, a ≠ 128 → M' a = M0 a) ∧ ∀ j, j < 8 → M' 128 j = thP P s n b j) ?_ ?_ FU 0 M0 (by omega) ⟨fun _ _ => rfl, h0⟩ (by unfold FU; omega)
  · intro f t ht
    show ∃ M', sX10_giveThanks_b2 127 p (s : Int) (f + 1) (n : Int) t = _ ∧ _
    rw [sX10_giveThanks_b2, ht.1 p (by omega), hc.1.2.1, hn, if_pos (Int.le_refl _)]
    exact second t ht.1 ht.2
  · intro f c t hcn ht
    right
    obtain ⟨ht1, ht2⟩ := ht
    have zc : 0 ≤ (c : Int) ∧ (c : Int) < 8 := ⟨by omega, by omega⟩
    have hct : PC t p P := PC_c (fun j hj => ht1 _ (by omega)) hc
    have bs := b1 c s
    have bc := b1 c c
    have tv := hv.2.2.2.2.2.2.2 c (by omega) s (by omega)
    have e := fo_s (t1S P s) c b
    generalize fo (t1S P s) c b = d at *
    show ∃ s', sX10_giveThanks_b2 127 p (s : Int) (f + 1) (c : Int) t = _ ∧ _
    rw [e, sX10_giveThanks_b2, ht1 p (by omega), hc.1.2.1, hn, wI_of (x := (n : Int)) (by omega) (by omega), wI_of (x := (c : Int)) (by omega) (by omega), if_neg (show ¬ (n : Int) ≤ (c : Int) by omega), wI_of (x := (s : Int)) (by omega) (by omega), if_pos zc, g127_0, tN, tN, ht2 c (by omega), wI_of (x := d c) (by omega) (by omega), tieA hct hv hg (by omega) (by omega), ob_s, wI_of (x := P (33 + 13 * c + s)) (by omega) (by omega), if_pos zc, if_pos zc, ob_s, if_pos zs, if_pos zs, ob_s]
    unfold sX10_giveThanks_b54
    simp only [ob_s]
    unfold t1S
    by_cases z1 : (c : Int) = (s : Int)
    · rw [if_pos z1, if_neg (by omega)]
      exact ⟨t, rfl, ht1, ht2⟩
    rw [if_neg z1]
    by_cases z2 : d c ≤ 0
    · rw [if_pos z2, if_neg (by omega)]
      exact ⟨t, rfl, ht1, ht2⟩
    rw [if_neg z2]
    by_cases z3 : P (33 + 13 * c + s) = 2
    · rw [if_pos z3, if_pos (show c ≠ s ∧ 0 < d c ∧ P (33 + 13 * c + s) = 2 from ⟨by omega, by omega, z3⟩)]
      refine ⟨_, rfl, fun a ha => by rw [mU_row _ _ ha, mU_row _ _ ha]; exact ht1 a ha, fun j hj => ?_⟩
      by_cases e1 : j = s
      · subst e1; rw [mU_eq, if_pos rfl, mU_ne _ _ (by omega), ht2 j hj]
      · rw [if_neg e1]
        by_cases e2 : j = c
        · subst e2; rw [mU_ne _ _ (by omega), mU_eq, if_pos rfl]
        · rw [if_neg e2, mU_ne _ _ (by omega), mU_ne _ _ (by omega), ht2 j hj]
    · rw [if_neg z3, if_neg (by omega)]
      exact ⟨t, rfl, ht1, ht2⟩
theorem fillA {M0 : MM} {p g : Nat} {P R : Nat → Int} (hc : PC M0 p P) (hv : PV P) (hg : PG p) (hp : p < 66) (hd : DC M0 g R) (hw : DV R) (hl : LG g 25) (hgp : g < 70) {n m : Nat} (hn : P 1 = (n : Int)) (hm : R 0 = (m : Int)) {s law : Int} (hs : s = -1 ∨ (0 ≤ s ∧ s < n)) (hlaw : 0 ≤ law ∧ law ≤ 3) : ∃ M', sX10_fillBags 127 p g s law M0 = some M' ∧ F128 M0 M' ∧ ∀ c, c < n → M' 128 c = bgP P R s n m law c := by
  have hv1 := hv.1
  have hn8 : 1 ≤ n ∧ n ≤ 8 := by omega
  have hm25 : m ≤ 25 := by have := hw.2.1; omega
  have hR : ∀ j, j < m → 1 ≤ R (2 + 2 * j) ∧ R (2 + 2 * j) ≤ 9 := fun j hj => by have := hw.2.2 j (by omega); omega
  have ab := alF_b hm25 hR
  obtain ⟨w, hww⟩ := Int.eq_ofNat_of_zero_le ab.1
  obtain ⟨Mb, b1, b2, b3⟩ := bagsA M0
  have hcb : PC Mb p P := PC_c (fun j hj => b2 _ (by omega)) hc
  unfold sX10_fillBags sX10_fillBags_b0
  rw [b1, ob_s, wI_of (x := law) (by omega) (by omega)]
  have sumE : ∀ T : MM, (∀ a, a ≠ 129 → T a = Mb a) → sX3_sumOfSeconds g T = some (w : Int) := fun T hT => by
    rw [sumA hl (by omega) (n := m) (by rw [hT g (by omega), b2 g (by omega), hd.1, hm]) hm25 (fun j hj => by rw [hT (g + 3) (by omega), b2 (g + 3) (by omega), (hd.2 j (by omega)).2]; have := hR j hj; omega), ← hww]
    exact congrArg some (sm_ext (fun j hj => by rw [hT (g + 3) (by omega), b2 (g + 3) (by omega), (hd.2 j (by omega)).2]))
  by_cases l1 : law = 1
  · rw [if_pos l1]
    unfold sX10_fillBags_b16 sX10_fillBags_b29
    rw [wI_of (x := law) (by omega) (by omega), if_neg (show ¬ law = 3 by omega)]
    obtain ⟨Mq, q1, q2, q3⟩ := queueA0 hcb hv (by omega) hn
    have hcq : PC Mq p P := PC_c (fun j hj => q2 _ (by omega)) hcb
    obtain ⟨Md, d1, d2, d3⟩ := dealA hcq hv (by omega) hn (q := fun i => i) q3 (fun i hi => hi) (fun i j _ _ e => e) (fun c hc => by rw [q2 128 (by omega)]; exact b3 c hc) (w := w) (by omega)
    rw [q1, ob_s, sumE Mq q2, ob_s, d1, ob_s]
    refine ⟨Md, rfl, fun a ha hb => by rw [d2 a ha, q2 a hb, b2 a ha], fun c hc => ?_⟩
    have := d3 c hc
    unfold bgP
    rw [if_neg (show ¬ law = 0 by omega), if_pos l1, hww, tN]
    exact this
  rw [if_neg l1]
  by_cases l3 : law = 3
  · rw [if_pos l3]
    unfold sX10_fillBags_b16 sX10_fillBags_b29
    rw [wI_of (x := law) (by omega) (by omega), if_pos l3]
    obtain ⟨Mq, q, q1, q2, q3, q4⟩ := queueA hcb hv hg (by omega) hn
    have hcq : PC Mq p P := PC_c (fun j hj => q2 _ (by omega)) hcb
    obtain ⟨Md, d1, d2, d3⟩ := dealA hcq hv (by omega) hn (q := q) q3 (fun i hi => (q4.1 i hi).1) (fun i j hi hj e => by have w1 := (q4.1 i hi).2; have w2 := (q4.1 j hj).2; rw [e] at w1; omega) (fun c hc => by rw [q2 128 (by omega)]; exact b3 c hc) (w := w) (by omega)
    rw [q1, ob_s, sumE Mq q2, ob_s, d1, ob_s]
    refine ⟨Md, rfl, fun a ha hb => by rw [d2 a ha, q2 a hb, b2 a ha], fun c hc => ?_⟩
    obtain ⟨i, hi, hqi⟩ := q4.2.1 c hc
    have := d3 i hi
    have yi := (q4.1 i hi).2
    rw [hqi] at this yi
    unfold bgP
    rw [if_neg (show ¬ law = 0 by omega), if_neg l1, if_pos l3, hww, tN, yi, tN]
    exact this
  rw [if_neg l3]
  have exit : ∀ T : MM, (∀ a, a ≠ 128 → T a = Mb a) → (∀ c, c < 8 → T 128 c = pkd P R s n m c) → ∃ M', (if wI law = 2 then (if wI (sX5_has p s T) = 0 then some T else (sX10_giveThanks 127 p s T).bind fun q_4 => some q_4) else some T) = some M' ∧ F128 M0 M' ∧ ∀ c, c < n → M' 128 c = bgP P R s n m law c := by
    intro T hT hTb
    have hcT : PC T p P := PC_c (fun j hj => hT _ (by omega)) hcb
    rw [wI_of (x := law) (by omega) (by omega), has_e hcT.1.2.1 ⟨by omega, by omega⟩ (x := s) ⟨by omega, by omega⟩]
    unfold bgP
    by_cases l2 : law = 2
    · rw [if_pos l2]
      by_cases z : s = -1
      · rw [if_neg (show ¬ (0 ≤ s ∧ s < P 1) by omega), i00]
        refine ⟨T, rfl, fun a ha hb => by rw [hT a ha, b2 a ha], fun c hc => ?_⟩
        rw [if_neg (show ¬ law = 0 by omega), if_neg l1, if_neg l3, if_pos z]
        exact hTb c (by omega)
      · obtain ⟨s', rfl⟩ := Int.eq_ofNat_of_zero_le (show 0 ≤ s by omega)
        obtain ⟨Mt, t1, t2, t3⟩ := thankA hcT hv hg (by omega) hn (s := s') (by omega) (b := pkd P R (s' : Int) n m) (pkd_b hm25 hR) hTb
        rw [if_pos (show 0 ≤ (s' : Int) ∧ (s' : Int) < P 1 by omega), i10, t1, ob_s]
        refine ⟨Mt, rfl, fun a ha hb => by rw [t2 a ha, hT a ha, b2 a ha], fun c hc => ?_⟩
        rw [if_neg (show ¬ law = 0 by omega), if_neg l1, if_neg l3, if_neg z, tN]
        exact t3 c (by omega)
    · rw [if_neg l2]
      refine ⟨T, rfl, fun a ha hb => by rw [hT a ha, b2 a ha], fun c hc => ?_⟩
      rw [if_pos (show law = 0 by omega)]
      exact hTb c (by omega)
  refine loopC (fun f y (t : MM) => sX10_fillBags_b45 127 p g s law f y t) m (fun j t => (∀ a, a ≠ 128 → t a = Mb a) ∧ ∀ c, c < 8 → t 128 c = pkd P R s n j c) (fun o => ∃ M', o = some M' ∧ F128 M0 M' ∧ ∀ c, c < n → M' 128 c = bgP P R s n m law c) ?_ ?_ FU 0 Mb (by omega) ⟨fun _ _ => rfl, fun c hc => b3 c hc⟩ (by unfold FU; omega)
  · intro f t ht
    show ∃ M', sX10_fillBags_b45 127 p g s law (f + 1) (m : Int) t = some M' ∧ _
    rw [sX10_fillBags_b45, ht.1 g (by omega), b2 g (by omega), hd.1, hm, if_pos (Int.le_refl _)]
    exact exit t ht.1 ht.2
  · intro f j t hj ht
    right
    obtain ⟨ht1, ht2⟩ := ht
    obtain ⟨g1, g2, g3, k1, k2, k3⟩ := hl
    have hct : PC t p P := PC_c (fun i hi => ht1 _ (by omega)) hcb
    have dj := hd.2 j (by omega)
    have wj := hw.2.2 j (by omega)
    have z25 : 0 ≤ (j : Int) ∧ (j : Int) < ((25 : Nat) : Int) := ⟨by omega, by omega⟩
    have hpk := pk_r (s := s) (bd := P 5) (Q := spP P) (qk := qkP P) (cell := R (1 + 2 * j)) (n := n) (by omega)
    obtain ⟨q, hq⟩ := Int.eq_ofNat_of_zero_le hpk.1
    have e1 : sX10_whoPicks 127 p s (R (1 + 2 * j)) t = some (q : Int) := by
      unfold sX10_whoPicks sX10_whoPicks_b0
      rw [pickA hct hv hg 127 (by omega) ⟨wj.1, wj.2.1⟩ (mo := -1) (pl := 0) ⟨by omega, by omega⟩ ⟨by omega, by omega⟩ hn, ob_s, pk_x (fun c _ => moQ_1 P 0 c), hq]
    refine ⟨mU t 128 q (t 128 q + R (2 + 2 * j)), ?_, fun a ha => by rw [mU_row _ _ ha]; exact ht1 a ha, fun c hc => ?_⟩
    · show sX10_fillBags_b45 127 p g s law (f + 1) (j : Int) t = _
      rw [sX10_fillBags_b45, ht1 g (by omega), b2 g (by omega), hd.1, hm, wI_of (x := (m : Int)) (by omega) (by omega), wI_of (x := (j : Int)) (by omega) (by omega), if_neg (show ¬ (m : Int) ≤ (j : Int) by omega), g2, g3, k2, k3, if_pos z25, tN, ht1 (g + 2) (by omega), ht1 (g + 3) (by omega), b2 (g + 2) (by omega), b2 (g + 3) (by omega), dj.1, dj.2, e1, ob_s, if_pos z25, addA t (by omega), ob_s, ob_s]
    · have es : pkd P R s n (j + 1) c = pkd P R s n j c + (if (pkN s (P 5) (spP P) (qkP P) (R (1 + 2 * j)) n).1 = (c : Int) then R (2 + 2 * j) else 0) := rfl
      rw [es, hq]
      by_cases e : c = q
      · subst e; rw [mU_eq, if_pos rfl, ht2 c hc]
      · rw [mU_ne _ _ (by omega), if_neg (by omega), ht2 c hc, Int.add_zero]
def mxN (b : Nat → Int) (n : Nat) : Int := fo (fun c g => max g (b c)) n (b 0)
def mnN (b : Nat → Int) (n : Nat) : Int := fo (fun c g => min g (b c)) n (b 0)
theorem mx_b {b : Nat → Int} {B : Int} (h : ∀ c, 0 ≤ b c ∧ b c ≤ B) (n : Nat) : 0 ≤ mxN b n ∧ mxN b n ≤ B ∧ 0 ≤ mnN b n ∧ mnN b n ≤ B := by
  induction n with
  | zero => have := h 0; exact ⟨this.1, this.2, this.1, this.2⟩
  | succ n ih =>
    have := h n
    have e1 : mxN b (n + 1) = max (mxN b n) (b n) := rfl
    have e2 : mnN b (n + 1) = min (mnN b n) (b n) := rfl
    omega
theorem mx_x {b b' : Nat → Int} {n : Nat} (hn : 0 < n) (h : ∀ c, c < n → b c = b' c) : mxN b n = mxN b' n ∧ mnN b n = mnN b' n := by
  unfold mxN mnN
  rw [h 0 hn]
  exact ⟨fo_ext (fun k hk s => by rw [h k hk]) _, fo_ext (fun k hk s => by rw [h k hk]) _⟩
theorem unevenA {M : MM} {p : Nat} {P : Nat → Int} (hc : PC M p P) {n : Nat} (hn : P 1 = (n : Int)) (hn8 : 1 ≤ n ∧ n ≤ 8) {b : Nat → Int} (hb : ∀ c, 0 ≤ b c ∧ b c ≤ 300) (h : ∀ c, c < n → M 128 c = b c) : sX10_uneven 127 p M = some (mxN b n - mnN b n) := by
  unfold sX10_uneven sX10_uneven_b0
  refine loopC (fun f y (t : Int × Int) => sX10_uneven_b17 127 p M f t.1 t.2 y) n (fun c t => t = (mxN b c, mnN b c)) (fun o => o = some (mxN b n - mnN b n)) ?_ ?_ FU 1 (M (gR 127 0) 0, M (gR 127 0) 0) (by omega) ?_ (by unfold FU; omega)
  · intro f t ht
    show sX10_uneven_b17 127 p M (f + 1) t.1 t.2 (n : Int) = _
    rw [sX10_uneven_b17, hc.1.2.1, hn, if_pos (Int.le_refl _), ht]
  · intro f c t hcn ht
    right
    have mb := mx_b hb c
    have bc := hb c
    have z8 : 0 ≤ (c : Int) ∧ (c : Int) < 8 := ⟨by omega, by omega⟩
    refine ⟨(mxN b (c + 1), mnN b (c + 1)), ?_, rfl⟩
    subst ht
    show sX10_uneven_b17 127 p M (f + 1) (mxN b c) (mnN b c) (c : Int) = sX10_uneven_b17 127 p M f (max (mxN b c) (b c)) (min (mnN b c) (b c)) ((c : Int) + 1)
    rw [sX10_uneven_b17, hc.1.2.1, hn, wI_of (x := (n : Int)) (by omega) (by omega), wI_of (x := (c : Int)) (by omega) (by omega), if_neg (show ¬ (n : Int) ≤ (c : Int) by omega), if_pos z8, ob_s, if_pos z8, ob_s, ob_s, g127_0, tN, h c hcn, wI_of (x := b c) (by omega) (by omega), wI_of (x := mxN b c) (by omega) (by omega), wI_of (x := mnN b c) (by omega) (by omega)]
  · rw [g127_0, h 0 (by omega)]
    show (b 0, b 0) = (max (b 0) (b 0), min (b 0) (b 0))
    rw [Int.max_self, Int.min_self]
/-- the most just law -/
def unP (P R : Nat → Int) (s : Int) (n m : Nat) (law : Int) : Int := mxN (bgP P R s n m law) n - mnN (bgP P R s n m law) n
def juS (u : Int → Int) (l : Nat) (t : Int × Int) : Int × Int := if t.1 = -1 ∨ u (l : Int) < t.2 then ((l : Int), u (l : Int)) else t
theorem ju_i (u : Int → Int) (l : Nat) : (l = 0 ∧ fo (juS u) l (-1, 0) = (-1, 0)) ∨ (0 < l ∧ 0 ≤ (fo (juS u) l (-1, 0)).1 ∧ (fo (juS u) l (-1, 0)).1 < (l : Int) ∧ (fo (juS u) l (-1, 0)).2 = u (fo (juS u) l (-1, 0)).1) := by
  induction l with
  | zero => exact Or.inl ⟨rfl, rfl⟩
  | succ l ih =>
    right
    rw [fo_s]
    generalize fo (juS u) l (-1, 0) = t at *
    unfold juS
    by_cases q : t.1 = -1 ∨ u (l : Int) < t.2
    · rw [if_pos q]; exact ⟨by omega, by show (0 : Int) ≤ (l : Int); omega, by show (l : Int) < ((l + 1 : Nat) : Int); omega, rfl⟩
    · rw [if_neg q]
      rcases ih with ⟨-, h⟩ | h
      · exact absurd (Or.inl (by rw [h])) q
      · exact ⟨by omega, h.2.1, by omega, h.2.2.2⟩
theorem justA {M0 : MM} {p g : Nat} {P R : Nat → Int} (hc : PC M0 p P) (hv : PV P) (hg : PG p) (hp : p < 66) (hd : DC M0 g R) (hw : DV R) (hl : LG g 25) (hgp : g < 70) {n m : Nat} (hn : P 1 = (n : Int)) (hm : R 0 = (m : Int)) {s : Int} (hs : s = -1 ∨ (0 ≤ s ∧ s < n)) : ∃ M', sX10_mostJust 127 p g s M0 = some ((fo (juS (unP P R s n m)) 4 (-1, 0)).1, M') ∧ F128 M0 M' := by
  have hv1 := hv.1
  have hn8 : 1 ≤ n ∧ n ≤ 8 := by omega
  have hm25 : m ≤ 25 := by have := hw.2.1; omega
  have hR : ∀ j, j < m → 1 ≤ R (2 + 2 * j) ∧ R (2 + 2 * j) ≤ 9 := fun j hj => by have := hw.2.2 j (by omega); omega
  have ub : ∀ law, -300 ≤ unP P R s n m law ∧ unP P R s n m law ≤ 300 := fun law => by
    have := mx_b (b := bgP P R s n m law) (B := 300) (bg_b hn8.2 hm25 hR law) n
    unfold unP
    omega
  unfold sX10_mostJust sX10_mostJust_b0
  refine loopC (fun f y (t : Int × Int × MM) => sX10_mostJust_b9 127 p g s f t.1 t.2.1 y t.2.2) 4 (fun l t => (t.1, t.2.1) = fo (juS (unP P R s n m)) l (-1, 0) ∧ F128 M0 t.2.2) (fun o => ∃ M', o = some ((fo (juS (unP P R s n m)) 4 (-1, 0)).1, M') ∧ F128 M0 M') ?_ ?_ FU 0 (-1, 0, M0) (by omega) ⟨rfl, fun _ _ _ => rfl⟩ (by unfold FU; omega)
  · intro f t ht
    show ∃ M', sX10_mostJust_b9 127 p g s (f + 1) t.1 t.2.1 ((4 : Nat) : Int) t.2.2 = _ ∧ _
    rw [sX10_mostJust_b9, wI_of (by omega) (by omega), if_pos (by omega), ← ht.1]
    exact ⟨_, rfl, ht.2⟩
  · intro f l t hl4 ht
    right
    obtain ⟨b, fw, T⟩ := t
    obtain ⟨ht1, ht2⟩ := ht
    dsimp only at ht1 ht2
    have ji := ju_i (unP P R s n m) l
    have e := fo_s (juS (unP P R s n m)) l (-1, 0)
    rw [← ht1] at ji e
    have hcT : PC T p P := PC_c (fun j hj => ht2 _ (by omega) (by omega)) hc
    have hdT : DC T g R := DC_c (fun j hj => ht2 _ (by omega) (by omega)) hd
    obtain ⟨N, n1, n2, n3⟩ := fillA hcT hv hg hp hdT hw hl hgp hn hm hs (law := (l : Int)) ⟨by omega, by omega⟩
    have hcN : PC N p P := PC_c (fun j hj => n2 _ (by omega) (by omega)) hcT
    have fN : F128 M0 N := fun a ha hb => (n2 a ha hb).trans (ht2 a ha hb)
    have un := unevenA hcN hn hn8 (b := bgP P R s n m (l : Int)) (bg_b hn8.2 hm25 hR _) n3
    have ul := ub (l : Int)
    have ufw : b = -1 ∨ (-300 ≤ fw ∧ fw ≤ 300) := by
      rcases ji with ⟨-, h⟩ | h
      · left; exact congrArg Prod.fst h
      · right; have := ub b; dsimp only at h; omega
    have bb : -1 ≤ b ∧ b ≤ 4 := by
      rcases ji with ⟨-, h⟩ | h
      · have : b = -1 := congrArg Prod.fst h; omega
      · dsimp only at h; omega
    show ∃ s', sX10_mostJust_b9 127 p g s (f + 1) b fw (l : Int) T = _ ∧ _
    rw [e, sX10_mostJust_b9, wI_of (x := (l : Int)) (by omega) (by omega), if_neg (show ¬ 3 < (l : Int) by omega), n1, ob_s, un, ob_s]
    have eu : unP P R s n m (l : Int) = mxN (bgP P R s n m (l : Int)) n - mnN (bgP P R s n m (l : Int)) n := rfl
    rw [← eu]
    unfold sX10_mostJust_b44 sX10_mostJust_b52
    simp only [ob_s]
    have s1 : (b = -1 ∨ unP P R s n m (l : Int) < fw) → juS (unP P R s n m) l (b, fw) = ((l : Int), unP P R s n m (l : Int)) := fun q => if_pos q
    have s2 : ¬ (b = -1 ∨ unP P R s n m (l : Int) < fw) → juS (unP P R s n m) l (b, fw) = (b, fw) := fun q => if_neg q
    generalize unP P R s n m (l : Int) = U at *
    rw [wI_of (x := b) (by omega) (by omega), wI_of (x := U) (by omega) (by omega)]
    by_cases z : b = -1
    · rw [if_pos z, s1 (Or.inl z)]
      exact ⟨((l : Int), U, N), rfl, rfl, fN⟩
    · rw [if_neg z, wI_of (x := fw) (by omega) (by omega)]
      by_cases z2 : fw ≤ U
      · rw [if_pos z2, s2 (by omega)]
        exact ⟨(b, fw, N), rfl, rfl, fN⟩
      · rw [if_neg z2, s1 (Or.inr (by omega))]
        exact ⟨((l : Int), U, N), rfl, rfl, fN⟩
