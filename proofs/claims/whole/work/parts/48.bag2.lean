def agP (P : Nat → Int) (c : Nat) : Int := P (28 + 13 * c)
/-- rows 128 and 129 alone -/
def F128 (M M' : MM) : Prop := ∀ a, a ≠ 128 → a ≠ 129 → M' a = M a
theorem queueA {M0 : MM} {p : Nat} {P : Nat → Int} (hc : PC M0 p P) (hv : PV P) (hg : PG p) (hp : p < 77) {n : Nat} (hn : P 1 = (n : Int)) : ∃ (M' : MM) (q : Nat → Nat), sX10_queueUp 127 p 1 M0 = some M' ∧ (∀ a, a ≠ 129 → M' a = M0 a) ∧ (∀ i, i < n → M' 129 i = (q i : Int)) ∧ QUE (agP P) q n := by
  have hv1 := hv.1
  have hn8 : n ≤ 8 := by omega
  unfold sX10_queueUp sX10_queueUp_b0
  refine loopC (fun f y (t : MM) => sX10_queueUp_b2 127 p 1 f y t) n (fun c t => (∀ a, a ≠ 129 → t a = M0 a) ∧ ∃ q : Nat → Nat, (∀ i, i < c → t 129 i = (q i : Int)) ∧ QUE (agP P) q c) (fun o => ∃ (M' : MM) (q : Nat → Nat), o = some M' ∧ (∀ a, a ≠ 129 → M' a = M0 a) ∧ (∀ i, i < n → M' 129 i = (q i : Int)) ∧ QUE (agP P) q n) ?_ ?_ FU 0 M0 (by omega) ⟨fun _ _ => rfl, fun _ => 0, fun i hi => by omega, QUE_0 _ _⟩ (by unfold FU; omega)
  · intro f t ht
    obtain ⟨t1, q, t2, t3⟩ := ht
    show ∃ (M' : MM) (q : Nat → Nat), sX10_queueUp_b2 127 p 1 (f + 1) (n : Int) t = _ ∧ _
    rw [sX10_queueUp_b2, t1 p (by omega), hc.1.2.1, hn, if_pos (Int.le_refl _)]
    exact ⟨t, q, rfl, t1, t2, t3⟩
  · intro f c t hcn ht
    right
    obtain ⟨t1, q, t2, t3⟩ := ht
    have hch := hv.2.2.2.2.2.1 c (by omega)
    have hcc := hc.2.2.2.2.1 c (by omega)
    have age : ∀ j : Nat, j < n → 3 ≤ agP P j ∧ agP P j ≤ 15 ∧ M0 (p + 3) j = agP P j := fun j hj => by
      have w := hv.2.2.2.2.2.1 j (by omega)
      have w2 := hc.2.2.2.2.1 j (by omega)
      exact ⟨w.1, w.2.1, w2.1⟩
    -- the inner walk
    have inner : ∀ a : Nat, a ≤ c → ∀ g, a < g → ∀ T : MM, (∀ b, b ≠ 129 → T b = M0 b) → (∀ i, i < a → T 129 i = (q i : Int)) → (∀ i, a ≤ i → i < c → T 129 (i + 1) = (q i : Int)) → (∀ i, a ≤ i → i < c → agP P c < agP P (q i)) → ∃ (N : MM) (q' : Nat → Nat), sX10_queueUp_b13 127 p 1 (fun x3 M => sX10_queueUp_b2 127 p 1 f x3 M) g (c : Int) (a : Int) T = sX10_queueUp_b2 127 p 1 f ((c : Int) + 1) N ∧ (∀ b, b ≠ 129 → N b = M0 b) ∧ (∀ i, i < c + 1 → N 129 i = (q' i : Int)) ∧ QUE (agP P) q' (c + 1) := by
      intro a
      induction a with
      | zero =>
        intro _ g hg0 T h1 h2 h3 h4
        obtain ⟨g, rfl⟩ : ∃ w, g = w + 1 := ⟨g - 1, by omega⟩
        refine ⟨mU T 129 0 (c : Int), fun i => if i = 0 then c else q (i - 1), ?_, fun b hb => by rw [mU_row _ _ hb]; exact h1 b hb, fun i hi => ?_, QUE_s t3 (a := 0) (by omega) (fun i hi => by omega) rfl (fun i _ hi => rfl) (fun i hi => by omega) (fun i _ hi => h4 i (by omega) hi)⟩
        · rw [sX10_queueUp_b13, wI_1, if_neg (by omega), wI_of (x := ((0 : Nat) : Int)) (by omega) (by omega), if_pos (show ((0 : Nat) : Int) ≤ 0 by omega)]
          unfold sX10_queueUp_b67
          rw [wI_of (x := ((0 : Nat) : Int)) (by omega) (by omega), if_pos (show 0 ≤ ((0 : Nat) : Int) ∧ ((0 : Nat) : Int) < 8 by omega), ob_s, ob_s, g127_1, tN]
        · by_cases e : i = 0
          · subst e; rw [mU_eq]; rfl
          · obtain ⟨j, rfl⟩ : ∃ j, i = j + 1 := ⟨i - 1, by omega⟩
            rw [mU_ne _ _ (by omega), h3 j (by omega) (by omega)]; rfl
      | succ a ih =>
        intro hac g hg0 T h1 h2 h3 h4
        obtain ⟨g, rfl⟩ : ∃ w, g = w + 1 := ⟨g - 1, by omega⟩
        have hqa := (t3.1 a (by omega)).1
        have ha := age (q a) (by omega)
        have hb := age c hcn
        have ea : ((a + 1 : Nat) : Int) - 1 = (a : Int) := by omega
        have z8 : 0 ≤ (a : Int) ∧ (a : Int) < 8 := ⟨by omega, by omega⟩
        have zq : 0 ≤ ((q a : Nat) : Int) ∧ ((q a : Nat) : Int) < 8 := ⟨by omega, by omega⟩
        have zc : 0 ≤ (c : Int) ∧ (c : Int) < 8 := ⟨by omega, by omega⟩
        have za : 0 ≤ ((a + 1 : Nat) : Int) ∧ ((a + 1 : Nat) : Int) < 8 := ⟨by omega, by omega⟩
        have eT : T 129 a = (q a : Int) := h2 a (by omega)
        have e3 : T (p + 3) = M0 (p + 3) := h1 _ (by omega)
        rw [sX10_queueUp_b13, wI_1, if_neg (show ¬ (1 : Int) = 0 by omega), wI_of (x := ((a + 1 : Nat) : Int)) (by omega) (by omega), if_neg (show ¬ ((a + 1 : Nat) : Int) ≤ 0 by omega), ea, wI_of (x := (a : Int)) (by omega) (by omega), if_pos z8, g127_1, tN, eT, wI_of (x := ((q a : Nat) : Int)) (by omega) (by omega), if_pos zq, wI_of (x := (c : Int)) (by omega) (by omega), if_pos zc, hg.2.2.1, tN, tN, e3, ha.2.2, hb.2.2, wI_of (x := agP P (q a)) (by omega) (by omega), wI_of (x := agP P c) (by omega) (by omega), if_pos z8, if_pos za, ob_s, ob_s, tN]
        by_cases z : agP P (q a) ≤ agP P c
        · rw [if_pos z]
          refine ⟨mU T 129 (a + 1) (c : Int), fun i => if i < a + 1 then q i else if i = a + 1 then c else q (i - 1), ?_, fun b hb => by rw [mU_row _ _ hb]; exact h1 b hb, fun i hi => ?_, QUE_s t3 (a := a + 1) hac (fun i hi => if_pos hi) ?_ (fun i hi hic => ?_) (fun i hi => ?_) (fun i hi hic => h4 i hi hic)⟩
          · unfold sX10_queueUp_b67
            rw [wI_of (x := ((a + 1 : Nat) : Int)) (by omega) (by omega), if_pos za, ob_s, ob_s, g127_1, tN]
          · dsimp only
            by_cases e1 : i < a + 1
            · rw [if_pos e1, mU_ne _ _ (by omega)]; exact h2 i e1
            · rw [if_neg e1]
              by_cases e2 : i = a + 1
              · subst e2; rw [if_pos rfl, mU_eq]
              · rw [if_neg e2, mU_ne _ _ (by omega)]
                obtain ⟨j, rfl⟩ : ∃ j, i = j + 1 := ⟨i - 1, by omega⟩
                rw [h3 j (by omega) (by omega)]; rfl
          · rw [if_neg (by omega), if_pos rfl]
          · rw [if_neg (by omega), if_neg (by omega)]; rfl
          · have := t3.2.2.1 i a (by omega) (by omega); omega
        · rw [if_neg z, show ((a + 1 : Nat) : Int) + -1 = (a : Int) by omega]
          refine ih (by omega) g (by omega) (mU T 129 (a + 1) (q a : Int)) (fun b hb => by rw [mU_row _ _ hb]; exact h1 b hb) (fun i hi => by rw [mU_ne _ _ (by omega)]; exact h2 i (by omega)) (fun i hi hic => ?_) (fun i hi hic => ?_)
          · by_cases e : i = a
            · subst e; rw [mU_eq]
            · rw [mU_ne _ _ (by omega)]; exact h3 i (by omega) hic
          · by_cases e : i = a
            · subst e; omega
            · exact h4 i (by omega) hic
    obtain ⟨N, q', w1, w2, w3, w4⟩ := inner c (Nat.le_refl c) FU (by unfold FU; omega) t t1 t2 (fun i hi hic => by omega) (fun i hi hic => by omega)
    refine ⟨N, ?_, w2, q', w3, w4⟩
    show sX10_queueUp_b2 127 p 1 (f + 1) (c : Int) t = _
    rw [sX10_queueUp_b2, t1 p (by omega), hc.1.2.1, hn, wI_of (x := (n : Int)) (by omega) (by omega), wI_of (x := (c : Int)) (by omega) (by omega), if_neg (by omega)]
    exact w1
theorem queueA0 {M0 : MM} {p : Nat} {P : Nat → Int} (hc : PC M0 p P) (hv : PV P) (hp : p < 77) {n : Nat} (hn : P 1 = (n : Int)) : ∃ (M' : MM), sX10_queueUp 127 p 0 M0 = some M' ∧ (∀ a, a ≠ 129 → M' a = M0 a) ∧ (∀ i, i < n → M' 129 i = (i : Int)) := by
  have hv1 := hv.1
  have hn8 : n ≤ 8 := by omega
  unfold sX10_queueUp sX10_queueUp_b0
  refine loopC (fun f y (t : MM) => sX10_queueUp_b2 127 p 0 f y t) n (fun c t => (∀ a, a ≠ 129 → t a = M0 a) ∧ (∀ i, i < c → t 129 i = (i : Int))) (fun o => ∃ (M' : MM), o = some M' ∧ (∀ a, a ≠ 129 → M' a = M0 a) ∧ (∀ i, i < n → M' 129 i = (i : Int))) ?_ ?_ FU 0 M0 (by omega) ⟨fun _ _ => rfl, fun i hi => by omega⟩ (by unfold FU; omega)
  · intro f t ht
    show ∃ (M' : MM), sX10_queueUp_b2 127 p 0 (f + 1) (n : Int) t = _ ∧ _
    rw [sX10_queueUp_b2, ht.1 p (by omega), hc.1.2.1, hn, if_pos (Int.le_refl _)]
    exact ⟨t, rfl, ht⟩
  · intro f c t hcn ht
    right
    refine ⟨mU t 129 c (c : Int), ?_, fun b hb => by rw [mU_row _ _ hb]; exact ht.1 b hb, fun i hi => ?_⟩
    · show sX10_queueUp_b2 127 p 0 (f + 1) (c : Int) t = _
      rw [sX10_queueUp_b2, ht.1 p (by omega), hc.1.2.1, hn, wI_of (x := (n : Int)) (by omega) (by omega), wI_of (x := (c : Int)) (by omega) (by omega), if_neg (by omega), show FU = 99999 + 1 from rfl, sX10_queueUp_b13, wI_0, if_pos rfl]
      unfold sX10_queueUp_b67
      rw [wI_of (x := (c : Int)) (by omega) (by omega), if_pos (show 0 ≤ (c : Int) ∧ (c : Int) < 8 by omega), ob_s, ob_s, g127_1, tN]
    · by_cases e : i = c
      · subst e; rw [mU_eq]
      · rw [mU_ne _ _ (by omega)]; exact ht.2 i (by omega)
/-- dealing along a queue: who is at place i has what place i is dealt -/
theorem dealA {M0 : MM} {p : Nat} {P : Nat → Int} (hc : PC M0 p P) (hv : PV P) (hp : p < 77) {n : Nat} (hn : P 1 = (n : Int)) {q : Nat → Nat} (hq : ∀ i, i < n → M0 129 i = (q i : Int)) (q1 : ∀ i, i < n → q i < n) (q2 : ∀ i j, i < n → j < n → q i = q j → i = j) (hb : ∀ c, c < 8 → M0 128 c = 0) {w : Nat} (hw : w ≤ 225) : ∃ M', sX10_dealOut 127 p (w : Int) M0 = some M' ∧ (∀ a, a ≠ 128 → M' a = M0 a) ∧ ∀ i, i < n → M' 128 (q i) = (dlP n w i : Int) := by
  have hv1 := hv.1
  have hn8 : 1 ≤ n ∧ n ≤ 8 := by omega
  unfold sX10_dealOut sX10_dealOut_b0
  refine loopC (fun f y (t : MM) => sX10_dealOut_b2 127 p (w : Int) f y t) w (fun c t => (∀ a, a ≠ 128 → t a = M0 a) ∧ (∀ i, i < n → t 128 (q i) = (dlP n c i : Int))) (fun o => ∃ M', o = some M' ∧ (∀ a, a ≠ 128 → M' a = M0 a) ∧ ∀ i, i < n → M' 128 (q i) = (dlP n w i : Int)) ?_ ?_ FU 0 M0 (by omega) ⟨fun _ _ => rfl, fun i hi => by rw [dl_0, hb _ (by have := q1 i hi; omega)]; rfl⟩ (by unfold FU; omega)
  · intro f t ht
    show ∃ (M' : MM), sX10_dealOut_b2 127 p (w : Int) (f + 1) (w : Int) t = _ ∧ _
    rw [sX10_dealOut_b2, if_pos (Int.le_refl _)]
    exact ⟨t, rfl, ht⟩
  · intro f c t hcn ht
    right
    have hm : c % n < n := Nat.mod_lt _ (by omega)
    have qm := q1 _ hm
    have z8 : 0 ≤ ((c % n : Nat) : Int) ∧ ((c % n : Nat) : Int) < 8 := ⟨by omega, by omega⟩
    refine ⟨mU t 128 (q (c % n)) (t 128 (q (c % n)) + 1), ?_, fun b hb => by rw [mU_row _ _ hb]; exact ht.1 b hb, fun i hi => ?_⟩
    · show sX10_dealOut_b2 127 p (w : Int) (f + 1) (c : Int) t = _
      rw [sX10_dealOut_b2, ht.1 p (by omega), hc.1.2.1, hn, wI_of (x := (w : Int)) (by omega) (by omega), wI_of (x := (c : Int)) (by omega) (by omega), wI_of (x := (n : Int)) (by omega) (by omega), if_neg (show ¬ (w : Int) ≤ (c : Int) by omega), if_neg (show ¬ (n : Int) ≤ 0 by omega), if_pos (show (n : Int) ≠ 0 by omega), tm_n, wI_of (x := ((c % n : Nat) : Int)) (by omega) (by omega), if_pos z8, g127_1, tN, ht.1 129 (by omega), hq _ hm, addA t (by omega) 1, ob_s, ob_s]
    · rw [dl_s hn8 c i hi]
      by_cases e : c % n = i
      · rw [e, mU_eq, if_pos rfl, ht.2 i hi]; omega
      · rw [mU_ne _ _ (show _ ∨ q i ≠ q (c % n) from Or.inr (fun z => e (q2 i _ hi hm z).symm)), if_neg e, ht.2 i hi]; omega
