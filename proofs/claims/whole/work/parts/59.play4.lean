noncomputable def rnP (P R : Nat → Int) : Nat → Nat → PS → Nat × PS
  | 0, k, s => (k, s)
  | m + 1, k, s => @ite (Nat × PS) (dePb P s (R (1 + 3 * k)) (R (2 + 3 * k))) (Classical.propDecidable _) (rnP P R m (k + 1) (deP P s (R (1 + 3 * k)) (R (2 + 3 * k)) (R (3 + 3 * k)))) (k, s)
theorem rn_t {P R : Nat → Int} {m k : Nat} {s : PS} (h : dePb P s (R (1 + 3 * k)) (R (2 + 3 * k))) : rnP P R (m + 1) k s = rnP P R m (k + 1) (deP P s (R (1 + 3 * k)) (R (2 + 3 * k)) (R (3 + 3 * k))) := if_pos h
theorem rn_f {P R : Nat → Int} {m k : Nat} {s : PS} (h : ¬ dePb P s (R (1 + 3 * k)) (R (2 + 3 * k))) : rnP P R (m + 1) k s = (k, s) := if_neg h
theorem rn_b {P R : Nat → Int} : ∀ (m k : Nat) (s : PS), k ≤ (rnP P R m k s).1 ∧ (rnP P R m k s).1 ≤ k + m := by
  intro m
  induction m with
  | zero => intro k s; exact ⟨Nat.le_refl _, Nat.le_refl _⟩
  | succ m ih =>
    intro k s
    by_cases q : dePb P s (R (1 + 3 * k)) (R (2 + 3 * k))
    · rw [rn_t q]; have := ih (k + 1) (deP P s (R (1 + 3 * k)) (R (2 + 3 * k)) (R (3 + 3 * k))); omega
    · rw [rn_f q]; exact ⟨Nat.le_refl _, by dsimp only; omega⟩
theorem bv_k {R : Nat → Int} (hw : BV R) {k : Nat} (hk : (k : Int) < R 0) : (0 ≤ R (1 + 3 * k) ∧ R (1 + 3 * k) ≤ 5) ∧ (-1 ≤ R (2 + 3 * k) ∧ R (2 + 3 * k) ≤ 9) ∧ (-1 ≤ R (3 + 3 * k) ∧ R (3 + 3 * k) ≤ 9) ∧ (R (1 + 3 * k) ≤ 2 → 0 ≤ R (2 + 3 * k) ∧ R (2 + 3 * k) ≤ 7) ∧ (R (1 + 3 * k) = 2 → 0 ≤ R (3 + 3 * k)) := by
  have h := hw.2.2 k hk
  exact ⟨⟨h.1, h.2.1⟩, ⟨h.2.2.1, h.2.2.2.1⟩, ⟨h.2.2.2.2.1, h.2.2.2.2.2.1⟩, h.2.2.2.2.2.2.1, h.2.2.2.2.2.2.2⟩
theorem rn_v {P R : Nat → Int} (hv : PV P) (hw : BV R) : ∀ (m k : Nat) (s : PS), ((k + m : Nat) : Int) ≤ R 0 → SV P k s → SV P (rnP P R m k s).1 (rnP P R m k s).2 := by
  intro m
  induction m with
  | zero => intro k s _ h; exact h
  | succ m ih =>
    intro k s hkm h
    by_cases q : dePb P s (R (1 + 3 * k)) (R (2 + 3 * k))
    · rw [rn_t q]
      have b := bv_k hw (k := k) (by omega)
      exact ih (k + 1) _ (by omega) (de_v hv h b.1 b.2.1 b.2.2.2.1 q)
    · rw [rn_f q]; exact h
theorem beginA {M0 : MM} {p : Nat} {P : Nat → Int} (hc : PC M0 p P) (hv : PV P) (hg : PG p) (hp : p < 66) : ∃ M', sX6_begin 115 p M0 = some M' ∧ F115 M0 M' ∧ RCL P M' (s0P P (P 19)) := by
  have hv1 := hv.1
  unfold sX6_begin sX6_begin_b0
  rw [ob_s, ob_s, ob_s, ob_s, ob_s, ob_s, ob_s, ob_s, ob_s, ob_s, ob_s, ob_s]
  rw [g115_9, hg.2.1]
  have hN : ∃ N, N = mC (mU (mU (mU (mU (mU (mU (mU (mU (mU (mU (mU M0 115 0 (-1)) 115 1 0) 115 2 (-1)) 115 3 0) 115 4 (-1)) 115 5 0) 115 6 0) 115 7 (-1)) 115 8 (-1)) 115 12 0) 115 13 0) (p + 2) 116 5 := ⟨_, rfl⟩
  obtain ⟨N, eN⟩ := hN
  rw [← eN]
  have f1 : ∀ a, a ≠ 115 → a ≠ 116 → N a = M0 a := fun a ha hb => by
    rw [eN]
    funext j
    show (if a = 116 ∧ j < 5 then _ else _) = _
    rw [if_neg (fun q => hb q.1), mU_row _ _ ha, mU_row _ _ ha, mU_row _ _ ha, mU_row _ _ ha, mU_row _ _ ha, mU_row _ _ ha, mU_row _ _ ha, mU_row _ _ ha, mU_row _ _ ha, mU_row _ _ ha, mU_row _ _ ha]
  have f2 : ∀ j, j < 5 → N 116 j = M0 (p + 2) j := fun j hj => by
    rw [eN]
    show (if (116 : Nat) = 116 ∧ j < 5 then _ else _) = _
    rw [if_pos ⟨rfl, hj⟩, mU_row _ _ (by omega), mU_row _ _ (by omega), mU_row _ _ (by omega), mU_row _ _ (by omega), mU_row _ _ (by omega), mU_row _ _ (by omega), mU_row _ _ (by omega), mU_row _ _ (by omega), mU_row _ _ (by omega), mU_row _ _ (by omega), mU_row _ _ (by omega)]
  have f3 : ∀ j, N 115 j = mU (mU (mU (mU (mU (mU (mU (mU (mU (mU (mU M0 115 0 (-1)) 115 1 0) 115 2 (-1)) 115 3 0) 115 4 (-1)) 115 5 0) 115 6 0) 115 7 (-1)) 115 8 (-1)) 115 12 0) 115 13 0 115 j := fun j => by
    rw [eN]
    show (if (115 : Nat) = 116 ∧ j < 5 then _ else _) = _
    rw [if_neg (by omega)]
  clear eN
  have g : ∀ j, N 115 j = if j = 13 then 0 else if j = 12 then 0 else if j = 8 then -1 else if j = 7 then -1 else if j = 6 then 0 else if j = 5 then 0 else if j = 4 then -1 else if j = 3 then 0 else if j = 2 then -1 else if j = 1 then 0 else if j = 0 then -1 else M0 115 j := fun j => by rw [f3 j]; simp only [mU_w]
  have second : ∀ T : MM, (∀ a, a ≠ 118 → T a = N a) → (∀ c, c < 8 → T 118 c = 0) → ∃ M', sX6_begin_b92 115 p FU 0 T = some M' ∧ F115 M0 M' ∧ RCL P M' (s0P P (P 19)) := by
    intro T hT hTb
    refine loopC (fun f y (t : MM) => sX6_begin_b92 115 p f y t) 24 (fun j t => (∀ a, a ≠ 117 → t a = T a) ∧ ∀ c, c < j → t 117 c = 0) (fun o => ∃ M', o = some M' ∧ F115 M0 M' ∧ RCL P M' (s0P P (P 19))) ?_ ?_ FU 0 T (by omega) ⟨fun _ _ => rfl, fun c hc => by omega⟩ (by unfold FU; omega)
    · intro f t ht
      show ∃ M', sX6_begin_b92 115 p (f + 1) ((24 : Nat) : Int) t = some M' ∧ _
      rw [sX6_begin_b92, wI_of (by omega) (by omega), if_pos (by omega)]
      refine ⟨t, rfl, fun a ha => ?_, fun j hj => ?_, ⟨?_, ?_⟩, fun i hi => ?_, fun c hc q hq => ?_, fun c hc => ?_⟩
      · rw [ht.1 a (by omega), hT a (by omega)]; exact f1 a (by omega) (by omega)
      · rw [ht.1 115 (by omega), hT 115 (by omega), g j]
        have : j = 0 ∨ j = 1 ∨ j = 2 ∨ j = 3 ∨ j = 4 ∨ j = 5 ∨ j = 6 ∨ j = 7 ∨ j = 8 := by omega
        rcases this with rfl | rfl | rfl | rfl | rfl | rfl | rfl | rfl | rfl <;> rfl
      · rw [ht.1 115 (by omega), hT 115 (by omega), g 12]; rfl
      · rw [ht.1 115 (by omega), hT 115 (by omega), g 13]; rfl
      · rw [ht.1 116 (by omega), hT 116 (by omega), f2 i (by omega), (hc.2.2.2.1 i hi).2]
        show _ = uF (fun p => P (19 + 2 * p)) 0 (P 19) i
        by_cases e : i = 0
        · subst e; rw [uF_e]
        · rw [uF_n _ _ e]
      · exact ht.2 _ (by omega)
      · rw [ht.1 118 (by omega)]; exact hTb c hc
    · intro f j t hj ht
      right
      refine ⟨mU t 117 j 0, ?_, fun a ha => by rw [mU_row _ _ ha]; exact ht.1 a ha, fun c hc => ?_⟩
      · show sX6_begin_b92 115 p (f + 1) (j : Int) t = _
        rw [sX6_begin_b92, wI_of (by omega) (by omega), if_neg (by omega), if_pos (by omega), ob_s, ob_s, g115_10, tN]
      · by_cases e : c = j
        · subst e; rw [mU_eq]
        · rw [mU_ne _ _ (by omega)]; exact ht.2 c (by omega)
  refine loopC (fun f y (t : MM) => sX6_begin_b71 115 p f y t) 8 (fun j t => (∀ a, a ≠ 118 → t a = N a) ∧ ∀ c, c < j → t 118 c = 0) (fun o => ∃ M', o = some M' ∧ F115 M0 M' ∧ RCL P M' (s0P P (P 19))) ?_ ?_ FU 0 N (by omega) ⟨fun _ _ => rfl, fun c hc => by omega⟩ (by unfold FU; omega)
  · intro f t ht
    show ∃ M', sX6_begin_b71 115 p (f + 1) ((8 : Nat) : Int) t = some M' ∧ _
    rw [sX6_begin_b71, wI_of (by omega) (by omega), if_pos (by omega)]
    exact second t ht.1 ht.2
  · intro f j t hj ht
    right
    refine ⟨mU t 118 j 0, ?_, fun a ha => by rw [mU_row _ _ ha]; exact ht.1 a ha, fun c hc => ?_⟩
    · show sX6_begin_b71 115 p (f + 1) (j : Int) t = _
      rw [sX6_begin_b71, wI_of (by omega) (by omega), if_neg (by omega), if_pos (by omega), ob_s, ob_s, g115_11, tN]
    · by_cases e : c = j
      · subst e; rw [mU_eq]
      · rw [mU_ne _ _ (by omega)]; exact ht.2 c (by omega)
theorem runsA {M0 : MM} {p q : Nat} {P R : Nat → Int} (hc : PC M0 p P) (hv : PV P) (hg : PG p) (hp : p < 66) (hb : BC M0 q R) (hw : BV R) (hl : LG q 40) (hq : q < 70) {n K : Nat} (hK : R 0 = (K : Int)) (hn : n ≤ 2147483647) : ∃ M', sX6_runs 115 p q (n : Int) M0 = some (((rnP P R (min n K) 0 (s0P P (P 19))).1 : Int), M') ∧ F115 M0 M' ∧ RCL P M' (rnP P R (min n K) 0 (s0P P (P 19))).2 := by
  have hv1 := hv.1
  have hK40 := hw.2.1
  have hbel := hv.2.2.2.2.1 0 (by omega)
  rw [show 19 + 2 * 0 = 19 from rfl] at hbel
  obtain ⟨Mb, b1, b2, b3⟩ := beginA hc hv hg hp
  unfold sX6_runs sX6_runs_b0
  rw [b1, ob_s]
  obtain ⟨l1, l2, l3, k1, k2, k3⟩ := hl
  have main : ∀ m k : Nat, k + m = min n K → ∀ f, m < f → ∀ (M : MM) (s : PS), F115 M0 M → RCL P M s → SV P k s → ∃ M', sX6_runs_b8 115 p q (n : Int) f (k : Int) M = some (((rnP P R m k s).1 : Int), M') ∧ F115 M0 M' ∧ RCL P M' (rnP P R m k s).2 := by
    intro m
    induction m with
    | zero =>
      intro k hk f hf M s hr hM hs
      obtain ⟨f, rfl⟩ : ∃ g, f = g + 1 := ⟨f - 1, by omega⟩
      refine ⟨M, ?_, hr, hM⟩
      rw [sX6_runs_b8, hr q (by omega), hb.1, hK, wI_of (x := (n : Int)) (by omega) (by omega), wI_of (x := (k : Int)) (by omega) (by omega), wI_of (x := (K : Int)) (by omega) (by omega)]
      unfold sX6_runs_b61
      by_cases z : (n : Int) ≤ (k : Int)
      · rw [if_pos z]; rfl
      · rw [if_neg z, if_pos (by omega)]; rfl
    | succ m ih =>
      intro k hk f hf M s hr hM hs
      obtain ⟨f, rfl⟩ : ∃ g, f = g + 1 := ⟨f - 1, by omega⟩
      have bk := bv_k hw (k := k) (by omega)
      have bc := hb.2 k (by omega)
      have z40 : 0 ≤ (k : Int) ∧ (k : Int) < ((40 : Nat) : Int) := ⟨by omega, by omega⟩
      obtain ⟨c1, c2⟩ := canA hc hv hg hp hs hr hM bk.1 bk.2.1 bk.2.2.1 bk.2.2.2.1 bk.2.2.2.2
      rw [sX6_runs_b8, hr q (by omega), hb.1, hK, wI_of (x := (n : Int)) (by omega) (by omega), wI_of (x := (k : Int)) (by omega) (by omega), wI_of (x := (K : Int)) (by omega) (by omega), if_neg (show ¬ (n : Int) ≤ (k : Int) by omega), if_neg (show ¬ (K : Int) ≤ (k : Int) by omega), l1, l2, l3, k1, k2, k3, if_pos z40, if_pos z40, if_pos z40, tN, hr (q + 1) (by omega), hr (q + 2) (by omega), hr (q + 3) (by omega), bc.1, bc.2.1, bc.2.2]
      by_cases d : dePb P s (R (1 + 3 * k)) (R (2 + 3 * k))
      · obtain ⟨M', e, w1, w2⟩ := c1 d
        rw [e, ob_s]
        show ∃ M'', (if wI 1 = 0 then _ else _) = _ ∧ _
        rw [i10, ob_s, rn_t d]
        exact ih (k + 1) (by omega) f (by omega) M' _ w1 w2 (de_v hv hs bk.1 bk.2.1 bk.2.2.2.1 d)
      · rw [c2 d, ob_s]
        show ∃ M'', (if wI 0 = 0 then _ else _) = _ ∧ _
        rw [i00, rn_f d]
        exact ⟨M, rfl, hr, hM⟩
  exact main (min n K) 0 (by omega) FU (by unfold FU; omega) Mb (s0P P (P 19)) b2 b3 (s0_v hv (by omega))
