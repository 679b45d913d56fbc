theorem kidsA {M0 : MM} {p : Nat} {P : Nat → Int} (hc : PC M0 p P) (hv : PV P) (hg : PG p) (hp : p < 77) {n : Nat} (hn : P 1 = (n : Int)) {nb : Nat} (hb : P 2 = (nb : Int)) (x2 : Int) : ∀ m c : Nat, c + m = n → ∀ f, m + 1 < f → ∀ (M : MM) (t : Int × Int × Int), (∀ a, a ≠ 130 → M a = M0 a) → M 130 0 = t.1 → M 130 1 = -1 → M 130 2 = t.2.1 → M 130 3 = t.2.2 → (0 ≤ t.2.2 ∧ t.2.2 ≤ 30) → ∃ M', sX0_passes_b28 130 p x2 127 f (c : Int) M = sX0_passes_b58 130 p x2 127 M' ∧ (∀ a, a ≠ 130 → M' a = M0 a) ∧ M' 130 1 = (alN P nb m c t).1 ∧ M' 130 0 = (alN P nb m c t).2.1 ∧ M' 130 2 = (alN P nb m c t).2.2.1 ∧ M' 130 3 = (alN P nb m c t).2.2.2 := by
  have hv1 := hv.1
  intro m
  induction m with
  | zero =>
    intro c hcn f hf M t fr e0 e1 e2 e3 hl
    obtain ⟨f, rfl⟩ : ∃ g, f = g + 1 := ⟨f - 1, by omega⟩
    refine ⟨M, ?_, fr, e1, e0, e2, e3⟩
    rw [sX0_passes_b28, fr p (by omega), hc.1.2.1, hn, if_pos (show wI (n : Int) ≤ wI (c : Int) by rw [show c = n by omega]; exact Int.le_refl _)]
  | succ m ih =>
    intro c hcn f hf M t fr e0 e1 e2 e3 hl
    obtain ⟨f, rfl⟩ : ∃ g, f = g + 1 := ⟨f - 1, by omega⟩
    have hch := hv.2.2.2.2.2.1 c (by omega)
    have hcc := hc.2.2.2.2.1 c (by omega)
    have hp8 : 0 ≤ (c : Int) ∧ (c : Int) < 8 := ⟨by omega, by omega⟩
    have hli : 0 ≤ (if P (28 + 13 * c) < P 3 then (0 : Int) else 1) ∧ (if P (28 + 13 * c) < P 3 then (0 : Int) else 1) ≤ 1 := by split <;> omega
    obtain ⟨M', g1, g2, g3, g4, g5, g6⟩ := goesA hc hv hg hp (c := c) (by omega) hb nb 0 (by omega) FU (by have := hv1; unfold FU; omega) M t.1 t.2.1 t.2.2 (if P (28 + 13 * c) < P 3 then 0 else 1) fr e0 e1 e2 e3 hl hli
    have eg : sX0_goes 130 p (c : Int) M = some M' := by
      unfold sX0_goes sX0_goes_b0 sX0_goes_b18
      rw [wI_of (x := (c : Int)) (by omega) (by omega), if_pos hp8, hg.2.2.1, tN, fr (p + 3) (by omega), fr p (by omega), hcc.1, hc.1.2.2.2.1, wI_of (x := P (28 + 13 * c)) (by omega) (by omega), wI_of (x := P 3) (by omega) (by omega)]
      by_cases z : P (28 + 13 * c) < P 3
      · rw [if_pos z]; rw [if_pos z] at g1; exact g1
      · rw [if_neg z]; rw [if_neg z] at g1; exact g1
    have hb2 := ch_b (h := P (30 + 13 * c)) (fc := P (29 + 13 * c)) (by omega) nb (t.1, t.2.1, t.2.2, if P (28 + 13 * c) < P 3 then 0 else 1) ⟨hl.1, hl.2, hli.1, hli.2⟩
    rw [sX0_passes_b28, fr p (by omega), hc.1.2.1, hn, wI_of (x := (n : Int)) (by omega) (by omega), wI_of (x := (c : Int)) (by omega) (by omega), if_neg (by omega), e1, wI_m1, if_pos rfl, eg, ob_s, ob_s]
    unfold alN
    generalize chN (P (30 + 13 * c)) (P (29 + 13 * c)) nb (t.1, t.2.1, t.2.2, if P (28 + 13 * c) < P 3 then 0 else 1) = r at *
    by_cases q : r.1 = 1
    · rw [if_pos q]
      rw [if_pos q] at g4
      refine ⟨M', ?_, g2, g4, g3, g5, g6⟩
      obtain ⟨f, rfl⟩ : ∃ g, f = g + 1 := ⟨f - 1, by omega⟩
      rw [sX0_passes_b28]
      by_cases z : wI (M' p 3) ≤ wI ((c : Int) + 1)
      · rw [if_pos z]
      · rw [if_neg z, g4, wI_of (x := (c : Int)) (by omega) (by omega), if_neg (by omega)]
    · rw [if_neg q]
      rw [if_neg q] at g4
      exact ih (c + 1) (by omega) f (by omega) M' r.2 g2 g3 g4 g5 g6 hb2.2
/-- the reference's fields of an afternoon -/
def F58 (M M' : MM) : Prop := (∀ a, a ≠ 359 → M' a = M a) ∧ ∀ j, j ≠ 58 → j < 64 ∨ 66 < j → M' 359 j = M 359 j
theorem F58_HD {M M' : MM} {k : Nat} (h : F58 M M') (hd : HD M k) : HD M' k := HD_c hd (h.1 365 (by omega)) (fun j a b => h.2 j (by omega) (by omega))
theorem F58_p {M M' : MM} (h : F58 M M') (k : Nat) : pP M' k = pP M k := pP_c (h.1 365 (by omega)) k
theorem F58_u {M M' : MM} {j : Nat} {x : Int} (h : F58 M M') (hj : j = 58 ∨ (64 ≤ j ∧ j ≤ 66)) : F58 M (mU M' 359 j x) := ⟨fun a ha => by rw [mU_row _ _ ha]; exact h.1 a ha, fun i hi hi' => by rw [mU_ne _ _ (by omega)]; exact h.2 i hi hi'⟩
theorem kidsB {M0 : MM} {k : Nat} (hd : HD M0 k) (hv : PV (pP M0 k)) {n : Nat} (hn : pP M0 k 1 = (n : Int)) {nb : Nat} (hb : pP M0 k 2 = (nb : Int)) (x1 x2 x3 : Int) : ∀ m c : Nat, c + m = n → ∀ f, m + 1 < f → ∀ (M : MM) (t : Int × Int × Int), F58 M0 M → M 359 64 = t.1 → M 359 58 = -1 → M 359 65 = t.2.1 → M 359 66 = t.2.2 → (0 ≤ t.2.2 ∧ t.2.2 ≤ 30) → ∃ M', sX12_drawn_b63 359 x1 x2 x3 f (c : Int) M = sX12_drawn_b105 359 x1 x2 x3 M' ∧ F58 M0 M' ∧ M' 359 58 = (alN (pP M0 k) nb m c t).1 ∧ M' 359 64 = (alN (pP M0 k) nb m c t).2.1 ∧ M' 359 65 = (alN (pP M0 k) nb m c t).2.2.1 ∧ M' 359 66 = (alN (pP M0 k) nb m c t).2.2.2 := by
  have hv1 := hv.1
  intro m
  induction m with
  | zero =>
    intro c hcn f hf M t fr e0 e1 e2 e3 hl
    obtain ⟨f, rfl⟩ : ∃ g, f = g + 1 := ⟨f - 1, by omega⟩
    have h26 := (F58_HD fr hd).2.2.2.1
    rw [F58_p fr k] at h26
    refine ⟨M, ?_, fr, e1, e0, e2, e3⟩
    rw [sX12_drawn_b63, h26, hn, if_pos (show wI (n : Int) ≤ wI (c : Int) by rw [show c = n by omega]; exact Int.le_refl _)]
  | succ m ih =>
    intro c hcn f hf M t fr e0 e1 e2 e3 hl
    obtain ⟨f, rfl⟩ : ∃ g, f = g + 1 := ⟨f - 1, by omega⟩
    have hdM := F58_HD fr hd
    have epM := F58_p fr k
    have h26 := hdM.2.2.2.1
    have h28 := hdM.2.2.2.2.2
    rw [epM] at h26 h28
    have hch := hv.2.2.2.2.2.1 c (by omega)
    have hli : 0 ≤ (if pP M0 k (28 + 13 * c) < pP M0 k 3 then (0 : Int) else 1) ∧ (if pP M0 k (28 + 13 * c) < pP M0 k 3 then (0 : Int) else 1) ≤ 1 := by split <;> omega
    obtain ⟨M', g1, g2, g3, g5, g6⟩ := drawChB hdM (by rw [epM]; exact hv) (c := c) (by rw [epM]; omega) (nb := nb) (by rw [epM]; exact hb) nb 0 (by omega) FU (by unfold FU; omega) M t.1 t.2.1 t.2.2 (if pP M0 k (28 + 13 * c) < pP M0 k 3 then 0 else 1) ⟨fun _ _ => rfl, fun _ _ => rfl⟩ e0 e2 e3 hl hli
    rw [epM] at g1 g3 g5 g6
    have fr' : F58 M0 M' := ⟨fun a ha => (g2.1 a ha).trans (fr.1 a ha), fun j a b => (g2.2 j b).trans (fr.2 j a b)⟩
    have g4 : M' 359 58 = -1 := (g2.2 58 (by omega)).trans e1
    have eg : sX12_drawChild 359 (c : Int) M = some ((chN (pP M0 k (30 + 13 * c)) (pP M0 k (29 + 13 * c)) nb (t.1, t.2.1, t.2.2, if pP M0 k (28 + 13 * c) < pP M0 k 3 then 0 else 1)).1, M') := by
      unfold sX12_drawChild sX12_drawChild_b0 sX12_drawChild_b18
      rw [ofC_e hdM ⟨by omega, by omega⟩ ⟨by omega, by omega⟩, ob_s, epM, show (28 + 13 * (c : Int) + 0).toNat = 28 + 13 * c by omega, h28, wI_of (x := pP M0 k (28 + 13 * c)) (by omega) (by omega), wI_of (x := pP M0 k 3) (by omega) (by omega)]
      by_cases z : pP M0 k (28 + 13 * c) < pP M0 k 3
      · rw [if_pos z]; simp only [if_pos z] at g1 ⊢; exact g1
      · rw [if_neg z]; simp only [if_neg z] at g1 ⊢; exact g1
    have hb2 := ch_b (h := pP M0 k (30 + 13 * c)) (fc := pP M0 k (29 + 13 * c)) (by omega) nb (t.1, t.2.1, t.2.2, if pP M0 k (28 + 13 * c) < pP M0 k 3 then 0 else 1) ⟨hl.1, hl.2, hli.1, hli.2⟩
    rw [sX12_drawn_b63, h26, hn, wI_of (x := (n : Int)) (by omega) (by omega), wI_of (x := (c : Int)) (by omega) (by omega), if_neg (by omega), e1, wI_m1, if_pos rfl, eg, ob_s]
    unfold alN sX12_drawn_b96
    simp only [ob_s]
    clear eg g1
    generalize chN (pP M0 k (30 + 13 * c)) (pP M0 k (29 + 13 * c)) nb (t.1, t.2.1, t.2.2, if pP M0 k (28 + 13 * c) < pP M0 k 3 then 0 else 1) = r at *
    by_cases q : r.1 = 1
    · rw [q, i10, if_pos rfl]
      refine ⟨mU M' 359 58 (c : Int), ?_, F58_u fr' (by omega), mU_eq _ _ _ _, by rw [mU_ne _ _ (by omega)]; exact g3, by rw [mU_ne _ _ (by omega)]; exact g5, by rw [mU_ne _ _ (by omega)]; exact g6⟩
      obtain ⟨f, rfl⟩ : ∃ g, f = g + 1 := ⟨f - 1, by omega⟩
      rw [sX12_drawn_b63]
      by_cases z : wI (mU M' 359 58 (c : Int) 359 26) ≤ wI ((c : Int) + 1)
      · rw [if_pos z]
      · rw [if_neg z, mU_eq, wI_of (x := (c : Int)) (by omega) (by omega), if_neg (by omega)]
    · have q0 : r.1 = 0 := by omega
      rw [q0, i00, if_neg (show ¬ (0 : Int) = 1 by omega)]
      exact ih (c + 1) (by omega) f (by omega) (mU M' 359 58 (-1)) r.2 (F58_u fr' (by omega)) (by rw [mU_ne _ _ (by omega)]; exact g3) (mU_eq _ _ _ _) (by rw [mU_ne _ _ (by omega)]; exact g5) (by rw [mU_ne _ _ (by omega)]; exact g6) hb2.2
theorem e_drawn {M : MM} (h : INV M) {x1 x2 x3 : Int} (r1 : R32 x1) (r3 : R32 x3) : ∃ v v' M1 M2, sX11_drawn 0 x1 x2 x3 M = some (v, M1) ∧ sX12_drawn 359 x1 x2 x3 M1 = some (v', M2) ∧ wI v = wI v' ∧ INV M2 := by
  rcases a_party h r1 with ⟨k, hk, rfl, hlt, e⟩ | ⟨hn, e⟩
  · obtain ⟨hc, hv⟩ := i_party h hlt
    have hg := PG_p k hk
    have hv1 := hv.1
    have ab := al_b hv
    obtain ⟨n, hn⟩ := Int.eq_ofNat_of_zero_le (show 0 ≤ pP M k 1 by omega)
    obtain ⟨nb, hnb⟩ := Int.eq_ofNat_of_zero_le (show 0 ≤ pP M k 2 by omega)
    obtain ⟨sw, hsw⟩ := Int.eq_ofNat_of_zero_le (show 0 ≤ pP M k 4 by omega)
    have hst := hv.2.2.2.2.1 0 (by omega)
    have hbel := (hc.2.2.2.1 0 (by omega)).2
    rw [show 19 + 2 * 0 = 19 from rfl] at hbel hst
    -- the class, till all children have gone
    have fr0 : ∀ a, a ≠ 130 → mU (mU (mU (mU M 130 0 x2) 130 1 (-1)) 130 2 0) 130 3 (pP M k 19) a = M a := fun a ha => by rw [mU_row _ _ ha, mU_row _ _ ha, mU_row _ _ ha, mU_row _ _ ha]
    obtain ⟨Mk, k1, k2, k3, k4, k5, k6⟩ := kidsA hc hv hg (by omega) hn hnb x2 n 0 (by omega) FU (by unfold FU; omega) (mU (mU (mU (mU M 130 0 x2) 130 1 (-1)) 130 2 0) 130 3 (pP M k 19)) (x2, 0, pP M k 19) fr0 (by rw [mU_ne _ _ (by omega), mU_ne _ _ (by omega), mU_ne _ _ (by omega), mU_eq]) (by rw [mU_ne _ _ (by omega), mU_ne _ _ (by omega), mU_eq]) (by rw [mU_ne _ _ (by omega), mU_eq]) (mU_eq _ _ _ _) ⟨by show 0 ≤ pP M k 19; omega, by show pP M k 19 ≤ 30; omega⟩
    obtain ⟨Mb, b1, b2, b3⟩ := bagsA Mk
    have hai := al_i (P := pP M k) (nb := nb) (n := n) n 0 (x2, 0, pP M k 19) (by omega)
    have fb : ∀ a, a ≠ 130 → a ≠ 128 → Mb a = M a := fun a ha hb => (b2 a hb).trans (k2 a ha)
    have hcb : PC Mb (9 + 34 * k) (pP M k) := PC_c (fun j hj => fb _ (by omega) (by omega)) hc
    have hpass : ∀ M', sX0_passes_b72 130 (9 + 34 * k) x2 127 FU (alP (pP M k)) 0 Mb = some M' → sX0_passes 130 (9 + 34 * k) x2 127 M = some M' := fun M' hM' => by
      unfold sX0_passes sX0_passes_b0
      simp only [ob_s]
      rw [hg.2.1, show mU (mU (mU M 130 0 x2) 130 1 (-1)) 130 2 0 (9 + 34 * k + 2) 0 = pP M k 19 by rw [mU_row _ _ (by omega), mU_row _ _ (by omega), mU_row _ _ (by omega), hbel]]
      rw [show (0 : Int) = ((0 : Nat) : Int) from rfl] at k1 ⊢
      rw [k1]
      unfold sX0_passes_b58
      rw [b1, ob_s, alA hcb hg, ob_s]
      exact hM'
    -- the reference, the same way
    have ref : ∀ M1 : MM, FC M M1 → (0 ≤ x3 ∧ x3 ≤ 2 ∨ (10 ≤ x3 ∧ x3 < 10 + n)) → ∃ N N0, FR M1 N0 ∧ HD N0 k ∧ pP N0 k = pP M k ∧ (∀ c, c < n → N0 384 c = spP (pP M k) c) ∧ (∀ a, a ≠ 359 → a ≠ 386 → N a = N0 a) ∧ (∀ j, j ≠ 58 → j < 64 ∨ 66 < j → N 359 j = N0 359 j) ∧ N 359 58 = (alN (pP M k) nb n 0 (x2, 0, pP M k 19)).1 ∧ N 359 64 = (alN (pP M k) nb n 0 (x2, 0, pP M k 19)).2.1 ∧ N 359 65 = (alN (pP M k) nb n 0 (x2, 0, pP M k 19)).2.2.1 ∧ N 359 66 = (alN (pP M k) nb n 0 (x2, 0, pP M k 19)).2.2.2 ∧ (∀ c, c < 8 → N 386 c = 0) ∧ sX12_drawn 359 (k : Int) x2 x3 M1 = sX12_drawn_b138 359 (k : Int) x2 x3 FU (alP (pP M k)) 0 N := by
      intro M1 f1 hx
      have h1 := INV_1 f1 h
      have ep1 : pP M1 k = pP M k := pP_c (f1 365 (by omega)) k
      have hlt1 : (k : Int) < M1 364 0 := by rw [f1 364 (by omega)]; exact hlt
      rcases lay_0 h1 (x := (k : Int)) (s := -1) r1 ⟨by omega, by omega⟩ with ⟨k', hk', hx', hlt', hs', N0, l1, l2, l3, l4⟩ | ⟨hq, -⟩
      · have : k' = k := by omega
        subst this
        rw [ep1] at l3 l4
        have hd0 := l3.1
        have hv0 : PV (pP N0 k') := by rw [l4]; exact hv
        have h26 := hd0.2.2.2.1
        rw [l4] at h26
        have hbl : ∀ N : MM, HD N k' → pP N k' = pP M k' → sX12_belly 359 N = some (pP M k' 19) := fun N hN eN => by
          unfold sX12_belly sX12_belly_b0
          rw [of_e hN ⟨by omega, by omega⟩, ob_s, eN, show (19 : Int).toNat = 19 from rfl]
        have F0 : F58 N0 (mU (mU N0 359 64 x2) 359 65 0) := F58_u (F58_u ⟨fun _ _ => rfl, fun _ _ _ => rfl⟩ (by omega)) (by omega)
        obtain ⟨Nk, q1, q2, q3, q4, q5, q6⟩ := kidsB hd0 hv0 (n := n) (by rw [l4]; exact hn) (nb := nb) (by rw [l4]; exact hnb) (k' : Int) x2 x3 n 0 (by omega) FU (by unfold FU; omega) (mU (mU (mU N0 359 64 x2) 359 65 0) 359 66 (pP M k' 19)) (x2, 0, pP M k' 19) (F58_u F0 (by omega)) (by rw [mU_ne _ _ (by omega), mU_ne _ _ (by omega), mU_eq]) (by rw [mU_ne _ _ (by omega), mU_ne _ _ (by omega), mU_ne _ _ (by omega)]; exact l3.2.1) (by rw [mU_ne _ _ (by omega), mU_eq]) (mU_eq _ _ _ _) ⟨by show 0 ≤ pP M k' 19; omega, by show pP M k' 19 ≤ 30; omega⟩
        rw [l4] at q3 q4 q5 q6
        have bg : ∃ N, sX12_drawn_b105 359 (k' : Int) x2 x3 Nk = sX12_drawn_b138 359 (k' : Int) x2 x3 FU (alP (pP M k')) 0 N ∧ (∀ a, a ≠ 386 → N a = Nk a) ∧ ∀ c, c < 8 → N 386 c = 0 := by
          unfold sX12_drawn_b105
          refine loopC (fun f y (t : MM) => sX12_drawn_b108 359 (k' : Int) x2 x3 f y t) 8 (fun j t => (∀ a, a ≠ 386 → t a = Nk a) ∧ ∀ c, c < j → t 386 c = 0) (fun o => ∃ N, o = sX12_drawn_b138 359 (k' : Int) x2 x3 FU (alP (pP M k')) 0 N ∧ (∀ a, a ≠ 386 → N a = Nk a) ∧ ∀ c, c < 8 → N 386 c = 0) ?_ ?_ FU 0 Nk (by omega) ⟨fun _ _ => rfl, fun c hc => by omega⟩ (by unfold FU; omega)
          · intro f t ht
            have hdt : HD t k' := HD_c (F58_HD q2 hd0) (ht.1 365 (by omega)) (fun j _ _ => by rw [ht.1 359 (by omega)])
            have ept : pP t k' = pP M k' := (pP_c (ht.1 365 (by omega)) k').trans ((F58_p q2 k').trans l4)
            show ∃ N, sX12_drawn_b108 359 (k' : Int) x2 x3 (f + 1) ((8 : Nat) : Int) t = _ ∧ _
            rw [sX12_drawn_b108, wI_of (by omega) (by omega), if_pos (by omega), alB hdt, ob_s, ept]
            exact ⟨t, rfl, ht⟩
          · intro f j t hj ht
            right
            refine ⟨mU t 386 j 0, ?_, fun a ha => by rw [mU_row _ _ ha]; exact ht.1 a ha, fun c hc => ?_⟩
            · show sX12_drawn_b108 359 (k' : Int) x2 x3 (f + 1) (j : Int) t = _
              rw [sX12_drawn_b108, wI_of (by omega) (by omega), if_neg (by omega), if_pos (by omega), ob_s, ob_s, g359_62, tN]
            · by_cases e : c = j
              · subst e; rw [mU_eq]
              · rw [mU_ne _ _ (by omega)]; exact ht.2 c (by omega)
        obtain ⟨N, w1, w2, w3⟩ := bg
        refine ⟨N, N0, l2, hd0, l4, fun c hc => l3.2.2 c (by rw [l4]; omega), fun a ha hb => (w2 a hb).trans (q2.1 a ha), fun j a b => by rw [w2 359 (by omega)]; exact q2.2 j a b, by rw [w2 359 (by omega)]; exact q3, by rw [w2 359 (by omega)]; exact q4, by rw [w2 359 (by omega)]; exact q5, by rw [w2 359 (by omega)]; exact q6, w3, ?_⟩
        have e42 : sX12_drawn_b42 359 (k' : Int) x2 x3 N0 = sX12_drawn_b138 359 (k' : Int) x2 x3 FU (alP (pP M k')) 0 N := by
          unfold sX12_drawn_b42
          rw [ob_s, ob_s, hbl _ (F58_HD F0 hd0) ((F58_p F0 k').trans l4), ob_s, ob_s, ← w1]
          exact q1
        unfold sX12_drawn sX12_drawn_b0
        rw [ob_s, l1, ob_s]
        show (if wI 1 = 0 then _ else _) = _
        rw [i10]
        dsimp only
        rw [e42]
        rcases hx with hx | hx
        · rw [in_1 r3.1 r3.2 (by omega) (by omega) hx.1 hx.2, i1z]
        · rw [in_f r3 ⟨by omega, by omega⟩ ⟨by omega, by omega⟩ (by omega), i00]
          simp only [h26, hn]
          rw [in_1 r3.1 r3.2 (by omega) (by omega) hx.1 (by omega), i1z]
      · exact absurd ⟨k, rfl, hlt1, Or.inl rfl⟩ hq
    -- together
    have run := fun (N : MM) (hdN : HD N k) (epN : pP N k = pP M k) (hy : ∀ c : Nat, c < n → N 384 c = spP (pP M k) c) (h58 : N 359 58 = (alN (pP M k) nb n 0 (x2, 0, pP M k 19)).1) (h64 : N 359 64 = (alN (pP M k) nb n 0 (x2, 0, pP M k 19)).2.1) (hb : ∀ c, c < 8 → N 386 c = 0) (hz : 0 < alP (pP M k)) => sweets (M0 := Mb) (N0 := N) hcb hv hg (by omega) hdN epN hn (s := (alN (pP M k) nb n 0 (x2, 0, pP M k 19)).1) ⟨by omega, by omega⟩ hy h58 hz (x1 := x2) (x2 := x2) (x3 := x3) hsw sw 0 (by omega) FU (by unfold FU; omega) Mb N (alN (pP M k) nb n 0 (x2, 0, pP M k 19)).2.1 (fun _ _ _ => rfl) (by rw [b2 130 (by omega)]; exact k3) rfl rfl (by rw [b2 130 (by omega)]; exact k4) (fun _ _ _ => rfl) (fun _ _ => rfl) h64 (fun c hc => by rw [b3 c hc, hb c hc])
    have both : ∃ M1, sX0_passes 130 (9 + 34 * k) x2 127 M = some M1 ∧ FC M M1 ∧ ((0 ≤ x3 ∧ x3 ≤ 2 ∨ (10 ≤ x3 ∧ x3 < 10 + n)) → ∃ N', FR M1 N' ∧ sX12_drawn 359 (k : Int) x2 x3 M1 = sX12_drawn_b182 359 x2 x2 x3 N' ∧ M1 130 1 = N' 359 58 ∧ M1 130 2 = N' 359 65 ∧ M1 130 3 = N' 359 66 ∧ ∀ c, c < 8 → M1 128 c = N' 386 c) := by
      by_cases hz : 0 < alP (pP M k)
      · obtain ⟨N1, e1, f1, hd1, ep1⟩ := hand_0 h hlt
        have hfun : ∀ a : Nat, a ≠ 386 → a ≠ 384 → (fun a j => if a = 386 then 0 else if a = 384 then spP (pP M k) j else N1 a j) a = N1 a := fun a ha hb => by funext j; show (if a = 386 then 0 else if a = 384 then spP (pP M k) j else N1 a j) = _; rw [if_neg ha, if_neg hb]
        obtain ⟨M', N'', r1, -, r3, r4, r5, r6, -⟩ := run (mU (mU (fun a j => if a = 386 then 0 else if a = 384 then spP (pP M k) j else N1 a j) 359 58 (alN (pP M k) nb n 0 (x2, 0, pP M k 19)).1) 359 64 (alN (pP M k) nb n 0 (x2, 0, pP M k 19)).2.1) (HD_u (HD_u (HD_c hd1 (hfun 365 (by omega) (by omega)) (fun j _ _ => congrFun (hfun 359 (by omega) (by omega)) j)) (by omega)) (by omega)) (by rw [pP_c (mU_row _ _ (by omega)), pP_c (mU_row _ _ (by omega)), pP_c (hfun 365 (by omega) (by omega))]; exact ep1) (fun c _ => by rw [mU_row _ _ (by omega), mU_row _ _ (by omega)]; rfl) (by rw [mU_ne _ _ (by omega), mU_eq]) (mU_eq _ _ _ _) (fun c _ => by rw [mU_row _ _ (by omega), mU_row _ _ (by omega)]; rfl) hz
        have fcM : FC M M' := fun a ha => (r3 a (by omega) (by omega)).trans (fb a (by omega) (by omega))
        refine ⟨M', hpass M' r1, fcM, fun hx => ?_⟩
        obtain ⟨N, N0, o1, o2, o3, o4, o5, o6, o7, o8, o9, o10, o11, o12⟩ := ref M' fcM hx
        obtain ⟨M2, N2, s1, s2, s3, s4, s5, s6, s7, s8, s9⟩ := run N (HD_c o2 (o5 365 (by omega) (by omega)) (fun j a b => o6 j (by omega) (by omega))) ((pP_c (o5 365 (by omega) (by omega)) k).trans o3) (fun c hc => by rw [o5 384 (by omega) (by omega)]; exact o4 c hc) o7 o8 o11 hz
        have e2 : M2 = M' := by
          have := s1.symm.trans r1
          exact Option.some.inj this
        subst e2
        refine ⟨N2, fun a ha hb => ?_, ?_, ?_, ?_, ?_, s9⟩
        · rw [s7 a ha (by omega), o5 a ha (by omega)]; exact o1 a ha hb
        · rw [o12]
          have hb : ∀ f j N, sX12_drawn_b138 359 (k : Int) x2 x3 f (alP (pP M k)) j N = sX12_drawn_b138 359 x2 x2 x3 f (alP (pP M k)) j N := by
            intro f
            induction f with
            | zero => intro j N; rfl
            | succ f ih =>
              intro j N
              rw [sX12_drawn_b138, sX12_drawn_b138]
              unfold sX12_drawn_b182
              simp only [ih]
          rw [hb]
          exact s2
        · rw [s4, s8 58 (by omega)]; exact o7.symm
        · rw [s5, b2 130 (by omega), s8 65 (by omega), o9]; exact k5
        · rw [s6, b2 130 (by omega), s8 66 (by omega), o10]; exact k6
      · have hz0 : alP (pP M k) = 0 := by omega
        have r1 : sX0_passes_b72 130 (9 + 34 * k) x2 127 FU (alP (pP M k)) 0 Mb = some Mb := by
          rw [show FU = 99999 + 1 from rfl, sX0_passes_b72, hz0, wI_0, if_pos (Int.le_refl 0)]
          by_cases q : wI (Mb (9 + 34 * k) 14) ≤ 0
          · rw [if_pos q]
          · rw [if_neg q]
        have fcM : FC M Mb := fun a ha => fb a (by omega) (by omega)
        refine ⟨Mb, hpass Mb r1, fcM, fun hx => ?_⟩
        obtain ⟨N, N0, o1, o2, o3, o4, o5, o6, o7, o8, o9, o10, o11, o12⟩ := ref Mb fcM hx
        refine ⟨N, fun a ha hb => by rw [o5 a ha (by omega)]; exact o1 a ha hb, ?_, ?_, ?_, ?_, fun c hc => by rw [b3 c hc, o11 c hc]⟩
        · rw [o12, show FU = 99999 + 1 from rfl, sX12_drawn_b138, of_e (HD_c o2 (o5 365 (by omega) (by omega)) (fun j a b => o6 j (by omega) (by omega))) ⟨by omega, by omega⟩, ob_s, hz0, wI_0, if_pos (Int.le_refl 0)]
          by_cases q : wI (pP N k (4 : Int).toNat) ≤ 0
          · rw [if_pos q]; rfl
          · rw [if_neg q]; rfl
        · rw [b2 130 (by omega), o7]; exact k3
        · rw [b2 130 (by omega), o9]; exact k5
        · rw [b2 130 (by omega), o10]; exact k6
    obtain ⟨M1, p1, p2, p3⟩ := both
    have h1 := INV_1 p2 h
    have h3 : M1 (9 + 34 * k) 3 = pP M k 1 := by rw [p2 _ (by omega)]; exact hc.1.2.1
    unfold sX11_drawn sX11_drawn_b0
    rw [e, ob_s, nMs_, g0_8, g0_7, p1, ob_s, g127_0, h3, hn, wI_of r3.1 r3.2, wI_of (x := 10 + (n : Int)) (by omega) (by omega)]
    unfold sX11_drawn_b62 sX0_answer sX0_answer_b0
    rw [g0_8, wI_of r3.1 r3.2]
    by_cases hx : 0 ≤ x3 ∧ x3 ≤ 2 ∨ (10 ≤ x3 ∧ x3 < 10 + n)
    · obtain ⟨N', q1, q2, q3, q4, q5, q6⟩ := p3 hx
      unfold sX12_drawn_b182 at q2
      rw [wI_of r3.1 r3.2, g359_62] at q2
      rcases hx with hx | hx
      · rw [if_pos (show x3 < 10 by omega)]
        have : x3 = 0 ∨ x3 = 1 ∨ x3 = 2 := by omega
        rcases this with rfl | rfl | rfl
        · rw [if_pos rfl] at q2 ⊢
          exact ⟨_, _, M1, N', rfl, q2, by rw [q3], INV_2 q1 h1⟩
        · rw [if_neg (by omega), if_pos rfl] at q2 ⊢
          exact ⟨_, _, M1, N', rfl, q2, by rw [q4], INV_2 q1 h1⟩
        · rw [if_neg (by omega), if_neg (by omega), if_pos rfl] at q2 ⊢
          exact ⟨_, _, M1, N', rfl, q2, by rw [q5], INV_2 q1 h1⟩
      · obtain ⟨c, rfl⟩ : ∃ c : Nat, x3 = 10 + (c : Int) := ⟨(x3 - 10).toNat, by omega⟩
        have hc8 : 0 ≤ 10 + (c : Int) - 10 ∧ 10 + (c : Int) - 10 < 8 := ⟨by omega, by omega⟩
        rw [if_neg (by omega), if_neg (by omega), if_neg (by omega), wI_of (x := 10 + (c : Int) - 10) (by omega) (by omega), if_pos hc8, show (10 + (c : Int) - 10).toNat = c by omega] at q2
        rw [if_neg (show ¬ 10 + (c : Int) < 10 by omega), if_neg (show ¬ 10 + (n : Int) ≤ 10 + (c : Int) by omega), wI_of (x := 10 + (c : Int) - 10) (by omega) (by omega), if_pos hc8, show (10 + (c : Int) - 10).toNat = c by omega]
        exact ⟨_, _, M1, N', rfl, q2, by rw [q6 c (by omega)], INV_2 q1 h1⟩
    · have ev : (if x3 < 10 then some ((if x3 = 0 then M1 130 1 else if x3 = 1 then M1 130 2 else if x3 = 2 then M1 130 3 else -2), M1) else if 10 + (n : Int) ≤ x3 then some ((if x3 = 0 then M1 130 1 else if x3 = 1 then M1 130 2 else if x3 = 2 then M1 130 3 else -2), M1) else if 0 ≤ wI (x3 - 10) ∧ wI (x3 - 10) < 8 then some (M1 128 (wI (x3 - 10)).toNat, M1) else none) = some (-2, M1) := by
        rw [if_neg (show ¬ x3 = 0 by omega), if_neg (show ¬ x3 = 1 by omega), if_neg (show ¬ x3 = 2 by omega)]
        by_cases q : x3 < 10
        · rw [if_pos q]
        · rw [if_neg q, if_pos (by omega)]
      rw [ev]
      rcases lay_0 h1 (x := (k : Int)) (s := -1) r1 ⟨by omega, by omega⟩ with ⟨k', hk', hx', hlt', hs', N0, l1, l2, l3, l4⟩ | ⟨hq, N0, l1, l2⟩
      · have : k' = k := by omega
        subst this
        have h26 := l3.1.2.2.2.1
        rw [l4, pP_c (p2 365 (by omega))] at h26
        refine ⟨-2, -2, M1, N0, rfl, ?_, rfl, INV_2 l2 h1⟩
        unfold sX12_drawn sX12_drawn_b0
        rw [ob_s, l1, ob_s]
        show (if wI 1 = 0 then _ else _) = _
        rw [i10]
        dsimp only
        simp only [h26, hn]
        rw [in_f r3 ⟨by omega, by omega⟩ ⟨by omega, by omega⟩ (by omega), i00, in_f r3 ⟨by omega, by omega⟩ ⟨by omega, by omega⟩ (by omega), i00]
      · refine ⟨-2, -2, M1, N0, rfl, ?_, rfl, INV_2 l2 h1⟩
        unfold sX12_drawn sX12_drawn_b0
        rw [ob_s, l1, ob_s]
        show (if wI 0 = 0 then _ else _) = _
        rw [i00]
  · refine ⟨-2, -2, M, ?_⟩
    rcases lay_0 h (s := -1) r1 ⟨by omega, by omega⟩ with ⟨k', hk', hx', hlt', hs', N0, l1, l2, l3, l4⟩ | ⟨hq, N0, l1, l2⟩
    · exact absurd ⟨by omega, by omega⟩ hn
    · refine ⟨N0, ?_, ?_, rfl, INV_2 l2 h⟩
      · unfold sX11_drawn sX11_drawn_b0
        rw [e, ob_s, nM0_]
      · unfold sX12_drawn sX12_drawn_b0
        rw [ob_s, l1, ob_s]
        show (if wI 0 = 0 then _ else _) = _
        rw [i00]
