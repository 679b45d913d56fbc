theorem e_span {M : MM} (h : INV M) {x1 x2 x3 : Int} (r1 : R32 x1) (r2 : R32 x2) (r3 : R32 x3) : ∃ v v' M1 M2, sX11_span 0 x1 x2 x3 M = some (v, M1) ∧ sX12_span 359 x1 x2 x3 M1 = some (v', M2) ∧ wI v = wI v' ∧ INV M2 := by
  unfold sX11_span sX11_span_b0
  have bad : ∀ Z : MM, INV Z → (¬ (0 ≤ x1 ∧ x1 < Z 364 0) ∨ ¬ (0 ≤ x2 ∧ x2 < Z 364 1)) → ∃ M2, sX12_span 359 x1 x2 x3 Z = some (-1, M2) ∧ INV M2 := by
    intro Z hZ hq
    have hb := has_b (M := mU Z 359 0 0) (x := x2) (by rw [m0_364]; exact (i_size hZ (s := 1) (by omega)).2) r2
    have hm0 := (i_size hZ (s := 0) (by omega)).2
    rw [m0_364] at hb
    unfold sX12_span sX12_span_b0
    rw [ob_s, hb, ob_s]
    have hI : INV (mU (mU Z 359 0 0) 359 29 x2) := INV_2 (FR_u (FR_0 Z) (by omega)) hZ
    by_cases z2 : 0 ≤ x2 ∧ x2 < Z 364 1
    · rw [if_pos z2]
      dsimp only
      rw [i10, hand_f (by rw [mU_ne _ _ (by omega), m0_364]; exact hm0) r1 (by rw [mU_ne _ _ (by omega), m0_364]; omega), ob_s]
      dsimp only
      rw [i00]
      exact ⟨_, rfl, hI⟩
    · rw [if_neg z2]
      dsimp only
      rw [i00]
      exact ⟨_, rfl, hI⟩
  rcases a_party h r1 with ⟨kp, hkp, rfl, hlp, e1⟩ | ⟨hn, e1⟩
  · rcases a_book h r2 with ⟨kb, hkb, rfl, hlb, e2⟩ | ⟨hn, e2⟩
    · obtain ⟨hpc, hpv⟩ := i_party h hlp
      obtain ⟨hbc, hbv⟩ := i_book h hlb
      obtain ⟨K, hK⟩ := Int.eq_ofNat_of_zero_le hbv.1
      have h40 := hbv.2.1
      have hbel := hpv.2.2.2.2.1 0 (by have := hpv.1.1; omega)
      obtain ⟨M1, a1, a2, a3⟩ := runsA hpc hpv (PG_p kp hkp) (by omega) hbc hbv (LG_bk kb hkb) (by omega) hK (n := K) (by omega)
      rw [e1, ob_s, nMs_, e2, ob_s, nMs_, g0_4, hbc.1, hK, a1, ob_s]
      have h1 := INV_1 (F115_FC a2) h
      have c4 : M1 364 = M 364 := a2 364 (by omega)
      have c5 : pP M1 kp = pP M kp := pP_c (a2 365 (by omega)) kp
      have c6 : bB M1 kb = bB M kb := by unfold bB; rw [a2 366 (by omega)]
      have hb := has_b (M := mU M1 359 0 0) (x := (kb : Int)) (by rw [m0_364]; exact (i_size h1 (s := 1) (by omega)).2) r2
      rw [m0_364, c4] at hb
      obtain ⟨N, e, f, hd, pe, be, n29⟩ := handB h1 (kp := kp) (kb := kb) (by rw [c4]; exact hlp) (by rw [c4]; exact hlb)
      rw [c5] at pe
      rw [c6] at be
      have hv' : PV (pP N kp) := by rw [pe]; exact hpv
      have hw' : BV (bB N kb) := by rw [be]; exact hbv
      have ebel : sX12_belly 359 N = some (pP M kp 19) := by
        unfold sX12_belly sX12_belly_b0
        rw [of_e hd ⟨by omega, by omega⟩, ob_s, pe]
        rfl
      have hB : 1 ≤ pP M kp 19 ∧ pP M kp 19 ≤ 30 := ⟨hbel.2.2.1, hbel.2.2.2⟩
      obtain ⟨N', e', w1, w2, w3, w4⟩ := playB hd hkb n29 hv' hw' (FPL_r N) (belly := pP M kp 19) hB (n := K) (by rw [be, hK]; exact Int.le_refl _)
      rw [pe, be] at w3 w4 e'
      rw [Nat.min_self] at a3 ⊢
      have rb := rn_b (P := pP M kp) (R := bB M kb) K 0 (s0P (pP M kp) (pP M kp 19))
      have it0 := rn_it (pP M kp) (bB M kb) (s0P (pP M kp) (pP M kp 19)) K 0
      rw [show itP (pP M kp) (bB M kb) (s0P (pP M kp) (pP M kp 19)) 0 = s0P (pP M kp) (pP M kp 19) from rfl] at it0
      have sp := fun (v : Int) (hv : 1 ≤ v ∧ v ≤ 30) => span_p hpv hbv hB hv hK (r := (rnP (pP M kp) (bB M kb) K 0 (s0P (pP M kp) (pP M kp 19))).1) rfl
      rw [it0.1] at a3
      have vA := it_v hpv hbv (s0_v hpv hB) (r := (rnP (pP M kp) (bB M kb) K 0 (s0P (pP M kp) (pP M kp 19))).1) (by omega) (fun i hi => it0.2.1 i (by omega) hi)
      clear it0 w2
      generalize (rnP (pP M kp) (bB M kb) K 0 (s0P (pP M kp) (pP M kp 19))).1 = r at *
      -- the answer
      have s1 := sp 1 (by omega)
      have vr := vA r (Nat.le_refl r)
      have cls : sX6_leastBelly 115 M1 = loP (itP (pP M kp) (bB M kb) (s0P (pP M kp) (pP M kp 19)) r) ∧ sX6_mostBelly 115 M1 = hiP (itP (pP M kp) (bB M kb) (s0P (pP M kp) (pP M kp 19)) r) := by
        unfold sX6_leastBelly sX6_leastBelly_b0 sX6_mostBelly sX6_mostBelly_b0 loP hiP
        rw [a3.1 4 (by omega), a3.2.1.1, a3.2.1.2]
        obtain ⟨-, -, -, -, q4, -, -, -, -, -, -, q12, -⟩ := vr
        have p8 := hpv.1
        rw [wI_of (x := (itP (pP M kp) (bB M kb) (s0P (pP M kp) (pP M kp 19)) r).1 4) (by omega) (by omega), wI_of (x := (itP (pP M kp) (bB M kb) (s0P (pP M kp) (pP M kp 19)) r).1 12) (by omega) (by omega)]
        exact ⟨rfl, rfl⟩
      dsimp only
      rw [cls.1, cls.2, wI_of (x := x3) r3.1 r3.2]
      obtain ⟨lo, hlo⟩ : ∃ lo, loP (itP (pP M kp) (bB M kb) (s0P (pP M kp) (pP M kp 19)) r) = lo := ⟨_, rfl⟩
      obtain ⟨hi, hhi⟩ : ∃ hi, hiP (itP (pP M kp) (bB M kb) (s0P (pP M kp) (pP M kp 19)) r) = hi := ⟨_, rfl⟩
      rw [hlo, hhi] at s1 ⊢
      simp only [hlo, hhi] at sp
      obtain ⟨N2, q1, q2⟩ : ∃ N2, sX12_span 359 (kp : Int) (kb : Int) x3 M1 = some (if x3 = 0 then lo else hi, N2) ∧ INV N2 := by
        unfold sX12_span sX12_span_b0
        rw [ob_s, hb, ob_s, if_pos (show 0 ≤ (kb : Int) ∧ (kb : Int) < M 364 1 by omega)]
        dsimp only
        rw [i10, e, ob_s]
        dsimp only
        rw [i10, deeds_e hkb n29, ob_s, be, hK, ebel, ob_s, e', ob_s]
        dsimp only
        rw [w4]
        have bu1 : -1 ≤ buP (pP M kp) (bB M kb) (s0P (pP M kp) (pP M kp 19)) r ∧ buP (pP M kp) (bB M kb) (s0P (pP M kp) (pP M kp 19)) r < (r : Int) := by unfold buP; split <;> omega
        -- the tries
        have tries : ∀ T : MM, (∀ a, a ≠ 376 → a ≠ 377 → T a = N' a) → (∀ j, j < 40 → T 376 j = N' 374 j ∧ T 377 j = N' 375 j) → ∃ N2, sX12_span_b93 359 (kp : Int) (kb : Int) x3 FU (r : Int) (buP (pP M kp) (bB M kb) (s0P (pP M kp) (pP M kp 19)) r) (-1) 1 T = some (if x3 = 0 then lo else hi, N2) ∧ INV N2 := by
          intro T hT hT2
          have fT : FR M1 T := FR_t f (fun a ha hb => by rw [hT a (by omega) (by omega)]; exact FPL_FR w1 a ha hb)
          have hdT : HD T kp := HD_c (FPL_HD w1 hd) (hT 365 (by omega) (by omega)) (fun j _ _ => by rw [hT 359 (by omega) (by omega)])
          have peT : pP T kp = pP M kp := by rw [pP_c (hT 365 (by omega) (by omega)), FPL_p w1, pe]
          have beT : bB T kb = bB M kb := by rw [← be, ← FPL_b w1]; unfold bB; rw [hT 366 (by omega) (by omega)]
          have n29T : T 359 29 = (kb : Int) := by rw [hT 359 (by omega) (by omega), w1.2 29 (by omega)]; exact n29
          have hvT : PV (pP T kp) := by rw [peT]; exact hpv
          have hwT : BV (bB T kb) := by rw [beT]; exact hbv
          have good := fun (v : Int) (hv : 1 ≤ v ∧ v ≤ 30) (Z : MM) (hZ : FPL T Z) => goB hdT hkb n29T hvT hwT hZ hv (r := r) (s0 := s0P (pP M kp) (pP M kp 19)) (by rw [beT]; omega) (fun i hi h2 => by
            rw [peT, beT] at *
            rw [(hT2 i (by omega)).1, (hT2 i (by omega)).2]
            exact w3 i hi h2) (fun i hi h2 => by
            rw [peT, beT]
            have t4 := vA (i + 1) (by omega)
            exact ⟨t4.2.2.2.2.2.2.2.1, t4.2.2.2.2.2.2.2.2.1⟩)
          rw [peT, beT] at good
          refine loopC (fun f y (s : Int × MM) => sX12_span_b93 359 (kp : Int) (kb : Int) x3 f (r : Int) (buP (pP M kp) (bB M kb) (s0P (pP M kp) (pP M kp 19)) r) s.1 y s.2) 31 (fun k s => 1 ≤ k ∧ FPL T s.2 ∧ s.1 = if x3 = 0 then (if lo < (k : Int) then lo else -1) else (if lo < (k : Int) then min ((k : Int) - 1) hi else -1)) (fun o => ∃ N2, o = some (if x3 = 0 then lo else hi, N2) ∧ INV N2) ?_ ?_ FU 1 (-1, T) (by omega) ⟨by omega, FPL_r T, ?_⟩ (by unfold FU; omega)
          · intro f s ⟨_, hs1, hs2⟩
            show ∃ N2, sX12_span_b93 359 (kp : Int) (kb : Int) x3 (f + 1) (r : Int) (buP (pP M kp) (bB M kb) (s0P (pP M kp) (pP M kp 19)) r) s.1 ((31 : Nat) : Int) s.2 = some (if x3 = 0 then lo else hi, N2) ∧ INV N2
            rw [sX12_span_b93, wI_of (x := ((31 : Nat) : Int)) (by omega) (by omega), if_pos (by omega), hs2, if_pos (show lo < ((31 : Nat) : Int) by omega), if_pos (show lo < ((31 : Nat) : Int) by omega), show min (((31 : Nat) : Int) - 1) hi = hi by omega]
            exact ⟨s.2, rfl, INV_2 (FR_t fT (FPL_FR hs1)) h1⟩
          · intro f k s hk ⟨hk1, hs1, hs2⟩
            right
            obtain ⟨g, Z, ge, gr, g1, g0⟩ := good (k : Int) (by omega) s.2 hs1
            have sk := (sp (k : Int) (by omega)).1
            show ∃ s' : Int × MM, sX12_span_b93 359 (kp : Int) (kb : Int) x3 (f + 1) (r : Int) (buP (pP M kp) (bB M kb) (s0P (pP M kp) (pP M kp 19)) r) s.1 (k : Int) s.2 = sX12_span_b93 359 (kp : Int) (kb : Int) x3 f (r : Int) (buP (pP M kp) (bB M kb) (s0P (pP M kp) (pP M kp 19)) r) s'.1 ((k : Int) + 1) s'.2 ∧ 1 ≤ k + 1 ∧ FPL T s'.2 ∧ s'.1 = if x3 = 0 then (if lo < ((k + 1 : Nat) : Int) then lo else -1) else (if lo < ((k + 1 : Nat) : Int) then min (((k + 1 : Nat) : Int) - 1) hi else -1)
            have hx6 : -1 ≤ s.1 ∧ s.1 ≤ 31 := by rw [hs2]; split <;> split <;> omega
            rw [sX12_span_b93, wI_of (x := (k : Int)) (by omega) (by omega), if_neg (show ¬ 30 < (k : Int) by omega), ge, ob_s]
            dsimp only
            unfold sX12_span_b123 sX12_span_b130 sX12_span_b132
            rw [wI_of (x := x3) r3.1 r3.2, wI_of (x := s.1) (by omega) (by omega)]
            by_cases gd : goP (pP M kp) (bB M kb) (s0P (pP M kp) (pP M kp 19)) (s0P (pP M kp) (k : Int)) r
            · have lh := sk.1 gd
              rw [g1 gd, i10]
              by_cases z : x3 = 0
              · rw [if_pos z] at hs2 ⊢
                by_cases y : s.1 = -1
                · rw [if_pos y]
                  refine ⟨((k : Int), Z), rfl, by omega, gr, ?_⟩
                  rw [if_pos z, if_pos (show lo < ((k + 1 : Nat) : Int) by omega)]
                  dsimp only
                  by_cases q : lo < (k : Int)
                  · rw [if_pos q] at hs2; omega
                  · omega
                · rw [if_neg y]
                  refine ⟨(s.1, Z), rfl, by omega, gr, ?_⟩
                  rw [if_pos z, if_pos (show lo < ((k + 1 : Nat) : Int) by omega)]
                  dsimp only
                  by_cases q : lo < (k : Int)
                  · rw [if_pos q] at hs2; omega
                  · rw [if_neg q] at hs2; exact absurd hs2 y
              · rw [if_neg z]
                refine ⟨((k : Int), Z), rfl, by omega, gr, ?_⟩
                rw [if_neg z, if_pos (show lo < ((k + 1 : Nat) : Int) by omega)]
                dsimp only
                omega
            · have lh : ¬ (lo ≤ (k : Int) ∧ (k : Int) ≤ hi) := fun q => gd (sk.2 q)
              rw [g0 gd, i00]
              refine ⟨(s.1, Z), rfl, by omega, gr, ?_⟩
              dsimp only
              rw [hs2]
              by_cases z : x3 = 0
              · rw [if_pos z, if_pos z]
                by_cases q : lo < (k : Int)
                · rw [if_pos q, if_pos (by omega)]
                · rw [if_neg q, if_neg (by omega)]
              · rw [if_neg z, if_neg z]
                by_cases q : lo < (k : Int)
                · rw [if_pos q, if_pos (by omega)]; omega
                · rw [if_neg q, if_neg (by omega)]
          · dsimp only
            rw [if_neg (show ¬ lo < ((1 : Nat) : Int) by omega), if_neg (show ¬ lo < ((1 : Nat) : Int) by omega)]
            split <;> rfl
        refine loopC (fun f y (t : MM) => sX12_span_b46 359 (kp : Int) (kb : Int) x3 f (r : Int) (buP (pP M kp) (bB M kb) (s0P (pP M kp) (pP M kp 19)) r) y t) 40 (fun k t => (∀ a, a ≠ 376 → a ≠ 377 → t a = N' a) ∧ ∀ j, j < k → t 376 j = N' 374 j ∧ t 377 j = N' 375 j) (fun o => ∃ N2, o = some (if x3 = 0 then lo else hi, N2) ∧ INV N2) ?_ ?_ FU 0 N' (by omega) ⟨fun _ _ _ => rfl, fun j hj => by omega⟩ (by unfold FU; omega)
        · intro f t ht
          show ∃ N2, sX12_span_b46 359 (kp : Int) (kb : Int) x3 (f + 1) (r : Int) (buP (pP M kp) (bB M kb) (s0P (pP M kp) (pP M kp 19)) r) ((40 : Nat) : Int) t = some (if x3 = 0 then lo else hi, N2) ∧ INV N2
          rw [sX12_span_b46, wI_of (x := ((40 : Nat) : Int)) (by omega) (by omega), if_pos (by omega)]
          exact tries t ht.1 ht.2
        · intro f k t hk ht
          right
          refine ⟨mU (mU t 376 k (N' 374 k)) 377 k (N' 375 k), ?_, fun a ha hb => ?_, fun j hj => ?_⟩
          · show sX12_span_b46 359 (kp : Int) (kb : Int) x3 (f + 1) (r : Int) (buP (pP M kp) (bB M kb) (s0P (pP M kp) (pP M kp 19)) r) (k : Int) t = _
            rw [sX12_span_b46, wI_of (x := (k : Int)) (by omega) (by omega), if_neg (show ¬ 40 ≤ (k : Int) by omega), if_pos (show 0 ≤ (k : Int) ∧ (k : Int) < 40 by omega), if_pos (show 0 ≤ (k : Int) ∧ (k : Int) < 40 by omega), ob_s, if_pos (show 0 ≤ (k : Int) ∧ (k : Int) < 40 by omega), if_pos (show 0 ≤ (k : Int) ∧ (k : Int) < 40 by omega), ob_s, ob_s, g359_42, g359_43, g359_44, g359_45, tN, mU_row _ _ (show (375 : Nat) ≠ 376 by omega), ht.1 374 (by omega) (by omega), ht.1 375 (by omega) (by omega)]
          · rw [mU_row _ _ (by omega), mU_row _ _ (by omega)]; exact ht.1 a ha hb
          · by_cases e : j = k
            · subst e
              rw [mU_eq, mU_row _ _ (show (376 : Nat) ≠ 377 by omega), mU_eq]
              exact ⟨rfl, rfl⟩
            · rw [mU_ne _ _ (show (377 : Nat) ≠ 377 ∨ j ≠ k by omega), mU_row _ _ (show (376 : Nat) ≠ 377 by omega), mU_ne _ _ (show (376 : Nat) ≠ 376 ∨ j ≠ k by omega), mU_row _ _ (show (377 : Nat) ≠ 376 by omega)]
              exact ht.2 j (by omega)
      by_cases z : x3 = 0
      · rw [if_pos z] at q1 ⊢
        exact ⟨_, _, M1, N2, rfl, q1, rfl, q2⟩
      · rw [if_neg z] at q1 ⊢
        exact ⟨_, _, M1, N2, rfl, q1, rfl, q2⟩
    · obtain ⟨M2, e3, hI⟩ := bad M h (Or.inr hn)
      rw [e1, ob_s, nMs_, e2, ob_s, nM0_]
      exact ⟨_, _, _, _, rfl, e3, rfl, hI⟩
  · obtain ⟨M2, e3, hI⟩ := bad M h (Or.inl hn)
    rw [e1, ob_s, nM0_]
    rcases a_book h r2 with ⟨kb, hkb, rfl, hlb, e2⟩ | ⟨hn, e2⟩
    · rw [e2, ob_s, nMs_]; exact ⟨_, _, _, _, rfl, e3, rfl, hI⟩
    · rw [e2, ob_s, nM0_]; exact ⟨_, _, _, _, rfl, e3, rfl, hI⟩
