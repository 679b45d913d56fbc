theorem e_fair {M : MM} (h : INV M) {x1 : Int} (r1 : R32 x1) : ∃ v v' M1 M2, sX11_fair 0 x1 M = some (v, M1) ∧ sX12_fair 359 x1 M1 = some (v', M2) ∧ wI v = wI v' ∧ INV M2 := by
  unfold sX11_fair sX11_fair_b0
  rcases a_party h r1 with ⟨kp, hkp, rfl, hlp, e1⟩ | ⟨hn, e1⟩
  · obtain ⟨hpc, hpv⟩ := i_party h hlp
    obtain ⟨n, b, hn, hb, hm, h40, hT⟩ := tpp_e hpv
    have hg := PG_p kp hkp
    have hv1 := hpv.1
    have hbel := hpv.2.2.2.2.1 0 (by omega)
    rw [show 19 + 2 * 0 = 19 from rfl] at hbel
    obtain ⟨B0, hB0⟩ := Int.eq_ofNat_of_zero_le (show 0 ≤ pP M kp 19 by omega)
    rw [hB0] at hbel
    have hb0 : 1 ≤ B0 ∧ B0 ≤ 30 := by omega
    have rp : ¬ (n * b ≤ 15 ∧ n ≤ 5) → ∃ M2, sX12_fair 359 (kp : Int) M = some (-1, M2) ∧ INV M2 := by
      intro nq
      obtain ⟨N, e, f, hd, pe⟩ := hand_0 h (k := kp) hlp
      have n26 : N 359 26 = (n : Int) := by rw [hd.2.2.2.1, pe]; exact hn
      unfold sX12_fair sX12_fair_b0
      rw [ob_s, e, ob_s]
      dsimp only
      rw [i10]
      simp only [n26]
      rw [wI_of (x := (n : Int)) (by omega) (by omega), canB_e hd pe hm h40]
      by_cases q5 : n ≤ 5
      · rw [if_neg (show ¬ 5 < (n : Int) by omega), if_neg (fun q => nq ⟨q, q5⟩), i00]
        exact ⟨N, rfl, INV_2 f h⟩
      · rw [if_pos (show 5 < (n : Int) by omega)]
        exact ⟨N, rfl, INV_2 f h⟩
    rw [e1, ob_s, nMs_, canA_e hpc hm h40, g0_6, hpc.1.2.1, hn, wI_of (x := (n : Int)) (by omega) (by omega)]
    by_cases q1 : n * b ≤ 15
    · rw [if_pos q1, i10]
      by_cases q5 : n ≤ 5
      · rw [if_pos (show (n : Int) ≤ 5 by omega)]
        have hT := hT q1
        obtain ⟨t1, t2, t3, t4, t5, t6, t7, t8, t9⟩ := id hT
        have l120 := pl_n n (by omega)
        have l1 := pl_0 n (by omega) t3
        have pl := p10_l (n * b) (by omega)
        have pp := p10_p (n * b)
        have gb : ∀ k, k < (plP n).length → (-1000000000000000 ≤ gpP (pP M kp) b n (B0 * 1) (olP n k) ∧ gpP (pP M kp) b n (B0 * 1) (olP n k) ≤ 1000000000000000) ∧ 0 ≤ odC n k ∧ odC n k < 32768 := fun k hk => by
          have ho := pl_ord (n := n) (by omega) hk
          refine ⟨?_, pl_r n (by omega) k (by omega) hk⟩
          have fb := fun c (hc : c < n) => chW_A hT ho (B := B0 * 1) (by omega) hc
          have mx1 := (mx_g (f := chW (pP M kp) b n (B0 * 1) (olP n k) n) n).1
          have mx2 := mx_l (f := chW (pP M kp) b n (B0 * 1) (olP n k) n) (B := 10 ^ (n * b)) (by omega) n (fun j hj => (fb j hj).2)
          have mn1 := (mn_g (f := chW (pP M kp) b n (B0 * 1) (olP n k) n) (A := 10 ^ (n * b)) n).1
          have mn2 := mn_l (f := chW (pP M kp) b n (B0 * 1) (olP n k) n) (A := 10 ^ (n * b)) (B := 0) (by omega) n (fun j hj => (fb j hj).1)
          unfold gpP
          omega
        obtain ⟨M1, a1, a2⟩ := fairA hpc hpv hg (by omega) hT q5 hB0 hb0 gb
        have bb := bs_b (gp := fun k => gpP (pP M kp) b n (B0 * 1) (olP n k)) (od := odC n) gb
        have h1 := INV_1 a2 h
        have c4 : M1 364 = M 364 := a2 364 (by omega)
        have c5 : pP M1 kp = pP M kp := pP_c (a2 365 (by omega)) kp
        rw [a1, ob_s]
        obtain ⟨N2, w1, w2⟩ : ∃ N2, sX12_fair 359 (kp : Int) M1 = some ((bsP (fun k => gpP (pP M kp) b n (B0 * 1) (olP n k)) (odC n) ((plP n).length - 1)).1, N2) ∧ INV N2 := by
          obtain ⟨N, e, f, hd, pe⟩ := hand_0 h1 (k := kp) (by rw [c4]; exact hlp)
          rw [c5] at pe
          have n26 : N 359 26 = (n : Int) := by rw [hd.2.2.2.1, pe]; exact hn
          obtain ⟨N1, p1, p2, p3⟩ := plaB (N := N)
          have fN1 : FR M1 N1 := FR_t f (fun a ha hb => p2 a (by omega))
          have hd1 : HD N1 kp := HD_c hd (p2 365 (by omega)) (fun j _ _ => by rw [p2 359 (by omega)])
          have pe1 : pP N1 kp = pP M kp := (pP_c (p2 365 (by omega)) kp).trans pe
          have row1 : RwR 382 n (olP n 0) N1 := ⟨fun i hi => by rw [p3 i (by omega), eqN_e l1.2 i hi]; rfl, fun i hi => by rw [eqN_e l1.2 i hi]; show i < 8; omega⟩
          unfold sX12_fair sX12_fair_b0
          rw [ob_s, e, ob_s]
          dsimp only
          rw [i10]
          simp only [n26]
          rw [wI_of (x := (n : Int)) (by omega) (by omega), canB_e hd pe hm h40, if_neg (show ¬ 5 < (n : Int) by omega), if_pos q1, i10, p1, ob_s]
          -- what has been found before order k
          obtain ⟨pb, hpb⟩ : ∃ pb : Nat → Int × Int, ∀ k, pb k = if k = 0 then (-1, 0) else bsP (fun k => gpP (pP M kp) b n (B0 * 1) (olP n k)) (odC n) (k - 1) := ⟨_, fun _ => rfl⟩
          have main : ∀ m k : Nat, k + 1 + m = (plP n).length → ∀ g, m + 1 < g → ∀ S : MM, FR M1 S → HD S kp → pP S kp = pP M kp → RwR 382 n (olP n k) S → ∃ N2, sX12_fair_b41 359 (kp : Int) g (pb k).1 (pb k).2 1 S = some ((bsP (fun k => gpP (pP M kp) b n (B0 * 1) (olP n k)) (odC n) ((plP n).length - 1)).1, N2) ∧ INV N2 := by
            -- one order
            have one : ∀ k, k < (plP n).length → ∀ g, ∀ S : MM, FR M1 S → HD S kp → pP S kp = pP M kp → RwR 382 n (olP n k) S → ∃ Z, sX12_fair_b41 359 (kp : Int) (g + 1) (pb k).1 (pb k).2 1 S = ((sX12_nextOrder 359 Z).bind fun q_1 => sX12_fair_b41 359 (kp : Int) g (pb (k + 1)).1 (pb (k + 1)).2 q_1.1 q_1.2) ∧ FR M1 Z ∧ HD Z kp ∧ pP Z kp = pP M kp ∧ RwR 382 n (olP n k) Z := by
              intro k hk g S s1 s2 s3 s4
              have ho := pl_ord (n := n) (by omega) hk
              obtain ⟨Z, z1, z2, -, -, -, -, z7⟩ := findB s2 s3 hpv hT ho s4.1 hB0 hb0 (lay := 1) ⟨by omega, by omega⟩
              have z1' : sX12_findChances 359 1 S = some Z := z1
              have hdZ := FQ_HD z2 s2
              have peZ := (FQ_p z2 kp).trans s3
              have Z26 : Z 359 26 = (n : Int) := by rw [hdZ.2.2.2.1, peZ]; exact hn
              have rZ : RwR 382 n (olP n k) Z := ⟨fun i hi => by rw [z2.1 382 (by omega) (by omega) (by omega) (by omega)]; exact s4.1 i hi, s4.2⟩
              refine ⟨Z, ?_, FR_t s1 (FQ_FR z2), hdZ, peZ, rZ⟩
              have un := unevB hdZ peZ hT ho (B := B0 * 1) (by omega) z7
              have on := ordD q5 hk Z26 rZ
              have b2 := gb k hk
              have ps : pb (k + 1) = bsP (fun k => gpP (pP M kp) b n (B0 * 1) (olP n k)) (odC n) k := by rw [hpb, if_neg (by omega), Nat.add_sub_cancel]
              rw [ps, hpb k, sX12_fair_b41, wI_1, if_neg (show ¬ (1 : Int) = 0 by omega), z1', ob_s]
              unfold sX12_fair_b65 sX12_fair_b75
              rw [on, ob_s, un, ob_s]
              by_cases k0 : k = 0
              · subst k0
                rw [if_pos rfl]
                dsimp only
                rw [wI_of (x := -1) (by omega) (by omega), if_pos rfl]
                rfl
              · obtain ⟨j, rfl⟩ : ∃ j, k = j + 1 := ⟨k - 1, by omega⟩
                have b1 := bb j (by omega)
                have bs1 : bsP (fun k => gpP (pP M kp) b n (B0 * 1) (olP n k)) (odC n) (j + 1) = if (bsP (fun k => gpP (pP M kp) b n (B0 * 1) (olP n k)) (odC n) j).2 ≤ gpP (pP M kp) b n (B0 * 1) (olP n (j + 1)) then bsP (fun k => gpP (pP M kp) b n (B0 * 1) (olP n k)) (odC n) j else (odC n (j + 1), gpP (pP M kp) b n (B0 * 1) (olP n (j + 1))) := rfl
                rw [if_neg k0, Nat.add_sub_cancel, bs1]
                generalize bsP (fun k => gpP (pP M kp) b n (B0 * 1) (olP n k)) (odC n) j = s at *
                generalize gpP (pP M kp) b n (B0 * 1) (olP n (j + 1)) = g1 at *
                rw [wI_of (x := s.1) (by omega) (by omega), if_neg (show ¬ s.1 = -1 by omega), ob_s, wJ_of (x := s.2) (by omega) (by omega), wJ_of (x := g1) (by omega) (by omega)]
                by_cases y : s.2 ≤ g1
                · rw [if_pos y, if_pos y]
                · rw [if_neg y, if_neg y]
            intro m
            induction m with
            | zero =>
              intro k hk g hg2 S s1 s2 s3 s4
              obtain ⟨g, rfl⟩ : ∃ g', g = g' + 2 := ⟨g - 2, by omega⟩
              obtain ⟨Z, z1, z2, z3, z4, z5⟩ := one k (by omega) (g + 1) S s1 s2 s3 s4
              have Z26 : Z 359 26 = (n : Int) := by rw [z3.2.2.2.1, z4]; exact hn
              rcases nxt ⟨t3, q5⟩ (k := k) (by omega) (nxB ⟨t3, t4⟩ Z26 z5) with ⟨_, e⟩ | ⟨e, _⟩
              · rw [z1, e, ob_s]
                dsimp only
                rw [sX12_fair_b41, wI_0, if_pos rfl, hpb (k + 1), if_neg (show ¬ k + 1 = 0 by omega), Nat.add_sub_cancel, show (plP n).length - 1 = k by omega]
                exact ⟨Z, rfl, INV_2 z2 h1⟩
              · omega
            | succ m ih =>
              intro k hk g hg2 S s1 s2 s3 s4
              obtain ⟨g, rfl⟩ : ∃ g', g = g' + 1 := ⟨g - 1, by omega⟩
              obtain ⟨Z, z1, z2, z3, z4, z5⟩ := one k (by omega) g S s1 s2 s3 s4
              have Z26 : Z 359 26 = (n : Int) := by rw [z3.2.2.2.1, z4]; exact hn
              rcases nxt ⟨t3, q5⟩ (k := k) (by omega) (nxB ⟨t3, t4⟩ Z26 z5) with ⟨e, _⟩ | ⟨e, S', e1, e2, e3⟩
              · omega
              · rw [z1, e1, ob_s]
                exact ih (k + 1) (by omega) g (by omega) S' (FR_t z2 (fun a ha hb => e3 a (by omega))) (HD_c z3 (e3 365 (by omega)) (fun j _ _ => by rw [e3 359 (by omega)])) ((pP_c (e3 365 (by omega)) kp).trans z4) e2
          have q := main ((plP n).length - 1) 0 (by omega) FU (by unfold FU; omega) N1 fN1 hd1 pe1 row1
          rw [hpb 0, if_pos rfl] at q
          exact q
        exact ⟨_, _, M1, N2, rfl, w1, rfl, w2⟩
      · obtain ⟨M2, e3, hI⟩ := rp (fun q => q5 q.2)
        rw [if_neg (show ¬ (n : Int) ≤ 5 by omega)]
        exact ⟨_, _, _, _, rfl, e3, rfl, hI⟩
    · obtain ⟨M2, e3, hI⟩ := rp (fun q => q1 q.1)
      rw [if_neg q1, i00]
      exact ⟨_, _, _, _, rfl, e3, rfl, hI⟩
  · rw [e1, ob_s, nM0_]
    refine ⟨-1, -1, M, mU M 359 0 0, rfl, ?_, rfl, INV_2 (FR_0 M) h⟩
    unfold sX12_fair sX12_fair_b0
    rw [ob_s, hand_0f h r1 hn, ob_s]
    dsimp only
    rw [i00]
