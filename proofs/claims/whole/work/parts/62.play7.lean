/-- the states of a play, one by one -/
def itP (P R : Nat → Int) (s : PS) (j : Nat) : PS := fo (fun k s => deP P s (R (1 + 3 * k)) (R (2 + 3 * k)) (R (3 + 3 * k))) j s
theorem it_s (P R : Nat → Int) (s : PS) (j : Nat) : itP P R s (j + 1) = deP P (itP P R s j) (R (1 + 3 * j)) (R (2 + 3 * j)) (R (3 + 3 * j)) := rfl
theorem rn_it (P R : Nat → Int) (s : PS) : ∀ m k : Nat, (rnP P R m k (itP P R s k)).2 = itP P R s (rnP P R m k (itP P R s k)).1 ∧ (∀ i, k ≤ i → i < (rnP P R m k (itP P R s k)).1 → dePb P (itP P R s i) (R (1 + 3 * i)) (R (2 + 3 * i))) ∧ ((rnP P R m k (itP P R s k)).1 < k + m → ¬ dePb P (itP P R s (rnP P R m k (itP P R s k)).1) (R (1 + 3 * (rnP P R m k (itP P R s k)).1)) (R (2 + 3 * (rnP P R m k (itP P R s k)).1))) := by
  intro m
  induction m with
  | zero => intro k; exact ⟨rfl, fun i h1 h2 => absurd h2 (by show ¬ i < k; omega), fun h => absurd h (by show ¬ k < k + 0; omega)⟩
  | succ m ih =>
    intro k
    by_cases d : dePb P (itP P R s k) (R (1 + 3 * k)) (R (2 + 3 * k))
    · rw [rn_t d]
      obtain ⟨h1, h2, h3⟩ := ih (k + 1)
      rw [it_s] at h1 h2 h3
      refine ⟨h1, fun i hi hj => ?_, fun h => h3 (by omega)⟩
      by_cases e : i = k
      · subst e; exact d
      · exact h2 i (by omega) hj
    · rw [rn_f d]
      exact ⟨rfl, fun i h1 h2 => absurd h2 (by show ¬ i < k; omega), fun _ => d⟩
theorem begB {N0 N : MM} {kp : Nat} (hd : HD N0 kp) (hv : PV (pP N0 kp)) (hr : FPL N0 N) (belly : Int) : ∃ N', sX12_beginBook 359 belly N = some N' ∧ FPL N0 N' ∧ RRL (pP N0 kp) N' (s0P (pP N0 kp) belly) ∧ N' 359 35 = -1 := by
  have hv1 := hv.1
  obtain ⟨n, hn⟩ := Int.eq_ofNat_of_zero_le (show 0 ≤ pP N0 kp 0 by omega)
  unfold sX12_beginBook sX12_beginBook_b0
  rw [ob_s, ob_s, ob_s, ob_s, ob_s, ob_s, ob_s, ob_s, ob_s, ob_s]
  obtain ⟨B, eB⟩ : ∃ B, B = mU (mU (mU (mU (mU (mU (mU (mU (mU (mU N 359 30 (-1)) 359 31 0) 359 32 (-1)) 359 33 0) 359 34 (-1)) 359 35 (-1)) 359 36 0) 359 37 0) 359 38 (-1)) 359 39 (-1) := ⟨_, rfl⟩
  rw [← eB]
  have rB : FPL N0 B := by rw [eB]; exact FPL_u (FPL_u (FPL_u (FPL_u (FPL_u (FPL_u (FPL_u (FPL_u (FPL_u (FPL_u hr (by omega)) (by omega)) (by omega)) (by omega)) (by omega)) (by omega)) (by omega)) (by omega)) (by omega)) (by omega)
  have g : ∀ j, 30 ≤ j → j ≤ 39 → B 359 j = if j = 39 then -1 else if j = 38 then -1 else if j = 37 then 0 else if j = 36 then 0 else if j = 35 then -1 else if j = 34 then -1 else if j = 33 then 0 else if j = 32 then -1 else if j = 31 then 0 else -1 := fun j h1 h2 => by
    have : j = 30 ∨ j = 31 ∨ j = 32 ∨ j = 33 ∨ j = 34 ∨ j = 35 ∨ j = 36 ∨ j = 37 ∨ j = 38 ∨ j = 39 := by omega
    rw [eB]
    rcases this with rfl | rfl | rfl | rfl | rfl | rfl | rfl | rfl | rfl | rfl <;> rfl
  clear eB
  have second : ∀ T : MM, T 359 = B 359 → FPL N0 T → (∀ p : Nat, (p : Int) < pP N0 kp 0 → T 372 p = uF (fun p => pP N0 kp (19 + 2 * p)) 0 belly p) → ∃ N', sX12_beginBook_b93 359 belly FU 0 T = some N' ∧ FPL N0 N' ∧ RRL (pP N0 kp) N' (s0P (pP N0 kp) belly) ∧ N' 359 35 = -1 := by
    intro T t1 t2 t3
    refine loopC (fun f y (t : MM) => sX12_beginBook_b93 359 belly f y t) 32 (fun j t => (∀ a, a ≠ 373 → t a = T a) ∧ ∀ c, c < j → t 373 c = 0) (fun o => ∃ N', o = some N' ∧ FPL N0 N' ∧ RRL (pP N0 kp) N' (s0P (pP N0 kp) belly) ∧ N' 359 35 = -1) ?_ ?_ FU 0 T (by omega) ⟨fun _ _ => rfl, fun c hc => by omega⟩ (by unfold FU; omega)
    · intro f t ht
      show ∃ N', sX12_beginBook_b93 359 belly (f + 1) ((32 : Nat) : Int) t = some N' ∧ _
      rw [sX12_beginBook_b93, wI_of (by omega) (by omega), if_pos (by omega)]
      have h59 : t 359 = B 359 := (ht.1 359 (by omega)).trans t1
      refine ⟨t, rfl, ⟨fun a ha hb => by rw [ht.1 a (by omega)]; exact t2.1 a ha hb, fun j hj => by rw [ht.1 359 (by omega)]; exact t2.2 j hj⟩, ⟨⟨?_, ?_, ?_, ?_, ?_, ?_, ?_, ?_, ?_⟩, fun p hp => by rw [ht.1 372 (by omega)]; exact t3 p hp, fun j hj => ht.2 j hj⟩, by rw [h59, g 35 (by omega) (by omega)]; rfl⟩
      · rw [h59, g 30 (by omega) (by omega)]; rfl
      · rw [h59, g 31 (by omega) (by omega)]; rfl
      · rw [h59, g 32 (by omega) (by omega)]; rfl
      · rw [h59, g 33 (by omega) (by omega)]; rfl
      · rw [h59, g 34 (by omega) (by omega)]; rfl
      · rw [h59, g 36 (by omega) (by omega)]; rfl
      · rw [h59, g 37 (by omega) (by omega)]; rfl
      · rw [h59, g 38 (by omega) (by omega)]; rfl
      · rw [h59, g 39 (by omega) (by omega)]; rfl
    · intro f j t hj ht
      right
      refine ⟨mU t 373 j 0, ?_, fun a ha => by rw [mU_row _ _ ha]; exact ht.1 a ha, fun c hc => ?_⟩
      · show sX12_beginBook_b93 359 belly (f + 1) (j : Int) t = _
        rw [sX12_beginBook_b93, wI_of (by omega) (by omega), if_neg (by omega), if_pos (by omega), ob_s, ob_s, g359_41, tN]
      · by_cases e : c = j
        · subst e; rw [mU_eq]
        · rw [mU_ne _ _ (by omega)]; exact ht.2 c (by omega)
  refine loopC (fun f y (t : MM) => sX12_beginBook_b52 359 belly f y t) n (fun j t => (∀ a, a ≠ 372 → t a = B a) ∧ ∀ c, c < j → t 372 c = pP N0 kp (19 + 2 * c)) (fun o => ∃ N', o = some N' ∧ FPL N0 N' ∧ RRL (pP N0 kp) N' (s0P (pP N0 kp) belly) ∧ N' 359 35 = -1) ?_ ?_ FU 0 B (by omega) ⟨fun _ _ => rfl, fun c hc => by omega⟩ (by unfold FU; omega)
  · intro f t ht
    show ∃ N', sX12_beginBook_b52 359 belly (f + 1) (n : Int) t = some N' ∧ _
    have rt : FPL N0 t := ⟨fun a ha hb => by rw [ht.1 a (by omega)]; exact rB.1 a ha hb, fun j hj => by rw [ht.1 359 (by omega)]; exact rB.2 j hj⟩
    have h25 := (FPL_HD rt hd).2.2.1
    rw [sX12_beginBook_b52, h25, FPL_p rt, hn, if_pos (Int.le_refl _), ob_s, g359_40]
    refine second _ (by rw [mU_row _ _ (by omega)]; exact ht.1 359 (by omega)) (FPL_u rt (by omega)) (fun p hp => ?_)
    by_cases e : p = 0
    · subst e; rw [mU_eq, uF_e]
    · rw [mU_ne _ _ (by omega), uF_n _ _ e]; exact ht.2 p (by omega)
  · intro f j t hj ht
    right
    have rt : FPL N0 t := ⟨fun a ha hb => by rw [ht.1 a (by omega)]; exact rB.1 a ha hb, fun j hj => by rw [ht.1 359 (by omega)]; exact rB.2 j hj⟩
    have h25 := (FPL_HD rt hd).2.2.1
    refine ⟨mU t 372 j (pP N0 kp (19 + 2 * j)), ?_, fun a ha => by rw [mU_row _ _ ha]; exact ht.1 a ha, fun c hc => ?_⟩
    · show sX12_beginBook_b52 359 belly (f + 1) (j : Int) t = _
      rw [sX12_beginBook_b52, h25, FPL_p rt, hn, wI_of (x := (n : Int)) (by omega) (by omega), wI_of (x := (j : Int)) (by omega) (by omega), if_neg (show ¬ (n : Int) ≤ (j : Int) by omega), of_e (FPL_HD rt hd) ⟨by omega, by omega⟩, ob_s, if_pos (show 0 ≤ (j : Int) ∧ (j : Int) < 5 by omega), ob_s, ob_s, g359_40, tN, FPL_p rt, show (18 + 2 * (j : Int) + 1).toNat = 19 + 2 * j by omega]
    · by_cases e : c = j
      · subst e; rw [mU_eq]
      · rw [mU_ne _ _ (by omega)]; exact ht.2 c (by omega)
/-- the deed at which the belly burst, among the first r -/
def buP (P R : Nat → Int) (s : PS) (r : Nat) : Int := if (itP P R s r).1 4 = -1 then -1 else (r : Int) - 1
theorem playB {N0 N : MM} {kp kb : Nat} (hd : HD N0 kp) (hkb : kb < 2) (h29 : N0 359 29 = (kb : Int)) (hv : PV (pP N0 kp)) (hw : BV (bB N0 kb)) (hr : FPL N0 N) {belly : Int} (hb : 1 ≤ belly ∧ belly ≤ 30) {n : Nat} (hn : (n : Int) ≤ bB N0 kb 0) : ∃ N', sX12_play 359 (n : Int) belly N = some (((rnP (pP N0 kp) (bB N0 kb) n 0 (s0P (pP N0 kp) belly)).1 : Int), N') ∧ FPL N0 N' ∧ RRL (pP N0 kp) N' (rnP (pP N0 kp) (bB N0 kb) n 0 (s0P (pP N0 kp) belly)).2 ∧ (∀ i, i < (rnP (pP N0 kp) (bB N0 kb) n 0 (s0P (pP N0 kp) belly)).1 → bB N0 kb (1 + 3 * i) = 2 → N' 374 i = (itP (pP N0 kp) (bB N0 kb) (s0P (pP N0 kp) belly) (i + 1)).1 7 ∧ N' 375 i = (itP (pP N0 kp) (bB N0 kb) (s0P (pP N0 kp) belly) (i + 1)).1 8) ∧ N' 359 35 = buP (pP N0 kp) (bB N0 kb) (s0P (pP N0 kp) belly) (rnP (pP N0 kp) (bB N0 kb) n 0 (s0P (pP N0 kp) belly)).1 := by
  have hw40 := hw.2.1
  unfold sX12_play sX12_play_b0
  obtain ⟨B, e, b1, b2, b3⟩ := begB hd hv hr belly
  rw [e, ob_s]
  obtain ⟨s0, hs0⟩ : ∃ s0, s0 = s0P (pP N0 kp) belly := ⟨_, rfl⟩
  have v0 : SV (pP N0 kp) 0 s0 := by rw [hs0]; exact s0_v hv hb
  rw [← hs0] at b2 ⊢
  have main : ∀ m k : Nat, k + m = n → ∀ f, m < f → ∀ M : MM, FPL N0 M → RRL (pP N0 kp) M (itP (pP N0 kp) (bB N0 kb) s0 k) → SV (pP N0 kp) k (itP (pP N0 kp) (bB N0 kb) s0 k) → (∀ i, i < k → bB N0 kb (1 + 3 * i) = 2 → M 374 i = (itP (pP N0 kp) (bB N0 kb) s0 (i + 1)).1 7 ∧ M 375 i = (itP (pP N0 kp) (bB N0 kb) s0 (i + 1)).1 8) → M 359 35 = buP (pP N0 kp) (bB N0 kb) s0 k → ∃ N', sX12_play_b7 359 (n : Int) belly f (k : Int) M = some (((rnP (pP N0 kp) (bB N0 kb) m k (itP (pP N0 kp) (bB N0 kb) s0 k)).1 : Int), N') ∧ FPL N0 N' ∧ RRL (pP N0 kp) N' (rnP (pP N0 kp) (bB N0 kb) m k (itP (pP N0 kp) (bB N0 kb) s0 k)).2 ∧ (∀ i, i < (rnP (pP N0 kp) (bB N0 kb) m k (itP (pP N0 kp) (bB N0 kb) s0 k)).1 → bB N0 kb (1 + 3 * i) = 2 → N' 374 i = (itP (pP N0 kp) (bB N0 kb) s0 (i + 1)).1 7 ∧ N' 375 i = (itP (pP N0 kp) (bB N0 kb) s0 (i + 1)).1 8) ∧ N' 359 35 = buP (pP N0 kp) (bB N0 kb) s0 (rnP (pP N0 kp) (bB N0 kb) m k (itP (pP N0 kp) (bB N0 kb) s0 k)).1 := by
    intro m
    induction m with
    | zero =>
      intro k hk f hf M r1 r2 r3 r4 r5
      obtain ⟨f, rfl⟩ : ∃ g, f = g + 1 := ⟨f - 1, by omega⟩
      refine ⟨M, ?_, r1, r2, r4, r5⟩
      rw [sX12_play_b7, if_pos (by rw [show k = n by omega]; exact Int.le_refl _)]
      rfl
    | succ m ih =>
      intro k hk f hf M r1 r2 r3 r4 r5
      obtain ⟨f, rfl⟩ : ∃ g, f = g + 1 := ⟨f - 1, by omega⟩
      have bk := bv_k hw (k := k) (by omega)
      obtain ⟨c1, c2⟩ := doB hd hkb h29 hv r3 r1 r2 (j := k) (by omega) rfl rfl rfl bk.1 bk.2.1 bk.2.2.1 bk.2.2.2.1 bk.2.2.2.2
      rw [sX12_play_b7, wI_of (x := (n : Int)) (by omega) (by omega), wI_of (x := (k : Int)) (by omega) (by omega), if_neg (show ¬ (n : Int) ≤ (k : Int) by omega)]
      unfold sX12_play_b26
      by_cases d : dePb (pP N0 kp) (itP (pP N0 kp) (bB N0 kb) s0 k) (bB N0 kb (1 + 3 * k)) (bB N0 kb (2 + 3 * k))
      · obtain ⟨M', e, w1, w2, w3, w4, w5⟩ := c1 d
        rw [e, ob_s]
        show ∃ N', (if wI 1 = 0 then _ else _) = _ ∧ _
        rw [i10, ob_s, rn_t d]
        refine ih (k + 1) (by omega) f (by omega) M' w1 w2 (de_v hv r3 bk.1 bk.2.1 bk.2.2.2.1 d) (fun i hi h2 => ?_) ?_
        · by_cases e : i = k
          · subst e; exact w4 h2
          · rw [(w3 i e).1, (w3 i e).2]; exact r4 i (by omega) h2
        · rw [w5, r5]
          unfold buP
          rw [if_pos d.1, it_s]
          by_cases q : (deP (pP N0 kp) (itP (pP N0 kp) (bB N0 kb) s0 k) (bB N0 kb (1 + 3 * k)) (bB N0 kb (2 + 3 * k)) (bB N0 kb (3 + 3 * k))).1 4 = -1
          · rw [if_pos q, if_pos q]
          · rw [if_neg q, if_neg q]; omega
      · obtain ⟨M', e, w1, w2, w3, w4⟩ := c2 d
        rw [e, ob_s]
        show ∃ N', (if wI 0 = 0 then _ else _) = _ ∧ _
        rw [i00, rn_f d]
        refine ⟨M', rfl, w1, w2, fun i hi h2 => ?_, ?_⟩
        · rw [(w3 i).1, (w3 i).2]; exact r4 i hi h2
        · rw [w4]; exact r5
  refine main n 0 (by omega) FU (by unfold FU; omega) B b1 b2 v0 (fun i hi => by omega) ?_
  rw [b3, hs0]
  rfl
