/-- the reference's play is in this state -/
def RRL (P : Nat → Int) (N : MM) (s : PS) : Prop := (N 359 30 = s.1 0 ∧ N 359 31 = s.1 1 ∧ N 359 32 = s.1 2 ∧ N 359 33 = s.1 3 ∧ N 359 34 = s.1 4 ∧ N 359 36 = s.1 5 ∧ N 359 37 = s.1 6 ∧ N 359 38 = s.1 7 ∧ N 359 39 = s.1 8) ∧ (∀ p : Nat, (p : Int) < P 0 → N 372 p = s.2.1 p) ∧ ∀ j, j < 32 → N 373 j = s.2.2 j
def FPL (N N' : MM) : Prop := (∀ a, a ≠ 359 → a < 372 ∨ 375 < a → N' a = N a) ∧ ∀ j, j < 30 ∨ 39 < j → N' 359 j = N 359 j
theorem FPL_r (N : MM) : FPL N N := ⟨fun _ _ _ => rfl, fun _ _ => rfl⟩
theorem FPL_t {N N' N'' : MM} (h : FPL N N') (h' : FPL N' N'') : FPL N N'' := ⟨fun a ha hb => (h'.1 a ha hb).trans (h.1 a ha hb), fun j hj => (h'.2 j hj).trans (h.2 j hj)⟩
theorem FPL_u {N N' : MM} {b k : Nat} {x : Int} (h : FPL N N') (hb : (372 ≤ b ∧ b ≤ 375) ∨ (b = 359 ∧ 30 ≤ k ∧ k ≤ 39)) : FPL N (mU N' b k x) := ⟨fun a ha hc => by rw [mU_row _ _ (show a ≠ b by omega)]; exact h.1 a ha hc, fun j hj => by rw [mU_ne _ _ (by omega)]; exact h.2 j hj⟩
theorem FPL_HD {N N' : MM} {k : Nat} (h : FPL N N') (hd : HD N k) : HD N' k := HD_c hd (h.1 365 (by omega) (by omega)) (fun j a b => h.2 j (by omega))
theorem FPL_p {N N' : MM} (h : FPL N N') (k : Nat) : pP N' k = pP N k := pP_c (h.1 365 (by omega) (by omega)) k
theorem FPL_b {N N' : MM} (h : FPL N N') (k : Nat) : bB N' k = bB N k := by unfold bB; rw [h.1 366 (by omega) (by omega)]
theorem FPL_FR {N N' : MM} (h : FPL N N') : FR N N' := fun a ha hb => h.1 a ha (by omega)
theorem size_e {x : Int} (r : R32 x) : sX12_size x = if 0 ≤ x then x else -x := by unfold sX12_size sX12_size_b0; rw [wI_of r.1 r.2]
theorem firstB {N : MM} {kp : Nat} (hd : HD N kp) (hv : PV (pP N kp)) {f L : Nat → Int} (h2 : N 359 32 = f 2) (h3 : N 359 33 = f 3) (hL : ∀ i : Nat, (i : Int) < pP N kp 0 → N 372 i = L i) (f2 : 0 ≤ f 2 ∧ f 2 ≤ 7) (f3 : 0 ≤ f 3 ∧ f 3 ≤ 9) (bL : ∀ i : Nat, (i : Int) < pP N kp 0 → 0 ≤ L i ∧ L i ≤ 30) {w h off : Int} (hw : 0 ≤ w ∧ w ≤ 7) (hh : 0 ≤ h ∧ h ≤ 9) (ho : off = 0 ∨ off = 1) : sX12_struck 359 w h off N = some (suN (pP N kp) f L w h off (pP N kp 0).toNat) := by
  have hv1 := hv.1
  have h25 := hd.2.2.1
  obtain ⟨n, hn⟩ := Int.eq_ofNat_of_zero_le (show 0 ≤ pP N kp 0 by omega)
  unfold sX12_struck sX12_struck_b0
  rw [hn, tN]
  refine loopC (fun g y (_ : Unit) => sX12_struck_b3 359 w h off N g y) n (fun i _ => suN (pP N kp) f L w h off i = -1) (fun o => o = some (suN (pP N kp) f L w h off n)) ?_ ?_ FU 0 () (by omega) rfl (by unfold FU; omega)
  · intro g _ hi
    show sX12_struck_b3 359 w h off N (g + 1) (n : Int) = _
    rw [sX12_struck_b3, h25, hn, if_pos (Int.le_refl _), hi]
  · intro g i _ hi hsu
    have hpt := hv.2.2.2.2.1 i (by omega)
    have bi := bL i (by omega)
    have fe := fa_e f2 hw
    have sy := apart_sym hw f2
    have z5 : 0 ≤ (i : Int) ∧ (i : Int) < 5 := ⟨by omega, by omega⟩
    have e : suN (pP N kp) f L w h off (i + 1) = suS (pP N kp) f L w h off i (suN (pP N kp) f L w h off i) := fo_s _ _ _
    rw [hsu] at e
    have keep : ∀ m, suN (pP N kp) f L w h off (i + 1) = (i : Int) → suN (pP N kp) f L w h off (i + 1 + m) = (i : Int) := by
      intro m hm
      induction m with
      | zero => exact hm
      | succ m ih =>
        have e2 : suN (pP N kp) f L w h off (i + 1 + m + 1) = suS (pP N kp) f L w h off (i + 1 + m) (suN (pP N kp) f L w h off (i + 1 + m)) := fo_s _ _ _
        show suN (pP N kp) f L w h off (i + 1 + m + 1) = _
        rw [e2, ih]
        exact if_neg (by omega)
    have ofe : ofP (pP N kp) f L w h i = (if 0 ≤ pP N kp (18 + 2 * i) + f 3 - h then pP N kp (18 + 2 * i) + f 3 - h else -(pP N kp (18 + 2 * i) + f 3 - h)) + sX12_apart (f 2) w := rfl
    have habs : 0 ≤ (if 0 ≤ pP N kp (18 + 2 * i) + f 3 - h then pP N kp (18 + 2 * i) + f 3 - h else -(pP N kp (18 + 2 * i) + f 3 - h)) ∧ (if 0 ≤ pP N kp (18 + 2 * i) + f 3 - h then pP N kp (18 + 2 * i) + f 3 - h else -(pP N kp (18 + 2 * i) + f 3 - h)) ≤ 18 := by split <;> omega
    show sX12_struck_b3 359 w h off N (g + 1) (i : Int) = _ ∨ ∃ s' : Unit, sX12_struck_b3 359 w h off N (g + 1) (i : Int) = sX12_struck_b3 359 w h off N g ((i : Int) + 1) ∧ _
    rw [sX12_struck_b3, h25, hn, wI_of (x := (n : Int)) (by omega) (by omega), wI_of (x := (i : Int)) (by omega) (by omega), if_neg (show ¬ (n : Int) ≤ (i : Int) by omega), of_e hd ⟨by omega, by omega⟩, ob_s, ob_s, if_pos z5, g359_40, tN, hL i (by omega), h2, h3, show (18 + 2 * (i : Int)).toNat = 18 + 2 * i by omega, size_e ⟨by omega, by omega⟩, sy]
    generalize (if 0 ≤ pP N kp (18 + 2 * i) + f 3 - h then pP N kp (18 + 2 * i) + f 3 - h else -(pP N kp (18 + 2 * i) + f 3 - h)) = A at *
    rw [wI_of (x := L i) (by omega) (by omega), wI_of (x := A + sX12_apart (f 2) w) (by omega) (by omega), wI_of (x := off) (by omega) (by omega)]
    unfold sX12_struck_b63
    simp only [ob_s]
    unfold suS at e
    by_cases q : (-1 : Int) = -1 ∧ 0 < L i ∧ ofP (pP N kp) f L w h i = off
    · rw [if_pos q] at e
      left
      have := keep (n - (i + 1)) e
      rw [show i + 1 + (n - (i + 1)) = n by omega] at this
      rw [this, if_neg (by omega), if_pos (by rw [← ofe]; exact q.2.2)]
    · rw [if_neg q] at e
      right
      refine ⟨(), ?_, e⟩
      by_cases q2 : L i ≤ 0
      · rw [if_pos q2]
      · rw [if_neg q2, if_neg (fun z => q ⟨rfl, by omega, by rw [ofe]; exact z⟩)]
theorem strB {N0 N : MM} {kp : Nat} (hd : HD N0 kp) (hv : PV (pP N0 kp)) {K : Nat} {s : PS} (hs : SV (pP N0 kp) K s) (hr : FPL N0 N) (e30 : N 359 30 = s.1 0) (e31 : N 359 31 = s.1 1 + 1) (e32 : N 359 32 = s.1 2) (e33 : N 359 33 = s.1 3) (e34 : N 359 34 = s.1 4) (e36 : N 359 36 = s.1 5) (e37 : N 359 37 = s.1 6) {l pt : Int} (e38 : N 359 38 = l) (e39 : N 359 39 = pt) (hl : (l = 0 ∧ pt = -1) ∨ ((l = 1 ∨ l = 2) ∧ 0 ≤ pt ∧ pt < pP N0 kp 0 ∧ 0 < s.2.1 pt.toNat)) (hL : ∀ i : Nat, (i : Int) < pP N0 kp 0 → N 372 i = s.2.1 i) (hD : ∀ j, j < 32 → N 373 j = s.2.2 j) (hwho : 0 ≤ s.1 0) (hbs : s.1 4 = -1) {j : Nat} (hj : j < 40) (w h : Int) : ∃ N', sX12_strikes_b114 359 w h (j : Int) (pP N0 kp (29 + 13 * (s.1 0).toNat)) N = some (1, N') ∧ FPL N0 N' ∧ RRL (pP N0 kp) N' (stQ (pP N0 kp) s (l, pt)) ∧ N' 374 j = l ∧ N' 375 j = pt ∧ (∀ i, i ≠ j → N' 374 i = N 374 i ∧ N' 375 i = N 375 i) ∧ N' 359 35 = (if (stQ (pP N0 kp) s (l, pt)).1 4 = -1 then N 359 35 else (j : Int)) := by
  have hv1 := hv.1
  obtain ⟨f, L, D⟩ := s
  obtain ⟨s0, s1, s2, s3, s4, s5, s6, s7, s8, s9, s10, s11, s12⟩ := hs
  dsimp only at *
  obtain ⟨c, hcw⟩ := Int.eq_ofNat_of_zero_le hwho
  have hcn : (c : Int) < pP N0 kp 1 := by omega
  have hch := hv.2.2.2.2.2.1 c hcn
  have zj : 0 ≤ (j : Int) ∧ (j : Int) < 40 := ⟨by omega, by omega⟩
  have L0 := s10 hbs
  have hl3 : 0 ≤ l ∧ l ≤ 2 := by omega
  obtain ⟨l', rfl⟩ := Int.eq_ofNat_of_zero_le hl3.1
  have zz : 0 ≤ 4 * (c : Int) + (l' : Int) ∧ 4 * (c : Int) + (l' : Int) < 32 := ⟨by omega, by omega⟩
  rw [hcw] at e30
  have hN1 : ∃ T, T = mU (mU (mU N 374 j (l' : Int)) 375 j pt) 373 (4 * c + l') (D (4 * c + l') + 1) := ⟨_, rfl⟩
  obtain ⟨T, eT⟩ := hN1
  have rT : FPL N0 T := by rw [eT]; exact FPL_u (FPL_u (FPL_u hr (by omega)) (by omega)) (by omega)
  have t59 : T 359 = N 359 := by rw [eT, mU_row _ _ (by omega), mU_row _ _ (by omega), mU_row _ _ (by omega)]
  have t72 : T 372 = N 372 := by rw [eT, mU_row _ _ (by omega), mU_row _ _ (by omega), mU_row _ _ (by omega)]
  have t73 : ∀ i, i < 32 → T 373 i = uF D (4 * c + l') (D (4 * c + l') + 1) i := fun i hi => by
    rw [eT]
    by_cases e : i = 4 * c + l'
    · subst e; rw [mU_eq, uF_e]
    · rw [mU_ne _ _ (by omega), mU_row _ _ (by omega), mU_row _ _ (by omega), uF_n _ _ e]; exact hD i hi
  have t74 : T 374 j = (l' : Int) ∧ T 375 j = pt ∧ ∀ i, i ≠ j → T 374 i = N 374 i ∧ T 375 i = N 375 i := by
    refine ⟨?_, ?_, fun i hi => ⟨?_, ?_⟩⟩
    · rw [eT, mU_row _ _ (by omega), mU_row _ _ (by omega), mU_eq]
    · rw [eT, mU_row _ _ (by omega), mU_eq]
    · rw [eT, mU_row _ _ (by omega), mU_row _ _ (by omega), mU_ne _ _ (by omega)]
    · rw [eT, mU_row _ _ (by omega), mU_ne _ _ (by omega), mU_row _ _ (by omega)]
  have head : sX12_strikes_b114 359 w h (j : Int) (pP N0 kp (29 + 13 * (f 0).toNat)) N = (if (l' : Int) = 0 then sX12_strikes_b224 359 w h (j : Int) T else if 0 ≤ pt ∧ pt < 5 then (if (l' : Int) = 2 then sX12_strikes_b187 359 w h (j : Int) (N 372 pt.toNat) (pP N0 kp (29 + 13 * c)) T else sX12_strikes_b187 359 w h (j : Int) (N 372 pt.toNat) (pP N0 kp (29 + 13 * c) / 2) T) else none) := by
    unfold sX12_strikes_b114
    rw [wI_of (x := (j : Int)) (by omega) (by omega), if_pos zj, ob_s, if_pos zj, ob_s, g359_42, g359_43, tN, mU_ne _ _ (show (359 : Nat) ≠ 374 ∨ (39 : Nat) ≠ j by omega), e38, e39, mU_ne _ _ (show (359 : Nat) ≠ 375 ∨ (30 : Nat) ≠ j by omega), mU_ne _ _ (show (359 : Nat) ≠ 374 ∨ (30 : Nat) ≠ j by omega), mU_ne _ _ (show (359 : Nat) ≠ 375 ∨ (38 : Nat) ≠ j by omega), mU_ne _ _ (show (359 : Nat) ≠ 374 ∨ (38 : Nat) ≠ j by omega), e30, e38, ob_s, wI_of (x := 4 * (c : Int) + (l' : Int)) (by omega) (by omega), if_pos zz, if_pos zz, ob_s, g359_41, show (4 * (c : Int) + (l' : Int)).toNat = 4 * c + l' by omega, mU_row (mU N 374 j (l' : Int)) _ (show (373 : Nat) ≠ 375 by omega), mU_row N _ (show (373 : Nat) ≠ 374 by omega), hD (4 * c + l') (by omega), ← eT, t59, e38, e39, wI_of (x := (l' : Int)) (by omega) (by omega), wI_of (x := pt) (by omega) (by omega), hcw, tN, g359_40, t72, wI_of (x := pP N0 kp (29 + 13 * c)) (by omega) (by omega), Int.tdiv_eq_ediv_of_nonneg (by omega)]
  rw [head]
  -- what is kept whatever is struck
  have flds : ∀ Z : MM, Z 359 = T 359 → Z 359 30 = f 0 ∧ Z 359 31 = f 1 + 1 ∧ Z 359 32 = f 2 ∧ Z 359 33 = f 3 ∧ Z 359 36 = f 5 ∧ Z 359 37 = f 6 ∧ Z 359 38 = (l' : Int) ∧ Z 359 39 = pt := fun Z hZ => by rw [hZ, t59, e30, hcw]; exact ⟨rfl, e31, e32, e33, e36, e37, e38, e39⟩
  rcases hl with ⟨q1, q2⟩ | ⟨q1, q2, q3, q4⟩
  · subst q2
    rw [if_pos q1]
    unfold sX12_strikes_b224
    rw [g359_40, t72, hL 0 (by omega), wI_of (x := L 0) (by have := s9 0 (by omega); omega) (by have := s9 0 (by omega); omega), if_neg (by omega)]
    have fl := flds T rfl
    have l0 : l' = 0 := by omega
    subst l0
    have e4 : (stQ (pP N0 kp) (f, L, D) (((0 : Nat) : Int), -1)).1 4 = f 4 := by
      unfold stQ
      dsimp only
      rw [if_pos rfl]
      show uF (uF (uF f 7 0) 8 (-1)) 1 (f 1 + 1) 4 = f 4
      rw [uF_n _ _ (by omega), uF_n _ _ (by omega), uF_n _ _ (by omega)]
    refine ⟨T, rfl, rT, ?_, t74.1, t74.2.1, t74.2.2, by rw [e4, if_pos hbs, t59]⟩
    unfold stQ
    dsimp only
    rw [if_pos rfl]
    refine ⟨⟨?_, ?_, ?_, ?_, ?_, ?_, ?_, ?_, ?_⟩, fun i hi => by rw [t72]; exact hL i hi, fun i hi => by rw [t73 i hi, hcw, tN]; rfl⟩
    · dsimp only; rw [uF_n _ _ (by omega), uF_n _ _ (by omega), uF_n _ _ (by omega)]; exact fl.1
    · dsimp only; rw [uF_e]; exact fl.2.1
    · dsimp only; rw [uF_n _ _ (by omega), uF_n _ _ (by omega), uF_n _ _ (by omega)]; exact fl.2.2.1
    · dsimp only; rw [uF_n _ _ (by omega), uF_n _ _ (by omega), uF_n _ _ (by omega)]; exact fl.2.2.2.1
    · dsimp only; rw [uF_n _ _ (by omega), uF_n _ _ (by omega), uF_n _ _ (by omega), t59]; exact e34
    · dsimp only; rw [uF_n _ _ (by omega), uF_n _ _ (by omega), uF_n _ _ (by omega)]; exact fl.2.2.2.2.1
    · dsimp only; rw [uF_n _ _ (by omega), uF_n _ _ (by omega), uF_n _ _ (by omega)]; exact fl.2.2.2.2.2.1
    · dsimp only; rw [uF_n _ _ (by omega), uF_n _ _ (by omega), uF_e]; exact fl.2.2.2.2.2.2.1
    · dsimp only; rw [uF_n _ _ (by omega), uF_e]; exact fl.2.2.2.2.2.2.2
  · obtain ⟨i, rfl⟩ := Int.eq_ofNat_of_zero_le q2
    rw [tN] at q4
    have hLi := s9 i q3
    have z5 : 0 ≤ (i : Int) ∧ (i : Int) < 5 := ⟨by omega, by omega⟩
    have z32 : 0 ≤ 4 * (c : Int) + 3 ∧ 4 * (c : Int) + 3 < 32 := ⟨by omega, by omega⟩
    rw [if_neg (show ¬ (l' : Int) = 0 by omega), if_pos z5, tN, hL i q3]
    have hF : foP (pP N0 kp) f (l' : Int) = if (l' : Int) = 2 then pP N0 kp (29 + 13 * c) else pP N0 kp (29 + 13 * c) / 2 := by unfold foP; rw [hcw, tN]
    have hFb : 0 ≤ foP (pP N0 kp) f (l' : Int) ∧ foP (pP N0 kp) f (l' : Int) ≤ 9 := by rw [hF]; split <;> omega
    have hbb : (if (l' : Int) = 2 then sX12_strikes_b187 359 w h (j : Int) (L i) (pP N0 kp (29 + 13 * c)) T else sX12_strikes_b187 359 w h (j : Int) (L i) (pP N0 kp (29 + 13 * c) / 2) T) = sX12_strikes_b187 359 w h (j : Int) (L i) (foP (pP N0 kp) f (l' : Int)) T := by
      rw [hF]
      by_cases q2' : (l' : Int) = 2
      · rw [if_pos q2', if_pos q2']
      · rw [if_neg q2', if_neg q2']
    rw [hbb]
    have eF : stQ (pP N0 kp) (f, L, D) ((l' : Int), (i : Int)) = (uF (uF (uF (uF (uF (uF f 7 (l' : Int)) 8 (i : Int)) 1 (f 1 + 1)) 12 (if (i : Int) = 0 then f 12 + foP (pP N0 kp) f (l' : Int) else f 12)) 13 (if (i : Int) = 0 then foP (pP N0 kp) f (l' : Int) else f 13)) 4 (if (i : Int) = 0 ∧ L 0 ≤ foP (pP N0 kp) f (l' : Int) then f 0 else f 4), uF L i (L i - min (L i) (foP (pP N0 kp) f (l' : Int))), uF (uF D (4 * c + l') (D (4 * c + l') + 1)) (4 * c + 3) (D (4 * c + 3) + min (L i) (foP (pP N0 kp) f (l' : Int)))) := by
      unfold stQ
      dsimp only
      rw [if_neg (show ¬ (i : Int) = -1 by omega), hcw, tN, tN, tN]
    rw [eF]
    generalize foP (pP N0 kp) f (l' : Int) = F at *
    have hle := le_e (x := L i) (y := F) ⟨by omega, by omega⟩ ⟨by omega, by omega⟩
    -- behind the taking
    have hN2 : ∃ U, U = mU (mU T 372 i (L i - min (L i) F)) 373 (4 * c + 3) (D (4 * c + 3) + min (L i) F) := ⟨_, rfl⟩
    obtain ⟨U, eU⟩ := hN2
    have u59 : U 359 = T 359 := by rw [eU, mU_row _ _ (by omega), mU_row _ _ (by omega)]
    have u72 : ∀ k : Nat, (k : Int) < pP N0 kp 0 → U 372 k = uF L i (L i - min (L i) F) k := fun k hk => by
      rw [eU, mU_row _ _ (by omega)]
      by_cases e : k = i
      · subst e; rw [mU_eq, uF_e]
      · rw [mU_ne _ _ (by omega), uF_n _ _ e, t72]; exact hL k hk
    have u73 : ∀ k, k < 32 → U 373 k = uF (uF D (4 * c + l') (D (4 * c + l') + 1)) (4 * c + 3) (D (4 * c + 3) + min (L i) F) k := fun k hk => by
      rw [eU]
      by_cases e : k = 4 * c + 3
      · subst e; rw [mU_eq, uF_e]
      · rw [mU_ne _ _ (by omega), uF_n _ _ e, mU_row _ _ (by omega)]; exact t73 k hk
    have u74 : U 374 = T 374 ∧ U 375 = T 375 := ⟨by rw [eU, mU_row _ _ (by omega), mU_row _ _ (by omega)], by rw [eU, mU_row _ _ (by omega), mU_row _ _ (by omega)]⟩
    have rU : FPL N0 U := by rw [eU]; exact FPL_u (FPL_u rT (by omega)) (by omega)
    have e187 : sX12_strikes_b187 359 w h (j : Int) (L i) F T = sX12_strikes_b224 359 w h (j : Int) U := by
      unfold sX12_strikes_b187
      rw [t59, e39, wI_of (x := (i : Int)) (by omega) (by omega), if_pos z5, if_pos z5, ob_s, g359_40, tN, t72, hL i q3, hle, mU_row T _ (show (359 : Nat) ≠ 372 by omega), t59, e30, wI_of (x := 4 * (c : Int) + 3) (by omega) (by omega), if_pos z32, if_pos z32, ob_s, g359_41, show (4 * (c : Int) + 3).toNat = 4 * c + 3 by omega, mU_row T _ (show (373 : Nat) ≠ 372 by omega), t73 (4 * c + 3) (by omega), uF_n _ _ (show 4 * c + 3 ≠ 4 * c + l' by omega), eU]
    have hU0 : U 372 0 = if i = 0 then L 0 - min (L 0) F else L 0 := by
      rw [u72 0 (by omega)]
      by_cases e : i = 0
      · subst e; rw [uF_e, if_pos rfl]
      · rw [uF_n _ _ (Ne.symm e), if_neg e]
    have L0b := s9 0 (by omega)
    rw [e187]
    unfold sX12_strikes_b224
    rw [g359_40, wI_of (x := U 372 0) (by rw [hU0]; split <;> omega) (by rw [hU0]; split <;> omega), hU0, u59, t59, e30]
    have fl := flds U u59
    have i0e : ((i : Int) = 0) = (i = 0) := by apply propext; omega
    simp only [i0e]
    -- the fields but 34 and 35
    have fin : ∀ (Z : MM) (v : Int), (∀ k, k ≠ 34 → k ≠ 35 → Z 359 k = U 359 k) → Z 359 34 = v → Z 372 = U 372 → Z 373 = U 373 → RRL (pP N0 kp) Z (uF (uF (uF (uF (uF (uF f 7 (l' : Int)) 8 (i : Int)) 1 (f 1 + 1)) 12 (if i = 0 then f 12 + F else f 12)) 13 (if i = 0 then F else f 13)) 4 v, uF L i (L i - min (L i) F), uF (uF D (4 * c + l') (D (4 * c + l') + 1)) (4 * c + 3) (D (4 * c + 3) + min (L i) F)) := by
      intro Z v z1 z2 z3 z4
      refine ⟨⟨?_, ?_, ?_, ?_, ?_, ?_, ?_, ?_, ?_⟩, fun k hk => by rw [z3]; exact u72 k hk, fun k hk => by rw [z4]; exact u73 k hk⟩
      · dsimp only; rw [uF_n _ _ (by omega), uF_n _ _ (by omega), uF_n _ _ (by omega), uF_n _ _ (by omega), uF_n _ _ (by omega), uF_n _ _ (by omega), z1 30 (by omega) (by omega)]; exact fl.1
      · dsimp only; rw [uF_n _ _ (by omega), uF_n _ _ (by omega), uF_n _ _ (by omega), uF_e, z1 31 (by omega) (by omega)]; exact fl.2.1
      · dsimp only; rw [uF_n _ _ (by omega), uF_n _ _ (by omega), uF_n _ _ (by omega), uF_n _ _ (by omega), uF_n _ _ (by omega), uF_n _ _ (by omega), z1 32 (by omega) (by omega)]; exact fl.2.2.1
      · dsimp only; rw [uF_n _ _ (by omega), uF_n _ _ (by omega), uF_n _ _ (by omega), uF_n _ _ (by omega), uF_n _ _ (by omega), uF_n _ _ (by omega), z1 33 (by omega) (by omega)]; exact fl.2.2.2.1
      · dsimp only; rw [uF_e]; exact z2
      · dsimp only; rw [uF_n _ _ (by omega), uF_n _ _ (by omega), uF_n _ _ (by omega), uF_n _ _ (by omega), uF_n _ _ (by omega), uF_n _ _ (by omega), z1 36 (by omega) (by omega)]; exact fl.2.2.2.2.1
      · dsimp only; rw [uF_n _ _ (by omega), uF_n _ _ (by omega), uF_n _ _ (by omega), uF_n _ _ (by omega), uF_n _ _ (by omega), uF_n _ _ (by omega), z1 37 (by omega) (by omega)]; exact fl.2.2.2.2.2.1
      · dsimp only; rw [uF_n _ _ (by omega), uF_n _ _ (by omega), uF_n _ _ (by omega), uF_n _ _ (by omega), uF_n _ _ (by omega), uF_e, z1 38 (by omega) (by omega)]; exact fl.2.2.2.2.2.2.1
      · dsimp only; rw [uF_n _ _ (by omega), uF_n _ _ (by omega), uF_n _ _ (by omega), uF_n _ _ (by omega), uF_e, z1 39 (by omega) (by omega)]; exact fl.2.2.2.2.2.2.2
    by_cases qb : i = 0 ∧ L 0 ≤ F
    · rw [if_pos (show (if i = 0 then L 0 - min (L 0) F else L 0) = 0 by rw [if_pos qb.1]; omega), ob_s, ob_s, if_pos qb]
      refine ⟨_, rfl, FPL_u (FPL_u rU (by omega)) (by omega), fin _ _ (fun k h1 h2 => by rw [mU_ne _ _ (by omega), mU_ne _ _ (by omega)]) (by rw [mU_ne _ _ (by omega), mU_eq, hcw]) (by rw [mU_row _ _ (by omega), mU_row _ _ (by omega)]) (by rw [mU_row _ _ (by omega), mU_row _ _ (by omega)]), ?_, ?_, fun k hk => ?_, ?_⟩
      · rw [mU_row _ _ (by omega), mU_row _ _ (by omega), u74.1]; exact t74.1
      · rw [mU_row _ _ (by omega), mU_row _ _ (by omega), u74.2]; exact t74.2.1
      · rw [mU_row _ _ (by omega), mU_row _ _ (by omega), mU_row _ _ (by omega), mU_row _ _ (by omega), u74.1, u74.2]; exact t74.2.2 k hk
      · rw [uF_e, hcw, if_neg (by omega), mU_eq]
    · rw [if_neg (show ¬ (if i = 0 then L 0 - min (L 0) F else L 0) = 0 by split <;> omega), if_neg qb]
      refine ⟨U, rfl, rU, fin U _ (fun k _ _ => rfl) (by rw [u59, t59]; exact e34) rfl rfl, by rw [u74.1]; exact t74.1, by rw [u74.2]; exact t74.2.1, fun k hk => by rw [u74.1, u74.2]; exact t74.2.2 k hk, ?_⟩
      rw [uF_e, if_pos hbs, u59, t59]
