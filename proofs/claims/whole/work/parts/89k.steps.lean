def ENV (T : Nat → Int) (L : Nat) (C R : MM) : Prop := C 2 = T ∧ TB T ∧ L ≤ 600 ∧ C 1 1 = (L : Int) ∧ R 359 12 = (L : Int) ∧ ∀ j, j < 600 → R 360 j = T j
/-- a token of both -/
def TT (T : Nat → Int) (L f t : Nat) (k : Int) (C R : MM) : Prop := (C 79 9 = (f : Int) ∧ C 79 10 = (t : Int) ∧ C 79 8 = k) ∧ (R 359 13 = (f : Int) ∧ R 359 11 = (t : Int) ∧ R 359 14 = mk_ k) ∧ (k = 1 → R 359 16 = wd T f t ∧ ∀ j, f ≤ j → j < t → isL (T j)) ∧ (k = 2 → C 79 11 = R 359 15 ∧ 0 ≤ R 359 15 ∧ R 359 15 ≤ 99) ∧ (f ≤ t ∧ t ≤ L) ∧ (k ≠ 0 → f < t) ∧ (0 ≤ k ∧ k ≤ 4) ∧ (k = 0 → f = L)
def FA (C C' : MM) : Prop := ∀ a j, a ≠ 79 ∨ j < 8 ∨ 11 < j → C' a j = C a j
def FB (R R' : MM) : Prop := ∀ a j, a ≠ 359 ∨ j < 11 ∨ j = 12 ∨ 16 < j → R' a j = R a j
theorem FA_r {C : MM} : FA C C := fun _ _ _ => rfl
theorem FB_r {C : MM} : FB C C := fun _ _ _ => rfl
theorem FA_row {C C' : MM} (h : FA C C') {a : Nat} (ha : a ≠ 79) : C' a = C a := funext fun j => h a j (Or.inl ha)
theorem FB_row {C C' : MM} (h : FB C C') {a : Nat} (ha : a ≠ 359) : C' a = C a := funext fun j => h a j (Or.inl ha)
theorem ENV_c {T : Nat → Int} {L : Nat} {C R C' R' : MM} (h : ENV T L C R) (h1 : C' 1 = C 1) (h2 : C' 2 = C 2) (h3 : R' 359 12 = R 359 12) (h4 : R' 360 = R 360) : ENV T L C' R' := by
  unfold ENV
  rw [h1, h2, h3, h4]; exact h
theorem tok2 {T : Nat → Int} {L p : Nat} {C R : MM} (h : ENV T L C R) (hc : C 79 10 = (p : Int)) (hr : R 359 11 = (p : Int)) (hp : p ≤ L) : ∃ C' R' f t k, sX7_take 79 1 C = some C' ∧ sX12_token 359 R = some R' ∧ TT T L f t k C' R' ∧ p ≤ f ∧ FA C C' ∧ FB R R' ∧ ENV T L C' R' := by
  have h0 := h
  obtain ⟨h1, h2, h3, h4, h5, h6⟩ := h
  obtain ⟨C', f, t, k, a1, a2, a3, a4, a5, a6, a7⟩ := takeA h1 h2 h3 h4 hc hp
  obtain ⟨R', f', t', k', b1, b2, b3, b4, b5, b6, b7, b8⟩ := tokB h5 h6 h2 h3 hr hp
  obtain ⟨e1, e2, e3⟩ := TOK_u a2 b2
  subst e1 e2 e3
  refine ⟨C', R', f, t, k, a1, b1, ⟨⟨a3, a4, a5⟩, ⟨b3, b4, b5⟩, fun hk => ⟨b6 hk, ?_⟩, fun hk => ?_, ?_, fun hk => ?_, ?_, fun hk => ?_⟩, a2.1.1, a7, b8, ENV_c h0 (funext fun j => a7 1 j (by omega)) (funext fun j => a7 2 j (by omega)) (b8 359 12 (by omega)) (funext fun j => b8 360 j (by omega))⟩
  · obtain ⟨c0, c⟩ := a2
    rcases c with ⟨c1, c2, c3⟩ | ⟨c1, c2, c3, c4⟩ | ⟨c1, c2, c3, c4, c5⟩ | ⟨c1, c2, c3, c4, c5⟩
    · omega
    · exact c3.2.2.1
    · exfalso; rw [hk] at c5; revert c5; split <;> omega
    · exfalso; rw [hk] at c5; revert c5; split <;> omega
  · rw [a6 hk, b7 hk]
    obtain ⟨c0, c⟩ := a2
    rcases c with ⟨c1, c2, c3⟩ | ⟨c1, c2, c3, c4⟩ | ⟨c1, c2, c3, c4, c5⟩ | ⟨c1, c2, c3, c4, c5⟩
    · omega
    · omega
    · exact ⟨rfl, nm_b (fun j hj hj' => c4.2.2.1 j hj (by have := c4.1; omega))⟩
    · exfalso; rw [hk] at c5; revert c5; split <;> omega
  · obtain ⟨c0, c⟩ := a2
    have c00 := c0.2.1
    rcases c with ⟨c1, c2, c3⟩ | ⟨c1, c2, c3, c4⟩ | ⟨c1, c2, c3, c4, c5⟩ | ⟨c1, c2, c3, c4, c5⟩
    · omega
    · have := c3.1; have := c3.2.1; omega
    · have := c4.1; have := c4.2.1; omega
    · omega
  · obtain ⟨c0, c⟩ := a2
    rcases c with ⟨c1, c2, c3⟩ | ⟨c1, c2, c3, c4⟩ | ⟨c1, c2, c3, c4, c5⟩ | ⟨c1, c2, c3, c4, c5⟩
    · omega
    · rcases Nat.lt_or_ge f t with z | z
      · exact z
      · have e : t = f := by have := c3.1; omega
        rw [e] at c3; exact absurd ⟨c1, c2⟩ c3.2.2.2
    · rcases Nat.lt_or_ge f t with z | z
      · exact z
      · have e : t = f := by have := c4.1; omega
        rw [e] at c4; exact absurd ⟨c1, c3⟩ c4.2.2.2
    · omega
  · obtain ⟨c0, c⟩ := a2
    rcases c with ⟨c1, c2, c3⟩ | ⟨c1, c2, c3, c4⟩ | ⟨c1, c2, c3, c4, c5⟩ | ⟨c1, c2, c3, c4, c5⟩
    · omega
    · omega
    · rw [c5]; split <;> omega
    · rw [c5]; split <;> omega
  · obtain ⟨c0, c⟩ := a2
    have c00 := c0.2.1
    rcases c with ⟨c1, c2, c3⟩ | ⟨c1, c2, c3, c4⟩ | ⟨c1, c2, c3, c4, c5⟩ | ⟨c1, c2, c3, c4, c5⟩
    · omega
    · omega
    · exfalso; rw [hk] at c5; revert c5; split <;> omega
    · exfalso; rw [hk] at c5; revert c5; split <;> omega
/-- faults of both, places before b -/
def FF (b : Nat) (C R : MM) : Prop := C 79 5 = R 359 18 ∧ ((C 79 5 = 0 ∧ C 79 6 = -1) ∨ ((C 79 5 = 2 ∨ C 79 5 = 3) ∧ C 79 6 = R 359 19 ∧ ∃ q : Nat, R 359 19 = (q : Int) ∧ q < b))
theorem FF_c {b b' : Nat} {C R C' R' : MM} (h : FF b C R) (hb : b ≤ b') (h1 : C' 79 5 = C 79 5) (h2 : C' 79 6 = C 79 6) (h3 : R' 359 18 = R 359 18) (h4 : R' 359 19 = R 359 19) : FF b' C' R' := by
  unfold FF
  rw [h1, h2, h3, h4]
  refine ⟨h.1, ?_⟩
  rcases h.2 with z | ⟨z1, z2, q, z3, z4⟩
  · exact Or.inl z
  · exact Or.inr ⟨z1, z2, q, z3, by omega⟩
def GFa (C C' : MM) : Prop := ∀ a j, a ≠ 79 ∨ j < 5 ∨ 6 < j → C' a j = C a j
def GFb (R R' : MM) : Prop := ∀ a j, a ≠ 359 ∨ j < 18 ∨ 19 < j → R' a j = R a j
theorem bl2 {f : Nat} {C R : MM} (h : FF f C R) (hf : f ≤ 600) {x : Int} (hx : x = 2 ∨ x = 3) : ∃ C' R', sX7_blame 79 x (f : Int) C = some C' ∧ sX12_later 359 x (f : Int) R = some R' ∧ FF (f + 1) C' R' ∧ C' 79 5 ≠ 0 ∧ GFa C C' ∧ GFb R R' := by
  obtain ⟨h1, h2⟩ := h
  unfold sX7_blame sX7_blame_b0 sX12_later sX12_later_b0 sX12_later_b31
  rw [h1]
  rcases h2 with ⟨z1, z2⟩ | ⟨z1, z2, q, z3, z4⟩
  · have e0 : R 359 18 = 0 := by rw [← h1]; exact z1
    rw [e0, i00, i00]
    refine ⟨_, _, rfl, rfl, ⟨?_, Or.inr ⟨?_, ?_, f, ?_, by omega⟩⟩, ?_, fun a j haj => ?_, fun a j haj => ?_⟩
    · rw [mU_ne _ _ (by omega), mU_eq, mU_ne _ _ (by omega), mU_eq]
    · rw [mU_ne _ _ (by omega), mU_eq]; exact hx
    · rw [mU_eq, mU_eq]
    · rw [mU_eq]
    · rw [mU_ne _ _ (by omega), mU_eq]; omega
    · rw [mU_ne _ _ (by omega), mU_ne _ _ (by omega)]
    · rw [mU_ne _ _ (by omega), mU_ne _ _ (by omega)]
  · have e0 : R 359 18 = 2 ∨ R 359 18 = 3 := by rw [← h1]; exact z1
    have ew : wI (R 359 18) = R 359 18 := wI_of (by omega) (by omega)
    rw [ew, z3, wI_of (x := (f : Int)) (by omega) (by omega), wI_of (x := (q : Int)) (by omega) (by omega), if_neg (by omega), if_neg (by omega), if_neg (by omega), if_neg (by omega)]
    exact ⟨C, R, rfl, rfl, ⟨h1, Or.inr ⟨z1, z2, q, z3, by omega⟩⟩, by omega, fun _ _ _ => rfl, fun _ _ _ => rfl⟩
/-- numbers of a kind -/
def nK (k : Nat) : Nat := ((sT 1).getD k 0).toNat
theorem nK_e : ∀ k, k < 28 → (sT 1).getD k 0 = ((nK k : Nat) : Int) ∧ nK k ≤ 4 := by decide +kernel
theorem sT_b : ∀ k, k < 112 → (0 ≤ (sT 2).getD k 0 ∧ (sT 2).getD k 0 ≤ 99) ∧ 0 ≤ (sT 3).getD k 0 ∧ (sT 3).getD k 0 ≤ 99 := by decide +kernel
/-- whether the i-th number of a kind can be -/
def okC (C : MM) (k i : Nat) : Prop := (sT 2).getD (4 * k + i) 0 ≤ C 114 i ∧ C 114 i ≤ (sT 3).getD (4 * k + i) 0 ∧ ((k = 3 ∨ k = 4) → i = 1 → C 114 1 ≠ C 114 0)
theorem cb_e {C : MM} {k i : Nat} (hk : k < 28) (hi : i < 4) (h0 : R32 (C 114 0)) (h1 : R32 (C 114 i)) : (okC C k i ∧ sX7_canBe 79 (k : Int) (i : Int) C = some 1) ∨ (¬ okC C k i ∧ sX7_canBe 79 (k : Int) (i : Int) C = some 0) := by
  have e1 : wI ((k : Int) * 4 + (i : Int)) = ((4 * k + i : Nat) : Int) := by rw [wI_of (by omega) (by omega)]; omega
  have hb := sT_b (4 * k + i) (by omega)
  have ek : wI (k : Int) = (k : Int) := wI_of (by omega) (by omega)
  have ei : wI (i : Int) = (i : Int) := wI_of (by omega) (by omega)
  have e60 : sX7_canBe_b60 79 (k : Int) (i : Int) C ((k : Int) * 4 + (i : Int)) = some (if (sT 2).getD (4 * k + i) 0 ≤ C 114 i ∧ C 114 i ≤ (sT 3).getD (4 * k + i) 0 then 1 else 0) := by
    unfold sX7_canBe_b60
    rw [e1, ei, if_pos ⟨by omega, by omega⟩, if_pos ⟨by omega, by omega⟩, tN, tN, g79_7, wI_of h1.1 h1.2, wI_of (x := (sT 2).getD (4 * k + i) 0) (by omega) (by omega), wI_of (x := (sT 3).getD (4 * k + i) 0) (by omega) (by omega)]
    by_cases a1 : C 114 i < (sT 2).getD (4 * k + i) 0
    · rw [if_pos a1, if_neg (by omega)]
    · rw [if_neg a1, if_pos ⟨by omega, by omega⟩, if_pos ⟨by omega, by omega⟩]
      by_cases a2 : (sT 3).getD (4 * k + i) 0 < C 114 i
      · rw [if_pos a2, if_neg (by omega)]
      · rw [if_neg a2, if_pos (by omega)]
  unfold sX7_canBe sX7_canBe_b0
  rw [e1, if_neg (by omega), if_neg (by omega), if_pos (by omega), ek]
  have fin : ((k = 3 ∨ k = 4) → i = 1 → C 114 1 ≠ C 114 0) → (okC C k i ∧ sX7_canBe_b60 79 (k : Int) (i : Int) C ((k : Int) * 4 + (i : Int)) = some 1) ∨ (¬ okC C k i ∧ sX7_canBe_b60 79 (k : Int) (i : Int) C ((k : Int) * 4 + (i : Int)) = some 0) := by
    intro hz
    rw [e60]
    by_cases a1 : (sT 2).getD (4 * k + i) 0 ≤ C 114 i ∧ C 114 i ≤ (sT 3).getD (4 * k + i) 0
    · rw [if_pos a1]; exact Or.inl ⟨⟨a1.1, a1.2, hz⟩, rfl⟩
    · rw [if_neg a1]; exact Or.inr ⟨fun z => a1 ⟨z.1, z.2.1⟩, rfl⟩
  have e38 : (k = 3 ∨ k = 4) → (okC C k i ∧ sX7_canBe_b38 79 (k : Int) (i : Int) C ((k : Int) * 4 + (i : Int)) = some 1) ∨ (¬ okC C k i ∧ sX7_canBe_b38 79 (k : Int) (i : Int) C ((k : Int) * 4 + (i : Int)) = some 0) := by
    intro hk34
    unfold sX7_canBe_b38
    rw [ei]
    by_cases a : i = 1
    · subst a
      rw [if_pos (show ((1 : Nat) : Int) = 1 from rfl), g79_7, wI_of h1.1 h1.2, wI_of h0.1 h0.2]
      by_cases e : C 114 1 = C 114 0
      · rw [if_pos e]; exact Or.inr ⟨fun z => z.2.2 hk34 rfl e, rfl⟩
      · rw [if_neg e]; exact fin (fun _ _ => e)
    · rw [if_neg (by omega)]; exact fin (fun _ z => absurd z a)
  by_cases k3 : k = 3
  · rw [if_pos (by omega)]; exact e38 (Or.inl k3)
  · rw [if_neg (by omega)]
    by_cases k4 : k = 4
    · rw [if_pos (by omega)]; exact e38 (Or.inr k4)
    · rw [if_neg (by omega)]; exact fin (fun z _ => by omega)
/-- one number: changed in the class, in the reference -/
def NA (i : Nat) (C C' : MM) : Prop := ∀ a j, (a ≠ 79 ∨ j < 5 ∨ j = 7 ∨ 11 < j) → (a ≠ 114 ∨ j ≠ i) → C' a j = C a j
def NB (i : Nat) (R R' : MM) : Prop := ∀ a j, (a ≠ 359 ∨ j < 11 ∨ j = 12 ∨ j = 17 ∨ (19 < j ∧ j ≠ 23)) → (a ≠ 371 ∨ j ≠ i) → R' a j = R a j
theorem mk_w (k : Int) : wI (mk_ k) = mk_ k := by
  unfold mk_
  split
  · rfl
  · split
    · rfl
    · split
      · rfl
      · split
        · rfl
        · rfl
theorem num2 {T : Nat → Int} {L f t : Nat} {kk : Int} {C R : MM} {s : Int} {k i r : Nat} {lo up bu : Int} (hE : ENV T L C R) (hT : TT T L f t kk C R) (hF : FF f C R) (hk : k < 28) (hi : i < nK k) (hr : r < 4) (h0 : i ≠ 0 → R32 (C 114 0)) (rlo : R32 lo) (rhi : R32 up) (rbu : R32 bu) (hok : ∀ v : Int, 0 ≤ v → v ≤ 99 → (okC (mU C 114 i v) k i ↔ (lo ≤ v ∧ v ≤ up ∧ v ≠ bu))) (n : Nat) : (sX7_readsLine_b56 79 1 s (n + 1) (k : Int) (i : Int) C = some (0, C) ∧ sX12_takeBut 359 (r : Int) lo up bu R = some (0, mU R 359 17 (f : Int))) ∨ (∃ C' R' f' t' k' v, sX7_readsLine_b56 79 1 s (n + 1) (k : Int) (i : Int) C = sX7_readsLine_b56 79 1 s n (k : Int) ((i : Int) + 1) C' ∧ sX12_takeBut 359 (r : Int) lo up bu R = some (1, R') ∧ ENV T L C' R' ∧ TT T L f' t' k' C' R' ∧ FF f' C' R' ∧ t ≤ f' ∧ f < t ∧ NA i C C' ∧ NB r R R' ∧ C' 114 i = v ∧ R' 371 r = v ∧ 0 ≤ v ∧ v ≤ 99 ∧ ((lo ≤ v ∧ v ≤ up ∧ v ≠ bu ∧ C' 79 5 = C 79 5 ∧ R' 359 23 = R 359 23) ∨ (¬ (lo ≤ v ∧ v ≤ up ∧ v ≠ bu) ∧ C' 79 5 ≠ 0 ∧ R' 359 23 = 0))) := by
  have n1 : Unit → (sT 1).getD k 0 = ((nK k : Nat) : Int) := fun _ => (nK_e k hk).1
  have n2 := (nK_e k hk).2
  have hT0 := hT
  obtain ⟨⟨t1, t2, t3⟩, ⟨u1, u2, u3⟩, _, t5, t6, t7, t8, t9⟩ := hT
  have hL := hE.2.2.1
  have ek : Unit → wI (k : Int) = (k : Int) := fun _ => wI_of (by omega) (by omega)
  have ei : Unit → wI (i : Int) = (i : Int) := fun _ => wI_of (by omega) (by omega)
  have er : Unit → wI (r : Int) = (r : Int) := fun _ => wI_of (by omega) (by omega)
  have en : Unit → wI ((nK k : Nat) : Int) = ((nK k : Nat) : Int) := fun _ => wI_of (by omega) (by omega)
  have ekk : Unit → wI kk = kk := fun _ => wI_of (by omega) (by omega)
  have emk : Unit → wI (mk_ kk) = mk_ kk := fun _ => mk_w kk
  unfold sX12_takeBut sX12_takeBut_b0
  have g1 : (0 : Int) ≤ (k : Int) ∧ (k : Int) < 28 := ⟨by omega, by omega⟩
  have g2 : ¬ ((nK k : Nat) : Int) ≤ (i : Int) := by omega
  have g3 : ¬ (4 : Int) ≤ (i : Int) := by omega
  rw [sX7_readsLine_b56, ek (), if_pos g1, tN, n1 (), en (), ei (), if_neg g2, if_neg g3, t3, ekk (), u3, emk ()]
  clear u3
  by_cases h2 : kk = 2
  · right
    subst h2
    obtain ⟨v1, v2, v3⟩ := t5 rfl
    have hft := t7 (by omega)
    rw [show mk_ 2 = 3 from rfl, if_pos rfl, if_pos rfl, if_pos (show (0 : Int) ≤ (i : Int) ∧ (i : Int) < 4 by omega), er (), if_pos (show (0 : Int) ≤ (r : Int) ∧ (r : Int) < 4 by omega), g359_21, g79_7, tN, tN, ob_s, ob_s, v1, mU_row (a := 371) (b := 359) _ _ (by omega), wI_of (x := R 359 15) (by omega) (by omega), wI_of rbu.1 rbu.2]
    obtain ⟨v, ev⟩ : ∃ v, v = R 359 15 := ⟨_, rfl⟩
    rw [← ev] at v1 v2 v3 ⊢
    have w0 : R32 (mU C 114 i v 114 0) := by
      by_cases z : i = 0
      · subst z; rw [mU_eq]; exact ⟨by omega, by omega⟩
      · rw [mU_ne _ _ (by omega)]; exact h0 z
    have w1 : R32 (mU C 114 i v 114 i) := by rw [mU_eq]; exact ⟨by omega, by omega⟩
    have hE' : ENV T L (mU C 114 i v) (mU R 371 r v) := ENV_c hE (mU_row _ _ (by omega)) (mU_row _ _ (by omega)) (by rw [mU_row _ _ (by omega)]) (mU_row _ _ (by omega))
    have hF' : FF f (mU C 114 i v) (mU R 371 r v) := FF_c hF (Nat.le_refl _) (mU_ne _ _ (by omega)) (mU_ne _ _ (by omega)) (mU_ne _ _ (by omega)) (mU_ne _ _ (by omega))
    rcases cb_e (C := mU C 114 i v) hk (i := i) (by omega) w0 w1 with ⟨k1, k2⟩ | ⟨k1, k2⟩
    · have k3 := (hok v v2 v3).mp k1
      obtain ⟨C', R', f', t', k', a1, a2, a3, a4, a5, a6, a7⟩ := tok2 (p := t) hE' (by rw [mU_ne _ _ (by omega)]; exact t2) (by rw [mU_ne _ _ (by omega)]; exact u2) t6.2
      rw [k2, ob_s, i10, in_t ⟨by omega, by omega⟩ rlo rhi ⟨k3.1, k3.2.1⟩, i10, if_neg k3.2.2]
      unfold sX7_readsLine_b112 sX12_takeBut_b58
      rw [a1, a2, ob_s, ob_s, ob_s]
      refine ⟨C', R', f', t', k', v, rfl, rfl, a7, a3, FF_c hF' (by omega) (a5 _ _ (by omega)) (a5 _ _ (by omega)) (a6 _ _ (by omega)) (a6 _ _ (by omega)), a4, hft, fun a j h1 h2 => ?_, fun a j h1 h2 => ?_, ?_, ?_, v2, v3, Or.inl ⟨k3.1, k3.2.1, k3.2.2, ?_, ?_⟩⟩
      · rw [a5 a j (by omega), mU_ne _ _ (by omega)]
      · rw [a6 a j (by omega), mU_ne _ _ (by omega)]
      · rw [a5 _ _ (by omega), mU_eq]
      · rw [a6 _ _ (by omega), mU_eq]
      · rw [a5 _ _ (by omega), mU_ne _ _ (by omega)]
      · rw [a6 _ _ (by omega), mU_ne _ _ (by omega)]
    · have k3 : ¬ (lo ≤ v ∧ v ≤ up ∧ v ≠ bu) := fun z => k1 ((hok v v2 v3).mpr z)
      obtain ⟨D, Q, d1, d2, d3, d4, d5, d6⟩ := bl2 hF' (by omega) (x := 2) (Or.inl rfl)
      have hE2 : ENV T L D (mU Q 359 23 0) := ENV_c hE' (funext fun j => d5 1 j (by omega)) (funext fun j => d5 2 j (by omega)) (by rw [mU_ne _ _ (by omega)]; exact d6 _ _ (by omega)) (by rw [mU_row _ _ (by omega)]; exact funext fun j => d6 360 j (by omega))
      obtain ⟨C', R', f', t', k', a1, a2, a3, a4, a5, a6, a7⟩ := tok2 (p := t) hE2 (by rw [d5 _ _ (by omega), mU_ne _ _ (by omega)]; exact t2) (by rw [mU_ne _ _ (by omega), d6 _ _ (by omega), mU_ne _ _ (by omega)]; exact u2) t6.2
      have e44 : sX12_takeBut_b44 359 (r : Int) lo up bu (mU R 371 r v) = some (1, R') := by
        unfold sX12_takeBut_b44 sX12_takeBut_b58
        rw [mU_ne (b := 359) _ _ (by omega), u1, d2, ob_s, ob_s, a2, ob_s]
      have erf : (if wI (sX12_in v lo up) = 0 then some ((1 : Int), R') else if v = bu then some (1, R') else sX12_takeBut_b58 359 (r : Int) lo up bu (mU R 371 r v)) = some (1, R') := by
        by_cases z : lo ≤ v ∧ v ≤ up
        · rw [in_t ⟨by omega, by omega⟩ rlo rhi z, i10, if_pos (Decidable.byContradiction fun y => k3 ⟨z.1, z.2, y⟩)]
        · rw [in_f ⟨by omega, by omega⟩ rlo rhi z, i00]
      rw [k2, ob_s, i00, mU_ne (b := 79) _ _ (by omega), t1, d1, ob_s, e44, erf]
      unfold sX7_readsLine_b112
      rw [a1, ob_s, ob_s]
      refine ⟨C', R', f', t', k', v, rfl, rfl, a7, a3, FF_c d3 (by omega) (a5 _ _ (by omega)) (a5 _ _ (by omega)) (by rw [a6 _ _ (by omega), mU_ne _ _ (by omega)]) (by rw [a6 _ _ (by omega), mU_ne _ _ (by omega)]), a4, hft, fun a j h1 h2 => ?_, fun a j h1 h2 => ?_, ?_, ?_, v2, v3, Or.inr ⟨k3, ?_, ?_⟩⟩
      · rw [a5 a j (by omega), d5 a j (by omega), mU_ne _ _ (by omega)]
      · rw [a6 a j (by omega), mU_ne _ _ (by omega), d6 a j (by omega), mU_ne _ _ (by omega)]
      · rw [a5 _ _ (by omega), d5 _ _ (by omega), mU_eq]
      · rw [a6 _ _ (by omega), mU_ne _ _ (by omega), d6 _ _ (by omega), mU_eq]
      · rw [a5 _ _ (by omega)]; exact d4
      · rw [a6 _ _ (by omega), mU_eq]
  · left
    have hm : mk_ kk ≠ 3 := by
      unfold mk_
      by_cases z0 : kk = 0
      · rw [if_pos z0]; omega
      · rw [if_neg z0]
        by_cases z1 : kk = 1
        · rw [if_pos z1]; omega
        · rw [if_neg z1, if_neg h2]
          by_cases z3 : kk = 3
          · rw [if_pos z3]; omega
          · rw [if_neg z3]; omega
    rw [if_neg h2, if_neg hm]
    unfold sX12_fails sX12_fails_b0
    rw [u1, ob_s, ob_s]
    exact ⟨rfl, if_pos (Or.inl rfl)⟩
