def isB (x : Int) : Prop := x = 10 ∨ x = 32
def isL (x : Int) : Prop := 97 ≤ x ∧ x ≤ 122
def isD (x : Int) : Prop := 48 ≤ x ∧ x ≤ 57
/-- q is the first from p on that is not P -/
def En (P : Int → Prop) (T : Nat → Int) (L p q : Nat) : Prop := p ≤ q ∧ q ≤ L ∧ (∀ j, p ≤ j → j < q → P (T j)) ∧ ¬ (q < L ∧ P (T q))
theorem En_u {P : Int → Prop} {T : Nat → Int} {L p q q' : Nat} (h : En P T L p q) (h' : En P T L p q') : q = q' := by
  obtain ⟨a1, a2, a3, a4⟩ := h
  obtain ⟨b1, b2, b3, b4⟩ := h'
  rcases Nat.lt_trichotomy q q' with e | e | e
  · exact absurd ⟨by omega, b3 q a1 e⟩ a4
  · exact e
  · exact absurd ⟨by omega, a3 q' b1 e⟩ b4
theorem En_n {P : Int → Prop} {T : Nat → Int} {L p q : Nat} (h : En P T L (p + 1) q) (hp : P (T p)) : En P T L p q := by
  obtain ⟨a1, a2, a3, a4⟩ := h
  refine ⟨by omega, a2, fun j hj hj' => ?_, a4⟩
  by_cases e : j = p
  · rw [e]; exact hp
  · exact a3 j (by omega) hj'
theorem En_0 {P : Int → Prop} {T : Nat → Int} {L p : Nat} (hl : p ≤ L) (h : ¬ (p < L ∧ P (T p))) : En P T L p p := ⟨Nat.le_refl _, hl, fun j _ _ => by omega, h⟩
theorem mU_mU {M : MM} {a k : Nat} {x y : Int} : mU (mU M a k x) a k y = mU M a k y := by
  funext b j; unfold mU; by_cases h : b = a
  · subst h; by_cases h' : j = k
    · subst h'; simp
    · simp [h']
  · simp [h]
theorem ib_t {x : Int} (h : isB x) : sX7_isBlank x = 1 := by
  unfold sX7_isBlank sX7_isBlank_b0
  rcases h with h | h
  · subst h; rw [wI_of (by omega) (by omega)]; rfl
  · subst h; rw [wI_of (by omega) (by omega)]; rfl
theorem ib_f {x : Int} (r : -128 ≤ x ∧ x ≤ 127) (h : ¬ isB x) : sX7_isBlank x = 0 := by
  unfold isB at h
  unfold sX7_isBlank sX7_isBlank_b0
  rw [wI_of (by omega) (by omega), if_neg (by omega), if_neg (by omega)]
theorem il_t {x : Int} (h : isL x) : sX7_isLetter x = 1 := by
  unfold isL at h
  unfold sX7_isLetter sX7_isLetter_b0
  rw [wI_of (by omega) (by omega), if_neg (by omega), if_neg (by omega)]
theorem il_f {x : Int} (r : -128 ≤ x ∧ x ≤ 127) (h : ¬ isL x) : sX7_isLetter x = 0 := by
  unfold isL at h
  unfold sX7_isLetter sX7_isLetter_b0
  rw [wI_of (by omega) (by omega)]
  by_cases h1 : x < 97
  · rw [if_pos h1]
  · rw [if_neg h1, if_pos (by omega)]
theorem id_t {x : Int} (h : isD x) : sX7_isDigit x = 1 := by
  unfold isD at h
  unfold sX7_isDigit sX7_isDigit_b0
  rw [wI_of (by omega) (by omega), if_neg (by omega), if_neg (by omega)]
theorem id_f {x : Int} (r : -128 ≤ x ∧ x ≤ 127) (h : ¬ isD x) : sX7_isDigit x = 0 := by
  unfold isD at h
  unfold sX7_isDigit sX7_isDigit_b0
  rw [wI_of (by omega) (by omega)]
  by_cases h1 : x < 48
  · rw [if_pos h1]
  · rw [if_neg h1, if_pos (by omega)]
/-- bytes of a tape -/
def TB (T : Nat → Int) : Prop := ∀ j, j < 600 → -128 ≤ T j ∧ T j ≤ 127
theorem blA {M : MM} {T : Nat → Int} {L : Nat} (hT : M 2 = T) (hb : TB T) (hL : L ≤ 600) : ∀ d q n, L - q = d → q ≤ L → d < n → ∃ q', En isB T L q q' ∧ sX7_take_b19 79 1 n (L : Int) (mU M 79 9 (q : Int)) = sX7_take_b55 79 1 (L : Int) (mU M 79 9 (q' : Int)) := by
  intro d
  induction d with
  | zero =>
    intro q n hd hq hn
    obtain ⟨m, rfl⟩ : ∃ m, n = m + 1 := ⟨n - 1, by omega⟩
    refine ⟨q, En_0 hq (by omega), ?_⟩
    rw [sX7_take_b19, mU_eq, wI_of (x := (L : Int)) (by omega) (by omega), wI_of (x := (q : Int)) (by omega) (by omega), if_pos (by omega)]
  | succ d ih =>
    intro q n hd hq hn
    obtain ⟨m, rfl⟩ : ∃ m, n = m + 1 := ⟨n - 1, by omega⟩
    have hz := hb q (by omega)
    by_cases h : isB (T q)
    · obtain ⟨q', e1, e2⟩ := ih (q + 1) m (by omega) (by omega) (by omega)
      refine ⟨q', En_n e1 h, ?_⟩
      rw [sX7_take_b19, mU_eq, wI_of (x := (L : Int)) (by omega) (by omega), wI_of (x := (q : Int)) (by omega) (by omega), if_neg (by omega), if_pos ⟨by omega, by omega⟩, g1_0, mU_row _ _ (by omega), hT, tN, ib_t h, i10, ob_s, mU_mU]
      exact e2
    · refine ⟨q, En_0 hq (fun z => h z.2), ?_⟩
      rw [sX7_take_b19, mU_eq, wI_of (x := (L : Int)) (by omega) (by omega), wI_of (x := (q : Int)) (by omega) (by omega), if_neg (by omega), if_pos ⟨by omega, by omega⟩, g1_0, mU_row _ _ (by omega), hT, tN, ib_f hz h, i00]
theorem leA {M : MM} {T : Nat → Int} {L : Nat} (hT : M 2 = T) (hb : TB T) (hL : L ≤ 600) : ∀ d q n, L - q = d → q ≤ L → d < n → ∃ q', En isL T L q q' ∧ sX7_take_b94 79 1 n (L : Int) (mU M 79 10 (q : Int)) = some (mU (mU M 79 10 (q' : Int)) 79 8 1) := by
  intro d
  induction d with
  | zero =>
    intro q n hd hq hn
    obtain ⟨m, rfl⟩ : ∃ m, n = m + 1 := ⟨n - 1, by omega⟩
    refine ⟨q, En_0 hq (by omega), ?_⟩
    rw [sX7_take_b94, mU_eq, wI_of (x := (L : Int)) (by omega) (by omega), wI_of (x := (q : Int)) (by omega) (by omega), if_pos (by omega)]
    rfl
  | succ d ih =>
    intro q n hd hq hn
    obtain ⟨m, rfl⟩ : ∃ m, n = m + 1 := ⟨n - 1, by omega⟩
    have hz := hb q (by omega)
    by_cases h : isL (T q)
    · obtain ⟨q', e1, e2⟩ := ih (q + 1) m (by omega) (by omega) (by omega)
      refine ⟨q', En_n e1 h, ?_⟩
      rw [sX7_take_b94, mU_eq, wI_of (x := (L : Int)) (by omega) (by omega), wI_of (x := (q : Int)) (by omega) (by omega), if_neg (by omega), if_pos ⟨by omega, by omega⟩, g1_0, mU_row _ _ (by omega), hT, tN, il_t h, i10, ob_s, mU_mU]
      exact e2
    · refine ⟨q, En_0 hq (fun z => h z.2), ?_⟩
      rw [sX7_take_b94, mU_eq, wI_of (x := (L : Int)) (by omega) (by omega), wI_of (x := (q : Int)) (by omega) (by omega), if_neg (by omega), if_pos ⟨by omega, by omega⟩, g1_0, mU_row _ _ (by omega), hT, tN, il_f hz h, i00]
      rfl
/-- the number that the first i digits tell, two at most -/
def nm (T : Nat → Int) (f i : Nat) : Int := if i = 0 then 0 else if i = 1 then T f - 48 else 10 * (T f - 48) + (T (f + 1) - 48)
theorem nm_b {T : Nat → Int} {f i : Nat} (h : ∀ j, f ≤ j → j < f + i → isD (T j)) : 0 ≤ nm T f i ∧ nm T f i ≤ 99 := by
  unfold nm
  by_cases h0 : i = 0
  · rw [if_pos h0]; omega
  · have h1 := h f (by omega) (by omega)
    unfold isD at h1
    rw [if_neg h0]
    by_cases h2 : i = 1
    · rw [if_pos h2]; omega
    · rw [if_neg h2]
      have h3 := h (f + 1) (by omega) (by omega)
      unfold isD at h3
      omega
theorem nm_s {T : Nat → Int} {f i : Nat} (h : i < 2) : nm T f (i + 1) = nm T f i * 10 + T (f + i) - 48 := by
  unfold nm
  rcases (show i = 0 ∨ i = 1 by omega) with rfl | rfl
  · simp
  · simp; omega
theorem nm_2 {T : Nat → Int} {f i : Nat} (h : 2 ≤ i) : nm T f (i + 1) = nm T f i := by
  unfold nm
  rw [if_neg (by omega), if_neg (by omega), if_neg (by omega), if_neg (by omega)]
theorem diA {M : MM} {T : Nat → Int} {L f : Nat} (hT : M 2 = T) (hb : TB T) (hL : L ≤ 600) (hf : M 79 9 = (f : Int)) : ∀ d q n, L - q = d → f ≤ q → q ≤ L → d < n → (∀ j, f ≤ j → j < q → isD (T j)) → ∃ q', En isD T L q q' ∧ sX7_takeNumber_b5 79 1 (L : Int) n (mU (mU M 79 11 (nm T f (q - f))) 79 10 (q : Int)) = some (mU (mU (mU M 79 11 (nm T f (q' - f))) 79 10 (q' : Int)) 79 8 (if q' - f ≤ 2 then 2 else 4)) := by
  have ex : ∀ q : Nat, f ≤ q → q ≤ L → sX7_takeNumber_b78 79 1 (L : Int) (mU (mU M 79 11 (nm T f (q - f))) 79 10 (q : Int)) = some (mU (mU (mU M 79 11 (nm T f (q - f))) 79 10 (q : Int)) 79 8 (if q - f ≤ 2 then 2 else 4)) := by
    intro q h1 h2
    unfold sX7_takeNumber_b78 sX7_takeNumber_b97
    rw [mU_eq, mU_ne _ _ (by omega), mU_ne _ _ (by omega), hf, wI_of (x := (q : Int) - (f : Int)) (by omega) (by omega)]
    by_cases h3 : q - f ≤ 2
    · rw [if_neg (by omega), if_pos h3]; rfl
    · rw [if_pos (by omega), if_neg h3]; rfl
  intro d
  induction d with
  | zero =>
    intro q n hd hfq hq hn hD
    obtain ⟨m, rfl⟩ : ∃ m, n = m + 1 := ⟨n - 1, by omega⟩
    refine ⟨q, En_0 hq (by omega), ?_⟩
    rw [sX7_takeNumber_b5, mU_eq, wI_of (x := (L : Int)) (by omega) (by omega), wI_of (x := (q : Int)) (by omega) (by omega), if_pos (by omega)]
    exact ex q hfq hq
  | succ d ih =>
    intro q n hd hfq hq hn hD
    obtain ⟨m, rfl⟩ : ∃ m, n = m + 1 := ⟨n - 1, by omega⟩
    have hz := hb q (by omega)
    by_cases h : isD (T q)
    · obtain ⟨q', e1, e2⟩ := ih (q + 1) m (by omega) (by omega) (by omega) (by omega) (fun j hj hj' => by
        by_cases e : j = q
        · rw [e]; exact h
        · exact hD j hj (by omega))
      refine ⟨q', En_n e1 h, ?_⟩
      have ec : ∀ x y : Int, mU (mU (mU (mU M 79 11 x) 79 10 (q : Int)) 79 11 y) 79 10 ((q : Int) + 1) = mU (mU M 79 11 y) 79 10 ((q + 1 : Nat) : Int) := by
        intro x y
        funext a j
        unfold mU
        by_cases ha : a = 79
        · subst ha; by_cases h10 : j = 10
          · subst h10; simp
          · by_cases h11 : j = 11
            · subst h11; simp
            · simp [h10, h11]
        · simp [ha]
      have ec' : ∀ x : Int, mU (mU (mU M 79 11 x) 79 10 (q : Int)) 79 10 ((q : Int) + 1) = mU (mU M 79 11 x) 79 10 ((q + 1 : Nat) : Int) := fun x => mU_mU
      rw [sX7_takeNumber_b5, mU_eq, wI_of (x := (L : Int)) (by omega) (by omega), wI_of (x := (q : Int)) (by omega) (by omega), if_neg (by omega), if_pos ⟨by omega, by omega⟩, g1_0, mU_row (b := 2) _ _ (by omega), mU_row (b := 2) _ _ (by omega), hT, tN, id_t h, i10, mU_ne (b := 79) (j := 9) _ _ (by omega), mU_ne (b := 79) (j := 9) _ _ (by omega), hf, wI_of (x := (q : Int) - (f : Int)) (by omega) (by omega)]
      unfold sX7_takeNumber_b65
      by_cases h2 : 2 ≤ q - f
      · rw [if_pos (show (2 : Int) ≤ (q : Int) - (f : Int) by omega), ob_s, mU_eq, ec', ← nm_2 h2, show q - f + 1 = q + 1 - f by omega]
        exact e2
      · rw [if_neg (show ¬ (2 : Int) ≤ (q : Int) - (f : Int) by omega), if_pos (show (0 : Int) ≤ (q : Int) ∧ (q : Int) < 600 by omega), ob_s, ob_s, mU_ne (b := 79) (j := 11) _ _ (by omega), mU_eq, mU_ne (b := 79) (j := 10) _ _ (by omega), mU_eq, ec]
        have e3 := nm_s (T := T) (f := f) (i := q - f) (by omega)
        rw [show f + (q - f) = q by omega, show q - f + 1 = q + 1 - f by omega] at e3
        rw [← e3]
        exact e2
    · refine ⟨q, En_0 hq (fun z => h z.2), ?_⟩
      rw [sX7_takeNumber_b5, mU_eq, wI_of (x := (L : Int)) (by omega) (by omega), wI_of (x := (q : Int)) (by omega) (by omega), if_neg (by omega), if_pos ⟨by omega, by omega⟩, g1_0, mU_row (b := 2) _ _ (by omega), mU_row (b := 2) _ _ (by omega), hT, tN, id_f hz h, i00]
      exact ex q hfq hq
/-- a token: from f to t, of kind k -/
def TOK (T : Nat → Int) (L p f t : Nat) (k : Int) : Prop := En isB T L p f ∧ ((L ≤ f ∧ t = f ∧ k = 0) ∨ (f < L ∧ isL (T f) ∧ En isL T L f t ∧ k = 1) ∨ (f < L ∧ ¬ isL (T f) ∧ isD (T f) ∧ En isD T L f t ∧ k = (if t - f ≤ 2 then 2 else 4)) ∨ (f < L ∧ ¬ isL (T f) ∧ ¬ isD (T f) ∧ t = f + 1 ∧ k = (if T f = 59 then 3 else 4)))
theorem takeA {M : MM} {T : Nat → Int} {L p : Nat} (hT : M 2 = T) (hb : TB T) (hL : L ≤ 600) (hl : M 1 1 = (L : Int)) (hp : M 79 10 = (p : Int)) (hpl : p ≤ L) : ∃ M' f t k, sX7_take 79 1 M = some M' ∧ TOK T L p f t k ∧ M' 79 9 = (f : Int) ∧ M' 79 10 = (t : Int) ∧ M' 79 8 = k ∧ (k = 2 → M' 79 11 = nm T f (t - f)) ∧ (∀ a j, a ≠ 79 ∨ j < 8 ∨ 11 < j → M' a j = M a j) := by
  obtain ⟨f, e1, e2⟩ := blA hT hb hL (L - p) p FU rfl hpl (by unfold FU; omega)
  have hfL := e1.2.1
  have em : min (wI (M 1 1)) 600 = (L : Int) := by rw [hl, wI_of (by omega) (by omega)]; omega
  unfold sX7_take sX7_take_b0
  rw [hp, ob_s, em, e2]
  unfold sX7_take_b55
  rw [ob_s, mU_eq, mU_ne (b := 79) (j := 9) _ _ (by omega), mU_eq, wI_of (x := (L : Int)) (by omega) (by omega), wI_of (x := (f : Int)) (by omega) (by omega), g1_0, mU_row (b := 2) _ _ (by omega), mU_row (b := 2) _ _ (by omega), hT, tN]
  by_cases hf : f < L
  · have hz := hb f (by omega)
    have hq : (0 : Int) ≤ (f : Int) ∧ (f : Int) < 600 := ⟨by omega, by omega⟩
    rw [if_pos (show (f : Int) < (L : Int) by omega), if_pos hq]
    by_cases hl : isL (T f)
    · obtain ⟨t, e3, e4⟩ := leA (M := mU M 79 9 (f : Int)) (by rw [mU_row _ _ (by omega)]; exact hT) hb hL (L - f) f FU rfl (by omega) (by unfold FU; omega)
      rw [il_t hl, i10, e4]
      refine ⟨_, f, t, 1, rfl, ⟨e1, Or.inr (Or.inl ⟨hf, hl, e3, rfl⟩)⟩, ?_, ?_, ?_, fun h => absurd h (by omega), fun a j haj => ?_⟩
      · rw [mU_ne _ _ (by omega), mU_ne _ _ (by omega), mU_eq]
      · rw [mU_ne _ _ (by omega), mU_eq]
      · rw [mU_eq]
      · rw [mU_ne _ _ (by omega), mU_ne _ _ (by omega), mU_ne _ _ (by omega)]
    · rw [il_f hz hl, i00, if_pos hq]
      by_cases hd : isD (T f)
      · rw [id_t hd, i10]
        obtain ⟨t, e3, e4⟩ := diA (M := mU M 79 9 (f : Int)) (f := f) (by rw [mU_row _ _ (by omega)]; exact hT) hb hL (mU_eq _ _ _ _) (L - f) f FU rfl (by omega) (by omega) (by unfold FU; omega) (fun j _ _ => by omega)
        have ec : mU (mU (mU M 79 9 (f : Int)) 79 10 (f : Int)) 79 11 0 = mU (mU (mU M 79 9 (f : Int)) 79 11 (nm T f (f - f))) 79 10 (f : Int) := by
          rw [show nm T f (f - f) = 0 by rw [Nat.sub_self]; rfl]
          funext a j
          unfold mU
          by_cases ha : a = 79
          · subst ha; by_cases h10 : j = 10
            · subst h10; simp
            · by_cases h11 : j = 11
              · subst h11; simp
              · simp [h10, h11]
          · simp [ha]
        unfold sX7_takeNumber sX7_takeNumber_b0
        rw [ob_s, ec, e4, ob_s]
        refine ⟨_, f, t, _, rfl, ⟨e1, Or.inr (Or.inr (Or.inl ⟨hf, hl, hd, e3, rfl⟩))⟩, ?_, ?_, ?_, fun h => ?_, fun a j haj => ?_⟩
        · rw [mU_ne _ _ (by omega), mU_ne _ _ (by omega), mU_ne _ _ (by omega), mU_eq]
        · rw [mU_ne _ _ (by omega), mU_eq]
        · rw [mU_eq]
        · rw [mU_ne _ _ (by omega), mU_ne _ _ (by omega), mU_eq]
        · rw [mU_ne _ _ (by omega), mU_ne _ _ (by omega), mU_ne _ _ (by omega), mU_ne _ _ (by omega)]
      · rw [id_f hz hd, i00, if_pos hq, wI_of (x := T f) (by omega) (by omega)]
        have ee : ∀ k : Int, sX7_take_b182 79 1 79 k (mU (mU M 79 9 (f : Int)) 79 10 (f : Int)) = some (mU (mU (mU (mU M 79 9 (f : Int)) 79 10 (f : Int)) 79 8 k) 79 10 ((f + 1 : Nat) : Int)) := by
          intro k
          unfold sX7_take_b182
          rw [ob_s, mU_ne (b := 79) (j := 10) _ _ (by omega), mU_eq]; rfl
        rw [ee 3, ee 4]
        refine ⟨mU (mU (mU (mU M 79 9 (f : Int)) 79 10 (f : Int)) 79 8 (if T f = 59 then 3 else 4)) 79 10 ((f + 1 : Nat) : Int), f, f + 1, _, ?_, ⟨e1, Or.inr (Or.inr (Or.inr ⟨hf, hl, hd, rfl, rfl⟩))⟩, ?_, ?_, ?_, fun h => ?_, fun a j haj => ?_⟩
        · by_cases h59 : T f = 59
          · rw [if_pos h59, if_pos h59]
          · rw [if_neg h59, if_neg h59]
        · rw [mU_ne _ _ (by omega), mU_ne _ _ (by omega), mU_ne _ _ (by omega), mU_eq]
        · rw [mU_eq]
        · rw [mU_ne _ _ (by omega), mU_eq]
        · exfalso; revert h; split <;> omega
        · rw [mU_ne _ _ (by omega), mU_ne _ _ (by omega), mU_ne _ _ (by omega), mU_ne _ _ (by omega)]
  · rw [if_neg (show ¬ (f : Int) < (L : Int) by omega), ob_s]
    refine ⟨_, f, f, 0, rfl, ⟨e1, Or.inl ⟨by omega, rfl, rfl⟩⟩, ?_, ?_, ?_, fun h => absurd h (by omega), fun a j haj => ?_⟩
    · rw [mU_ne _ _ (by omega), mU_ne _ _ (by omega), mU_eq]
    · rw [mU_ne _ _ (by omega), mU_eq]
    · rw [mU_eq]
    · rw [mU_ne _ _ (by omega), mU_ne _ _ (by omega), mU_ne _ _ (by omega)]
