theorem oJ_i {x b : Int} (hx : 0 ≤ x ∧ 2 * x < 72057594037927936) (hb : 0 ≤ b ∧ b < 256) : oJ (x * 256) b = x * 256 + b := by
  obtain ⟨k, rfl⟩ := Int.eq_ofNat_of_zero_le hx.1
  obtain ⟨c, rfl⟩ := Int.eq_ofNat_of_zero_le hb.1
  have h1 : (eJ ((k : Int) * 256)).toBitVec.toNat = 256 * k := by
    show (Int64.ofInt ((k : Int) * 256)).toBitVec.toNat = 256 * k
    rw [Int64.toBitVec_ofInt, BitVec.toNat_ofInt]
    omega
  have h2 : (eJ (c : Int)).toBitVec.toNat = c := by
    show (Int64.ofInt (c : Int)).toBitVec.toNat = c
    rw [Int64.toBitVec_ofInt, BitVec.toNat_ofInt]
    omega
  have e1 : (eJ ((k : Int) * 256) ||| eJ (c : Int)).toBitVec.toNat = 256 * k + c := by
    rw [Int64.toBitVec_or, BitVec.toNat_or, h1, h2]
    exact (Nat.two_pow_add_eq_or_of_lt (i := 8) (by omega) k).symm
  unfold oJ
  rw [← Int64.toInt_toBitVec, BitVec.toInt_eq_toNat_of_lt (by rw [e1]; omega), e1]
  omega
/-- letters packed -/
def pk (T : Nat → Int) (f : Nat) : Nat → Int
  | 0 => 0
  | n + 1 => pk T f n * 256 + T (f + n)
def wd (T : Nat → Int) (f t : Nat) : Int := if t - f ≤ 8 then pk T f (t - f) else 0
theorem pk_b {T : Nat → Int} {f : Nat} : ∀ n, n ≤ 8 → (∀ j, f ≤ j → j < f + n → isL (T j)) → 0 ≤ pk T f n ∧ 2 * pk T f n < 256 ^ n := by
  intro n
  induction n with
  | zero => intro _ _; exact ⟨by unfold pk; omega, by unfold pk; decide⟩
  | succ n ih =>
    intro hn h
    obtain ⟨a1, a2⟩ := ih (by omega) (fun j hj hj' => h j hj (by omega))
    have h1 := h (f + n) (by omega) (by omega)
    unfold isL at h1
    rw [pk, Int.pow_succ]
    omega
theorem pk_b7 {T : Nat → Int} {f n : Nat} (hn : n ≤ 7) (h : ∀ j, f ≤ j → j < f + n → isL (T j)) : 0 ≤ pk T f n ∧ 2 * pk T f n < 72057594037927936 := by
  obtain ⟨a1, a2⟩ := pk_b n (by omega) h
  refine ⟨a1, ?_⟩
  have : (256 : Int) ^ n ≤ 72057594037927936 := by
    rcases (show n = 0 ∨ n = 1 ∨ n = 2 ∨ n = 3 ∨ n = 4 ∨ n = 5 ∨ n = 6 ∨ n = 7 by omega) with rfl | rfl | rfl | rfl | rfl | rfl | rfl | rfl <;> decide
  omega
theorem mU_cm {M : MM} {a k j : Nat} {x y : Int} (h : k ≠ j) : mU (mU M a k x) a j y = mU (mU M a j y) a k x := by
  funext b i; unfold mU
  by_cases hb : b = a
  · subst hb; by_cases h1 : i = k
    · subst h1; simp [h]
    · by_cases h2 : i = j
      · subst h2; simp [h1]
      · simp [h1, h2]
  · simp [hb]
theorem seeB {N : MM} {T : Nat → Int} {L q : Nat} (h1 : N 359 12 = (L : Int)) (h2 : N 359 11 = (q : Int)) (hT : ∀ j, j < 600 → N 360 j = T j) (hL : L ≤ 600) (hq : q ≤ L) : sX12_see 359 N = some (if q < L then T q % 256 else -1) := by
  unfold sX12_see sX12_see_b0
  rw [h1, h2, wI_of (x := (L : Int)) (by omega) (by omega), wI_of (x := (q : Int)) (by omega) (by omega)]
  by_cases h : q < L
  · rw [if_neg (show ¬ (L : Int) ≤ (q : Int) by omega), if_pos (show (0 : Int) ≤ (q : Int) ∧ (q : Int) < 2400 by omega), if_pos h, g359_1, tN, hT q (by omega)]
  · rw [if_pos (show (L : Int) ≤ (q : Int) by omega), if_neg h]
theorem blB {M : MM} {T : Nat → Int} {L : Nat} (h1 : M 359 12 = (L : Int)) (hT : ∀ j, j < 600 → M 360 j = T j) (hb : TB T) (hL : L ≤ 600) : ∀ d q n, L - q = d → q ≤ L → d < n → ∃ q' m, En isB T L q q' ∧ sX12_token_b0 359 n (mU M 359 11 (q : Int)) = sX12_token_b0 359 (m + 1) (mU M 359 11 (q' : Int)) := by
  intro d
  induction d with
  | zero =>
    intro q n hd hq hn
    obtain ⟨m, rfl⟩ : ∃ m, n = m + 1 := ⟨n - 1, by omega⟩
    exact ⟨q, m, En_0 hq (by omega), rfl⟩
  | succ d ih =>
    intro q n hd hq hn
    obtain ⟨m, rfl⟩ : ∃ m, n = m + 1 := ⟨n - 1, by omega⟩
    have hz := hb q (by omega)
    by_cases h : isB (T q)
    · obtain ⟨q', m', e1, e2⟩ := ih (q + 1) m (by omega) (by omega) (by omega)
      refine ⟨q', m', En_n e1 h, ?_⟩
      have es : sX12_see 359 (mU M 359 11 (q : Int)) = some (T q % 256) := by
        rw [seeB (T := T) (L := L) (q := q) (by rw [mU_ne _ _ (by omega)]; exact h1) (mU_eq _ _ _ _) (fun j hj => by rw [mU_row _ _ (by omega)]; exact hT j hj) hL hq, if_pos (by omega)]
      have e18 : sX12_token_b18 359 (fun M => sX12_token_b0 359 m M) (mU M 359 11 (q : Int)) = sX12_token_b0 359 m (mU M 359 11 ((q + 1 : Nat) : Int)) := by
        unfold sX12_token_b18
        rw [ob_s, mU_eq, mU_mU]; rfl
      rw [sX12_token_b0, es, ob_s, e18, ob_s, ← e2]
      rcases h with h | h
      · rw [h, if_pos (by rw [wI_of (by omega) (by omega)]; omega)]
      · rw [h, if_neg (by rw [wI_of (by omega) (by omega)]; omega), if_pos (by rw [wI_of (by omega) (by omega)]; omega)]
    · exact ⟨q, m, En_0 hq (fun z => h z.2), rfl⟩
theorem inL_t {x : Int} (h : isL x) : sX12_in (x % 256) 97 122 = 1 := by
  unfold isL at h
  exact in_t ⟨by omega, by omega⟩ ⟨by omega, by omega⟩ ⟨by omega, by omega⟩ ⟨by omega, by omega⟩
theorem inL_f {x : Int} (r : -128 ≤ x ∧ x ≤ 127) (h : ¬ isL x) : sX12_in (x % 256) 97 122 = 0 := by
  unfold isL at h
  exact in_f ⟨by omega, by omega⟩ ⟨by omega, by omega⟩ ⟨by omega, by omega⟩ (by omega)
theorem inD_t {x : Int} (h : isD x) : sX12_in (x % 256) 48 57 = 1 := by
  unfold isD at h
  exact in_t ⟨by omega, by omega⟩ ⟨by omega, by omega⟩ ⟨by omega, by omega⟩ ⟨by omega, by omega⟩
theorem inD_f {x : Int} (r : -128 ≤ x ∧ x ≤ 127) (h : ¬ isD x) : sX12_in (x % 256) 48 57 = 0 := by
  unfold isD at h
  exact in_f ⟨by omega, by omega⟩ ⟨by omega, by omega⟩ ⟨by omega, by omega⟩ (by omega)
theorem inN_f {a b : Int} (ra : R32 a) (rb : R32 b) (h : 0 ≤ a) : sX12_in (-1) a b = 0 := in_f ⟨by omega, by omega⟩ ra rb (by omega)
theorem leB {M : MM} {T : Nat → Int} {L f : Nat} (h1 : M 359 12 = (L : Int)) (hT : ∀ j, j < 600 → M 360 j = T j) (hb : TB T) (hL : L ≤ 600) : ∀ d q n w, L - q = d → f ≤ q → q ≤ L → d < n → (∀ j, f ≤ j → j < q → isL (T j)) → (q - f ≤ 8 → w = pk T f (q - f)) → ∃ q', En isL T L q q' ∧ sX12_token_b74 359 n ((q - f : Nat) : Int) (mU (mU M 359 16 w) 359 11 (q : Int)) = some (mU (mU (mU M 359 16 (wd T f q')) 359 11 (q' : Int)) 359 14 2) := by
  have es : ∀ (w : Int) (q : Nat), q ≤ L → sX12_see 359 (mU (mU M 359 16 w) 359 11 (q : Int)) = some (if q < L then T q % 256 else -1) := fun w q hq => seeB (by rw [mU_ne _ _ (by omega), mU_ne _ _ (by omega)]; exact h1) (mU_eq _ _ _ _) (fun j hj => by rw [mU_row _ _ (by omega), mU_row _ _ (by omega)]; exact hT j hj) hL hq
  have ex : ∀ (w : Int) (q n : Nat), f ≤ q → q ≤ L → (q - f ≤ 8 → w = pk T f (q - f)) → ¬ (q < L ∧ isL (T q)) → sX12_token_b74 359 (n + 1) ((q - f : Nat) : Int) (mU (mU M 359 16 w) 359 11 (q : Int)) = some (mU (mU (mU M 359 16 (wd T f q)) 359 11 (q : Int)) 359 14 2) := by
    intro w q n hf hq hw hn
    have ei : sX12_in (if q < L then T q % 256 else -1) 97 122 = 0 := by
      by_cases hql : q < L
      · rw [if_pos hql]; exact inL_f (hb q (by omega)) (fun z => hn ⟨hql, z⟩)
      · rw [if_neg hql]; exact inN_f ⟨by omega, by omega⟩ ⟨by omega, by omega⟩ (by omega)
    rw [sX12_token_b74, es w q hq, ob_s, ei, i00, wI_of (x := ((q - f : Nat) : Int)) (by omega) (by omega)]
    unfold sX12_token_b136 wd
    by_cases h8 : q - f ≤ 8
    · rw [if_pos (show ((q - f : Nat) : Int) ≤ 8 by omega), if_pos h8, ob_s, ob_s, mU_ne (b := 359) (j := 16) _ _ (by omega), mU_eq, hw h8, mU_cm (k := 11) (j := 16) (by omega), mU_mU]
    · rw [if_neg (show ¬ ((q - f : Nat) : Int) ≤ 8 by omega), if_neg h8, ob_s, ob_s, mU_cm (k := 11) (j := 16) (by omega), mU_mU]
  intro d
  induction d with
  | zero =>
    intro q n w hd hfq hq hn hD hw
    obtain ⟨m, rfl⟩ : ∃ m, n = m + 1 := ⟨n - 1, by omega⟩
    exact ⟨q, En_0 hq (by omega), ex w q m hfq hq hw (by omega)⟩
  | succ d ih =>
    intro q n w hd hfq hq hn hD hw
    obtain ⟨m, rfl⟩ : ∃ m, n = m + 1 := ⟨n - 1, by omega⟩
    have hz := hb q (by omega)
    by_cases h : isL (T q)
    · have hh := h
      unfold isL at hh
      have eT : T q % 256 = T q := by omega
      obtain ⟨q', e1, e2⟩ := ih (q + 1) m (oJ (w * 256) (wI (T q % 256))) (by omega) (by omega) (by omega) (by omega) (fun j hj hj' => by
        by_cases e : j = q
        · rw [e]; exact h
        · exact hD j hj (by omega)) (fun h8 => by
        have hp := pk_b7 (T := T) (f := f) (n := q - f) (by omega) (fun j hj hj' => hD j hj (by omega))
        rw [hw (by omega), eT, wI_of (by omega) (by omega), oJ_i hp (by omega), show q + 1 - f = q - f + 1 by omega, pk, show f + (q - f) = q by omega])
      refine ⟨q', En_n e1 h, ?_⟩
      rw [sX12_token_b74, es w q hq, if_pos (show q < L by omega), ob_s, inL_t h, i10, ob_s, ob_s, ob_s, ob_s, mU_ne (b := 359) (j := 16) _ _ (by omega), mU_eq, mU_ne (b := 359) (j := 11) _ _ (by omega), mU_eq, mU_cm (k := 11) (j := 16) (by omega), mU_mU, mU_mU, show ((q - f : Nat) : Int) + 1 = ((q + 1 - f : Nat) : Int) by omega]
      exact e2
    · exact ⟨q, En_0 hq (fun z => h z.2), ex w q m hfq hq hw (fun z => h z.2)⟩
theorem diB {M : MM} {T : Nat → Int} {L f : Nat} (h1 : M 359 12 = (L : Int)) (hT : ∀ j, j < 600 → M 360 j = T j) (hb : TB T) (hL : L ≤ 600) : ∀ d q n, L - q = d → f ≤ q → q ≤ L → d < n → (∀ j, f ≤ j → j < q → isD (T j)) → ∃ q', En isD T L q q' ∧ sX12_token_b163 359 n ((q - f : Nat) : Int) (mU (mU M 359 15 (nm T f (q - f))) 359 11 (q : Int)) = some (mU (mU (mU M 359 15 (nm T f (q' - f))) 359 11 (q' : Int)) 359 14 (if q' - f ≤ 2 then 3 else 1)) := by
  have es : ∀ (w : Int) (q : Nat), q ≤ L → sX12_see 359 (mU (mU M 359 15 w) 359 11 (q : Int)) = some (if q < L then T q % 256 else -1) := fun w q hq => seeB (by rw [mU_ne _ _ (by omega), mU_ne _ _ (by omega)]; exact h1) (mU_eq _ _ _ _) (fun j hj => by rw [mU_row _ _ (by omega), mU_row _ _ (by omega)]; exact hT j hj) hL hq
  have ex : ∀ (q n : Nat), f ≤ q → q ≤ L → ¬ (q < L ∧ isD (T q)) → sX12_token_b163 359 (n + 1) ((q - f : Nat) : Int) (mU (mU M 359 15 (nm T f (q - f))) 359 11 (q : Int)) = some (mU (mU (mU M 359 15 (nm T f (q - f))) 359 11 (q : Int)) 359 14 (if q - f ≤ 2 then 3 else 1)) := by
    intro q n hf hq hn
    have ei : sX12_in (if q < L then T q % 256 else -1) 48 57 = 0 := by
      by_cases hql : q < L
      · rw [if_pos hql]; exact inD_f (hb q (by omega)) (fun z => hn ⟨hql, z⟩)
      · rw [if_neg hql]; exact inN_f ⟨by omega, by omega⟩ ⟨by omega, by omega⟩ (by omega)
    rw [sX12_token_b163, es _ q hq, ob_s, ei, i00, wI_of (x := ((q - f : Nat) : Int)) (by omega) (by omega)]
    unfold sX12_token_b235
    by_cases h8 : q - f ≤ 2
    · rw [if_pos (show ((q - f : Nat) : Int) ≤ 2 by omega), if_pos h8, ob_s]
    · rw [if_neg (show ¬ ((q - f : Nat) : Int) ≤ 2 by omega), if_neg h8, ob_s]
  intro d
  induction d with
  | zero =>
    intro q n hd hfq hq hn hD
    obtain ⟨m, rfl⟩ : ∃ m, n = m + 1 := ⟨n - 1, by omega⟩
    exact ⟨q, En_0 hq (by omega), ex q m hfq hq (by omega)⟩
  | succ d ih =>
    intro q n hd hfq hq hn hD
    obtain ⟨m, rfl⟩ : ∃ m, n = m + 1 := ⟨n - 1, by omega⟩
    have hz := hb q (by omega)
    by_cases h : isD (T q)
    · have hh := h
      unfold isD at hh
      have eT : T q % 256 = T q := by omega
      obtain ⟨q', e1, e2⟩ := ih (q + 1) m (by omega) (by omega) (by omega) (by omega) (fun j hj hj' => by
        by_cases e : j = q
        · rw [e]; exact h
        · exact hD j hj (by omega))
      refine ⟨q', En_n e1 h, ?_⟩
      rw [sX12_token_b163, es _ q hq, if_pos (show q < L by omega), ob_s, inD_t h, i10, wI_of (x := ((q - f : Nat) : Int)) (by omega) (by omega)]
      unfold sX12_token_b205
      by_cases h2 : 2 ≤ q - f
      · rw [if_pos (show (2 : Int) ≤ ((q - f : Nat) : Int) by omega), ob_s, ob_s, ob_s, mU_ne (b := 359) (j := 15) _ _ (by omega), mU_eq, mU_ne (b := 359) (j := 11) _ _ (by omega), mU_eq, mU_cm (k := 11) (j := 15) (by omega), mU_mU, mU_mU, show ((q - f : Nat) : Int) + 1 = ((q + 1 - f : Nat) : Int) by omega, ← nm_2 h2, show q - f + 1 = q + 1 - f by omega]
        exact e2
      · have e3 := nm_s (T := T) (f := f) (i := q - f) (by omega)
        rw [show f + (q - f) = q by omega, show q - f + 1 = q + 1 - f by omega] at e3
        rw [if_neg (show ¬ (2 : Int) ≤ ((q - f : Nat) : Int) by omega), ob_s, ob_s, ob_s, ob_s, mU_ne (b := 359) (j := 15) _ _ (by omega), mU_eq, mU_ne (b := 359) (j := 11) _ _ (by omega), mU_eq, mU_cm (k := 11) (j := 15) (by omega), mU_mU, mU_mU, show ((q - f : Nat) : Int) + 1 = ((q + 1 - f : Nat) : Int) by omega, eT, Int.mul_comm 10, ← e3]
        exact e2
    · exact ⟨q, En_0 hq (fun z => h z.2), ex q m hfq hq (fun z => h z.2)⟩
def mk_ (k : Int) : Int := if k = 0 then 0 else if k = 1 then 2 else if k = 2 then 3 else if k = 3 then 4 else 1
theorem tokB {M : MM} {T : Nat → Int} {L p : Nat} (h1 : M 359 12 = (L : Int)) (hT : ∀ j, j < 600 → M 360 j = T j) (hb : TB T) (hL : L ≤ 600) (hp : M 359 11 = (p : Int)) (hpl : p ≤ L) : ∃ M' f t k, sX12_token 359 M = some M' ∧ TOK T L p f t k ∧ M' 359 13 = (f : Int) ∧ M' 359 11 = (t : Int) ∧ M' 359 14 = mk_ k ∧ (k = 1 → M' 359 16 = wd T f t) ∧ (k = 2 → M' 359 15 = nm T f (t - f)) ∧ (∀ a j, a ≠ 359 ∨ j < 11 ∨ j = 12 ∨ 16 < j → M' a j = M a j) := by
  have hM : M = mU M 359 11 (p : Int) := by
    funext a j; unfold mU
    by_cases ha : a = 359
    · subst ha; by_cases hj : j = 11
      · subst hj; simp [hp]
      · simp [hj]
    · simp [ha]
  obtain ⟨f, m, e1, e2⟩ := blB h1 hT hb hL (L - p) p FU rfl hpl (by unfold FU; omega)
  rw [← hM] at e2
  have hfL := e1.2.1
  unfold sX12_token
  rw [e2]
  have es : ∀ N : MM, N 359 12 = (L : Int) → N 359 11 = (f : Int) → (∀ j, j < 600 → N 360 j = T j) → sX12_see 359 N = some (if f < L then T f % 256 else -1) := fun N a1 a2 a3 => seeB a1 a2 a3 hL hfL
  rw [sX12_token_b0, es (mU M 359 11 (f : Int)) (by rw [mU_ne _ _ (by omega)]; exact h1) (mU_eq _ _ _ _) (fun j hj => by rw [mU_row _ _ (by omega)]; exact hT j hj), ob_s, ob_s]
  have nb : ¬ wI (if f < L then T f % 256 else -1) = 10 ∧ ¬ wI (if f < L then T f % 256 else -1) = 32 := by
    by_cases hf : f < L
    · have hz := hb f (by omega)
      have hn : ¬ isB (T f) := fun z => e1.2.2.2 ⟨hf, z⟩
      unfold isB at hn
      rw [if_pos hf, wI_of (by omega) (by omega)]; omega
    · rw [if_neg hf, wI_of (by omega) (by omega)]; omega
  rw [if_neg nb.1, if_neg nb.2, ob_s, mU_eq, es (mU (mU M 359 11 (f : Int)) 359 13 (f : Int)) (by rw [mU_ne _ _ (by omega), mU_ne _ _ (by omega)]; exact h1) (by rw [mU_ne _ _ (by omega), mU_eq]) (fun j hj => by rw [mU_row _ _ (by omega), mU_row _ _ (by omega)]; exact hT j hj), ob_s, ob_s]
  by_cases hf : f < L
  · have hz := hb f (by omega)
    rw [if_pos hf, if_pos (show 0 ≤ wI (T f % 256) by rw [wI_of (by omega) (by omega)]; omega)]
    by_cases hl : isL (T f)
    · obtain ⟨t, e3, e4⟩ := leB (M := mU M 359 13 (f : Int)) (f := f) (by rw [mU_ne _ _ (by omega)]; exact h1) (fun j hj => by rw [mU_row _ _ (by omega)]; exact hT j hj) hb hL (L - f) f FU 0 rfl (by omega) (by omega) (by unfold FU; omega) (fun j _ _ => by omega) (fun _ => by rw [Nat.sub_self]; rfl)
      rw [Nat.sub_self] at e4
      rw [inL_t hl, i10, mU_cm (k := 11) (j := 13) (by omega), mU_cm (k := 11) (j := 16) (by omega), show (0 : Int) = ((0 : Nat) : Int) from rfl]
      refine ⟨_, f, t, 1, e4, ⟨e1, Or.inr (Or.inl ⟨hf, hl, e3, rfl⟩)⟩, ?_, ?_, ?_, fun _ => ?_, fun h => absurd h (by omega), fun a j haj => ?_⟩
      · rw [mU_ne _ _ (by omega), mU_ne _ _ (by omega), mU_ne _ _ (by omega), mU_eq]
      · rw [mU_ne _ _ (by omega), mU_eq]
      · rw [mU_eq]; rfl
      · rw [mU_ne _ _ (by omega), mU_ne _ _ (by omega), mU_eq]
      · rw [mU_ne _ _ (by omega), mU_ne _ _ (by omega), mU_ne _ _ (by omega), mU_ne _ _ (by omega)]
    · rw [inL_f hz hl, i00]
      by_cases hd : isD (T f)
      · obtain ⟨t, e3, e4⟩ := diB (M := mU (mU M 359 13 (f : Int)) 359 16 0) (f := f) (by rw [mU_ne _ _ (by omega), mU_ne _ _ (by omega)]; exact h1) (fun j hj => by rw [mU_row _ _ (by omega), mU_row _ _ (by omega)]; exact hT j hj) hb hL (L - f) f FU rfl (by omega) (by omega) (by unfold FU; omega) (fun j _ _ => by omega)
        rw [Nat.sub_self] at e4
        rw [inD_t hd, i10, ob_s, mU_cm (k := 11) (j := 13) (by omega), mU_cm (k := 11) (j := 16) (by omega), mU_cm (k := 11) (j := 15) (by omega)]
        refine ⟨_, f, t, _, e4, ⟨e1, Or.inr (Or.inr (Or.inl ⟨hf, hl, hd, e3, rfl⟩))⟩, ?_, ?_, ?_, fun h => ?_, fun h => ?_, fun a j haj => ?_⟩
        · rw [mU_ne _ _ (by omega), mU_ne _ _ (by omega), mU_ne _ _ (by omega), mU_ne _ _ (by omega), mU_eq]
        · rw [mU_ne _ _ (by omega), mU_eq]
        · rw [mU_eq]; unfold mk_; split <;> simp
        · exfalso; revert h; split <;> omega
        · rw [mU_ne _ _ (by omega), mU_ne _ _ (by omega), mU_eq]
        · rw [mU_ne _ _ (by omega), mU_ne _ _ (by omega), mU_ne _ _ (by omega), mU_ne _ _ (by omega), mU_ne _ _ (by omega)]
      · rw [inD_f hz hd, i00, ob_s]
        unfold sX12_token_b263
        refine ⟨mU (mU (mU (mU (mU M 359 11 (f : Int)) 359 13 (f : Int)) 359 16 0) 359 11 ((f + 1 : Nat) : Int)) 359 14 (if T f = 59 then 4 else 1), f, f + 1, _, ?_, ⟨e1, Or.inr (Or.inr (Or.inr ⟨hf, hl, hd, rfl, rfl⟩))⟩, ?_, ?_, ?_, fun h => ?_, fun h => ?_, fun a j haj => ?_⟩
        · have ew : wI (T f % 256) = T f % 256 := wI_of (by omega) (by omega)
          rw [mU_ne (b := 359) (j := 11) _ _ (by omega), mU_ne (b := 359) (j := 11) _ _ (by omega), mU_eq, ew, ob_s, ob_s]
          by_cases h59 : T f = 59
          · rw [if_pos (show T f % 256 = 59 by omega), if_pos h59]; rfl
          · rw [if_neg (show ¬ T f % 256 = 59 by omega), if_neg h59]; rfl
        · rw [mU_ne _ _ (by omega), mU_ne _ _ (by omega), mU_ne _ _ (by omega), mU_eq]
        · rw [mU_ne _ _ (by omega), mU_eq]
        · rw [mU_eq]; unfold mk_; split <;> simp
        · exfalso; revert h; split <;> omega
        · exfalso; revert h; split <;> omega
        · rw [mU_ne _ _ (by omega), mU_ne _ _ (by omega), mU_ne _ _ (by omega), mU_ne _ _ (by omega), mU_ne _ _ (by omega)]
  · rw [if_neg hf, if_neg (show ¬ 0 ≤ wI (-1) by rw [wI_m1]; omega), ob_s]
    refine ⟨_, f, f, 0, rfl, ⟨e1, Or.inl ⟨by omega, rfl, rfl⟩⟩, ?_, ?_, ?_, fun h => absurd h (by omega), fun h => absurd h (by omega), fun a j haj => ?_⟩
    · rw [mU_ne _ _ (by omega), mU_ne _ _ (by omega), mU_eq]
    · rw [mU_ne _ _ (by omega), mU_ne _ _ (by omega), mU_ne _ _ (by omega), mU_eq]
    · rw [mU_eq]; rfl
    · rw [mU_ne _ _ (by omega), mU_ne _ _ (by omega), mU_ne _ _ (by omega), mU_ne _ _ (by omega)]
theorem TOK_u {T : Nat → Int} {L p f t f' t' : Nat} {k k' : Int} (h : TOK T L p f t k) (h' : TOK T L p f' t' k') : f = f' ∧ t = t' ∧ k = k' := by
  obtain ⟨a, h⟩ := h
  obtain ⟨a', h'⟩ := h'
  have e := En_u a a'
  subst e
  refine ⟨rfl, ?_⟩
  rcases h with ⟨b1, b2, b3⟩ | ⟨b1, b2, b3, b4⟩ | ⟨b1, b2, b3, b4, b5⟩ | ⟨b1, b2, b3, b4, b5⟩
  · rcases h' with ⟨c1, c2, c3⟩ | ⟨c1, c2, c3, c4⟩ | ⟨c1, c2, c3, c4, c5⟩ | ⟨c1, c2, c3, c4, c5⟩
    · exact ⟨by omega, by omega⟩
    all_goals omega
  · rcases h' with ⟨c1, c2, c3⟩ | ⟨c1, c2, c3, c4⟩ | ⟨c1, c2, c3, c4, c5⟩ | ⟨c1, c2, c3, c4, c5⟩
    · omega
    · exact ⟨En_u b3 c3, by omega⟩
    · exact absurd b2 c2
    · exact absurd b2 c2
  · rcases h' with ⟨c1, c2, c3⟩ | ⟨c1, c2, c3, c4⟩ | ⟨c1, c2, c3, c4, c5⟩ | ⟨c1, c2, c3, c4, c5⟩
    · omega
    · exact absurd c2 b2
    · have e := En_u b4 c4
      subst e
      exact ⟨rfl, by rw [b5, c5]⟩
    · exact absurd b3 c3
  · rcases h' with ⟨c1, c2, c3⟩ | ⟨c1, c2, c3, c4⟩ | ⟨c1, c2, c3, c4, c5⟩ | ⟨c1, c2, c3, c4, c5⟩
    · omega
    · exact absurd c2 b2
    · exact absurd c3 b3
    · exact ⟨by omega, by rw [b5, c5]⟩
