/-- the reference: one blow -/
def RwB (B : Nat) (N : MM) (q : WF × WF) : Prop := ∀ x, 1 ≤ x → x ≤ B → N 379 x = q.1 x ∧ N 379 (271 + x) = q.2 x
def F90 (M M' : MM) : Prop := ∀ a, a ≠ 379 → a ≠ 380 → M' a = M a
theorem F90_r (M : MM) : F90 M M := fun _ _ _ => rfl
theorem F90_t {M M' M'' : MM} (h : F90 M M') (h' : F90 M' M'') : F90 M M'' := fun a x y => (h' a x y).trans (h a x y)
theorem F90_u {M M' : MM} {b k : Nat} {x : Int} (h : F90 M M') (hb : b = 379 ∨ b = 380) : F90 M (mU M' b k x) := fun a p q => by rw [mU_row _ _ (show a ≠ b by omega)]; exact h a p q
def adU (M : MM) (i : Nat) (v : Int) : MM := mU M 380 i (M 380 i + v)
theorem ad_e (M : MM) (i : Nat) (v : Int) (x : Nat) : adU M i v 380 x = M 380 x + if x = i then v else 0 := by
  unfold adU
  by_cases e : x = i
  · subst e; rw [mU_eq, if_pos rfl]
  · rw [mU_ne _ _ (by omega), if_neg e]; omega
theorem ad_r (M : MM) (i : Nat) (v : Int) {a : Nat} (h : a ≠ 380) : adU M i v a = M a := mU_row _ _ h
theorem bl154 {c B : Int} {K75 : Int → Int → Int → Int → Int → Int → MM → Option (Int × MM)} {l F : Int} (hl : 0 ≤ l ∧ l ≤ 10) {F' : Nat} (hF : F = (F' : Int)) (hF9 : F' ≤ 9) (x5 y6 : Int) {k s : Nat} (hk : 1 ≤ k ∧ k ≤ 270) (hs : s ≤ 1) (v : Int) (M : MM) : sX12_blow_b154 359 c B K75 l F x5 y6 (k : Int) (s : Int) v M = if F' < k then K75 l F x5 y6 (k : Int) ((s : Int) + 1) (adU M (271 * s + k - F') (v * l)) else K75 l F x5 (y6 + v * l) (k : Int) ((s : Int) + 1) M := by
  subst hF
  unfold sX12_blow_b154 sX12_blow_b199
  rw [wI_of (x := (F' : Int)) (by omega) (by omega), wI_of (x := (k : Int)) (by omega) (by omega), wI_of (x := l) (by omega) (by omega), wI_of (x := 271 * (s : Int) + (k : Int) - (F' : Int)) (by omega) (by omega)]
  by_cases e : F' < k
  · rw [if_pos (show (F' : Int) < (k : Int) by omega), if_pos e, if_pos (show 0 ≤ 271 * (s : Int) + (k : Int) - (F' : Int) ∧ 271 * (s : Int) + (k : Int) - (F' : Int) < 542 by omega), if_pos (show 0 ≤ 271 * (s : Int) + (k : Int) - (F' : Int) ∧ 271 * (s : Int) + (k : Int) - (F' : Int) < 542 by omega), ob_s, ob_s, g359_50, show (271 * (s : Int) + (k : Int) - (F' : Int)).toNat = 271 * s + k - F' by omega]
    rfl
  · rw [if_neg (show ¬ (F' : Int) < (k : Int) by omega), if_neg e, ob_s]
theorem bl75 {c B : Int} {K66 : Int → Int → Int → Int → Int → MM → Option (Int × MM)} {l F : Int} (hl : 0 ≤ l ∧ l ≤ 10) {F' : Nat} (hF : F = (F' : Int)) (hF9 : F' ≤ 9) (dr : Bool) (y6 : Int) {k : Nat} (hk : 1 ≤ k ∧ k ≤ 270) (f : Nat) {M : MM} {v0 v1 : Int} (h0 : M 379 k = v0) (h1 : M 379 (271 + k) = v1) : sX12_blow_b75 359 c B K66 (f + 3) l F (if dr then 0 else 1) y6 (k : Int) 0 M = if dr then (if F' < k then K66 l F 0 y6 ((k : Int) + 1) (adU (adU (adU (adU M k (v0 * (10 - l))) (k - F') (v0 * l)) (271 + k) (v1 * (10 - l))) (271 + k - F') (v1 * l)) else K66 l F 0 (y6 + v0 * l + v1 * l) ((k : Int) + 1) (adU (adU M k (v0 * (10 - l))) (271 + k) (v1 * (10 - l)))) else (if F' < k then K66 l F 1 y6 ((k : Int) + 1) (adU (adU (adU (adU M k (v0 * (10 - l))) (271 + k) (v0 * l)) (271 + k) (v1 * (10 - l))) (271 + k - F') (v1 * l)) else K66 l F 1 (y6 + v1 * l) ((k : Int) + 1) (adU (adU (adU M k (v0 * (10 - l))) (271 + k) (v0 * l)) (271 + k) (v1 * (10 - l)))) := by
  have z0 : 0 ≤ 271 * (0 : Int) + (k : Int) ∧ 271 * (0 : Int) + (k : Int) < 542 := ⟨by omega, by omega⟩
  have z1 : 0 ≤ 271 * (0 + 1 : Int) + (k : Int) ∧ 271 * (0 + 1 : Int) + (k : Int) < 542 := ⟨by omega, by omega⟩
  have z2 : 0 ≤ 271 + (k : Int) ∧ 271 + (k : Int) < 542 := ⟨by omega, by omega⟩
  have last : ∀ (x5 y : Int) (T : MM), sX12_blow_b75 359 c B K66 (f + 1) l F x5 y (k : Int) (0 + 1 + 1) T = K66 l F x5 y ((k : Int) + 1) T := fun x5 y T => by
    rw [sX12_blow_b75, wI_of (x := (0 + 1 + 1 : Int)) (by omega) (by omega), if_pos (by omega), ob_s]
  have second : ∀ (x5 y : Int) (T : MM), (x5 = 0 ∨ x5 = 1) → T 379 (271 + k) = v1 → sX12_blow_b75 359 c B K66 (f + 2) l F x5 y (k : Int) (0 + 1) T = if F' < k then K66 l F x5 y ((k : Int) + 1) (adU (adU T (271 + k) (v1 * (10 - l))) (271 + k - F') (v1 * l)) else K66 l F x5 (y + v1 * l) ((k : Int) + 1) (adU T (271 + k) (v1 * (10 - l))) := by
    intro x5 y T h5 hT
    rw [sX12_blow_b75, wI_of (x := (0 + 1 : Int)) (by omega) (by omega), if_neg (show ¬ (2 : Int) ≤ 0 + 1 by omega), wI_of (x := 271 * (0 + 1 : Int) + (k : Int)) (by omega) (by omega), if_pos z1, g359_49, g359_50, show (271 * (0 + 1 : Int) + (k : Int)).toNat = 271 + k by omega, hT, ob_s, if_pos z1, if_pos z1, ob_s, wI_of (x := (10 : Int) - l) (by omega) (by omega), if_neg (show ¬ ((0 : Int) + 1 = 0) by omega), show mU T 380 (271 + k) (T 380 (271 + k) + v1 * (10 - l)) = adU T (271 + k) (v1 * (10 - l)) from rfl, wI_of (x := x5) (by omega) (by omega), show ((0 : Int) + 1) = ((1 : Nat) : Int) by omega, bl154 hl hF hF9 _ _ hk (by omega)]
    have e2 : (((1 : Nat) : Int) + 1) = 0 + 1 + 1 := by omega
    rw [e2]
    have e3 : (if x5 = 0 then (if F' < k then sX12_blow_b75 359 c B K66 (f + 1) l F x5 y (k : Int) (0 + 1 + 1) (adU (adU T (271 + k) (v1 * (10 - l))) (271 * 1 + k - F') (v1 * l)) else sX12_blow_b75 359 c B K66 (f + 1) l F x5 (y + v1 * l) (k : Int) (0 + 1 + 1) (adU T (271 + k) (v1 * (10 - l)))) else (if F' < k then sX12_blow_b75 359 c B K66 (f + 1) l F x5 y (k : Int) (0 + 1 + 1) (adU (adU T (271 + k) (v1 * (10 - l))) (271 * 1 + k - F') (v1 * l)) else sX12_blow_b75 359 c B K66 (f + 1) l F x5 (y + v1 * l) (k : Int) (0 + 1 + 1) (adU T (271 + k) (v1 * (10 - l))))) = if F' < k then K66 l F x5 y ((k : Int) + 1) (adU (adU T (271 + k) (v1 * (10 - l))) (271 + k - F') (v1 * l)) else K66 l F x5 (y + v1 * l) ((k : Int) + 1) (adU T (271 + k) (v1 * (10 - l))) := by
      rw [last, last, Nat.mul_one]
      split <;> rfl
    exact e3
  have head : ∀ x5 : Int, (x5 = 0 ∨ x5 = 1) → sX12_blow_b75 359 c B K66 (f + 3) l F x5 y6 (k : Int) 0 M = if x5 = 0 then (if F' < k then sX12_blow_b75 359 c B K66 (f + 2) l F x5 y6 (k : Int) (0 + 1) (adU (adU M k (v0 * (10 - l))) (k - F') (v0 * l)) else sX12_blow_b75 359 c B K66 (f + 2) l F x5 (y6 + v0 * l) (k : Int) (0 + 1) (adU M k (v0 * (10 - l)))) else sX12_blow_b75 359 c B K66 (f + 2) l F x5 y6 (k : Int) (0 + 1) (adU (adU M k (v0 * (10 - l))) (271 + k) (v0 * l)) := by
    intro x5 h5
    rw [sX12_blow_b75, wI_of (x := (0 : Int)) (by omega) (by omega), if_neg (show ¬ (2 : Int) ≤ 0 by omega), wI_of (x := 271 * (0 : Int) + (k : Int)) (by omega) (by omega), if_pos z0, g359_49, g359_50, show (271 * (0 : Int) + (k : Int)).toNat = k by omega, h0, ob_s, if_pos z0, if_pos z0, ob_s, wI_of (x := (10 : Int) - l) (by omega) (by omega), if_pos (rfl : (0 : Int) = 0), show mU M 380 k (M 380 k + v0 * (10 - l)) = adU M k (v0 * (10 - l)) from rfl, wI_of (x := x5) (by omega) (by omega), wI_of (x := 271 + (k : Int)) (by omega) (by omega), if_pos z2, if_pos z2, show (271 + (k : Int)).toNat = 271 + k by omega, ob_s, wI_of (x := l) (by omega) (by omega), show mU (adU M k (v0 * (10 - l))) 380 (271 + k) (adU M k (v0 * (10 - l)) 380 (271 + k) + v0 * l) = adU (adU M k (v0 * (10 - l))) (271 + k) (v0 * l) from rfl]
    have e0 := bl154 (c := c) (B := B) (K75 := fun x3 x4 x5 y6 x8 x9 M => sX12_blow_b75 359 c B K66 (f + 2) x3 x4 x5 y6 x8 x9 M) hl hF hF9 x5 y6 hk (s := 0) (by omega) v0 (adU M k (v0 * (10 - l)))
    rw [show ((0 : Nat) : Int) = 0 from rfl, Nat.mul_zero, Nat.zero_add] at e0
    by_cases q : x5 = 0
    · rw [if_pos q, if_pos q]; exact e0
    · rw [if_neg q, if_neg q]
      unfold sX12_blow_b199
      rw [ob_s]
  cases dr
  · show sX12_blow_b75 359 c B K66 (f + 3) l F 1 y6 (k : Int) 0 M = _
    rw [head 1 (Or.inr rfl), if_neg (show ¬ (1 : Int) = 0 by omega), second 1 _ _ (Or.inr rfl) (by rw [ad_r _ _ _ (by omega), ad_r _ _ _ (by omega)]; exact h1)]
    rfl
  · show sX12_blow_b75 359 c B K66 (f + 3) l F 0 y6 (k : Int) 0 M = _
    rw [head 0 (Or.inl rfl), if_pos (rfl : (0 : Int) = 0)]
    show _ = (if F' < k then _ else _)
    by_cases e : F' < k
    · rw [if_pos e, if_pos e, second 0 _ _ (Or.inl rfl) (by rw [ad_r _ _ _ (by omega), ad_r _ _ _ (by omega)]; exact h1), if_pos e]
    · rw [if_neg e, if_neg e, second 0 _ _ (Or.inl rfl) (by rw [ad_r _ _ _ (by omega)]; exact h1), if_neg e]
