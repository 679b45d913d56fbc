def dxN (x : Int) : Int := (x * 1103515245) + 12345
def dvN (x n : Int) : Int := Int.tmod (wI (dxN x % 4294967296 / 2 ^ (Int.toNat 16))) n
theorem dv_b (x : Int) {n : Int} (hn : 0 < n) : 0 ≤ dvN x n ∧ dvN x n < n := by
  unfold dvN
  have e : (2 : Int) ^ (Int.toNat 16) = 65536 := by decide
  rw [e, wI_of (by omega) (by omega), Int.tmod_eq_emod_of_nonneg (by omega)]
  exact ⟨Int.emod_nonneg _ (by omega), Int.emod_lt_of_pos _ hn⟩
theorem belowA (M : MM) {n : Int} (hn : 0 < n ∧ n < 2147483648) : sX0_below 130 n M = some (dvN (M 130 0) n, mU M 130 0 (dxN (M 130 0))) := by
  unfold sX0_below sX0_below_b0 dvN dxN
  rw [ob_s, wI_of (x := n) (by omega) (by omega), if_neg (by omega), if_pos (by omega), mU_eq]
theorem drawB (M : MM) {n : Int} (hn : 0 < n ∧ n < 2147483648) : sX12_draw 359 n M = some (dvN (M 359 64) n, mU M 359 64 (dxN (M 359 64))) := by
  unfold sX12_draw sX12_draw_b0 dvN dxN
  rw [ob_s, wI_of (x := n) (by omega) (by omega), if_pos (by omega), mU_eq]
/-- one blow: seed, blows made, strength left, whether a hit is lifted -/
def bwS (h fc : Int) (t : Int × Int × Int × Int) : Int × Int × Int × Int := if dvN t.1 10 < h then (dxN t.1, t.2.1 + 1, (if t.2.2.2 = 0 then max 0 (t.2.2.1 - fc) else t.2.2.1), 0) else (dxN t.1, t.2.1 + 1, t.2.2.1, t.2.2.2)
def chN (h fc : Int) : Nat → Int × Int × Int × Int → Int × Int × Int × Int
  | 0, t => (0, t.1, t.2.1, t.2.2.1)
  | n + 1, t => if (bwS h fc t).2.2.1 = 0 then (1, (bwS h fc t).1, (bwS h fc t).2.1, (bwS h fc t).2.2.1) else chN h fc n (bwS h fc t)
theorem bw_b {h fc : Int} {t : Int × Int × Int × Int} (hf : 0 ≤ fc) (ht : 0 ≤ t.2.2.1 ∧ t.2.2.1 ≤ 30 ∧ 0 ≤ t.2.2.2 ∧ t.2.2.2 ≤ 1) : 0 ≤ (bwS h fc t).2.2.1 ∧ (bwS h fc t).2.2.1 ≤ 30 ∧ 0 ≤ (bwS h fc t).2.2.2 ∧ (bwS h fc t).2.2.2 ≤ 1 := by
  unfold bwS
  split
  · dsimp only
    split <;> omega
  · dsimp only; omega
theorem goesA {M0 : MM} {p : Nat} {P : Nat → Int} (hc : PC M0 p P) (hv : PV P) (hg : PG p) (hp : p < 77) {c : Nat} (hcn : (c : Int) < P 1) {nb : Nat} (hb : P 2 = (nb : Int)) : ∀ m k : Nat, k + m = nb → ∀ f, m + 1 < f → ∀ (M : MM) (x made left li : Int), (∀ a, a ≠ 130 → M a = M0 a) → M 130 0 = x → M 130 1 = -1 → M 130 2 = made → M 130 3 = left → (0 ≤ left ∧ left ≤ 30) → (0 ≤ li ∧ li ≤ 1) → ∃ M', sX0_goes_b22 130 p (c : Int) f li (k : Int) M = some M' ∧ (∀ a, a ≠ 130 → M' a = M0 a) ∧ M' 130 0 = (chN (P (30 + 13 * c)) (P (29 + 13 * c)) m (x, made, left, li)).2.1 ∧ M' 130 1 = (if (chN (P (30 + 13 * c)) (P (29 + 13 * c)) m (x, made, left, li)).1 = 1 then (c : Int) else -1) ∧ M' 130 2 = (chN (P (30 + 13 * c)) (P (29 + 13 * c)) m (x, made, left, li)).2.2.1 ∧ M' 130 3 = (chN (P (30 + 13 * c)) (P (29 + 13 * c)) m (x, made, left, li)).2.2.2 := by
  have hv1 := hv.1
  have hch := hv.2.2.2.2.2.1 c hcn
  have hcc := hc.2.2.2.2.1 c hcn
  have h12 := hc.1.2.2.1
  obtain ⟨-, -, -, g5, g6, -⟩ := hg
  have hp8 : 0 ≤ (c : Int) ∧ (c : Int) < 8 := ⟨by omega, by omega⟩
  intro m
  induction m with
  | zero =>
    intro k hk f hf M x made left li fr e0 e1 e2 e3 hl hli
    obtain ⟨f, rfl⟩ : ∃ g, f = g + 1 := ⟨f - 1, by omega⟩
    rw [sX0_goes_b22, fr p (by omega), h12, hb, if_pos (show wI (nb : Int) ≤ wI (k : Int) by rw [show k = nb by omega]; exact Int.le_refl _)]
    exact ⟨M, rfl, fr, e0, by rw [e1]; rfl, e2, e3⟩
  | succ m ih =>
    intro k hk f hf M x made left li fr e0 e1 e2 e3 hl hli
    obtain ⟨f, rfl⟩ : ∃ g, f = g + 1 := ⟨f - 1, by omega⟩
    have hbw := bw_b (h := P (30 + 13 * c)) (fc := P (29 + 13 * c)) (t := (x, made, left, li)) (by omega) ⟨hl.1, hl.2, hli.1, hli.2⟩
    -- what follows behind the blow
    have tail : ∀ (N : MM) (x' made' left' li' : Int), bwS (P (30 + 13 * c)) (P (29 + 13 * c)) (x, made, left, li) = (x', made', left', li') → (∀ a, a ≠ 130 → N a = M0 a) → N 130 0 = x' → N 130 1 = -1 → N 130 2 = made' → N 130 3 = left' → ∃ M', sX0_goes_b96 130 p (c : Int) (fun x3 x4 M => sX0_goes_b22 130 p (c : Int) f x3 x4 M) li' (k : Int) N = some M' ∧ (∀ a, a ≠ 130 → M' a = M0 a) ∧ M' 130 0 = (chN (P (30 + 13 * c)) (P (29 + 13 * c)) (m + 1) (x, made, left, li)).2.1 ∧ M' 130 1 = (if (chN (P (30 + 13 * c)) (P (29 + 13 * c)) (m + 1) (x, made, left, li)).1 = 1 then (c : Int) else -1) ∧ M' 130 2 = (chN (P (30 + 13 * c)) (P (29 + 13 * c)) (m + 1) (x, made, left, li)).2.2.1 ∧ M' 130 3 = (chN (P (30 + 13 * c)) (P (29 + 13 * c)) (m + 1) (x, made, left, li)).2.2.2 := by
      intro N x' made' left' li' eb frN n0 n1 n2 n3
      rw [eb] at hbw
      dsimp only at hbw
      unfold sX0_goes_b96 sX0_goes_b108
      simp only [ob_s]
      rw [n3, wI_of (x := left') (by omega) (by omega)]
      unfold chN
      rw [eb]
      dsimp only
      by_cases z : left' = 0
      · rw [if_pos z, if_pos z]
        obtain ⟨f, rfl⟩ : ∃ g, f = g + 1 := ⟨f - 1, by omega⟩
        refine ⟨mU N 130 1 (c : Int), ?_, fun a ha => by rw [mU_row _ _ ha]; exact frN a ha, by rw [mU_ne _ _ (by omega)]; exact n0, by rw [mU_eq, if_pos rfl], by rw [mU_ne _ _ (by omega)]; exact n2, by rw [mU_ne _ _ (by omega)]; exact n3⟩
        rw [sX0_goes_b22]
        by_cases z2 : wI (mU N 130 1 (c : Int) p 12) ≤ wI ((k : Int) + 1)
        · rw [if_pos z2]
        · rw [if_neg z2, mU_eq, wI_of (x := (c : Int)) (by omega) (by omega), if_neg (by omega)]
      · rw [if_neg z, if_neg z]
        exact ih (k + 1) (by omega) f (by omega) N x' made' left' li' frN n0 n1 n2 n3 ⟨hbw.1, hbw.2.1⟩ ⟨hbw.2.2.1, hbw.2.2.2⟩
    have dv := dv_b x (n := 10) (by omega)
    rw [sX0_goes_b22, fr p (by omega), h12, hb, wI_of (x := (nb : Int)) (by omega) (by omega), wI_of (x := (k : Int)) (by omega) (by omega), if_neg (by omega), e1, wI_m1, if_pos rfl, ob_s, belowA _ ⟨by omega, by omega⟩, ob_s, wI_of (x := (c : Int)) (by omega) (by omega), if_pos hp8, if_pos hp8, g5, g6, tN]
    dsimp only
    simp only [mU_ne M _ (show (130 : Nat) ≠ 130 ∨ (0 : Nat) ≠ 2 by omega), e0]
    have fN : ∀ a, a ≠ 130 → mU (mU M 130 2 (M 130 2 + 1)) 130 0 (dxN x) a = M0 a := fun a ha => by rw [mU_row _ _ ha, mU_row _ _ ha]; exact fr a ha
    have m2 : mU (mU M 130 2 (M 130 2 + 1)) 130 0 (dxN x) 130 2 = made + 1 := by rw [mU_ne _ _ (by omega), mU_eq, e2]
    have m3 : mU (mU M 130 2 (M 130 2 + 1)) 130 0 (dxN x) 130 3 = left := by rw [mU_ne _ _ (by omega), mU_ne _ _ (by omega), e3]
    have m1 : mU (mU M 130 2 (M 130 2 + 1)) 130 0 (dxN x) 130 1 = -1 := by rw [mU_ne _ _ (by omega), mU_ne _ _ (by omega), e1]
    have m0 : mU (mU M 130 2 (M 130 2 + 1)) 130 0 (dxN x) 130 0 = dxN x := mU_eq _ _ _ _
    generalize mU (mU M 130 2 (M 130 2 + 1)) 130 0 (dxN x) = N at *
    rw [fN (p + 5) (by omega), fN (p + 4) (by omega), hcc.2.2.1, hcc.2.1, m3, wI_of (x := P (30 + 13 * c)) (by omega) (by omega), wI_of (x := dvN x 10) (by omega) (by omega), wI_of (x := li) (by omega) (by omega), wI_of (x := left - P (29 + 13 * c)) (by omega) (by omega)]
    by_cases z : P (30 + 13 * c) ≤ dvN x 10
    · rw [if_pos z]
      exact tail N (dxN x) (made + 1) left li (if_neg (by show ¬ dvN x 10 < _; omega)) fN m0 m1 m2 m3
    · rw [if_neg z]
      unfold sX0_goes_b91
      simp only [ob_s]
      have bz : ∀ l : Int, (if li = 0 then max 0 (left - P (29 + 13 * c)) else left) = l → bwS (P (30 + 13 * c)) (P (29 + 13 * c)) (x, made, left, li) = (dxN x, made + 1, l, 0) := fun l hl => by
        unfold bwS
        dsimp only
        rw [if_pos (by omega), hl]
      have fN' : ∀ l : Int, ∀ a, a ≠ 130 → mU N 130 3 l a = M0 a := fun l a ha => by rw [mU_row _ _ ha]; exact fN a ha
      by_cases z2 : li = 0
      · rw [if_pos z2]
        exact tail (mU N 130 3 _) (dxN x) (made + 1) _ 0 (bz _ (if_pos z2)) (fN' _) (by rw [mU_ne _ _ (by omega)]; exact m0) (by rw [mU_ne _ _ (by omega)]; exact m1) (by rw [mU_ne _ _ (by omega)]; exact m2) (mU_eq _ _ _ _)
      · rw [if_neg z2]
        exact tail (mU N 130 3 _) (dxN x) (made + 1) _ 0 (bz _ (if_neg z2)) (fN' _) (by rw [mU_ne _ _ (by omega)]; exact m0) (by rw [mU_ne _ _ (by omega)]; exact m1) (by rw [mU_ne _ _ (by omega)]; exact m2) (mU_eq _ _ _ _)
/-- the reference's fields 64 .. 66 alone -/
def F64 (M M' : MM) : Prop := (∀ a, a ≠ 359 → M' a = M a) ∧ ∀ j, j < 64 ∨ 66 < j → M' 359 j = M 359 j
theorem F64_u {M M' : MM} {j : Nat} {x : Int} (h : F64 M M') (hj : 64 ≤ j ∧ j ≤ 66) : F64 M (mU M' 359 j x) := ⟨fun a ha => by rw [mU_row _ _ ha]; exact h.1 a ha, fun i hi => by rw [mU_ne _ _ (by omega)]; exact h.2 i hi⟩
theorem F64_HD {M M' : MM} {k : Nat} (h : F64 M M') (hd : HD M k) : HD M' k := HD_c hd (h.1 365 (by omega)) (fun j a b => h.2 j (by omega))
theorem F64_p {M M' : MM} (h : F64 M M') (k : Nat) : pP M' k = pP M k := pP_c (h.1 365 (by omega)) k
theorem drawChB {M0 : MM} {k : Nat} (hd : HD M0 k) (hv : PV (pP M0 k)) {c : Nat} (hcn : (c : Int) < pP M0 k 1) {nb : Nat} (hb : pP M0 k 2 = (nb : Int)) : ∀ m i : Nat, i + m = nb → ∀ f, m < f → ∀ (M : MM) (x made left li : Int), F64 M0 M → M 359 64 = x → M 359 65 = made → M 359 66 = left → (0 ≤ left ∧ left ≤ 30) → (0 ≤ li ∧ li ≤ 1) → ∃ M', sX12_drawChild_b21 359 (c : Int) f li (i : Int) M = some ((chN (pP M0 k (30 + 13 * c)) (pP M0 k (29 + 13 * c)) m (x, made, left, li)).1, M') ∧ F64 M0 M' ∧ M' 359 64 = (chN (pP M0 k (30 + 13 * c)) (pP M0 k (29 + 13 * c)) m (x, made, left, li)).2.1 ∧ M' 359 65 = (chN (pP M0 k (30 + 13 * c)) (pP M0 k (29 + 13 * c)) m (x, made, left, li)).2.2.1 ∧ M' 359 66 = (chN (pP M0 k (30 + 13 * c)) (pP M0 k (29 + 13 * c)) m (x, made, left, li)).2.2.2 := by
  have hv1 := hv.1
  have hch := hv.2.2.2.2.2.1 c hcn
  have h27 := hd.2.2.2.2.1
  intro m
  induction m with
  | zero =>
    intro i hi f hf M x made left li fr e0 e2 e3 hl hli
    obtain ⟨f, rfl⟩ : ∃ g, f = g + 1 := ⟨f - 1, by omega⟩
    rw [sX12_drawChild_b21, fr.2 27 (by omega), h27, hb, if_pos (show wI (nb : Int) ≤ wI (i : Int) by rw [show i = nb by omega]; exact Int.le_refl _)]
    exact ⟨M, rfl, fr, e0, e2, e3⟩
  | succ m ih =>
    intro i hi f hf M x made left li fr e0 e2 e3 hl hli
    obtain ⟨f, rfl⟩ : ∃ g, f = g + 1 := ⟨f - 1, by omega⟩
    have hbw := bw_b (h := pP M0 k (30 + 13 * c)) (fc := pP M0 k (29 + 13 * c)) (t := (x, made, left, li)) (by omega) ⟨hl.1, hl.2, hli.1, hli.2⟩
    have tail : ∀ (N : MM) (x' made' left' li' : Int), bwS (pP M0 k (30 + 13 * c)) (pP M0 k (29 + 13 * c)) (x, made, left, li) = (x', made', left', li') → F64 M0 N → N 359 64 = x' → N 359 65 = made' → N 359 66 = left' → ∃ M', sX12_drawChild_b86 359 (c : Int) (fun x2 x3 M => sX12_drawChild_b21 359 (c : Int) f x2 x3 M) li' (i : Int) N = some ((chN (pP M0 k (30 + 13 * c)) (pP M0 k (29 + 13 * c)) (m + 1) (x, made, left, li)).1, M') ∧ F64 M0 M' ∧ M' 359 64 = (chN (pP M0 k (30 + 13 * c)) (pP M0 k (29 + 13 * c)) (m + 1) (x, made, left, li)).2.1 ∧ M' 359 65 = (chN (pP M0 k (30 + 13 * c)) (pP M0 k (29 + 13 * c)) (m + 1) (x, made, left, li)).2.2.1 ∧ M' 359 66 = (chN (pP M0 k (30 + 13 * c)) (pP M0 k (29 + 13 * c)) (m + 1) (x, made, left, li)).2.2.2 := by
      intro N x' made' left' li' eb frN n0 n2 n3
      rw [eb] at hbw
      dsimp only at hbw
      unfold sX12_drawChild_b86
      simp only [ob_s]
      rw [n3, wI_of (x := left') (by omega) (by omega)]
      unfold chN
      rw [eb]
      dsimp only
      by_cases z : left' = 0
      · rw [if_pos z, if_pos z]
        exact ⟨N, rfl, frN, n0, n2, n3⟩
      · rw [if_neg z, if_neg z]
        exact ih (i + 1) (by omega) f (by omega) N x' made' left' li' frN n0 n2 n3 ⟨hbw.1, hbw.2.1⟩ ⟨hbw.2.2.1, hbw.2.2.2⟩
    have dv := dv_b x (n := 10) (by omega)
    rw [sX12_drawChild_b21, fr.2 27 (by omega), h27, hb, wI_of (x := (nb : Int)) (by omega) (by omega), wI_of (x := (i : Int)) (by omega) (by omega), if_neg (by omega), ob_s, drawB _ ⟨by omega, by omega⟩, ob_s]
    dsimp only
    simp only [mU_ne M _ (show (359 : Nat) ≠ 359 ∨ (64 : Nat) ≠ 65 by omega), e0]
    have fN : F64 M0 (mU (mU M 359 65 (M 359 65 + 1)) 359 64 (dxN x)) := F64_u (F64_u fr (by omega)) (by omega)
    have m2 : mU (mU M 359 65 (M 359 65 + 1)) 359 64 (dxN x) 359 65 = made + 1 := by rw [mU_ne _ _ (by omega), mU_eq, e2]
    have m3 : mU (mU M 359 65 (M 359 65 + 1)) 359 64 (dxN x) 359 66 = left := by rw [mU_ne _ _ (by omega), mU_ne _ _ (by omega), e3]
    have m0 : mU (mU M 359 65 (M 359 65 + 1)) 359 64 (dxN x) 359 64 = dxN x := mU_eq _ _ _ _
    generalize mU (mU M 359 65 (M 359 65 + 1)) 359 64 (dxN x) = N at *
    have hdN := F64_HD fN hd
    rw [ofC_e hdN ⟨by omega, by omega⟩ ⟨by omega, by omega⟩, ob_s, ofC_e hdN ⟨by omega, by omega⟩ ⟨by omega, by omega⟩, ob_s, F64_p fN k, show (28 + 13 * (c : Int) + 2).toNat = 30 + 13 * c by omega, show (28 + 13 * (c : Int) + 1).toNat = 29 + 13 * c by omega, m3, wI_of (x := pP M0 k (30 + 13 * c)) (by omega) (by omega), wI_of (x := dvN x 10) (by omega) (by omega), wI_of (x := li) (by omega) (by omega)]
    by_cases z : pP M0 k (30 + 13 * c) ≤ dvN x 10
    · rw [if_pos z]
      exact tail N (dxN x) (made + 1) left li (if_neg (by show ¬ dvN x 10 < _; omega)) fN m0 m2 m3
    · rw [if_neg z]
      unfold sX12_drawChild_b80
      simp only [ob_s]
      have bz : ∀ l : Int, (if li = 0 then max 0 (left - pP M0 k (29 + 13 * c)) else left) = l → bwS (pP M0 k (30 + 13 * c)) (pP M0 k (29 + 13 * c)) (x, made, left, li) = (dxN x, made + 1, l, 0) := fun l hl => by
        unfold bwS
        dsimp only
        rw [if_pos (by omega), hl]
      have hle : sX12_lesser left (pP M0 k (29 + 13 * c)) = min left (pP M0 k (29 + 13 * c)) := by
        unfold sX12_lesser sX12_lesser_b0
        rw [wI_of (x := left) (by omega) (by omega), wI_of (x := pP M0 k (29 + 13 * c)) (by omega) (by omega)]
        split <;> omega
      by_cases z2 : li = 0
      · rw [if_pos z2, hle]
        exact tail (mU N 359 66 _) (dxN x) (made + 1) _ 0 (bz _ (by rw [if_pos z2]; omega)) (F64_u fN (by omega)) (by rw [mU_ne _ _ (by omega)]; exact m0) (by rw [mU_ne _ _ (by omega)]; exact m2) (mU_eq _ _ _ _)
      · rw [if_neg z2]
        exact tail (mU N 359 66 _) (dxN x) (made + 1) _ 0 (bz _ (by rw [if_neg z2]; omega)) (F64_u fN (by omega)) (by rw [mU_ne _ _ (by omega)]; exact m0) (by rw [mU_ne _ _ (by omega)]; exact m2) (mU_eq _ _ _ _)
