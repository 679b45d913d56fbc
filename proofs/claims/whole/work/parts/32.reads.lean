abbrev R32 (x : Int) : Prop := -2147483648 ≤ x ∧ x ≤ 2147483647
theorem it_T {α : Type} {h : Decidable True} (a b : α) : @ite α True h a b = a := if_pos trivial
theorem it_F {α : Type} {h : Decidable False} (a b : α) : @ite α False h a b = b := if_neg (fun q => q)
theorem i1z {α : Type} (a b : α) : (if (1 : Int) = 0 then a else b) = b := if_neg (by omega)
theorem i0z {α : Type} (a b : α) : (if (0 : Int) = 0 then a else b) = a := if_pos rfl
theorem nMs_ {α : Type} (n : Nat) (a : α) (f : Nat → α) : nM (n + 1) a f = f n := rfl
theorem nM0_ {α : Type} (a : α) (f : Nat → α) : nM 0 a f = a := rfl
/-- the reference's row of party k, and what it has in its hand -/
def pP (M : MM) (k : Nat) : Nat → Int := fun j => M 365 (132 * k + j)
def bB (M : MM) (k : Nat) : Nat → Int := fun j => M 366 (121 * k + j)
def cC (M : MM) (k : Nat) : Nat → Int := fun j => M 367 (33 * k + j)
def dD (M : MM) (k : Nat) : Nat → Int := fun j => M 368 (51 * k + j)
def rR (M : MM) (k : Nat) : Nat → Int := fun j => M 369 (97 * k + j)
theorem i_party {M : MM} (h : INV M) {k : Nat} (hk : (k : Int) < M 364 0) : PC M (9 + 34 * k) (pP M k) ∧ PV (pP M k) := by
  have := h.2.1.2.2.2.2.1 k (by simpa using hk)
  simp [tB_0] at this; exact this
theorem i_book {M : MM} (h : INV M) {k : Nat} (hk : (k : Int) < M 364 1) : BC M (20 + 34 * k) (bB M k) ∧ BV (bB M k) := by
  have := h.2.1.2.2.2.2.2.1 k (by simpa using hk)
  simp [tB_0] at this; exact this
theorem i_clues {M : MM} (h : INV M) {k : Nat} (hk : (k : Int) < M 364 2) : CC M (24 + 34 * k) (cC M k) ∧ CV (cC M k) := by
  have := h.2.1.2.2.2.2.2.2.1 k (by simpa using hk)
  simp [tB_0] at this; exact this
theorem i_ground {M : MM} (h : INV M) {k : Nat} (hk : (k : Int) < M 364 3) : DC M (30 + 34 * k) (dD M k) ∧ DV (dD M k) := by
  have := h.2.1.2.2.2.2.2.2.2.1 k (by simpa using hk)
  simp [tB_0] at this; exact this
theorem i_record {M : MM} (h : INV M) {k : Nat} (hk : (k : Int) < M 364 4) : RC M (34 + 34 * k) (rR M k) ∧ RV (rR M k) := by
  have := h.2.1.2.2.2.2.2.2.2.2 k (by simpa using hk)
  simp [tB_0] at this; exact this
theorem i_size {M : MM} (h : INV M) {s : Nat} (hs : s < 5) : M 3 s = M 364 s ∧ 0 ≤ M 364 s ∧ M 364 s ≤ 2 := by
  have := h.2.1.2.2.2.1 s hs
  simpa [tB_0] using this
theorem i_len {M : MM} (h : INV M) : M 1 1 = M 361 0 ∧ 0 ≤ M 361 0 ∧ M 361 0 ≤ 600 := by
  have := h.2.1.1
  simpa [tB_0] using this
theorem i_flt {M : MM} (h : INV M) : M 1 2 = M 362 0 ∧ M 1 3 = M 363 0 := by
  have := h.2.1.2.1
  simpa [tB_0] using this
/-- where the class keeps what is asked of -/
theorem a_party {M : MM} (h : INV M) {x : Int} (r : R32 x) : (∃ k : Nat, k < 2 ∧ x = (k : Int) ∧ (k : Int) < M 364 0 ∧ sX11_partyAt 0 x M = some (9 + 34 * k + 1)) ∨ (¬ (0 ≤ x ∧ x < M 364 0) ∧ sX11_partyAt 0 x M = some 0) := by
  have hs := i_size h (s := 0) (by omega)
  have e0 : gR (gR 0 0) 4 = 3 := by rw [g0_0, g1_4]
  unfold sX11_partyAt sX11_partyAt_b0
  rw [e0, hs.1, wI_of r.1 r.2, wI_of (by omega) (by omega)]
  by_cases h1 : x < 0
  · right; rw [if_pos h1]; exact ⟨by omega, rfl⟩
  by_cases h2 : M 364 0 ≤ x
  · right; rw [if_neg h1, if_pos h2]; exact ⟨by omega, rfl⟩
  left
  obtain ⟨k, rfl⟩ := Int.eq_ofNat_of_zero_le (show 0 ≤ x by omega)
  have hk : k < 2 := by omega
  refine ⟨k, hk, rfl, by omega, ?_⟩
  have hg := gB_k 0 (by omega) k hk
  rw [if_neg h1, if_neg h2, if_pos ⟨by omega, by omega⟩, g0_0, g1_5, tN]
  rw [tB_0] at hg
  rw [hg.1]
theorem a_book {M : MM} (h : INV M) {x : Int} (r : R32 x) : (∃ k : Nat, k < 2 ∧ x = (k : Int) ∧ (k : Int) < M 364 1 ∧ sX11_bookAt 0 x M = some (20 + 34 * k + 1)) ∨ (¬ (0 ≤ x ∧ x < M 364 1) ∧ sX11_bookAt 0 x M = some 0) := by
  have hs := i_size h (s := 1) (by omega)
  have e0 : gR (gR 0 0) 4 = 3 := by rw [g0_0, g1_4]
  unfold sX11_bookAt sX11_bookAt_b0
  rw [e0, hs.1, wI_of r.1 r.2, wI_of (by omega) (by omega)]
  by_cases h1 : x < 0
  · right; rw [if_pos h1]; exact ⟨by omega, rfl⟩
  by_cases h2 : M 364 1 ≤ x
  · right; rw [if_neg h1, if_pos h2]; exact ⟨by omega, rfl⟩
  left
  obtain ⟨k, rfl⟩ := Int.eq_ofNat_of_zero_le (show 0 ≤ x by omega)
  have hk : k < 2 := by omega
  refine ⟨k, hk, rfl, by omega, ?_⟩
  have hg := gB_k 0 (by omega) k hk
  rw [if_neg h1, if_neg h2, if_pos ⟨by omega, by omega⟩, g0_0, g1_6, tN]
  rw [tB_0] at hg
  rw [hg.2.1]
theorem a_clues {M : MM} (h : INV M) {x : Int} (r : R32 x) : (∃ k : Nat, k < 2 ∧ x = (k : Int) ∧ (k : Int) < M 364 2 ∧ sX11_cluesAt 0 x M = some (24 + 34 * k + 1)) ∨ (¬ (0 ≤ x ∧ x < M 364 2) ∧ sX11_cluesAt 0 x M = some 0) := by
  have hs := i_size h (s := 2) (by omega)
  have e0 : gR (gR 0 0) 4 = 3 := by rw [g0_0, g1_4]
  unfold sX11_cluesAt sX11_cluesAt_b0
  rw [e0, hs.1, wI_of r.1 r.2, wI_of (by omega) (by omega)]
  by_cases h1 : x < 0
  · right; rw [if_pos h1]; exact ⟨by omega, rfl⟩
  by_cases h2 : M 364 2 ≤ x
  · right; rw [if_neg h1, if_pos h2]; exact ⟨by omega, rfl⟩
  left
  obtain ⟨k, rfl⟩ := Int.eq_ofNat_of_zero_le (show 0 ≤ x by omega)
  have hk : k < 2 := by omega
  refine ⟨k, hk, rfl, by omega, ?_⟩
  have hg := gB_k 0 (by omega) k hk
  rw [if_neg h1, if_neg h2, if_pos ⟨by omega, by omega⟩, g0_0, g1_7, tN]
  rw [tB_0] at hg
  rw [hg.2.2.1]
theorem a_ground {M : MM} (h : INV M) {x : Int} (r : R32 x) : (∃ k : Nat, k < 2 ∧ x = (k : Int) ∧ (k : Int) < M 364 3 ∧ sX11_groundAt 0 x M = some (30 + 34 * k + 1)) ∨ (¬ (0 ≤ x ∧ x < M 364 3) ∧ sX11_groundAt 0 x M = some 0) := by
  have hs := i_size h (s := 3) (by omega)
  have e0 : gR (gR 0 0) 4 = 3 := by rw [g0_0, g1_4]
  unfold sX11_groundAt sX11_groundAt_b0
  rw [e0, hs.1, wI_of r.1 r.2, wI_of (by omega) (by omega)]
  by_cases h1 : x < 0
  · right; rw [if_pos h1]; exact ⟨by omega, rfl⟩
  by_cases h2 : M 364 3 ≤ x
  · right; rw [if_neg h1, if_pos h2]; exact ⟨by omega, rfl⟩
  left
  obtain ⟨k, rfl⟩ := Int.eq_ofNat_of_zero_le (show 0 ≤ x by omega)
  have hk : k < 2 := by omega
  refine ⟨k, hk, rfl, by omega, ?_⟩
  have hg := gB_k 0 (by omega) k hk
  rw [if_neg h1, if_neg h2, if_pos ⟨by omega, by omega⟩, g0_0, g1_8, tN]
  rw [tB_0] at hg
  rw [hg.2.2.2.1]
theorem a_record {M : MM} (h : INV M) {x : Int} (r : R32 x) : (∃ k : Nat, k < 2 ∧ x = (k : Int) ∧ (k : Int) < M 364 4 ∧ sX11_tallyAt 0 x M = some (34 + 34 * k + 1)) ∨ (¬ (0 ≤ x ∧ x < M 364 4) ∧ sX11_tallyAt 0 x M = some 0) := by
  have hs := i_size h (s := 4) (by omega)
  have e0 : gR (gR 0 0) 4 = 3 := by rw [g0_0, g1_4]
  unfold sX11_tallyAt sX11_tallyAt_b0
  rw [e0, hs.1, wI_of r.1 r.2, wI_of (by omega) (by omega)]
  by_cases h1 : x < 0
  · right; rw [if_pos h1]; exact ⟨by omega, rfl⟩
  by_cases h2 : M 364 4 ≤ x
  · right; rw [if_neg h1, if_pos h2]; exact ⟨by omega, rfl⟩
  left
  obtain ⟨k, rfl⟩ := Int.eq_ofNat_of_zero_le (show 0 ≤ x by omega)
  have hk : k < 2 := by omega
  refine ⟨k, hk, rfl, by omega, ?_⟩
  have hg := gB_k 0 (by omega) k hk
  rw [if_neg h1, if_neg h2, if_pos ⟨by omega, by omega⟩, g0_0, g1_9, tN]
  rw [tB_0] at hg
  rw [hg.2.2.2.2]
/-- the reference: in, is, hand, of -/
theorem in_t {x a b : Int} (rx : R32 x) (ra : R32 a) (rb : R32 b) (h : a ≤ x ∧ x ≤ b) : sX12_in x a b = 1 := by
  unfold sX12_in sX12_in_b0
  rw [wI_of rx.1 rx.2, wI_of ra.1 ra.2, wI_of rb.1 rb.2, if_neg (by omega), if_neg (by omega)]
theorem in_f {x a b : Int} (rx : R32 x) (ra : R32 a) (rb : R32 b) (h : ¬ (a ≤ x ∧ x ≤ b)) : sX12_in x a b = 0 := by
  unfold sX12_in sX12_in_b0
  rw [wI_of rx.1 rx.2, wI_of ra.1 ra.2, wI_of rb.1 rb.2]
  by_cases h1 : x < a
  · rw [if_pos h1]
  · rw [if_neg h1, if_pos (by omega)]
theorem wI_1 : wI 1 = 1 := wI_of (by omega) (by omega)
theorem wI_m1 : wI (-1) = -1 := wI_of (by omega) (by omega)
theorem is_t {M : MM} {s : Nat} {x : Int} (hs : s < 5) (rx : R32 x) (hm : 0 ≤ M 364 s ∧ M 364 s ≤ 2) (h : 0 ≤ x ∧ x < M 364 s) : sX12_is 359 (s : Int) x M = some 1 := by
  unfold sX12_is sX12_is_b0
  rw [wI_of (x := (s : Int)) (by omega) (by omega), if_pos ⟨by omega, by omega⟩, g359_5, tN, in_t rx ⟨by omega, by omega⟩ ⟨by omega, by omega⟩ ⟨by omega, by omega⟩]
  rfl
theorem is_f {M : MM} {s : Nat} {x : Int} (hs : s < 5) (rx : R32 x) (hm : 0 ≤ M 364 s ∧ M 364 s ≤ 2) (h : ¬ (0 ≤ x ∧ x < M 364 s)) : sX12_is 359 (s : Int) x M = some 0 := by
  unfold sX12_is sX12_is_b0
  rw [wI_of (x := (s : Int)) (by omega) (by omega), if_pos ⟨by omega, by omega⟩, g359_5, tN, in_f rx ⟨by omega, by omega⟩ ⟨by omega, by omega⟩ (by omega)]
  rfl
/-- the reference has party k in its hand -/
def HD (M : MM) (k : Nat) : Prop := k < 2 ∧ M 359 24 = (k : Int) ∧ M 359 25 = pP M k 0 ∧ M 359 26 = pP M k 1 ∧ M 359 27 = pP M k 2 ∧ M 359 28 = pP M k 3
theorem of_k {M : MM} {k : Nat} (hk : k < 2) (h : M 359 24 = (k : Int)) {x : Int} (hx : 0 ≤ x ∧ x < 132) : sX12_of 359 x M = some (pP M k x.toNat) := by
  obtain ⟨i, rfl⟩ := Int.eq_ofNat_of_zero_le hx.1
  unfold sX12_of sX12_of_b0 pP
  rw [h, wI_of (by omega) (by omega), if_pos ⟨by omega, by omega⟩, g359_6, tN, show (132 * (k : Int) + (i : Int)).toNat = 132 * k + i by omega]
theorem of_e {M : MM} {k : Nat} (h : HD M k) {x : Int} (hx : 0 ≤ x ∧ x < 132) : sX12_of 359 x M = some (pP M k x.toNat) := of_k h.1 h.2.1 hx
theorem ofC_e {M : MM} {k : Nat} (h : HD M k) {x y : Int} (hx : 0 ≤ x ∧ x < 8) (hy : 0 ≤ y ∧ y < 13) : sX12_ofChild 359 x y M = some (pP M k (28 + 13 * x + y).toNat) := by
  unfold sX12_ofChild sX12_ofChild_b0
  rw [of_e h ⟨by omega, by omega⟩, ob_s]
theorem pP_c {M M' : MM} (h : M' 365 = M 365) (k : Nat) : pP M' k = pP M k := by unfold pP; rw [h]
theorem HD_c {M M' : MM} {k : Nat} (h : HD M k) (e : M' 365 = M 365) (e' : ∀ j, 24 ≤ j → j ≤ 28 → M' 359 j = M 359 j) : HD M' k := by
  obtain ⟨h0, h1, h2, h3, h4, h5⟩ := h
  unfold HD
  rw [pP_c e, e' 24 (by omega) (by omega), e' 25 (by omega) (by omega), e' 26 (by omega) (by omega), e' 27 (by omega) (by omega), e' 28 (by omega) (by omega)]
  exact ⟨h0, h1, h2, h3, h4, h5⟩
theorem HD_u {M : MM} {k b j : Nat} {x : Int} (h : HD M k) (hb : b ≠ 365 ∧ (b ≠ 359 ∨ j < 24 ∨ 28 < j)) : HD (mU M b j x) k := HD_c h (mU_row M x (by omega)) (fun i hi hj => mU_ne M x (by omega))
/-- changed in the reference's fields 24 .. 28 alone -/
def F24 (M M' : MM) : Prop := (∀ a, a ≠ 359 → M' a = M a) ∧ ∀ j, j < 24 ∨ 28 < j → M' 359 j = M 359 j
theorem F24_FR {M M' : MM} (h : F24 M M') : FR M M' := fun a ha _ => h.1 a ha
theorem hand_f {M : MM} (h : 0 ≤ M 364 0 ∧ M 364 0 ≤ 2) {x : Int} (r : R32 x) (hx : ¬ (0 ≤ x ∧ x < M 364 0)) : sX12_hand 359 x M = some (0, M) := by
  unfold sX12_hand sX12_hand_b0
  rw [show (0 : Int) = ((0 : Nat) : Int) from rfl, is_f (by omega) r h hx, ob_s]
  rfl
theorem hand_t {M : MM} (h : 0 ≤ M 364 0 ∧ M 364 0 ≤ 2) {k : Nat} (hk : (k : Int) < M 364 0) : ∃ M', sX12_hand 359 (k : Int) M = some (1, M') ∧ F24 M M' ∧ HD M' k := by
  have hk2 : k < 2 := by omega
  have hi := is_t (M := M) (s := 0) (x := (k : Int)) (by omega) ⟨by omega, by omega⟩ h ⟨by omega, by omega⟩
  unfold sX12_hand sX12_hand_b0
  rw [show sX12_is 359 0 (k : Int) M = some 1 from hi, ob_s, wI_1, i1z, ob_s]
  rw [of_k hk2 (mU_eq M 359 24 _) (x := 0) ⟨by omega, by omega⟩, ob_s, ob_s]
  rw [of_k hk2 (k := k) (by rw [mU_ne _ _ (by omega), mU_eq]) (x := 1) ⟨by omega, by omega⟩, ob_s, ob_s]
  rw [of_k hk2 (k := k) (by rw [mU_ne _ _ (by omega), mU_ne _ _ (by omega), mU_eq]) (x := 2) ⟨by omega, by omega⟩, ob_s, ob_s]
  rw [of_k hk2 (k := k) (by rw [mU_ne _ _ (by omega), mU_ne _ _ (by omega), mU_ne _ _ (by omega), mU_eq]) (x := 3) ⟨by omega, by omega⟩, ob_s, ob_s]
  refine ⟨_, rfl, ⟨fun a ha => ?_, fun j hj => ?_⟩, hk2, ?_, ?_, ?_, ?_, ?_⟩
  · rw [mU_row _ _ ha, mU_row _ _ ha, mU_row _ _ ha, mU_row _ _ ha, mU_row _ _ ha]
  · rw [mU_ne _ _ (by omega), mU_ne _ _ (by omega), mU_ne _ _ (by omega), mU_ne _ _ (by omega), mU_ne _ _ (by omega)]
  all_goals simp [pP, mU]
theorem i10 {α : Type} (a b : α) : (if wI 1 = 0 then a else b) = b := by rw [wI_1]; exact if_neg (by omega)
theorem i00 {α : Type} (a b : α) : (if wI 0 = 0 then a else b) = a := if_pos wI_0
