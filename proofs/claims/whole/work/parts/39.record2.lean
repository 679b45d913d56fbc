/-- shouts of a child among the first n, and his true ones -/
def shN (R : Nat → Int) (c : Int) (n : Nat) : Int := sm (fun j => if R (2 + 2 * j) = c then 1 else 0) n
def shT (R : Nat → Int) (c : Int) (n : Nat) : Int := sm (fun j => if R (2 + 2 * j) = c then R (3 + 2 * j) else 0) n
theorem shN_b (R : Nat → Int) (c : Int) (n : Nat) : 0 ≤ shN R c n ∧ shN R c n ≤ (n : Int) := sm_01 (fun k _ => by by_cases h : R (2 + 2 * k) = c <;> simp [h])
theorem shT_b {R : Nat → Int} (c : Int) {n : Nat} (hv : ∀ j, j < n → 0 ≤ R (3 + 2 * j) ∧ R (3 + 2 * j) ≤ 1) : 0 ≤ shT R c n ∧ shT R c n ≤ (n : Int) := sm_01 (fun k hk => by have := hv k hk; by_cases h : R (2 + 2 * k) = c <;> simp [h] <;> omega)
theorem shA {M : MM} {k : Nat} (hk : k < 2) (hc : RC M (34 + 34 * k) (rR M k)) (hv : RV (rR M k)) {n : Nat} (hn : rR M k 0 = (n : Int)) {c : Int} (rc : R32 c) : sX8_shoutsOf (34 + 34 * k) c M = some (shN (rR M k) c n) := by
  obtain ⟨v1, v2, v3, v4, v5, v6⟩ := hv
  obtain ⟨g1, g2, g3, l1, l2, l3⟩ := LG_sk k hk
  have h4 : M (35 + 34 * k) 4 = (n : Int) := by rw [show 35 + 34 * k = 34 + 34 * k + 1 by omega, hc.1, hn]
  unfold sX8_shoutsOf sX8_shoutsOf_b0
  refine loopC (fun f x (s : Int) => sX8_shoutsOf_b4 (34 + 34 * k) c M f s x) n (fun j s => s = shN (rR M k) c j) (fun o => o = some (shN (rR M k) c n)) ?_ ?_ FU 0 0 (by omega) rfl (by unfold FU; omega)
  · intro f s hs
    show sX8_shoutsOf_b4 (34 + 34 * k) c M (f + 1) s n = _
    rw [sX8_shoutsOf_b4, (gT_k k hk).1, h4, if_pos (Int.le_refl _), hs]
  · intro f j s hj hs
    right
    refine ⟨s + (if rR M k (2 + 2 * j) = c then 1 else 0), ?_, by rw [hs]; rfl⟩
    have w := hc.2.2.1 j (by omega)
    have b := v5 j (by omega)
    show sX8_shoutsOf_b4 (34 + 34 * k) c M (f + 1) s j = _
    rw [sX8_shoutsOf_b4, (gT_k k hk).1, h4, g2, l2, wI_of (x := (n : Int)) (by omega) (by omega), wI_of (x := (j : Int)) (by omega) (by omega), if_neg (by omega), if_pos (by omega), tN, show 35 + 34 * k + 2 = 34 + 34 * k + 3 by omega, w.1, wI_of (x := rR M k (2 + 2 * j)) (by omega) (by omega), wI_of rc.1 rc.2]
    unfold sX8_shoutsOf_b31
    rw [ob_s, ob_s, ob_s]
    by_cases h : rR M k (2 + 2 * j) = c
    · rw [if_pos h, if_pos h]
    · rw [if_neg h, if_neg h, Int.add_zero]
theorem shTA {M : MM} {k : Nat} (hk : k < 2) (hc : RC M (34 + 34 * k) (rR M k)) (hv : RV (rR M k)) {n : Nat} (hn : rR M k 0 = (n : Int)) {c : Int} (rc : R32 c) : sX8_trueShoutsOf (34 + 34 * k) c M = some (shT (rR M k) c n) := by
  obtain ⟨v1, v2, v3, v4, v5, v6⟩ := hv
  obtain ⟨g1, g2, g3, l1, l2, l3⟩ := LG_sk k hk
  have h4 : M (35 + 34 * k) 4 = (n : Int) := by rw [show 35 + 34 * k = 34 + 34 * k + 1 by omega, hc.1, hn]
  unfold sX8_trueShoutsOf sX8_trueShoutsOf_b0
  refine loopC (fun f x (s : Int) => sX8_trueShoutsOf_b4 (34 + 34 * k) c M f s x) n (fun j s => s = shT (rR M k) c j) (fun o => o = some (shT (rR M k) c n)) ?_ ?_ FU 0 0 (by omega) rfl (by unfold FU; omega)
  · intro f s hs
    show sX8_trueShoutsOf_b4 (34 + 34 * k) c M (f + 1) s n = _
    rw [sX8_trueShoutsOf_b4, (gT_k k hk).1, h4, if_pos (Int.le_refl _), hs]
  · intro f j s hj hs
    right
    refine ⟨s + (if rR M k (2 + 2 * j) = c then rR M k (3 + 2 * j) else 0), ?_, by rw [hs]; rfl⟩
    have w := hc.2.2.1 j (by omega)
    have hj40 : 0 ≤ (j : Int) ∧ (j : Int) < ((40 : Nat) : Int) := ⟨by omega, by omega⟩
    have b := v5 j (by omega)
    show sX8_trueShoutsOf_b4 (34 + 34 * k) c M (f + 1) s j = _
    rw [sX8_trueShoutsOf_b4, (gT_k k hk).1, h4, g2, l2, g3, l3, wI_of (x := (n : Int)) (by omega) (by omega), wI_of (x := (j : Int)) (by omega) (by omega), if_neg (by omega), if_pos hj40, tN, show 35 + 34 * k + 2 = 34 + 34 * k + 3 by omega, show 35 + 34 * k + 3 = 34 + 34 * k + 4 by omega, w.1, w.2, wI_of (x := rR M k (2 + 2 * j)) (by omega) (by omega), wI_of rc.1 rc.2, if_pos hj40]
    unfold sX8_trueShoutsOf_b40
    rw [ob_s, ob_s, ob_s]
    by_cases h : rR M k (2 + 2 * j) = c
    · rw [if_pos h, if_pos h]
    · rw [if_neg h, if_neg h, Int.add_zero]
theorem shB {M : MM} {k : Nat} (hk : k < 2) (h : M 359 63 = (k : Int)) (hv : RV (rR M k)) {n : Nat} (hn : rR M k 0 = (n : Int)) {c : Int} (rc : R32 c) : sX12_shoutsOf 359 c 0 M = some (shN (rR M k) c n) := by
  obtain ⟨v1, v2, v3, v4, v5, v6⟩ := hv
  unfold sX12_shoutsOf sX12_shoutsOf_b0
  refine loopC (fun f x (s : Int) => sX12_shoutsOf_b5 359 c 0 M f s x) n (fun j s => s = shN (rR M k) c j) (fun o => o = some (shN (rR M k) c n)) ?_ ?_ FU 0 0 (by omega) rfl (by unfold FU; omega)
  · intro f s hs
    show sX12_shoutsOf_b5 359 c 0 M (f + 1) s n = _
    rw [sX12_shoutsOf_b5, ofR_e hk h ⟨by omega, by omega⟩, ob_s, show (0 : Int).toNat = 0 from rfl, hn, if_pos (Int.le_refl _), hs]
  · intro f j s hj hs
    right
    refine ⟨s + (if rR M k (2 + 2 * j) = c then 1 else 0), ?_, by rw [hs]; rfl⟩
    have b := v5 j (by omega)
    show sX12_shoutsOf_b5 359 c 0 M (f + 1) s j = _
    rw [sX12_shoutsOf_b5, ofR_e hk h ⟨by omega, by omega⟩, ob_s, show (0 : Int).toNat = 0 from rfl, hn, wI_of (x := (n : Int)) (by omega) (by omega), wI_of (x := (j : Int)) (by omega) (by omega), if_neg (by omega), ofR_e hk h ⟨by omega, by omega⟩, ob_s, show (2 + 2 * (j : Int)).toNat = 2 + 2 * j by omega, wI_of (x := rR M k (2 + 2 * j)) (by omega) (by omega), wI_of rc.1 rc.2, wI_0]
    unfold sX12_shoutsOf_b50 sX12_shoutsOf_b54 sX12_shoutsOf_b55
    rw [ob_s, ob_s]
    by_cases h : rR M k (2 + 2 * j) = c
    · rw [if_pos h, if_pos h, if_pos rfl]
    · rw [if_neg h, if_neg h]
theorem shTB {M : MM} {k : Nat} (hk : k < 2) (h : M 359 63 = (k : Int)) (hv : RV (rR M k)) {n : Nat} (hn : rR M k 0 = (n : Int)) {c : Int} (rc : R32 c) : sX12_shoutsOf 359 c 1 M = some (shT (rR M k) c n) := by
  obtain ⟨v1, v2, v3, v4, v5, v6⟩ := hv
  unfold sX12_shoutsOf sX12_shoutsOf_b0
  refine loopC (fun f x (s : Int) => sX12_shoutsOf_b5 359 c 1 M f s x) n (fun j s => s = shT (rR M k) c j) (fun o => o = some (shT (rR M k) c n)) ?_ ?_ FU 0 0 (by omega) rfl (by unfold FU; omega)
  · intro f s hs
    show sX12_shoutsOf_b5 359 c 1 M (f + 1) s n = _
    rw [sX12_shoutsOf_b5, ofR_e hk h ⟨by omega, by omega⟩, ob_s, show (0 : Int).toNat = 0 from rfl, hn, if_pos (Int.le_refl _), hs]
  · intro f j s hj hs
    right
    refine ⟨s + (if rR M k (2 + 2 * j) = c then rR M k (3 + 2 * j) else 0), ?_, by rw [hs]; rfl⟩
    have b := v5 j (by omega)
    show sX12_shoutsOf_b5 359 c 1 M (f + 1) s j = _
    rw [sX12_shoutsOf_b5, ofR_e hk h ⟨by omega, by omega⟩, ob_s, show (0 : Int).toNat = 0 from rfl, hn, wI_of (x := (n : Int)) (by omega) (by omega), wI_of (x := (j : Int)) (by omega) (by omega), if_neg (by omega), ofR_e hk h ⟨by omega, by omega⟩, ob_s, show (2 + 2 * (j : Int)).toNat = 2 + 2 * j by omega, wI_of (x := rR M k (2 + 2 * j)) (by omega) (by omega), wI_of rc.1 rc.2, wI_1, ofR_e hk h ⟨by omega, by omega⟩, ob_s, show (2 + 2 * (j : Int) + 1).toNat = 3 + 2 * j by omega, wI_of (x := rR M k (3 + 2 * j)) (by omega) (by omega)]
    unfold sX12_shoutsOf_b50 sX12_shoutsOf_b54 sX12_shoutsOf_b55
    rw [ob_s, ob_s]
    by_cases h : rR M k (2 + 2 * j) = c
    · rw [if_pos h, if_pos h, if_neg (by omega)]
      by_cases h' : rR M k (3 + 2 * j) = 1
      · rw [if_pos h', h']
      · rw [if_neg h', show rR M k (3 + 2 * j) = 0 by omega]
    · rw [if_neg h, if_neg h]
theorem e_trust {M : MM} (h : INV M) {x1 x2 x3 : Int} (r1 : R32 x1) (r2 : R32 x2) : ∃ v v' M2, sX11_trust 0 x1 x2 x3 M = some v ∧ sX12_trust 359 x1 x2 x3 M = some (v', M2) ∧ wI v = wI v' ∧ INV M2 := by
  have hb := has_r (M := mU M 359 0 0) (x := x1) (by rw [m0_364]; exact (i_size h (s := 4) (by omega)).2) r1
  have hI : INV (mU (mU M 359 0 0) 359 63 x1) := INV_2 (FR_u (FR_0 M) (by omega)) h
  unfold sX11_trust sX11_trust_b0 sX12_trust sX12_trust_b0
  rw [ob_s, hb, ob_s, m0_364, wI_of r2.1 r2.2]
  rcases a_record h r1 with ⟨k, hk, rfl, hlt, e⟩ | ⟨hn, e⟩
  · rw [e, ob_s, nMs_]
    obtain ⟨hc, hv⟩ := i_record h hlt
    rw [if_pos (show 0 ≤ (k : Int) ∧ (k : Int) < M 364 4 from ⟨by omega, hlt⟩)]
    show ∃ v v' M2, _ ∧ (if wI 1 = 0 then _ else _) = _ ∧ _
    rw [i10]
    have eb : rR (mU (mU M 359 0 0) 359 63 (k : Int)) k = rR M k := by unfold rR; rw [mU_row _ _ (by omega), mU_row _ _ (by omega)]
    have h63 : mU (mU M 359 0 0) 359 63 (k : Int) 359 63 = (k : Int) := mU_eq _ _ _ _
    obtain ⟨n, hn⟩ := Int.eq_ofNat_of_zero_le hv.1
    have hn40 := hv.2.1
    have s1 := shN_b (rR M k) x2 n
    have s2 := shT_b (R := rR M k) x2 (n := n) (fun j hj => by have := hv.2.2.2.2.1 j (by omega); omega)
    have hv' : RV (rR (mU (mU M 359 0 0) 359 63 (k : Int)) k) := by rw [eb]; exact hv
    have hn' : rR (mU (mU M 359 0 0) 359 63 (k : Int)) k 0 = (n : Int) := by rw [eb]; exact hn
    rw [shB hk h63 hv' hn' r2, ob_s, shTB hk h63 hv' hn' r2, ob_s, ob_s, eb, shA hk hc hv hn r2, ob_s, shTA hk hc hv hn r2, ob_s, wI_of (x := shN (rR M k) x2 n) (by omega) (by omega), wI_of (x := shT (rR M k) x2 n) (by omega) (by omega)]
    by_cases z : shN (rR M k) x2 n = 0
    · rw [if_pos z, if_pos z]
      refine ⟨-1, -1, _, ?_, rfl, rfl, hI⟩
      by_cases b : x2 < 0
      · rw [if_pos b]
      · rw [if_neg b]
        by_cases b' : x2 < 8
        · rw [if_pos b']
        · rw [if_neg b']
    · have hx : 0 ≤ x2 ∧ x2 < 8 := by
        by_cases q : 0 ≤ x2 ∧ x2 < 8
        · exact q
        · exfalso
          apply z
          have : shN (rR M k) x2 n = sm (fun _ => 0) n := sm_ext (fun j hj => by
            have := hv.2.2.2.2.1 j (by omega)
            show (if rR M k (2 + 2 * j) = x2 then (1 : Int) else 0) = 0
            rw [if_neg (by omega)])
          rw [this]
          have := sm_b (f := fun _ => 0) (n := n) (B := 0) (fun _ _ => ⟨by omega, by omega⟩)
          omega
      rw [if_neg (by omega), if_pos hx.2, if_neg z, if_neg z]
      obtain ⟨v, e1, e2⟩ := fr_eqi (n := shT (rR M k) x2 n) (d := shN (rR M k) x2 n) ⟨s2.1, by omega⟩ ⟨by omega, by omega⟩ x3
      rw [e1, e2]
      exact ⟨_, _, _, rfl, rfl, rfl, hI⟩
  · rw [e, ob_s, nM0_, if_neg hn]
    exact ⟨-1, -1, _, rfl, rfl, rfl, hI⟩
/-- who is trusted most among the first c -/
def hM (R : Nat → Int) (n : Nat) (c : Nat) : Int := fo (fun c b => if 0 < shN R c n ∧ (b = -1 ∨ shT R b n * shN R c n < shT R c n * shN R b n) then (c : Int) else b) c (-1)
theorem hM_b (R : Nat → Int) (n : Nat) (c : Nat) : hM R n c = -1 ∨ (0 ≤ hM R n c ∧ hM R n c < (c : Int)) := by
  induction c with
  | zero => left; rfl
  | succ c ih =>
    unfold hM at *
    rw [fo_s]
    split
    · right; omega
    · omega
theorem mul_b {a b : Int} (ha : 0 ≤ a ∧ a ≤ 40) (hb : 0 ≤ b ∧ b ≤ 40) : 0 ≤ a * b ∧ a * b ≤ 1600 := by
  refine ⟨Int.mul_nonneg ha.1 hb.1, ?_⟩
  have := Int.mul_le_mul ha.2 hb.2 hb.1 (by omega)
  omega
theorem heldA {M : MM} {k : Nat} (hk : k < 2) (hc : RC M (34 + 34 * k) (rR M k)) (hv : RV (rR M k)) {n : Nat} (hn : rR M k 0 = (n : Int)) : sX8_held (34 + 34 * k) M = some (hM (rR M k) n 8) := by
  have hn40 := hv.2.1
  have hT : ∀ c : Int, 0 ≤ shT (rR M k) c n ∧ shT (rR M k) c n ≤ (n : Int) := fun c => shT_b c (fun j hj => by have := hv.2.2.2.2.1 j (by omega); omega)
  have hN : ∀ c : Int, 0 ≤ shN (rR M k) c n ∧ shN (rR M k) c n ≤ (n : Int) := fun c => shN_b _ c n
  unfold sX8_held sX8_held_b0
  refine loopC (fun f x (s : Int × Int × Int) => sX8_held_b9 (34 + 34 * k) M f s.1 s.2.1 s.2.2 x) 8 (fun c s => s.1 = hM (rR M k) n c ∧ (s.1 ≠ -1 → s.2.1 = shT (rR M k) s.1 n ∧ s.2.2 = shN (rR M k) s.1 n)) (fun o => o = some (hM (rR M k) n 8)) ?_ ?_ FU 0 (-1, 0, 1) (by omega) ⟨rfl, fun h => absurd rfl h⟩ (by unfold FU; omega)
  · intro f s hs
    show sX8_held_b9 (34 + 34 * k) M (f + 1) s.1 s.2.1 s.2.2 ((8 : Nat) : Int) = _
    rw [sX8_held_b9, wI_of (by omega) (by omega), if_pos (by omega), hs.1]
  · intro f c s hc8 hs
    right
    have q1 := hN (c : Int)
    have q2 := hT (c : Int)
    obtain ⟨b, t, a⟩ := s
    obtain ⟨hs1, hs2⟩ := hs
    simp only at hs1 hs2
    have hb := hM_b (rR M k) n c
    have e : hM (rR M k) n (c + 1) = if 0 < shN (rR M k) c n ∧ (b = -1 ∨ shT (rR M k) b n * shN (rR M k) c n < shT (rR M k) c n * shN (rR M k) b n) then (c : Int) else b := by rw [hs1]; rfl
    have q3 := hN b
    have q4 := hT b
    have p1 := mul_b (a := shT (rR M k) c n) (b := shN (rR M k) b n) (by omega) (by omega)
    have p2 := mul_b (a := shT (rR M k) b n) (b := shN (rR M k) c n) (by omega) (by omega)
    rw [e]
    show ∃ s', sX8_held_b9 (34 + 34 * k) M (f + 1) b t a (c : Int) = _ ∧ _
    rw [sX8_held_b9, wI_of (x := (c : Int)) (by omega) (by omega), if_neg (by omega), shA hk hc hv hn ⟨by omega, by omega⟩, ob_s, shTA hk hc hv hn ⟨by omega, by omega⟩, ob_s, wI_of (x := shN (rR M k) c n) (by omega) (by omega), wI_of (x := b) (by omega) (by omega)]
    unfold sX8_held_b53 sX8_held_b62
    rw [ob_s, ob_s]
    by_cases z : shN (rR M k) c n ≤ 0
    · rw [if_pos z, if_neg (by omega)]
      exact ⟨(b, t, a), rfl, rfl, hs2⟩
    · rw [if_neg z]
      by_cases z1 : b = -1
      · rw [if_pos z1, if_pos ⟨by omega, Or.inl z1⟩]
        exact ⟨((c : Int), shT (rR M k) c n, shN (rR M k) c n), rfl, rfl, fun _ => ⟨rfl, rfl⟩⟩
      · rw [if_neg z1]
        obtain ⟨ht, ha⟩ := hs2 z1
        rw [ht, ha, wI_of (by omega) (by omega), wI_of (by omega) (by omega)]
        by_cases z2 : shT (rR M k) c n * shN (rR M k) b n ≤ shT (rR M k) b n * shN (rR M k) c n
        · rw [if_pos z2, if_neg (by omega)]
          exact ⟨(b, t, a), by rw [ht, ha], rfl, hs2⟩
        · rw [if_neg z2, if_pos ⟨by omega, Or.inr (by omega)⟩]
          exact ⟨((c : Int), shT (rR M k) c n, shN (rR M k) c n), rfl, rfl, fun _ => ⟨rfl, rfl⟩⟩
theorem heldB {M : MM} {k : Nat} (hk : k < 2) (h : M 359 63 = (k : Int)) (hv : RV (rR M k)) {n : Nat} (hn : rR M k 0 = (n : Int)) : sX12_heldMost 359 M = some (hM (rR M k) n 8) := by
  have hn40 := hv.2.1
  have hT : ∀ c : Int, 0 ≤ shT (rR M k) c n ∧ shT (rR M k) c n ≤ (n : Int) := fun c => shT_b c (fun j hj => by have := hv.2.2.2.2.1 j (by omega); omega)
  have hN : ∀ c : Int, 0 ≤ shN (rR M k) c n ∧ shN (rR M k) c n ≤ (n : Int) := fun c => shN_b _ c n
  unfold sX12_heldMost sX12_heldMost_b0
  refine loopC (fun f x (s : Int) => sX12_heldMost_b4 359 M f s x) 8 (fun c s => s = hM (rR M k) n c) (fun o => o = some (hM (rR M k) n 8)) ?_ ?_ FU 0 (-1) (by omega) rfl (by unfold FU; omega)
  · intro f s hs
    show sX12_heldMost_b4 359 M (f + 1) s ((8 : Nat) : Int) = _
    rw [sX12_heldMost_b4, wI_of (by omega) (by omega), if_pos (by omega), hs]
  · intro f c b hc8 hs1
    right
    have q1 := hN (c : Int)
    have q2 := hT (c : Int)
    have hb := hM_b (rR M k) n c
    have e : hM (rR M k) n (c + 1) = if 0 < shN (rR M k) c n ∧ (b = -1 ∨ shT (rR M k) b n * shN (rR M k) c n < shT (rR M k) c n * shN (rR M k) b n) then (c : Int) else b := by rw [hs1]; rfl
    have q3 := hN b
    have q4 := hT b
    have p1 := mul_b (a := shT (rR M k) c n) (b := shN (rR M k) b n) (by omega) (by omega)
    have p2 := mul_b (a := shT (rR M k) b n) (b := shN (rR M k) c n) (by omega) (by omega)
    rw [e]
    show ∃ s', sX12_heldMost_b4 359 M (f + 1) b (c : Int) = _ ∧ _
    rw [sX12_heldMost_b4, wI_of (x := (c : Int)) (by omega) (by omega), if_neg (by omega), shB hk h hv hn ⟨by omega, by omega⟩, ob_s, wI_of (x := shN (rR M k) c n) (by omega) (by omega), wI_of (x := b) (by omega) (by omega), shTB hk h hv hn ⟨by omega, by omega⟩, ob_s, shB hk h hv hn ⟨by omega, by omega⟩, ob_s, shTB hk h hv hn ⟨by omega, by omega⟩, ob_s, wI_of (by omega) (by omega), wI_of (by omega) (by omega)]
    unfold sX12_heldMost_b54 sX12_heldMost_b50 sX12_heldMost_b55 sX12_heldMost_b67
    rw [ob_s, ob_s, i00, i10]
    by_cases z : shN (rR M k) c n ≤ 0
    · rw [if_pos z, if_neg (by omega)]
      exact ⟨b, rfl, rfl⟩
    · rw [if_neg z]
      by_cases z1 : b = -1
      · rw [if_pos z1, if_pos ⟨by omega, Or.inl z1⟩]
        exact ⟨(c : Int), rfl, rfl⟩
      · rw [if_neg z1]
        by_cases z2 : shT (rR M k) c n * shN (rR M k) b n ≤ shT (rR M k) b n * shN (rR M k) c n
        · rw [if_pos z2, if_neg (by omega)]
          exact ⟨b, rfl, rfl⟩
        · rw [if_neg z2, if_pos ⟨by omega, Or.inr (by omega)⟩]
          exact ⟨(c : Int), rfl, rfl⟩
def aR (R : Nat → Int) (x : Int) (n m : Nat) : Int := if 10 ≤ x ∧ x < 10 + n then R (2 + 2 * (x - 10)).toNat else if 60 ≤ x ∧ x < 60 + n then R (3 + 2 * (x - 60)).toNat else if 110 ≤ x ∧ x < 110 + m then R (82 + (x - 110)).toNat else if x = 0 then (n : Int) else if x = 1 then (m : Int) else if x = 2 then sm (fun j => R (82 + j)) m else if x = 3 then hM R n 8 else -2
theorem recA {M : MM} {k : Nat} (hk : k < 2) (hc : RC M (34 + 34 * k) (rR M k)) (hv : RV (rR M k)) {n m : Nat} (hn : rR M k 0 = (n : Int)) (hm : rR M k 1 = (m : Int)) {x : Int} (r : R32 x) : sX8_answer (34 + 34 * k) x M = some (aR (rR M k) x n m) := by
  have hn40 := hv.2.1
  have hm15 := hv.2.2.2.1
  have hs4 : M (35 + 34 * k) 4 = (n : Int) := by rw [show 35 + 34 * k = 34 + 34 * k + 1 by omega, hc.1, hn]
  have ht4 : M (39 + 34 * k) 4 = (m : Int) := by rw [show 39 + 34 * k = 34 + 34 * k + 5 by omega, hc.2.1, hm]
  obtain ⟨g1, g2, g3, l1, l2, l3⟩ := LG_sk k hk
  obtain ⟨k1, k2, k3, m1, m2, m3⟩ := LG_rk k hk
  obtain ⟨u1, u2⟩ := gT_k k hk
  have b3 : sX8_answer_b99 (34 + 34 * k) x M = some (if x = 0 then (n : Int) else if x = 1 then (m : Int) else if x = 2 then sm (fun j => rR M k (82 + j)) m else if x = 3 then hM (rR M k) n 8 else -2) := by
    unfold sX8_answer_b99
    rw [wI_of r.1 r.2, u1, u2, hs4, ht4, hitsA hk hc hv hm, heldA hk hc hv hn, ob_s, ob_s]
    by_cases c0 : x = 0
    · rw [if_pos c0, if_pos c0]
    rw [if_neg c0, if_neg c0]
    by_cases c1 : x = 1
    · rw [if_pos c1, if_pos c1]
    rw [if_neg c1, if_neg c1]
    by_cases c2 : x = 2
    · rw [if_pos c2, if_pos c2]
    rw [if_neg c2, if_neg c2]
    by_cases c3 : x = 3
    · rw [if_pos c3, if_pos c3]
    rw [if_neg c3, if_neg c3]
  have b2 : sX8_answer_b66 (34 + 34 * k) x M = some (if 110 ≤ x ∧ x < 110 + m then rR M k (82 + (x - 110)).toNat else if x = 0 then (n : Int) else if x = 1 then (m : Int) else if x = 2 then sm (fun j => rR M k (82 + j)) m else if x = 3 then hM (rR M k) n 8 else -2) := by
    unfold sX8_answer_b66
    rw [b3, wI_of r.1 r.2, u2, ht4, k3, m3, wI_of (x := 110 + (m : Int)) (by omega) (by omega)]
    by_cases c0 : 110 ≤ x ∧ x < 110 + m
    · obtain ⟨j, rfl⟩ : ∃ j : Nat, x = 110 + (j : Int) := ⟨(x - 110).toNat, by omega⟩
      rw [if_neg (by omega), if_neg (by omega), wI_of (by omega) (by omega), if_pos (by omega), if_pos c0, show (110 + (j : Int) - 110).toNat = j by omega, show (82 + (110 + (j : Int) - 110)).toNat = 82 + j by omega, show 39 + 34 * k + 3 = 34 + 34 * k + 8 by omega, hc.2.2.2 j (by omega)]
    · rw [if_neg c0]
      by_cases c1 : x < 110
      · rw [if_pos c1]
      · rw [if_neg c1, if_pos (by omega)]
  have b1 : sX8_answer_b33 (34 + 34 * k) x M = some (if 60 ≤ x ∧ x < 60 + n then rR M k (3 + 2 * (x - 60)).toNat else if 110 ≤ x ∧ x < 110 + m then rR M k (82 + (x - 110)).toNat else if x = 0 then (n : Int) else if x = 1 then (m : Int) else if x = 2 then sm (fun j => rR M k (82 + j)) m else if x = 3 then hM (rR M k) n 8 else -2) := by
    unfold sX8_answer_b33
    rw [b2, wI_of r.1 r.2, u1, hs4, g3, l3, wI_of (x := 60 + (n : Int)) (by omega) (by omega)]
    by_cases c0 : 60 ≤ x ∧ x < 60 + n
    · obtain ⟨j, rfl⟩ : ∃ j : Nat, x = 60 + (j : Int) := ⟨(x - 60).toNat, by omega⟩
      rw [if_neg (by omega), if_neg (by omega), wI_of (by omega) (by omega), if_pos (by omega), if_pos c0, show (60 + (j : Int) - 60).toNat = j by omega, show (3 + 2 * (60 + (j : Int) - 60)).toNat = 3 + 2 * j by omega, show 35 + 34 * k + 3 = 34 + 34 * k + 4 by omega, (hc.2.2.1 j (by omega)).2]
    · rw [if_neg c0]
      by_cases c1 : x < 60
      · rw [if_pos c1]
      · rw [if_neg c1, if_pos (by omega)]
  unfold sX8_answer sX8_answer_b0 aR
  rw [b1, wI_of r.1 r.2, u1, hs4, g2, l2, wI_of (x := 10 + (n : Int)) (by omega) (by omega)]
  by_cases c0 : 10 ≤ x ∧ x < 10 + n
  · obtain ⟨j, rfl⟩ : ∃ j : Nat, x = 10 + (j : Int) := ⟨(x - 10).toNat, by omega⟩
    rw [if_neg (by omega), if_neg (by omega), wI_of (by omega) (by omega), if_pos (by omega), if_pos c0, show (10 + (j : Int) - 10).toNat = j by omega, show (2 + 2 * (10 + (j : Int) - 10)).toNat = 2 + 2 * j by omega, show 35 + 34 * k + 2 = 34 + 34 * k + 3 by omega, (hc.2.2.1 j (by omega)).1]
  · rw [if_neg c0]
    by_cases c1 : x < 10
    · rw [if_pos c1]
    · rw [if_neg c1, if_pos (by omega)]
theorem e_record {M : MM} (h : INV M) {x1 x2 : Int} (r1 : R32 x1) (r2 : R32 x2) : ∃ v v' M2, sX11_record 0 x1 x2 M = some v ∧ sX12_record 359 x1 x2 M = some (v', M2) ∧ wI v = wI v' ∧ INV M2 := by
  have hb := has_r (M := mU M 359 0 0) (x := x1) (by rw [m0_364]; exact (i_size h (s := 4) (by omega)).2) r1
  have hI : INV (mU (mU M 359 0 0) 359 63 x1) := INV_2 (FR_u (FR_0 M) (by omega)) h
  unfold sX11_record sX11_record_b0 sX12_record sX12_record_b0
  rw [ob_s, hb, ob_s, m0_364]
  rcases a_record h r1 with ⟨k, hk, rfl, hlt, e⟩ | ⟨hn, e⟩
  · rw [e, ob_s, nMs_]
    obtain ⟨hc, hv⟩ := i_record h hlt
    rw [if_pos (show 0 ≤ (k : Int) ∧ (k : Int) < M 364 4 from ⟨by omega, hlt⟩)]
    show ∃ v v' M2, _ ∧ (if wI 1 = 0 then _ else _) = _ ∧ _
    rw [i10]
    have eb : rR (mU (mU M 359 0 0) 359 63 (k : Int)) k = rR M k := by unfold rR; rw [mU_row _ _ (by omega), mU_row _ _ (by omega)]
    have h63 : mU (mU M 359 0 0) 359 63 (k : Int) 359 63 = (k : Int) := mU_eq _ _ _ _
    obtain ⟨n, hn⟩ := Int.eq_ofNat_of_zero_le hv.1
    obtain ⟨m, hm⟩ := Int.eq_ofNat_of_zero_le hv.2.2.1
    have hn40 := hv.2.1
    have hm15 := hv.2.2.2.1
    have hv' : RV (rR (mU (mU M 359 0 0) 359 63 (k : Int)) k) := by rw [eb]; exact hv
    have hn' : rR (mU (mU M 359 0 0) 359 63 (k : Int)) k 0 = (n : Int) := by rw [eb]; exact hn
    have hm' : rR (mU (mU M 359 0 0) 359 63 (k : Int)) k 1 = (m : Int) := by rw [eb]; exact hm
    generalize hN : mU (mU M 359 0 0) 359 63 (k : Int) = N at *
    rw [recA hk hc hv hn hm r2, ob_s]
    refine ⟨aR (rR M k) x2 n m, aR (rR M k) x2 n m, N, rfl, ?_, rfl, hI⟩
    have o0 : sX12_ofRecord 359 0 N = some (n : Int) := by rw [ofR_e hk h63 ⟨by omega, by omega⟩]; exact congrArg some hn'
    have o1 : sX12_ofRecord 359 1 N = some (m : Int) := by rw [ofR_e hk h63 ⟨by omega, by omega⟩]; exact congrArg some hm'
    rw [o0, o1, ob_s, ob_s, ob_s, hitsB hk h63 hv' hm', heldB hk h63 hv' hn', ob_s, ob_s, eb, wI_of r2.1 r2.2]
    unfold aR
    by_cases c0 : 10 ≤ x2 ∧ x2 < 10 + n
    · rw [in_1 r2.1 r2.2 (by omega) (by omega) (by omega) (by omega), i1z, if_pos c0]
      unfold sX12_record_b50 sX12_record_b70 sX12_record_b83
      rw [wI_of r2.1 r2.2, if_neg (by omega), if_neg (by omega), ofR_e hk h63 ⟨by omega, by omega⟩, ob_s, eb, Int.add_zero]
    rw [in_f r2 ⟨by omega, by omega⟩ ⟨by omega, by omega⟩ (by omega), wI_0, if_pos rfl, if_neg c0]
    by_cases c1 : 60 ≤ x2 ∧ x2 < 60 + n
    · rw [in_1 r2.1 r2.2 (by omega) (by omega) (by omega) (by omega), i1z, if_pos c1]
      unfold sX12_record_b50 sX12_record_b70 sX12_record_b83
      rw [wI_of r2.1 r2.2, if_pos (by omega), if_pos (by omega), ofR_e hk h63 ⟨by omega, by omega⟩, ob_s, eb, show 2 + 2 * (x2 - 60) + 1 = 3 + 2 * (x2 - 60) by omega]
    rw [in_f r2 ⟨by omega, by omega⟩ ⟨by omega, by omega⟩ (by omega), wI_0, if_pos rfl, if_neg c1]
    by_cases c2 : 110 ≤ x2 ∧ x2 < 110 + m
    · rw [in_1 r2.1 r2.2 (by omega) (by omega) (by omega) (by omega), i1z, if_pos c2, ofR_e hk h63 ⟨by omega, by omega⟩, ob_s, eb, show 82 + x2 - 110 = 82 + (x2 - 110) by omega]
    rw [in_f r2 ⟨by omega, by omega⟩ ⟨by omega, by omega⟩ (by omega), wI_0, if_pos rfl, if_neg c2]
    by_cases c3 : 0 ≤ x2 ∧ x2 ≤ 1
    · rw [in_1 r2.1 r2.2 (by omega) (by omega) (by omega) (by omega), i1z, ofR_e hk h63 ⟨by omega, by omega⟩, ob_s, eb]
      have : x2 = 0 ∨ x2 = 1 := by omega
      rcases this with rfl | rfl
      · rw [if_pos rfl]; exact congrArg (fun z => some (z, N)) hn
      · rw [if_neg (by omega), if_pos rfl]; exact congrArg (fun z => some (z, N)) hm
    rw [in_f r2 ⟨by omega, by omega⟩ ⟨by omega, by omega⟩ c3, i00, if_neg (show ¬ x2 = 0 by omega), if_neg (show ¬ x2 = 1 by omega)]
    by_cases c4 : x2 = 2
    · rw [if_pos c4, if_pos c4]
    rw [if_neg c4, if_neg c4]
    by_cases c5 : x2 = 3
    · rw [if_pos c5, if_pos c5]
    rw [if_neg c5, if_neg c5]
  · rw [e, ob_s, nM0_, if_neg hn]
    exact ⟨-2, -2, _, rfl, rfl, rfl, hI⟩
