theorem spP_b {P : Nat → Int} (hv : PV P) : ∀ c : Nat, (c : Int) < P 1 → 0 ≤ spP P c ∧ spP P c ≤ 24 := fun c hc => hv.2.2.2.2.2.2.1 c (by have := hv.1; omega)
theorem wY_x {s bd : Int} {Q Q' : Nat → Int} {cell : Int} {c : Nat} (h : Q c = Q' c) : wY s bd Q cell c = wY s bd Q' cell c := by unfold wY; rw [h]
theorem pk_x {s bd : Int} {Q Q' qk : Nat → Int} {cell : Int} {n : Nat} (h : ∀ c, c < n → Q c = Q' c) : pkN s bd Q qk cell n = pkN s bd Q' qk cell n := fo_ext (fun c hc b => by unfold pkS; rw [wY_x (h c hc)]) _
theorem moQ_1 (P : Nat → Int) (pl : Int) (c : Nat) : moQ P (-1) pl c = spP P c := by unfold moQ; rw [if_neg (by omega)]
theorem shP_x {P : Nat → Int} {s : Int} {Q Q' : Nat → Int} {n : Nat} {c : Int} (h : ∀ c, c < n → Q c = Q' c) : shP P s Q n c = shP P s Q' n c := sm_ext (fun j _ => by rw [pk_x h])
theorem FR_lay {M N : MM} (h : ∀ a, a ≠ 359 → a ≠ 384 → N a = M a) : FR M N := fun a ha hb => h a ha (by omega)
theorem lay_0 {M : MM} (h : INV M) {x s : Int} (r : R32 x) (rs : R32 s) : (∃ k : Nat, k < 2 ∧ x = (k : Int) ∧ (k : Int) < M 364 0 ∧ (s = -1 ∨ (0 ≤ s ∧ s < pP M k 1)) ∧ ∃ N, sX12_layStriker 359 (k : Int) s (mU M 359 0 0) = some (1, N) ∧ FR M N ∧ YB N k s (spP (pP M k)) ∧ pP N k = pP M k) ∨ ((¬ ∃ k : Nat, x = (k : Int) ∧ (k : Int) < M 364 0 ∧ (s = -1 ∨ (0 ≤ s ∧ s < pP M k 1))) ∧ ∃ N, sX12_layStriker 359 x s (mU M 359 0 0) = some (0, N) ∧ FR M N) := by
  have hz := (i_size h (s := 0) (by omega)).2
  by_cases q : ∃ k : Nat, x = (k : Int) ∧ (k : Int) < M 364 0 ∧ (s = -1 ∨ (0 ≤ s ∧ s < pP M k 1))
  · left
    obtain ⟨k, rfl, hlt, hs⟩ := q
    obtain ⟨N, e, n1, n2, n3⟩ := lay_t (M := mU M 359 0 0) (by rw [m0_364]; exact hz) (k := k) (by rw [m0_364]; exact hlt) (by rw [pP_c (mU_row _ _ (by omega))]; exact (i_party h hlt).2) rs (by rw [pP_c (mU_row _ _ (by omega))]; exact hs)
    rw [pP_c (M' := mU M 359 0 0) (M := M) (mU_row _ _ (by omega))] at n3
    exact ⟨k, by omega, rfl, hlt, hs, N, e, FR_t (FR_0 M) (FR_lay n1), n3, (pP_c (n1 365 (by omega) (by omega)) k).trans (pP_c (mU_row _ _ (by omega)) k)⟩
  · right
    refine ⟨q, ?_⟩
    obtain ⟨N, e, n1, n2⟩ := lay_f (M := mU M 359 0 0) (by rw [m0_364]; exact hz) r rs (fun k hk => by rw [m0_364] at hk; rw [pP_c (mU_row _ _ (by omega))]; exact (i_party h hk).2) (fun ⟨k, a, b, c⟩ => q ⟨k, a, by rw [m0_364] at b; exact b, by rw [pP_c (M' := mU M 359 0 0) (M := M) (mU_row _ _ (by omega))] at c; exact c⟩)
    exact ⟨N, e, FR_t (FR_0 M) (FR_lay (fun a ha _ => n1 a ha))⟩
theorem e_cell {M : MM} (h : INV M) {x1 x2 x3 x4 : Int} (r1 : R32 x1) (r2 : R32 x2) (r3 : R32 x3) (r4 : R32 x4) : ∃ v v' M2, sX11_cell 0 x1 x2 x3 x4 M = some v ∧ sX12_cell 359 x1 x2 x3 x4 M = some (v', M2) ∧ wI v = wI v' ∧ INV M2 := by
  unfold sX11_cell sX11_cell_b0 sX12_cell sX12_cell_b0
  rw [ob_s]
  rcases lay_0 h r1 r2 with ⟨k, hk, rfl, hlt, hs, N, e, f, hy, ep⟩ | ⟨hq, N, e, f⟩
  · obtain ⟨hc, hv⟩ := i_party h hlt
    have hv1 := hv.1
    obtain ⟨n, hn⟩ := Int.eq_ofNat_of_zero_le (show 0 ≤ pP M k 1 by omega)
    rcases a_party h r1 with ⟨k', hk', hx', hlt', e'⟩ | ⟨hn', e'⟩
    · have : k' = k := by omega
      subst this
      rw [e', ob_s, nMs_, e, ob_s]
      show ∃ v v' M2, _ ∧ (if wI 1 = 0 then _ else _) = _ ∧ _
      rw [i10, may_e hc.1.2.1 ⟨by omega, by omega⟩ r2, if_pos hs, wI_1, i1z, wI_of r3.1 r3.2, wI_of r4.1 r4.2]
      by_cases a : 0 ≤ x3 ∧ x3 ≤ 24
      · rw [in_1 r3.1 r3.2 (by omega) (by omega) a.1 a.2, i1z, if_neg (by omega), if_pos (by omega), (rg_e a).1, ob_s]
        by_cases b0 : x4 = 0
        · rw [if_pos b0, if_pos b0]; exact ⟨_, _, _, rfl, rfl, rfl, INV_2 f h⟩
        rw [if_neg b0, if_neg b0]
        by_cases b1 : x4 = 1
        · rw [if_pos b1, if_pos b1]
          obtain ⟨j, rfl⟩ := Int.eq_ofNat_of_zero_le a.1
          have t := (rg_tab j (by omega)).2.2.2.1
          by_cases b2 : (j : Int) = 12
          · rw [if_pos b2]
            rw [if_pos (show j = 12 by omega)] at t
            exact ⟨_, _, _, rfl, rfl, by rw [t], INV_2 f h⟩
          · rw [if_neg b2]
            rw [if_neg (show ¬ j = 12 by omega)] at t
            exact ⟨_, _, _, rfl, rfl, by rw [t], INV_2 f h⟩
        rw [if_neg b1, if_neg b1]
        by_cases b2 : x4 = 2
        · rw [if_pos b2, if_pos b2]
          unfold sX10_whoPicks sX10_whoPicks_b0
          rw [pickA hc hv (PG_p k' hk) _ r2 a (mo := -1) (pl := 0) ⟨by omega, by omega⟩ ⟨by omega, by omega⟩ hn, ob_s, ob_s, pickB hy (by rw [ep]; exact hv) r2 (by rw [ep]; exact spP_b hv) a (n := n) (by rw [ep]; exact hn), ob_s, ep, pk_x (fun c _ => moQ_1 (pP M k') 0 c)]
          exact ⟨_, _, _, rfl, rfl, rfl, INV_2 f h⟩
        rw [if_neg b2, if_neg b2]
        exact ⟨_, _, _, rfl, rfl, rfl, INV_2 f h⟩
      · rw [in_f r3 ⟨by omega, by omega⟩ ⟨by omega, by omega⟩ a, wI_0, if_pos rfl]
        refine ⟨-1, _, _, ?_, rfl, rfl, INV_2 f h⟩
        by_cases b : x3 < 0
        · rw [if_pos b]
        · rw [if_neg b, if_neg (by omega)]
    · exact absurd ⟨by omega, hlt⟩ hn'
  · rw [e, ob_s]
    rcases a_party h r1 with ⟨k, hk, rfl, hlt, e'⟩ | ⟨hn', e'⟩
    · obtain ⟨hc, hv⟩ := i_party h hlt
      have hv1 := hv.1
      rw [e', ob_s, nMs_, may_e hc.1.2.1 ⟨by omega, by omega⟩ r2, if_neg (fun q => hq ⟨k, rfl, hlt, q⟩), wI_0, if_pos rfl]
      exact ⟨-1, -1, N, rfl, rfl, rfl, INV_2 f h⟩
    · rw [e', ob_s, nM0_]
      exact ⟨-1, -1, N, rfl, rfl, rfl, INV_2 f h⟩
theorem e_share {M : MM} (h : INV M) {x1 x2 x3 x4 : Int} (r1 : R32 x1) (r2 : R32 x2) (r3 : R32 x3) : ∃ v v' M2, sX11_share 0 x1 x2 x3 x4 M = some v ∧ sX12_share 359 x1 x2 x3 x4 M = some (v', M2) ∧ wI v = wI v' ∧ INV M2 := by
  unfold sX11_share sX11_share_b0 sX12_share sX12_share_b0
  rw [ob_s]
  rcases lay_0 h r1 r2 with ⟨k, hk, rfl, hlt, hs, N, e, f, hy, ep⟩ | ⟨hq, N, e, f⟩
  · obtain ⟨hc, hv⟩ := i_party h hlt
    have hv1 := hv.1
    obtain ⟨n, hn⟩ := Int.eq_ofNat_of_zero_le (show 0 ≤ pP M k 1 by omega)
    rcases a_party h r1 with ⟨k', hk', hx', hlt', e'⟩ | ⟨hn', e'⟩
    · have : k' = k := by omega
      subst this
      have h26 := hy.1.2.2.2.1
      rw [ep] at h26
      rw [e', ob_s, nMs_, e, ob_s]
      show ∃ v v' M2, _ ∧ (if wI 1 = 0 then _ else _) = _ ∧ _
      rw [i10, may_e hc.1.2.1 ⟨by omega, by omega⟩ r2, if_pos hs, wI_1, i1z, has_e hc.1.2.1 ⟨by omega, by omega⟩ r3, chi_e h26 ⟨by omega, by omega⟩ r3, ob_s]
      by_cases a : 0 ≤ x3 ∧ x3 < pP M k' 1
      · have ab := al_b hv
        have sb := shP_b hv x2 (spP (pP M k')) n x3
        rw [if_pos a, wI_1, i1z, i1z]
        unfold sX10_shareOf sX10_shareOf_b0
        rw [shareA hc hv (PG_p k' hk) _ r2 r3 (mo := -1) (pl := 0) ⟨by omega, by omega⟩ ⟨by omega, by omega⟩ hn, ob_s, ob_s, shP_x (fun c _ => moQ_1 (pP M k') 0 c), alA hc (PG_p k' hk), ob_s, alB hy.1, ob_s, shareB hy (by rw [ep]; exact hv) r2 (by rw [ep]; exact spP_b hv) r3 (n := n) (by rw [ep]; exact hn), ob_s, ep, wI_of (x := shP (pP M k') x2 (spP (pP M k')) n x3) (by omega) (by omega), wI_of (x := alP (pP M k')) (by omega) (by omega)]
        by_cases z : alP (pP M k') = 0
        · rw [if_pos z, z]
          unfold sX11_fraction sX11_fraction_b0 sX11_fraction_b12
          by_cases u : wI x4 = 0
          · rw [if_pos u, if_pos u]
            by_cases y : wJ (shP (pP M k') x2 (spP (pP M k')) n x3) ≤ 0
            · rw [if_pos y]; exact ⟨_, _, _, rfl, rfl, rfl, INV_2 f h⟩
            · rw [if_neg y, wJ_of (x := 0) (by omega) (by omega), if_neg (by omega)]; exact ⟨_, _, _, rfl, rfl, rfl, INV_2 f h⟩
          · rw [if_neg u, if_neg u]
            by_cases y : wJ (shP (pP M k') x2 (spP (pP M k')) n x3) ≤ 0
            · rw [if_pos y]; exact ⟨_, _, _, rfl, rfl, rfl, INV_2 f h⟩
            · rw [if_neg y, wJ_of (x := 0) (by omega) (by omega), if_neg (by omega)]; exact ⟨_, _, _, rfl, rfl, rfl, INV_2 f h⟩
        · rw [if_neg z]
          obtain ⟨v, e1, e2⟩ := fr_eqi (n := shP (pP M k') x2 (spP (pP M k')) n x3) (d := alP (pP M k')) ⟨by omega, by omega⟩ ⟨by omega, by omega⟩ x4
          rw [e1, e2]
          exact ⟨_, _, _, rfl, rfl, rfl, INV_2 f h⟩
      · rw [if_neg a, wI_0, if_pos rfl, if_pos rfl]
        exact ⟨_, _, _, rfl, rfl, rfl, INV_2 f h⟩
    · exact absurd ⟨by omega, hlt⟩ hn'
  · rw [e, ob_s]
    rcases a_party h r1 with ⟨k, hk, rfl, hlt, e'⟩ | ⟨hn', e'⟩
    · obtain ⟨hc, hv⟩ := i_party h hlt
      have hv1 := hv.1
      rw [e', ob_s, nMs_, may_e hc.1.2.1 ⟨by omega, by omega⟩ r2, if_neg (fun q => hq ⟨k, rfl, hlt, q⟩), wI_0, if_pos rfl]
      exact ⟨-1, -1, N, rfl, rfl, rfl, INV_2 f h⟩
    · rw [e', ob_s, nM0_]
      exact ⟨-1, -1, N, rfl, rfl, rfl, INV_2 f h⟩
/-- the best place to stand -/
def sdS (P : Nat → Int) (s : Int) (n : Nat) (c : Int) (j : Nat) (b : Int × Int) : Int × Int := if P 6 < sX12_ringOf (j : Int) then (if b.1 = -1 ∨ b.2 < shP P s (moQ P c (j : Int)) n c then ((j : Int), shP P s (moQ P c (j : Int)) n c) else b) else b
def sdN (P : Nat → Int) (s : Int) (n : Nat) (c : Int) (j : Nat) : Int × Int := fo (sdS P s n c) j (-1, 0)
theorem sd_s (P : Nat → Int) (s : Int) (n : Nat) (c : Int) (j : Nat) : sdN P s n c (j + 1) = sdS P s n c j (sdN P s n c j) := by unfold sdN; rw [fo_s]
theorem sd_t (P : Nat → Int) (s : Int) (n : Nat) (c : Int) (j : Nat) {b : Int × Int} (h : P 6 < sX12_ringOf (j : Int)) (h' : b.1 = -1 ∨ b.2 < shP P s (moQ P c (j : Int)) n c) : sdS P s n c j b = ((j : Int), shP P s (moQ P c (j : Int)) n c) := by unfold sdS; rw [if_pos h, if_pos h']
theorem sd_f (P : Nat → Int) (s : Int) (n : Nat) (c : Int) (j : Nat) {b : Int × Int} (h : ¬ (P 6 < sX12_ringOf (j : Int) ∧ (b.1 = -1 ∨ b.2 < shP P s (moQ P c (j : Int)) n c))) : sdS P s n c j b = b := by
  unfold sdS
  by_cases q : P 6 < sX12_ringOf (j : Int)
  · rw [if_pos q, if_neg (fun z => h ⟨q, z⟩)]
  · rw [if_neg q]
theorem sd_i {P : Nat → Int} (hv : PV P) (s : Int) (n : Nat) (c : Int) (j : Nat) (hj : j ≤ 25) : ((sdN P s n c j).1 = -1 ∨ (0 ≤ (sdN P s n c j).1 ∧ (sdN P s n c j).1 ≤ 24)) ∧ 0 ≤ (sdN P s n c j).2 ∧ (sdN P s n c j).2 ≤ 225 := by
  induction j with
  | zero => exact ⟨Or.inl rfl, by show (0 : Int) ≤ 0; omega, by show (0 : Int) ≤ 225; omega⟩
  | succ j ih =>
    have i := ih (by omega)
    rw [sd_s]
    have sb := shP_b hv s (moQ P c (j : Int)) n c
    by_cases q : P 6 < sX12_ringOf (j : Int) ∧ ((sdN P s n c j).1 = -1 ∨ (sdN P s n c j).2 < shP P s (moQ P c (j : Int)) n c)
    · rw [sd_t P s n c j q.1 q.2]
      exact ⟨Or.inr ⟨by show (0 : Int) ≤ (j : Int); omega, by show (j : Int) ≤ 24; omega⟩, sb⟩
    · rw [sd_f P s n c j q]; exact i
theorem standA {M : MM} {p : Nat} {P : Nat → Int} (hc : PC M p P) (hv : PV P) (hg : PG p) (a0 : Nat) {s c : Int} (rs : R32 s) (rc : R32 c) {n : Nat} (hn : P 1 = (n : Int)) : sX10_bestStand a0 p s c M = some (sdN P s n c 25).1 := by
  have hv1 := hv.1
  unfold sX10_bestStand sX10_bestStand_b0
  refine loopC (fun f x (t : Int × Int) => sX10_bestStand_b9 a0 p s c M f t.1 t.2 x) 25 (fun j t => t = sdN P s n c j) (fun o => o = some (sdN P s n c 25).1) ?_ ?_ FU 0 (-1, 0) (by omega) rfl (by unfold FU; omega)
  · intro f t ht
    show sX10_bestStand_b9 a0 p s c M (f + 1) t.1 t.2 ((25 : Nat) : Int) = _
    rw [sX10_bestStand_b9, wI_of (by omega) (by omega), if_pos (by omega), ht]
  · intro f j t hj ht
    right
    have i := sd_i hv s n c j (by omega)
    have e : sdN P s n c (j + 1) = sdS P s n c j t := by rw [sd_s, ht]
    rw [← ht] at i
    have rg := rg_e (a := (j : Int)) ⟨by omega, by omega⟩
    have sb := shP_b hv s (moQ P c (j : Int)) n c
    have hsh := shareA hc hv hg a0 rs rc rc (mo := c) (pl := (j : Int)) ⟨by omega, by omega⟩ hn
    have f1 := fun h h' => sd_t P s n c j (b := t) h h'
    have f2 := fun h => sd_f P s n c j (b := t) h
    clear ht
    refine ⟨sdS P s n c j t, ?_, e.symm⟩
    clear e
    obtain ⟨b, m⟩ := t
    dsimp only at i f1 f2
    show sX10_bestStand_b9 a0 p s c M (f + 1) b m (j : Int) = sX10_bestStand_b9 a0 p s c M f _ _ _
    rw [sX10_bestStand_b9, rg.1, hsh]
    generalize shP P s (moQ P c (j : Int)) n c = S at *
    generalize sX12_ringOf (j : Int) = R at *
    generalize hD : sdS P s n c j (b, m) = D at *
    rw [wI_of (x := (j : Int)) (by omega) (by omega), if_neg (by omega), ob_s, hc.1.2.2.2.2.2.2, wI_of (x := R) (by omega) (by omega), wI_of (x := P 6) (by omega) (by omega), ob_s, wI_of (x := b) (by omega) (by omega), wI_of (x := m) (by omega) (by omega), wI_of (x := S) (by omega) (by omega)]
    unfold sX10_bestStand_b53 sX10_bestStand_b61
    simp only [ob_s]
    by_cases z : R ≤ P 6
    · rw [if_pos z, f2 (by omega)]
    · rw [if_neg z]
      by_cases z1 : b = -1
      · rw [if_pos z1, f1 (by omega) (Or.inl z1)]
      · rw [if_neg z1]
        by_cases z2 : S ≤ m
        · rw [if_pos z2, f2 (by omega)]
        · rw [if_neg z2, f1 (by omega) (Or.inr (by omega))]
theorem e_stand {M : MM} (h : INV M) {x1 x2 x3 : Int} (r1 : R32 x1) (r2 : R32 x2) (r3 : R32 x3) : ∃ v v' M2, sX11_stand 0 x1 x2 x3 M = some v ∧ sX12_stand 359 x1 x2 x3 M = some (v', M2) ∧ wI v = wI v' ∧ INV M2 := by
  unfold sX11_stand sX11_stand_b0 sX12_stand sX12_stand_b0
  rw [ob_s]
  rcases lay_0 h r1 r2 with ⟨k, hk, rfl, hlt, hs, N, e, f, hy, ep⟩ | ⟨hq, N, e, f⟩
  · obtain ⟨hc, hv⟩ := i_party h hlt
    have hv1 := hv.1
    obtain ⟨n, hn⟩ := Int.eq_ofNat_of_zero_le (show 0 ≤ pP M k 1 by omega)
    rcases a_party h r1 with ⟨k', hk', hx', hlt', e'⟩ | ⟨hn', e'⟩
    · have : k' = k := by omega
      subst this
      have h26 := hy.1.2.2.2.1
      rw [ep] at h26
      rw [e', ob_s, nMs_, e, ob_s]
      show ∃ v v' M2, _ ∧ (if wI 1 = 0 then _ else _) = _ ∧ _
      rw [i10, may_e hc.1.2.1 ⟨by omega, by omega⟩ r2, if_pos hs, wI_1, i1z, has_e hc.1.2.1 ⟨by omega, by omega⟩ r3, chi_e h26 ⟨by omega, by omega⟩ r3, ob_s]
      by_cases a : 0 ≤ x3 ∧ x3 < pP M k' 1
      · obtain ⟨c, rfl⟩ := Int.eq_ofNat_of_zero_le a.1
        rw [if_pos a, wI_1, i1z, i1z]
        by_cases b : wI (c : Int) = wI x2
        · rw [if_pos b, if_pos b]; exact ⟨_, _, _, rfl, rfl, rfl, INV_2 f h⟩
        rw [if_neg b, if_neg b, standA hc hv (PG_p k' hk) _ r2 r3 hn, ob_s]
        have key : ∃ N', sX12_stand_b38 359 (k' : Int) x2 (c : Int) FU (-1) (-1) 0 N = some ((sdN (pP M k') x2 n (c : Int) 25).1, N') ∧ FR N N' := by
          refine loopC (fun f x (t : Int × Int × MM) => sX12_stand_b38 359 (k' : Int) x2 (c : Int) f t.1 t.2.1 x t.2.2) 25 (fun j t => t.1 = (sdN (pP M k') x2 n (c : Int) j).1 ∧ (t.1 ≠ -1 → t.2.1 = (sdN (pP M k') x2 n (c : Int) j).2) ∧ (t.1 = -1 → t.2.1 = -1) ∧ FR N t.2.2 ∧ HD t.2.2 k' ∧ pP t.2.2 k' = pP M k' ∧ t.2.2 359 58 = x2 ∧ ∀ i : Nat, i < n → i ≠ c → t.2.2 384 i = spP (pP M k') i) (fun o => ∃ N', o = some ((sdN (pP M k') x2 n (c : Int) 25).1, N') ∧ FR N N') ?_ ?_ FU 0 (-1, -1, N) (by omega) ⟨rfl, fun q => absurd rfl q, fun _ => rfl, FR_r N, hy.1, ep, hy.2.1, fun i hi _ => hy.2.2 i (by rw [ep, hn]; omega)⟩ (by unfold FU; omega)
          · intro f t ht
            show ∃ N', sX12_stand_b38 359 (k' : Int) x2 (c : Int) (f + 1) t.1 t.2.1 ((25 : Nat) : Int) t.2.2 = _ ∧ _
            rw [sX12_stand_b38, wI_of (by omega) (by omega), if_pos (by omega), ht.1]
            exact ⟨_, rfl, ht.2.2.2.1⟩
          · intro f j t hj ht
            right
            obtain ⟨b, m, T⟩ := t
            obtain ⟨t1, t2, t3, t4, t58⟩ := ht
            simp only at t1 t2 t3 t4 t58
            have t58' := t58
            obtain ⟨t5, t6, t7, t8⟩ := t58'
            have i := sd_i hv x2 n (c : Int) j (by omega)
            have rg := rg_e (a := (j : Int)) ⟨by omega, by omega⟩
            have sb := shP_b hv x2 (moQ (pP M k') (c : Int) (j : Int)) n (c : Int)
            have e0 := sd_s (pP M k') x2 n (c : Int) j
            have f1 := fun h h' => sd_t (pP M k') x2 n (c : Int) j (b := sdN (pP M k') x2 n (c : Int) j) h h'
            have f2 := fun h => sd_f (pP M k') x2 n (c : Int) j (b := sdN (pP M k') x2 n (c : Int) j) h
            have hyT : YB (mU T 384 c (j : Int)) k' x2 (moQ (pP M k') (c : Int) (j : Int)) := by
              refine ⟨HD_u t5 (by omega), by rw [mU_ne _ _ (by omega)]; exact t7, fun i hi => ?_⟩
              rw [pP_c (mU_row _ _ (by omega)), t6, hn] at hi
              unfold moQ
              by_cases q : i = c
              · subst q; rw [mU_eq, if_pos rfl]
              · rw [mU_ne _ _ (by omega), if_neg (by omega)]; exact t8 i (by omega) q
            have epT : pP (mU T 384 c (j : Int)) k' = pP M k' := (pP_c (mU_row _ _ (by omega)) k').trans t6
            have hQ : ∀ i : Nat, (i : Int) < pP (mU T 384 c (j : Int)) k' 1 → 0 ≤ moQ (pP M k') (c : Int) (j : Int) i ∧ moQ (pP M k') (c : Int) (j : Int) i ≤ 24 := fun i hi => by
              rw [epT] at hi
              have := spP_b hv i hi
              unfold moQ
              split <;> omega
            have hsB := shareB hyT (by rw [epT]; exact hv) r2 hQ (c := (c : Int)) ⟨by omega, by omega⟩ (n := n) (by rw [epT]; exact hn)
            rw [epT] at hsB
            have fin : FR N (mU T 384 c (j : Int)) ∧ HD (mU T 384 c (j : Int)) k' ∧ pP (mU T 384 c (j : Int)) k' = pP M k' ∧ mU T 384 c (j : Int) 359 58 = x2 ∧ ∀ i : Nat, i < n → i ≠ c → mU T 384 c (j : Int) 384 i = spP (pP M k') i := ⟨FR_u t4 (by omega), HD_u t5 (by omega), epT, by rw [mU_ne _ _ (by omega)]; exact t7, fun i hi hic => by rw [mU_ne _ _ (by omega)]; exact t8 i hi hic⟩
            have o6 := of_e t5 (x := 6) ⟨by omega, by omega⟩
            rw [t6, show (6 : Int).toNat = 6 from rfl] at o6
            show ∃ s', sX12_stand_b38 359 (k' : Int) x2 (c : Int) (f + 1) b m (j : Int) T = _ ∧ _
            rw [e0, sX12_stand_b38, o6, ob_s]
            clear hyT hQ epT e0 o6
            generalize shP (pP M k') x2 (moQ (pP M k') (c : Int) (j : Int)) n (c : Int) = S at *
            generalize sX12_ringOf (j : Int) = R at *
            generalize sdS (pP M k') x2 n (c : Int) j (sdN (pP M k') x2 n (c : Int) j) = D' at *
            generalize sdN (pP M k') x2 n (c : Int) j = D at *
            obtain ⟨D1, D2⟩ := D
            dsimp only at t1 t2 i f1 f2
            have hm : -1 ≤ m ∧ m ≤ 225 := by
              by_cases q : b = -1
              · rw [t3 q]; omega
              · rw [t2 q]; omega
            rw [wI_of (x := (j : Int)) (by omega) (by omega), if_neg (by omega), wI_of (x := R) (by omega) (by omega), wI_of (x := pP M k' 6) (by omega) (by omega), wI_of (x := (c : Int)) (by omega) (by omega), if_pos (show 0 ≤ (c : Int) ∧ (c : Int) < 8 by omega), ob_s, g359_59, tN, hsB, ob_s]
            unfold sX12_stand_b88 sX12_stand_b99
            simp only [ob_s]
            have hgr : sX12_greater m S = if m ≤ S then S else m := by
              unfold sX12_greater sX12_greater_b0
              rw [wI_of (x := m) (by omega) (by omega), wI_of (x := S) (by omega) (by omega)]
            rw [wI_of (x := S) (by omega) (by omega), wI_of (x := m) (by omega) (by omega), hgr]
            by_cases z : R ≤ pP M k' 6
            · rw [if_pos z, f2 (by omega)]
              exact ⟨(b, m, T), rfl, t1, t2, t3, t4, t58⟩
            · rw [if_neg z]
              by_cases z1 : b = -1
              · have hm1 := t3 z1
                rw [if_neg (show ¬ S ≤ m by omega), if_pos (show m ≤ S by omega), f1 (by omega) (Or.inl (by rw [← t1]; exact z1))]
                exact ⟨((j : Int), S, mU T 384 c (j : Int)), rfl, rfl, fun _ => rfl, fun q => by exfalso; dsimp only at q; omega, fin⟩
              · have hm1 := t2 z1
                by_cases z2 : S ≤ m
                · rw [if_pos z2, f2 (by omega)]
                  refine ⟨(b, (if m ≤ S then S else m), mU T 384 c (j : Int)), rfl, t1, fun _ => ?_, fun q => absurd q z1, fin⟩
                  dsimp only
                  split <;> omega
                · rw [if_neg z2, if_pos (show m ≤ S by omega), f1 (by omega) (Or.inr (by omega))]
                  exact ⟨((j : Int), S, mU T 384 c (j : Int)), rfl, rfl, fun _ => rfl, fun q => by exfalso; dsimp only at q; omega, fin⟩
        obtain ⟨N', e1, e2⟩ := key
        rw [e1]
        exact ⟨_, _, _, rfl, rfl, rfl, INV_2 (FR_t f e2) h⟩
      · rw [if_neg a, wI_0, if_pos rfl, if_pos rfl]
        exact ⟨_, _, _, rfl, rfl, rfl, INV_2 f h⟩
    · exact absurd ⟨by omega, hlt⟩ hn'
  · rw [e, ob_s]
    rcases a_party h r1 with ⟨k, hk, rfl, hlt, e'⟩ | ⟨hn', e'⟩
    · obtain ⟨hc, hv⟩ := i_party h hlt
      have hv1 := hv.1
      rw [e', ob_s, nMs_, may_e hc.1.2.1 ⟨by omega, by omega⟩ r2, if_neg (fun q => hq ⟨k, rfl, hlt, q⟩), wI_0, if_pos rfl]
      exact ⟨-1, -1, N, rfl, rfl, rfl, INV_2 f h⟩
    · rw [e', ob_s, nM0_]
      exact ⟨-1, -1, N, rfl, rfl, rfl, INV_2 f h⟩
