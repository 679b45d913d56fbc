/-- the memory behind the constructors -/
def MZ : MM := fun _ _ => 0
def M0 : MM := mX12_init (mX11_init MZ 0 1) 359 360
theorem M0_l : (∀ i, i < 4 → ∀ k, k < 2 → M0 (tB i + 19 + 34 * k) 0 = 40 ∧ M0 (tB i + 24 + 34 * k) 0 = 8 ∧ M0 (tB i + 29 + 34 * k) 0 = 25 ∧ M0 (tB i + 34 + 34 * k) 0 = 40 ∧ M0 (tB i + 38 + 34 * k) 0 = 15) ∧ M0 91 0 = 40 ∧ M0 96 0 = 8 ∧ M0 101 0 = 25 ∧ M0 106 0 = 40 ∧ M0 110 0 = 15 := by decide +kernel
theorem M0_h : (M0 1 1 = 0 ∧ M0 361 0 = 0) ∧ M0 1 2 = M0 362 0 ∧ M0 1 3 = M0 363 0 := by decide +kernel
theorem M0_t : ∀ j, j < 600 → M0 2 j = M0 360 j ∧ -128 ≤ M0 360 j ∧ M0 360 j ≤ 127 := by decide +kernel
theorem M0_s : ∀ j, j < 5 → M0 3 j = M0 364 j ∧ M0 364 j = 0 := by decide +kernel
theorem M0_k : ∀ k, k < 3 → M0 78 k = M0 387 k ∧ M0 387 k = 0 := by decide +kernel
theorem INV_0 : INV M0 := by
  have hz : ∀ j, j < 5 → M0 364 j = 0 := fun j hj => (M0_s j hj).2
  refine ⟨M0_l, ?_, fun k hk => ⟨(M0_k k hk).1, Or.inl (M0_k k hk).2⟩, fun k hk e => absurd e (by rw [(M0_k k hk).2]; decide)⟩
  unfold CTD
  rw [tB_0]
  simp only [Nat.mul_zero, Nat.zero_add]
  refine ⟨⟨by rw [M0_h.1.1, M0_h.1.2], by rw [M0_h.1.2]; decide, by rw [M0_h.1.2]; decide⟩, M0_h.2, M0_t, fun s hs => ?_, fun k hk => ?_, fun k hk => ?_, fun k hk => ?_, fun k hk => ?_, fun k hk => ?_⟩
  · rw [show 1 + 2 = 3 from rfl, (M0_s s hs).1, hz s hs]; decide
  · exfalso; rw [hz 0 (by omega)] at hk; omega
  · exfalso; rw [hz 1 (by omega)] at hk; omega
  · exfalso; rw [hz 2 (by omega)] at hk; omega
  · exfalso; rw [hz 3 (by omega)] at hk; omega
  · exfalso; rw [hz 4 (by omega)] at hk; omega
def LA : List LE := [(0, 11, List.replicate (clN 11) none)]
def LB : List LE := LX LA 0 (eX11_init 0 1) (sX11_init 0 1)
def LC : List LE := LB ++ [(0, 12, List.replicate (clN 12) none)]
theorem LB_len : LB.length = 359 := by
  unfold LB
  rw [LX_len, show (sX11_init 0 1).length = 358 from tl11_25 1]
  rfl
theorem LC_len : LC.length = 360 := by unfold LC; rw [List.length_append, LB_len]; rfl
theorem LC_359 : LC[359]? = some (0, 12, List.replicate (clN 12) none) := by unfold LC; rw [List.getElem?_append_right (by rw [LB_len]; exact Nat.le_refl _), LB_len]; rfl
theorem LD_e : LX LC 359 (eX12_init 359 360) (sX12_init 359 360) = L0 := by decide +kernel
theorem gd_0 : gd [] MZ := ⟨fun e he => by simp at he, fun a _ k => rfl⟩
theorem gd_A : gd LA MZ := gd_push (L := []) gd_0
theorem gd_B : gd LB (mX11_init MZ 0 1) := oX11_init (L := LA) (a := 0) (n := 1) rfl rfl gd_A
theorem gd_C : gd LC (mX11_init MZ 0 1) := gd_push gd_B
theorem ci_L_9 : CKI xL_law 9 xX11_init 0 := ⟨tb_i 139 (by decide +kernel) (by decide +kernel), tb_i 162 (by decide +kernel) (by decide +kernel), ⟨by decide +kernel, by decide +kernel, by decide +kernel⟩, by decide, by decide, rfl, tb_i 161 (by decide +kernel) (by decide +kernel), rfl, Or.inl (tb_i 160 (by decide +kernel) (by decide +kernel))⟩
theorem ci_L_12 : CKI xL_law 12 xX12_init 0 := ⟨tb_i 152 (by decide +kernel) (by decide +kernel), tb_i 1403 (by decide +kernel) (by decide +kernel), ⟨by decide +kernel, by decide +kernel, by decide +kernel⟩, by decide, by decide, rfl, tb_i 1402 (by decide +kernel) (by decide +kernel), rfl, Or.inl (tb_i 1401 (by decide +kernel) (by decide +kernel))⟩
/-- the law's walk with the arrays' classes in hand -/
def ZP (G : GG) (b lx : Nat) (xs : Nat → Int) : ZZ := (fun p e R s m args below meth c => (ZL G b lx xs).1 p e R s m args below meth c ∧ AOs s, (ZL G b lx xs).2)
theorem VV_P {G : GG} {X : XX} {b lx : Nat} {xs : Nat → Int} {L : List LE} {M : MM} {ce sl pc : Nat} {lv : List (Nat × Value)} {st : List Value} (h : VV G X (ZL G b lx xs) L M ce sl pc lv st) : VV G X (ZP G b lx xs) L M ce sl pc lv st := fun p e R s m args below meth c hc he H locs ls hP hD hS hl => h p e R s m args below meth c hc he.1 H locs ls hP hD hS hl
theorem ob11 : OB L0 0 11 := by
  exact ⟨_, rfl⟩
theorem ob12 : OB L0 359 12 := by
  exact ⟨_, rfl⟩
theorem law_v {G : GG} {c0 lx : Nat} {xs : Nat → Int} (hx : ∀ j, R32 (xs j)) (hl : lx ≤ 3072) : VV G xL_law (ZP G c0 lx xs) [] MZ 0 0 0 [(0, .ref c0)] [] := by
  obtain ⟨γ, hγ⟩ : ∃ γ, γ = gA G := ⟨_, rfl⟩
  have K : VV (gS G γ) xL_law (ZP G c0 lx xs) [] MZ 0 0 0 [(0, .ref c0)] [] := ?_
  · rw [hγ] at K; exact K
  refine r_newO (pc := 0) (γ := γ) (lvf := fun _ => [(0, .ref c0)]) (stf := fun _ => []) (n := 0) cf_11 (tb_i 158 (by decide +kernel) (by decide +kernel)) (tb_i 159 (by decide +kernel) (by decide +kernel)) (tb_i 139 (by decide +kernel) (by decide +kernel)) rfl gd_0.1 (fun _ => rfl) (nf_all 11 (by decide)) (fun g h => ⟨rfl, rfl⟩) ⟨Nat.le_of_ble_eq_true rfl, Nat.le_of_ble_eq_true rfl⟩ dL_law_0 (fun g1 h1 => ?_)
  change VV (gS G g1) _ _ LA _ _ _ _ _ _
  refine r_dup (pc := 3) dL_law_3 rfl ?_
  refine r_callI (pc := 4) (γ := g1) (lvf := fun _ => [(0, .ref c0)]) (stf := fun g => [.ref (g 0)]) (b := 0) (As := []) (fun _ _ _ _ _ _ _ _ _ h => h.2) ci_L_9 (kX11_init (G := gS G g1) (L := LA) (a := 0) (n := 1) rfl rfl gd_A) (fun g h => ⟨rfl, by rw [h 0 (by decide)]⟩) rfl (Nat.le_of_ble_eq_true rfl) ⟨Nat.le_of_ble_eq_true rfl, Nat.le_of_ble_eq_true rfl⟩ dL_law_4 (fun g2 h2 => ?_)
  change VV (gS G g2) _ _ LB (mX11_init MZ 0 1) _ _ _ _ _
  refine r_astore_n (pc := 7) (i := 1) (lv' := [(1, .ref (g2 0)), (0, .ref c0)]) dL_law_7 rfl (Nat.le_of_ble_eq_true rfl) rfl ?_
  refine r_newO (pc := 8) (γ := g2) (lvf := fun g => [(1, .ref (g 0)), (0, .ref c0)]) (stf := fun _ => []) (n := 359) cf_12 (tb_i 1399 (by decide +kernel) (by decide +kernel)) (tb_i 1400 (by decide +kernel) (by decide +kernel)) (tb_i 152 (by decide +kernel) (by decide +kernel)) LB_len gd_B.1 (fun k => gd_B.2 359 (by rw [LB_len]; exact Nat.le_refl _) k) (nf_all 12 (by decide)) (fun g h => ⟨by rw [h 0 (by decide)], rfl⟩) ⟨Nat.le_of_ble_eq_true rfl, Nat.le_of_ble_eq_true rfl⟩ dL_law_8 (fun g3 h3 => ?_)
  change VV (gS G g3) _ _ LC _ _ _ _ _ _
  refine r_dup (pc := 11) dL_law_11 rfl ?_
  refine r_callI (pc := 12) (γ := g3) (lvf := fun g => [(1, .ref (g 0)), (0, .ref c0)]) (stf := fun g => [.ref (g 359)]) (b := 359) (As := []) (fun _ _ _ _ _ _ _ _ _ h => h.2) ci_L_12 (kX12_init (G := gS G g3) (L := LC) (a := 359) (n := 360) LC_len LC_359 gd_C) (fun g h => ⟨by rw [h 0 (by rw [LC_len]; decide)], by rw [h 359 (by rw [LC_len]; decide)]⟩) rfl (Nat.le_of_ble_eq_true rfl) ⟨Nat.le_of_ble_eq_true rfl, Nat.le_of_ble_eq_true rfl⟩ dL_law_12 (fun g4 h4 => ?_)
  rw [LD_e]
  change VV (gS G g4) _ _ L0 M0 _ _ _ _ _
  refine r_astore_n (pc := 15) (i := 2) (lv' := [(2, .ref (g4 359)), (1, .ref (g4 0)), (0, .ref c0)]) dL_law_15 rfl (Nat.le_of_ble_eq_true rfl) rfl ?_
  refine r_iconst (pc := 16) (v := 0) dL_law_16 (by decide +kernel) ?_
  refine r_istore_n (pc := 17) (i := 3) (lv' := [(3, .int (eI 0)), (2, .ref (g4 359)), (1, .ref (g4 0)), (0, .ref c0)]) dL_law_17 rfl (Nat.le_of_ble_eq_true rfl) rfl ?_
  refine r_sub (lv' := [(0, .ref c0), (1, .ref (g4 0)), (2, .ref (g4 359)), (3, .int (eI 0))]) [3, 2, 1, 0] rfl ?_
  refine VV_P (G := gS G g4) ?_
  exact bL_law_b18 (G := gS G g4) ⟨Nat.le_of_ble_eq_true rfl, Nat.le_of_ble_eq_true rfl⟩ xs lx c0 0 359 ob11 ob12 FU 0 M0 (lawL hx hl 600 0 FU M0 (by omega) (by omega) (by unfold FU; omega) INV_0)
