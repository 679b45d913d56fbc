def gd (L : List LE) (M : MM) : Prop := okL L ∧ fresh L M
theorem gd_push {L : List LE} {M : MM} {q n m : Nat} (h : gd L M) : gd (L ++ [(q, n, List.replicate m none)]) M := ⟨okL_rep h.1, fresh_push h.2⟩
theorem gd_nil {L : List LE} {M : MM} {q n : Nat} (h : gd L M) : gd (L ++ [(q, n, [])]) M := ⟨okL_nil h.1, fresh_push h.2⟩
theorem gd_ref {L : List LE} {M : MM} {a q n k b : Nat} {rs : List (Option Nat)} (h : gd L M) (ha : L[a]? = some (q, n, rs)) (hk : k < rs.length) (hb : b < L.length) : gd (L.set a (q, n, rs.set k (some b))) M := ⟨okL_ref h.1 ha hk hb, fresh_set h.2⟩
theorem gd_mU {L : List LE} {M : MM} {a k : Nat} {x : Int} (h : gd L M) (ha : a < L.length) : gd L (mU M a k x) := ⟨h.1, fresh_mU h.2 ha⟩
theorem cf_own {ci : Nat} {C C0 : String} {T T0 : u_T} (h0 : CF ci C0 T0) (h : CF ci C T) : T = T0 := by
  have h1 := h0.1.symm.trans h.1
  cases h1
  rfl
theorem nf_all : ∀ ci, ci < 13 → ∀ j, j < clN ci → clT ci j ≠ .float ∧ clT ci j ≠ .double := by decide +kernel
theorem wc_0 : wI 0 = 0 := by decide +kernel
theorem fc_3_15 : FG RX3 15 3 0 (clT 3 0) true := ⟨RX3, TX3, cf_3, by decide, tb_i 286 (by decide +kernel) (by decide +kernel), rfl, rfl, rfl⟩
theorem fc_3_21 : FG RX3 21 3 1 (clT 3 1) true := ⟨RX3, TX3, cf_3, by decide, tb_i 287 (by decide +kernel) (by decide +kernel), rfl, rfl, rfl⟩
theorem fc_3_25 : FG RX3 25 3 2 (clT 3 2) true := ⟨RX3, TX3, cf_3, by decide, tb_i 290 (by decide +kernel) (by decide +kernel), rfl, rfl, rfl⟩
theorem fc_3_28 : FG RX3 28 3 3 (clT 3 3) true := ⟨RX3, TX3, cf_3, by decide, tb_i 296 (by decide +kernel) (by decide +kernel), rfl, rfl, rfl⟩
abbrev xX3_init : XX := (yX3_init, cX3_init, 2, none, 1, 23, 3, 125)
def eX3_init (a n : Nat) (k : Nat) : LE := (0, 3, [none, some (n + 0), some (n + 1), some (n + 2), none])
def sX3_init (a n : Nat) (k : Nat) : List LE := [(1, k, []), (1, k, []), (1, k, [])]
def mX3_init (M : MM) (a n : Nat) (k : Nat) : MM := (mU M a 0 (k : Int))
theorem oX3_init {L : List LE} {M : MM} {a n : Nat} {k : Nat} (hk : k ≤ 40) (hn : L.length = n) (ha : L[a]? = some (0, 3, List.replicate (clN 3) none)) (hg : gd L M) : gd (LX L a (eX3_init a n k) (sX3_init a n k)) (mX3_init M a n k) := by
  have han : a < L.length := (List.getElem?_eq_some_iff.mp ha).1
  have han2 : a < n := by omega
  have q0 : gd (LX L a (0, 3, List.replicate (clN 3) none) []) M := by rw [LX_start ha]; exact hg
  have wk : wI (k : Int) = (k : Int) := wI_of (by omega) (by omega)
  have q1 := gd_mU (a := a) (k := 0) (x := (k : Int)) q0 (by rw [LX_len, hn]; omega)
  have q2 := gd_nil (q := 1) (n := k) q1
  rw [LX_push] at q2
  have q3 := gd_ref (a := a) (k := 1) (b := (n + 0)) q2 (LX_this han) (Nat.le_of_ble_eq_true rfl) (by rw [LX_len, hn]; show _ < n + 1; omega)
  rw [LX_put han] at q3
  have q4 := gd_nil (q := 1) (n := k) q3
  rw [LX_push] at q4
  have q5 := gd_ref (a := a) (k := 2) (b := (n + 1)) q4 (LX_this han) (Nat.le_of_ble_eq_true rfl) (by rw [LX_len, hn]; show _ < n + 2; omega)
  rw [LX_put han] at q5
  have q6 := gd_nil (q := 1) (n := k) q5
  rw [LX_push] at q6
  have q7 := gd_ref (a := a) (k := 3) (b := (n + 2)) q6 (LX_this han) (Nat.le_of_ble_eq_true rfl) (by rw [LX_len, hn]; show _ < n + 3; omega)
  rw [LX_put han] at q7
  exact q7
set_option maxHeartbeats 8000000 in
set_option maxRecDepth 100000 in
theorem kX3_init {G : GG} {L : List LE} {M : MM} {a n : Nat} {k : Nat} (hk : k ≤ 40) (hn : L.length = n) (ha : L[a]? = some (0, 3, List.replicate (clN 3) none)) (hg : gd L M) : CI G xX3_init [.ref (gA G a), .int (eI (k : Int))] L M (LX L a (eX3_init a n k) (sX3_init a n k)) (mX3_init M a n k) := by
  have han : a < L.length := (List.getElem?_eq_some_iff.mp ha).1
  have han2 : a < n := by omega
  have q0 : gd (LX L a (0, 3, List.replicate (clN 3) none) []) M := by rw [LX_start ha]; exact hg
  have wk : wI (k : Int) = (k : Int) := wI_of (by omega) (by omega)
  refine CI_of (by decide +kernel) (Nat.le_of_ble_eq_true rfl) ?_
  rw [hn]
  obtain ⟨γ, hγ⟩ : ∃ γ, γ = gA G := ⟨_, rfl⟩
  have K : VV (gS G γ) xX3_init (ZI G xX3_init n (LX L a (eX3_init a n k) (sX3_init a n k)) (mX3_init M a n k)) (LX L a (0, 3, List.replicate (clN 3) none) []) M 0 0 0 [(0, .ref (γ a)), (1, .int (eI (k : Int)))] [] := ?_
  · rw [LX_start ha, hγ] at K; exact K
  refine r_aload_n (pc := 0) (i := 0) dX3_init_0 rfl 0 rfl ?_
  refine r_objI (pc := 1) (tb_i 282 (by decide +kernel) (by decide +kernel)) (tb_i 164 (by decide +kernel) (by decide +kernel)) (tb_i 165 (by decide +kernel) (by decide +kernel)) ⟨Nat.le_of_ble_eq_true rfl, Nat.le_of_ble_eq_true rfl⟩ dX3_init_1 ?_
  refine r_aload_n (pc := 4) (i := 0) dX3_init_4 rfl 0 rfl ?_
  refine r_iconst (pc := 5) (v := 0) dX3_init_5 (by decide +kernel) ?_
  refine r_iload_n (pc := 6) (i := 1) dX3_init_6 rfl 1 rfl ?_
  refine r_mmax (pc := 7) ml_3_9 ⟨Nat.le_of_ble_eq_true rfl, Nat.le_of_ble_eq_true rfl, Nat.le_of_ble_eq_true rfl, Nat.le_of_ble_eq_true rfl⟩ wc_0 wk dX3_init_7 ?_
  rw [show max (0 : Int) (k : Int) = (k : Int) by omega]
  refine r_putIF (pc := 10) (γ := γ) (a := a) fc_3_15 rfl (LX_this han) (fun C T h => by rw [cf_own cf_3 h]; rfl) dX3_init_10 ?_
  have q1 := gd_mU (a := a) (k := 0) (x := (k : Int)) q0 (by rw [LX_len, hn]; omega)
  refine r_aload_n (pc := 13) (i := 0) dX3_init_13 rfl 0 rfl ?_
  refine r_aload_n (pc := 14) (i := 0) dX3_init_14 rfl 0 rfl ?_
  refine r_getI (pc := 15) (a := a) fc_3_15 rfl ⟨_, LX_this han⟩ dX3_init_15 ?_
  rw [mU_eq]
  refine r_newA1 (pc := 18) (γ := γ) (lvf := fun g => [(0, .ref (g a)), (1, .int (eI (k : Int)))]) (stf := fun g => [.ref (g a)]) (n := n + 0) (N := k) (tb_i 277 (by decide +kernel) (by decide +kernel)) wk rfl (by omega) (by rw [LX_len, hn]; rfl) q1.1 (fun z => q1.2 _ (by rw [LX_len, hn]; exact Nat.le_refl _) z) (fun g h => ⟨by rw [h a (by omega)], by rw [h a (by omega)]⟩) ⟨by decide, by show _ ≤ 125; omega⟩ dX3_init_18 (fun g1 h1 => ?_)
  rw [LX_push]
  have q2 := gd_nil (q := 1) (n := k) q1
  rw [LX_push] at q2
  have k1 : ∀ z, z < n → g1 z = gA G z := fun z hz => (h1 z (by omega)).trans (by rw [hγ])
  refine r_putRF (pc := 20) (γ := g1) (a := a) (b := (n + 0)) fc_3_21 rfl rfl (LX_this han) (Nat.le_of_ble_eq_true rfl) (fun C T h => by rw [cf_own cf_3 h]; rfl) dX3_init_20 ?_
  rw [LX_put han]
  have q3 := gd_ref (a := a) (k := 1) (b := (n + 0)) q2 (LX_this han) (Nat.le_of_ble_eq_true rfl) (by rw [LX_len, hn]; show _ < n + 1; omega)
  rw [LX_put han] at q3
  refine r_aload_n (pc := 23) (i := 0) dX3_init_23 rfl 0 rfl ?_
  refine r_aload_n (pc := 24) (i := 0) dX3_init_24 rfl 0 rfl ?_
  refine r_getI (pc := 25) (a := a) fc_3_15 rfl ⟨_, LX_this han⟩ dX3_init_25 ?_
  rw [mU_eq]
  refine r_newA1 (pc := 28) (γ := g1) (lvf := fun g => [(0, .ref (g a)), (1, .int (eI (k : Int)))]) (stf := fun g => [.ref (g a)]) (n := n + 1) (N := k) (tb_i 277 (by decide +kernel) (by decide +kernel)) wk rfl (by omega) (by rw [LX_len, hn]; rfl) q3.1 (fun z => q3.2 _ (by rw [LX_len, hn]; exact Nat.le_refl _) z) (fun g h => ⟨by rw [h a (by omega)], by rw [h a (by omega)]⟩) ⟨by decide, by show _ ≤ 125; omega⟩ dX3_init_28 (fun g2 h2 => ?_)
  rw [LX_push]
  have q4 := gd_nil (q := 1) (n := k) q3
  rw [LX_push] at q4
  have k2 : ∀ z, z < n → g2 z = gA G z := fun z hz => (h2 z (by omega)).trans (k1 z hz)
  refine r_putRF (pc := 30) (γ := g2) (a := a) (b := (n + 1)) fc_3_25 rfl rfl (LX_this han) (Nat.le_of_ble_eq_true rfl) (fun C T h => by rw [cf_own cf_3 h]; rfl) dX3_init_30 ?_
  rw [LX_put han]
  have q5 := gd_ref (a := a) (k := 2) (b := (n + 1)) q4 (LX_this han) (Nat.le_of_ble_eq_true rfl) (by rw [LX_len, hn]; show _ < n + 2; omega)
  rw [LX_put han] at q5
  refine r_aload_n (pc := 33) (i := 0) dX3_init_33 rfl 0 rfl ?_
  refine r_aload_n (pc := 34) (i := 0) dX3_init_34 rfl 0 rfl ?_
  refine r_getI (pc := 35) (a := a) fc_3_15 rfl ⟨_, LX_this han⟩ dX3_init_35 ?_
  rw [mU_eq]
  refine r_newA1 (pc := 38) (γ := g2) (lvf := fun g => [(0, .ref (g a)), (1, .int (eI (k : Int)))]) (stf := fun g => [.ref (g a)]) (n := n + 2) (N := k) (tb_i 277 (by decide +kernel) (by decide +kernel)) wk rfl (by omega) (by rw [LX_len, hn]; rfl) q5.1 (fun z => q5.2 _ (by rw [LX_len, hn]; exact Nat.le_refl _) z) (fun g h => ⟨by rw [h a (by omega)], by rw [h a (by omega)]⟩) ⟨by decide, by show _ ≤ 125; omega⟩ dX3_init_38 (fun g3 h3 => ?_)
  rw [LX_push]
  have q6 := gd_nil (q := 1) (n := k) q5
  rw [LX_push] at q6
  have k3 : ∀ z, z < n → g3 z = gA G z := fun z hz => (h3 z (by omega)).trans (k2 z hz)
  refine r_putRF (pc := 40) (γ := g3) (a := a) (b := (n + 2)) fc_3_28 rfl rfl (LX_this han) (Nat.le_of_ble_eq_true rfl) (fun C T h => by rw [cf_own cf_3 h]; rfl) dX3_init_40 ?_
  rw [LX_put han]
  have q7 := gd_ref (a := a) (k := 3) (b := (n + 2)) q6 (LX_this han) (Nat.le_of_ble_eq_true rfl) (by rw [LX_len, hn]; show _ < n + 3; omega)
  rw [LX_put han] at q7
  exact r_vretI (pc := 43) (γ := g3) k3 rfl (by decide) (by show _ ≤ 125; omega) dX3_init_43
abbrev xX1_init : XX := (yX1_init, cX1_init, 1, none, 2, 44, 5, 138)
theorem ci_X1_init_11 : CKI xX1_init 11 xX3_init 1 := ⟨tb_i 142 (by decide +kernel) (by decide +kernel), tb_i 281 (by decide +kernel) (by decide +kernel), ⟨by decide +kernel, by decide +kernel, by decide +kernel⟩, by decide, by decide, rfl, tb_i 280 (by decide +kernel) (by decide +kernel), rfl, Or.inl (tb_i 327 (by decide +kernel) (by decide +kernel))⟩
theorem fc_1_14 : FG RX1 14 1 0 (clT 1 0) true := ⟨RX1, TX1, cf_1, by decide, tb_i 328 (by decide +kernel) (by decide +kernel), rfl, rfl, rfl⟩
theorem wc_8 : wI 8 = 8 := by decide +kernel
theorem fc_1_20 : FG RX1 20 1 1 (clT 1 1) true := ⟨RX1, TX1, cf_1, by decide, tb_i 332 (by decide +kernel) (by decide +kernel), rfl, rfl, rfl⟩
def eX1_init (a n : Nat) : LE := (0, 1, [some (n + 0), some (n + 4)])
def sX1_init (a n : Nat) : List LE := [(0, 3, [none, some (n + 1), some (n + 2), some (n + 3), none]), (1, 8, []), (1, 8, []), (1, 8, []), (1, 8, [])]
def mX1_init (M : MM) (a n : Nat) : MM := (mX3_init M (n + 0) (n + 1) 8)
theorem oX1_init {L : List LE} {M : MM} {a n : Nat} (hn : L.length = n) (ha : L[a]? = some (0, 1, List.replicate (clN 1) none)) (hg : gd L M) : gd (LX L a (eX1_init a n) (sX1_init a n)) (mX1_init M a n) := by
  have han : a < L.length := (List.getElem?_eq_some_iff.mp ha).1
  have han2 : a < n := by omega
  have q0 : gd (LX L a (0, 1, List.replicate (clN 1) none) []) M := by rw [LX_start ha]; exact hg
  have q1 := gd_push (q := 0) (n := 3) (m := clN 3) q0
  rw [LX_push] at q1
  have q2 := oX3_init (a := n + 0) (n := n + 1) (k := 8) (by decide) (by rw [LX_len, hn]; rfl) (LX_at hn rfl) q1
  rw [LX_LX hn] at q2
  have q3 := gd_ref (a := a) (k := 0) (b := (n + 0)) q2 (LX_this han) (Nat.le_of_ble_eq_true rfl) (by rw [LX_len, hn]; show _ < n + 4; omega)
  rw [LX_put han] at q3
  have q4 := gd_nil (q := 1) (n := 8) q3
  rw [LX_push] at q4
  have q5 := gd_ref (a := a) (k := 1) (b := (n + 4)) q4 (LX_this han) (Nat.le_of_ble_eq_true rfl) (by rw [LX_len, hn]; show _ < n + 5; omega)
  rw [LX_put han] at q5
  exact q5
set_option maxHeartbeats 8000000 in
set_option maxRecDepth 100000 in
theorem kX1_init {G : GG} {L : List LE} {M : MM} {a n : Nat} (hn : L.length = n) (ha : L[a]? = some (0, 1, List.replicate (clN 1) none)) (hg : gd L M) : CI G xX1_init [.ref (gA G a)] L M (LX L a (eX1_init a n) (sX1_init a n)) (mX1_init M a n) := by
  have han : a < L.length := (List.getElem?_eq_some_iff.mp ha).1
  have han2 : a < n := by omega
  have q0 : gd (LX L a (0, 1, List.replicate (clN 1) none) []) M := by rw [LX_start ha]; exact hg
  refine CI_of (by decide +kernel) (Nat.le_of_ble_eq_true rfl) ?_
  rw [hn]
  obtain ⟨γ, hγ⟩ : ∃ γ, γ = gA G := ⟨_, rfl⟩
  have K : VV (gS G γ) xX1_init (ZI G xX1_init n (LX L a (eX1_init a n) (sX1_init a n)) (mX1_init M a n)) (LX L a (0, 1, List.replicate (clN 1) none) []) M 0 0 0 [(0, .ref (γ a))] [] := ?_
  · rw [LX_start ha, hγ] at K; exact K
  refine r_aload_n (pc := 0) (i := 0) dX1_init_0 rfl 0 rfl ?_
  refine r_objI (pc := 1) (tb_i 325 (by decide +kernel) (by decide +kernel)) (tb_i 164 (by decide +kernel) (by decide +kernel)) (tb_i 165 (by decide +kernel) (by decide +kernel)) ⟨Nat.le_of_ble_eq_true rfl, Nat.le_of_ble_eq_true rfl⟩ dX1_init_1 ?_
  refine r_aload_n (pc := 4) (i := 0) dX1_init_4 rfl 0 rfl ?_
  refine r_newO (pc := 5) (γ := γ) (lvf := fun g => [(0, .ref (g a))]) (stf := fun g => [.ref (g a)]) (n := n + 0) cf_3 (tb_i 326 (by decide +kernel) (by decide +kernel)) (tb_i 278 (by decide +kernel) (by decide +kernel)) (tb_i 142 (by decide +kernel) (by decide +kernel)) (by rw [LX_len, hn]; rfl) q0.1 (fun z => q0.2 _ (by rw [LX_len, hn]; exact Nat.le_refl _) z) (nf_all 3 (by decide)) (fun g h => ⟨by rw [h a (by omega)], by rw [h a (by omega)]⟩) ⟨by decide, by decide⟩ dX1_init_5 (fun g1 h1 => ?_)
  rw [LX_push]
  have q1 := gd_push (q := 0) (n := 3) (m := clN 3) q0
  rw [LX_push] at q1
  have k1 : ∀ z, z < n → g1 z = gA G z := fun z hz => (h1 z (by omega)).trans (by rw [hγ])
  refine r_dup (pc := 8) dX1_init_8 rfl ?_
  refine r_bipush (pc := 9) (v := 8) dX1_init_9 (by decide +kernel) ?_
  refine r_callI (pc := 11) (γ := g1) (lvf := fun g => [(0, .ref (g a))]) (stf := fun g => [.ref (g (n + 0)), .ref (g a)]) (b := n + 0) (As := [.int (eI 8)]) (fun _ _ _ _ _ _ _ _ _ h => h) ci_X1_init_11 (kX3_init (G := gS G g1) (a := n + 0) (n := n + 1) (k := 8) (by decide) (by rw [LX_len, hn]; rfl) (LX_at hn rfl) q1) (fun g h => ⟨by rw [h a (by rw [LX_len, hn]; show _ < n + 1; omega)], by rw [h a (by rw [LX_len, hn]; show _ < n + 1; omega), h (n + 0) (by rw [LX_len, hn]; show _ < n + 1; omega)]⟩) rfl (Nat.le_of_ble_eq_true rfl) ⟨by decide, by decide⟩ dX1_init_11 (fun g2 h2 => ?_)
  rw [LX_LX hn]
  have q2 := oX3_init (a := n + 0) (n := n + 1) (k := 8) (by decide) (by rw [LX_len, hn]; rfl) (LX_at hn rfl) q1
  rw [LX_LX hn] at q2
  have k2 : ∀ z, z < n → g2 z = gA G z := fun z hz => (h2 z (by rw [LX_len, hn]; show z < n + 1; omega)).trans (k1 z hz)
  refine r_putRF (pc := 14) (γ := g2) (a := a) (b := (n + 0)) fc_1_14 rfl rfl (LX_this han) (Nat.le_of_ble_eq_true rfl) (fun C T h => by rw [cf_own cf_1 h]; rfl) dX1_init_14 ?_
  rw [LX_put han]
  have q3 := gd_ref (a := a) (k := 0) (b := (n + 0)) q2 (LX_this han) (Nat.le_of_ble_eq_true rfl) (by rw [LX_len, hn]; show _ < n + 4; omega)
  rw [LX_put han] at q3
  refine r_aload_n (pc := 17) (i := 0) dX1_init_17 rfl 0 rfl ?_
  refine r_bipush (pc := 18) (v := 8) dX1_init_18 (by decide +kernel) ?_
  refine r_newA1 (pc := 20) (γ := g2) (lvf := fun g => [(0, .ref (g a))]) (stf := fun g => [.ref (g a)]) (n := n + 4) (N := 8) (tb_i 277 (by decide +kernel) (by decide +kernel)) wc_8 rfl (by decide) (by rw [LX_len, hn]; rfl) q3.1 (fun z => q3.2 _ (by rw [LX_len, hn]; exact Nat.le_refl _) z) (fun g h => ⟨by rw [h a (by omega)], by rw [h a (by omega)]⟩) ⟨by decide, by decide⟩ dX1_init_20 (fun g3 h3 => ?_)
  rw [LX_push]
  have q4 := gd_nil (q := 1) (n := 8) q3
  rw [LX_push] at q4
  have k3 : ∀ z, z < n → g3 z = gA G z := fun z hz => (h3 z (by omega)).trans (k2 z hz)
  refine r_putRF (pc := 22) (γ := g3) (a := a) (b := (n + 4)) fc_1_20 rfl rfl (LX_this han) (Nat.le_of_ble_eq_true rfl) (fun C T h => by rw [cf_own cf_1 h]; rfl) dX1_init_22 ?_
  rw [LX_put han]
  have q5 := gd_ref (a := a) (k := 1) (b := (n + 4)) q4 (LX_this han) (Nat.le_of_ble_eq_true rfl) (by rw [LX_len, hn]; show _ < n + 5; omega)
  rw [LX_put han] at q5
  exact r_vretI (pc := 25) (γ := g3) k3 rfl (by decide) (by decide) dX1_init_25
abbrev xX8_init : XX := (yX8_init, cX8_init, 1, none, 2, 44, 8, 260)
theorem ci_X8_init_11 : CKI xX8_init 11 xX3_init 1 := ⟨tb_i 142 (by decide +kernel) (by decide +kernel), tb_i 281 (by decide +kernel) (by decide +kernel), ⟨by decide +kernel, by decide +kernel, by decide +kernel⟩, by decide, by decide, rfl, tb_i 280 (by decide +kernel) (by decide +kernel), rfl, Or.inl (tb_i 347 (by decide +kernel) (by decide +kernel))⟩
theorem fc_8_14 : FG RX8 14 8 0 (clT 8 0) true := ⟨RX8, TX8, cf_8, by decide, tb_i 348 (by decide +kernel) (by decide +kernel), rfl, rfl, rfl⟩
theorem fc_8_20 : FG RX8 20 8 1 (clT 8 1) true := ⟨RX8, TX8, cf_8, by decide, tb_i 350 (by decide +kernel) (by decide +kernel), rfl, rfl, rfl⟩
def eX8_init (a n : Nat) : LE := (0, 8, [some (n + 0), some (n + 4)])
def sX8_init (a n : Nat) : List LE := [(0, 3, [none, some (n + 1), some (n + 2), some (n + 3), none]), (1, 40, []), (1, 40, []), (1, 40, []), (0, 3, [none, some (n + 5), some (n + 6), some (n + 7), none]), (1, 15, []), (1, 15, []), (1, 15, [])]
def mX8_init (M : MM) (a n : Nat) : MM := (mX3_init (mX3_init M (n + 0) (n + 1) 40) (n + 4) (n + 5) 15)
theorem oX8_init {L : List LE} {M : MM} {a n : Nat} (hn : L.length = n) (ha : L[a]? = some (0, 8, List.replicate (clN 8) none)) (hg : gd L M) : gd (LX L a (eX8_init a n) (sX8_init a n)) (mX8_init M a n) := by
  have han : a < L.length := (List.getElem?_eq_some_iff.mp ha).1
  have han2 : a < n := by omega
  have q0 : gd (LX L a (0, 8, List.replicate (clN 8) none) []) M := by rw [LX_start ha]; exact hg
  have q1 := gd_push (q := 0) (n := 3) (m := clN 3) q0
  rw [LX_push] at q1
  have q2 := oX3_init (a := n + 0) (n := n + 1) (k := 40) (by decide) (by rw [LX_len, hn]; rfl) (LX_at hn rfl) q1
  rw [LX_LX hn] at q2
  have q3 := gd_ref (a := a) (k := 0) (b := (n + 0)) q2 (LX_this han) (Nat.le_of_ble_eq_true rfl) (by rw [LX_len, hn]; show _ < n + 4; omega)
  rw [LX_put han] at q3
  have q4 := gd_push (q := 0) (n := 3) (m := clN 3) q3
  rw [LX_push] at q4
  have q5 := oX3_init (a := n + 4) (n := n + 5) (k := 15) (by decide) (by rw [LX_len, hn]; rfl) (LX_at hn rfl) q4
  rw [LX_LX hn] at q5
  have q6 := gd_ref (a := a) (k := 1) (b := (n + 4)) q5 (LX_this han) (Nat.le_of_ble_eq_true rfl) (by rw [LX_len, hn]; show _ < n + 8; omega)
  rw [LX_put han] at q6
  exact q6
set_option maxHeartbeats 8000000 in
set_option maxRecDepth 100000 in
theorem kX8_init {G : GG} {L : List LE} {M : MM} {a n : Nat} (hn : L.length = n) (ha : L[a]? = some (0, 8, List.replicate (clN 8) none)) (hg : gd L M) : CI G xX8_init [.ref (gA G a)] L M (LX L a (eX8_init a n) (sX8_init a n)) (mX8_init M a n) := by
  have han : a < L.length := (List.getElem?_eq_some_iff.mp ha).1
  have han2 : a < n := by omega
  have q0 : gd (LX L a (0, 8, List.replicate (clN 8) none) []) M := by rw [LX_start ha]; exact hg
  refine CI_of (by decide +kernel) (Nat.le_of_ble_eq_true rfl) ?_
  rw [hn]
  obtain ⟨γ, hγ⟩ : ∃ γ, γ = gA G := ⟨_, rfl⟩
  have K : VV (gS G γ) xX8_init (ZI G xX8_init n (LX L a (eX8_init a n) (sX8_init a n)) (mX8_init M a n)) (LX L a (0, 8, List.replicate (clN 8) none) []) M 0 0 0 [(0, .ref (γ a))] [] := ?_
  · rw [LX_start ha, hγ] at K; exact K
  refine r_aload_n (pc := 0) (i := 0) dX8_init_0 rfl 0 rfl ?_
  refine r_objI (pc := 1) (tb_i 345 (by decide +kernel) (by decide +kernel)) (tb_i 164 (by decide +kernel) (by decide +kernel)) (tb_i 165 (by decide +kernel) (by decide +kernel)) ⟨Nat.le_of_ble_eq_true rfl, Nat.le_of_ble_eq_true rfl⟩ dX8_init_1 ?_
  refine r_aload_n (pc := 4) (i := 0) dX8_init_4 rfl 0 rfl ?_
  refine r_newO (pc := 5) (γ := γ) (lvf := fun g => [(0, .ref (g a))]) (stf := fun g => [.ref (g a)]) (n := n + 0) cf_3 (tb_i 346 (by decide +kernel) (by decide +kernel)) (tb_i 278 (by decide +kernel) (by decide +kernel)) (tb_i 142 (by decide +kernel) (by decide +kernel)) (by rw [LX_len, hn]; rfl) q0.1 (fun z => q0.2 _ (by rw [LX_len, hn]; exact Nat.le_refl _) z) (nf_all 3 (by decide)) (fun g h => ⟨by rw [h a (by omega)], by rw [h a (by omega)]⟩) ⟨by decide, by decide⟩ dX8_init_5 (fun g1 h1 => ?_)
  rw [LX_push]
  have q1 := gd_push (q := 0) (n := 3) (m := clN 3) q0
  rw [LX_push] at q1
  have k1 : ∀ z, z < n → g1 z = gA G z := fun z hz => (h1 z (by omega)).trans (by rw [hγ])
  refine r_dup (pc := 8) dX8_init_8 rfl ?_
  refine r_bipush (pc := 9) (v := 40) dX8_init_9 (by decide +kernel) ?_
  refine r_callI (pc := 11) (γ := g1) (lvf := fun g => [(0, .ref (g a))]) (stf := fun g => [.ref (g (n + 0)), .ref (g a)]) (b := n + 0) (As := [.int (eI 40)]) (fun _ _ _ _ _ _ _ _ _ h => h) ci_X8_init_11 (kX3_init (G := gS G g1) (a := n + 0) (n := n + 1) (k := 40) (by decide) (by rw [LX_len, hn]; rfl) (LX_at hn rfl) q1) (fun g h => ⟨by rw [h a (by rw [LX_len, hn]; show _ < n + 1; omega)], by rw [h a (by rw [LX_len, hn]; show _ < n + 1; omega), h (n + 0) (by rw [LX_len, hn]; show _ < n + 1; omega)]⟩) rfl (Nat.le_of_ble_eq_true rfl) ⟨by decide, by decide⟩ dX8_init_11 (fun g2 h2 => ?_)
  rw [LX_LX hn]
  have q2 := oX3_init (a := n + 0) (n := n + 1) (k := 40) (by decide) (by rw [LX_len, hn]; rfl) (LX_at hn rfl) q1
  rw [LX_LX hn] at q2
  have k2 : ∀ z, z < n → g2 z = gA G z := fun z hz => (h2 z (by rw [LX_len, hn]; show z < n + 1; omega)).trans (k1 z hz)
  refine r_putRF (pc := 14) (γ := g2) (a := a) (b := (n + 0)) fc_8_14 rfl rfl (LX_this han) (Nat.le_of_ble_eq_true rfl) (fun C T h => by rw [cf_own cf_8 h]; rfl) dX8_init_14 ?_
  rw [LX_put han]
  have q3 := gd_ref (a := a) (k := 0) (b := (n + 0)) q2 (LX_this han) (Nat.le_of_ble_eq_true rfl) (by rw [LX_len, hn]; show _ < n + 4; omega)
  rw [LX_put han] at q3
  refine r_aload_n (pc := 17) (i := 0) dX8_init_17 rfl 0 rfl ?_
  refine r_newO (pc := 18) (γ := g2) (lvf := fun g => [(0, .ref (g a))]) (stf := fun g => [.ref (g a)]) (n := n + 4) cf_3 (tb_i 346 (by decide +kernel) (by decide +kernel)) (tb_i 278 (by decide +kernel) (by decide +kernel)) (tb_i 142 (by decide +kernel) (by decide +kernel)) (by rw [LX_len, hn]; rfl) q3.1 (fun z => q3.2 _ (by rw [LX_len, hn]; exact Nat.le_refl _) z) (nf_all 3 (by decide)) (fun g h => ⟨by rw [h a (by omega)], by rw [h a (by omega)]⟩) ⟨by decide, by decide⟩ dX8_init_18 (fun g3 h3 => ?_)
  rw [LX_push]
  have q4 := gd_push (q := 0) (n := 3) (m := clN 3) q3
  rw [LX_push] at q4
  have k3 : ∀ z, z < n → g3 z = gA G z := fun z hz => (h3 z (by omega)).trans (k2 z hz)
  refine r_dup (pc := 21) dX8_init_21 rfl ?_
  refine r_bipush (pc := 22) (v := 15) dX8_init_22 (by decide +kernel) ?_
  refine r_callI (pc := 24) (γ := g3) (lvf := fun g => [(0, .ref (g a))]) (stf := fun g => [.ref (g (n + 4)), .ref (g a)]) (b := n + 4) (As := [.int (eI 15)]) (fun _ _ _ _ _ _ _ _ _ h => h) ci_X8_init_11 (kX3_init (G := gS G g3) (a := n + 4) (n := n + 5) (k := 15) (by decide) (by rw [LX_len, hn]; rfl) (LX_at hn rfl) q4) (fun g h => ⟨by rw [h a (by rw [LX_len, hn]; show _ < n + 5; omega)], by rw [h a (by rw [LX_len, hn]; show _ < n + 5; omega), h (n + 4) (by rw [LX_len, hn]; show _ < n + 5; omega)]⟩) rfl (Nat.le_of_ble_eq_true rfl) ⟨by decide, by decide⟩ dX8_init_24 (fun g4 h4 => ?_)
  rw [LX_LX hn]
  have q5 := oX3_init (a := n + 4) (n := n + 5) (k := 15) (by decide) (by rw [LX_len, hn]; rfl) (LX_at hn rfl) q4
  rw [LX_LX hn] at q5
  have k4 : ∀ z, z < n → g4 z = gA G z := fun z hz => (h4 z (by rw [LX_len, hn]; show z < n + 5; omega)).trans (k3 z hz)
  refine r_putRF (pc := 27) (γ := g4) (a := a) (b := (n + 4)) fc_8_20 rfl rfl (LX_this han) (Nat.le_of_ble_eq_true rfl) (fun C T h => by rw [cf_own cf_8 h]; rfl) dX8_init_27 ?_
  rw [LX_put han]
  have q6 := gd_ref (a := a) (k := 1) (b := (n + 4)) q5 (LX_this han) (Nat.le_of_ble_eq_true rfl) (by rw [LX_len, hn]; show _ < n + 8; omega)
  rw [LX_put han] at q6
  exact r_vretI (pc := 30) (γ := g4) k4 rfl (by decide) (by decide) dX8_init_30
theorem wc_5 : wI 5 = 5 := by decide +kernel
theorem fc_5_9 : FG RX5 9 5 1 (clT 5 1) true := ⟨RX5, TX5, cf_5, by decide, tb_i 188 (by decide +kernel) (by decide +kernel), rfl, rfl, rfl⟩
theorem fc_5_15 : FG RX5 15 5 2 (clT 5 2) true := ⟨RX5, TX5, cf_5, by decide, tb_i 190 (by decide +kernel) (by decide +kernel), rfl, rfl, rfl⟩
theorem fc_5_18 : FG RX5 18 5 4 (clT 5 4) true := ⟨RX5, TX5, cf_5, by decide, tb_i 202 (by decide +kernel) (by decide +kernel), rfl, rfl, rfl⟩
theorem fc_5_21 : FG RX5 21 5 5 (clT 5 5) true := ⟨RX5, TX5, cf_5, by decide, tb_i 206 (by decide +kernel) (by decide +kernel), rfl, rfl, rfl⟩
theorem fc_5_24 : FG RX5 24 5 6 (clT 5 6) true := ⟨RX5, TX5, cf_5, by decide, tb_i 210 (by decide +kernel) (by decide +kernel), rfl, rfl, rfl⟩
theorem fc_5_27 : FG RX5 27 5 7 (clT 5 7) true := ⟨RX5, TX5, cf_5, by decide, tb_i 213 (by decide +kernel) (by decide +kernel), rfl, rfl, rfl⟩
theorem fc_5_30 : FG RX5 30 5 8 (clT 5 8) true := ⟨RX5, TX5, cf_5, by decide, tb_i 215 (by decide +kernel) (by decide +kernel), rfl, rfl, rfl⟩
theorem wc_64 : wI 64 = 64 := by decide +kernel
theorem fc_5_33 : FG RX5 33 5 9 (clT 5 9) true := ⟨RX5, TX5, cf_5, by decide, tb_i 217 (by decide +kernel) (by decide +kernel), rfl, rfl, rfl⟩
theorem fc_5_36 : FG RX5 36 5 10 (clT 5 10) true := ⟨RX5, TX5, cf_5, by decide, tb_i 218 (by decide +kernel) (by decide +kernel), rfl, rfl, rfl⟩
theorem wc_3 : wI 3 = 3 := by decide +kernel
theorem fc_5_39 : FG RX5 39 5 11 (clT 5 11) true := ⟨RX5, TX5, cf_5, by decide, tb_i 220 (by decide +kernel) (by decide +kernel), rfl, rfl, rfl⟩
abbrev xX5_init : XX := (yX5_init, cX5_init, 1, none, 1, 20, 10, 125)
def eX5_init (a n : Nat) : LE := (0, 5, [none, some (n + 0), some (n + 1), none, some (n + 2), some (n + 3), some (n + 4), some (n + 5), some (n + 6), some (n + 7), some (n + 8), some (n + 9), none, none, none, none, none])
def sX5_init (a n : Nat) : List LE := [(1, 5, []), (1, 5, []), (1, 8, []), (1, 8, []), (1, 8, []), (1, 8, []), (1, 8, []), (1, 64, []), (1, 8, []), (1, 3, [])]
def mX5_init (M : MM) (a n : Nat) : MM := M
theorem oX5_init {L : List LE} {M : MM} {a n : Nat} (hn : L.length = n) (ha : L[a]? = some (0, 5, List.replicate (clN 5) none)) (hg : gd L M) : gd (LX L a (eX5_init a n) (sX5_init a n)) (mX5_init M a n) := by
  have han : a < L.length := (List.getElem?_eq_some_iff.mp ha).1
  have han2 : a < n := by omega
  have q0 : gd (LX L a (0, 5, List.replicate (clN 5) none) []) M := by rw [LX_start ha]; exact hg
  have q1 := gd_nil (q := 1) (n := 5) q0
  rw [LX_push] at q1
  have q2 := gd_ref (a := a) (k := 1) (b := (n + 0)) q1 (LX_this han) (Nat.le_of_ble_eq_true rfl) (by rw [LX_len, hn]; show _ < n + 1; omega)
  rw [LX_put han] at q2
  have q3 := gd_nil (q := 1) (n := 5) q2
  rw [LX_push] at q3
  have q4 := gd_ref (a := a) (k := 2) (b := (n + 1)) q3 (LX_this han) (Nat.le_of_ble_eq_true rfl) (by rw [LX_len, hn]; show _ < n + 2; omega)
  rw [LX_put han] at q4
  have q5 := gd_nil (q := 1) (n := 8) q4
  rw [LX_push] at q5
  have q6 := gd_ref (a := a) (k := 4) (b := (n + 2)) q5 (LX_this han) (Nat.le_of_ble_eq_true rfl) (by rw [LX_len, hn]; show _ < n + 3; omega)
  rw [LX_put han] at q6
  have q7 := gd_nil (q := 1) (n := 8) q6
  rw [LX_push] at q7
  have q8 := gd_ref (a := a) (k := 5) (b := (n + 3)) q7 (LX_this han) (Nat.le_of_ble_eq_true rfl) (by rw [LX_len, hn]; show _ < n + 4; omega)
  rw [LX_put han] at q8
  have q9 := gd_nil (q := 1) (n := 8) q8
  rw [LX_push] at q9
  have q10 := gd_ref (a := a) (k := 6) (b := (n + 4)) q9 (LX_this han) (Nat.le_of_ble_eq_true rfl) (by rw [LX_len, hn]; show _ < n + 5; omega)
  rw [LX_put han] at q10
  have q11 := gd_nil (q := 1) (n := 8) q10
  rw [LX_push] at q11
  have q12 := gd_ref (a := a) (k := 7) (b := (n + 5)) q11 (LX_this han) (Nat.le_of_ble_eq_true rfl) (by rw [LX_len, hn]; show _ < n + 6; omega)
  rw [LX_put han] at q12
  have q13 := gd_nil (q := 1) (n := 8) q12
  rw [LX_push] at q13
  have q14 := gd_ref (a := a) (k := 8) (b := (n + 6)) q13 (LX_this han) (Nat.le_of_ble_eq_true rfl) (by rw [LX_len, hn]; show _ < n + 7; omega)
  rw [LX_put han] at q14
  have q15 := gd_nil (q := 1) (n := 64) q14
  rw [LX_push] at q15
  have q16 := gd_ref (a := a) (k := 9) (b := (n + 7)) q15 (LX_this han) (Nat.le_of_ble_eq_true rfl) (by rw [LX_len, hn]; show _ < n + 8; omega)
  rw [LX_put han] at q16
  have q17 := gd_nil (q := 1) (n := 8) q16
  rw [LX_push] at q17
  have q18 := gd_ref (a := a) (k := 10) (b := (n + 8)) q17 (LX_this han) (Nat.le_of_ble_eq_true rfl) (by rw [LX_len, hn]; show _ < n + 9; omega)
  rw [LX_put han] at q18
  have q19 := gd_nil (q := 1) (n := 3) q18
  rw [LX_push] at q19
  have q20 := gd_ref (a := a) (k := 11) (b := (n + 9)) q19 (LX_this han) (Nat.le_of_ble_eq_true rfl) (by rw [LX_len, hn]; show _ < n + 10; omega)
  rw [LX_put han] at q20
  exact q20
set_option maxHeartbeats 8000000 in
set_option maxRecDepth 100000 in
theorem kX5_init {G : GG} {L : List LE} {M : MM} {a n : Nat} (hn : L.length = n) (ha : L[a]? = some (0, 5, List.replicate (clN 5) none)) (hg : gd L M) : CI G xX5_init [.ref (gA G a)] L M (LX L a (eX5_init a n) (sX5_init a n)) (mX5_init M a n) := by
  have han : a < L.length := (List.getElem?_eq_some_iff.mp ha).1
  have han2 : a < n := by omega
  have q0 : gd (LX L a (0, 5, List.replicate (clN 5) none) []) M := by rw [LX_start ha]; exact hg
  refine CI_of (by decide +kernel) (Nat.le_of_ble_eq_true rfl) ?_
  rw [hn]
  obtain ⟨γ, hγ⟩ : ∃ γ, γ = gA G := ⟨_, rfl⟩
  have K : VV (gS G γ) xX5_init (ZI G xX5_init n (LX L a (eX5_init a n) (sX5_init a n)) (mX5_init M a n)) (LX L a (0, 5, List.replicate (clN 5) none) []) M 0 0 0 [(0, .ref (γ a))] [] := ?_
  · rw [LX_start ha, hγ] at K; exact K
  refine r_aload_n (pc := 0) (i := 0) dX5_init_0 rfl 0 rfl ?_
  refine r_objI (pc := 1) (tb_i 184 (by decide +kernel) (by decide +kernel)) (tb_i 164 (by decide +kernel) (by decide +kernel)) (tb_i 165 (by decide +kernel) (by decide +kernel)) ⟨Nat.le_of_ble_eq_true rfl, Nat.le_of_ble_eq_true rfl⟩ dX5_init_1 ?_
  refine r_aload_n (pc := 4) (i := 0) dX5_init_4 rfl 0 rfl ?_
  refine r_iconst (pc := 5) (v := 5) dX5_init_5 (by decide +kernel) ?_
  refine r_newA1 (pc := 6) (γ := γ) (lvf := fun g => [(0, .ref (g a))]) (stf := fun g => [.ref (g a)]) (n := n + 0) (N := 5) (tb_i 277 (by decide +kernel) (by decide +kernel)) wc_5 rfl (by decide) (by rw [LX_len, hn]; rfl) q0.1 (fun z => q0.2 _ (by rw [LX_len, hn]; exact Nat.le_refl _) z) (fun g h => ⟨by rw [h a (by omega)], by rw [h a (by omega)]⟩) ⟨by decide, by decide⟩ dX5_init_6 (fun g1 h1 => ?_)
  rw [LX_push]
  have q1 := gd_nil (q := 1) (n := 5) q0
  rw [LX_push] at q1
  have k1 : ∀ z, z < n → g1 z = gA G z := fun z hz => (h1 z (by omega)).trans (by rw [hγ])
  refine r_putRF (pc := 8) (γ := g1) (a := a) (b := (n + 0)) fc_5_9 rfl rfl (LX_this han) (Nat.le_of_ble_eq_true rfl) (fun C T h => by rw [cf_own cf_5 h]; rfl) dX5_init_8 ?_
  rw [LX_put han]
  have q2 := gd_ref (a := a) (k := 1) (b := (n + 0)) q1 (LX_this han) (Nat.le_of_ble_eq_true rfl) (by rw [LX_len, hn]; show _ < n + 1; omega)
  rw [LX_put han] at q2
  refine r_aload_n (pc := 11) (i := 0) dX5_init_11 rfl 0 rfl ?_
  refine r_iconst (pc := 12) (v := 5) dX5_init_12 (by decide +kernel) ?_
  refine r_newA1 (pc := 13) (γ := g1) (lvf := fun g => [(0, .ref (g a))]) (stf := fun g => [.ref (g a)]) (n := n + 1) (N := 5) (tb_i 277 (by decide +kernel) (by decide +kernel)) wc_5 rfl (by decide) (by rw [LX_len, hn]; rfl) q2.1 (fun z => q2.2 _ (by rw [LX_len, hn]; exact Nat.le_refl _) z) (fun g h => ⟨by rw [h a (by omega)], by rw [h a (by omega)]⟩) ⟨by decide, by decide⟩ dX5_init_13 (fun g2 h2 => ?_)
  rw [LX_push]
  have q3 := gd_nil (q := 1) (n := 5) q2
  rw [LX_push] at q3
  have k2 : ∀ z, z < n → g2 z = gA G z := fun z hz => (h2 z (by omega)).trans (k1 z hz)
  refine r_putRF (pc := 15) (γ := g2) (a := a) (b := (n + 1)) fc_5_15 rfl rfl (LX_this han) (Nat.le_of_ble_eq_true rfl) (fun C T h => by rw [cf_own cf_5 h]; rfl) dX5_init_15 ?_
  rw [LX_put han]
  have q4 := gd_ref (a := a) (k := 2) (b := (n + 1)) q3 (LX_this han) (Nat.le_of_ble_eq_true rfl) (by rw [LX_len, hn]; show _ < n + 2; omega)
  rw [LX_put han] at q4
  refine r_aload_n (pc := 18) (i := 0) dX5_init_18 rfl 0 rfl ?_
  refine r_bipush (pc := 19) (v := 8) dX5_init_19 (by decide +kernel) ?_
  refine r_newA1 (pc := 21) (γ := g2) (lvf := fun g => [(0, .ref (g a))]) (stf := fun g => [.ref (g a)]) (n := n + 2) (N := 8) (tb_i 277 (by decide +kernel) (by decide +kernel)) wc_8 rfl (by decide) (by rw [LX_len, hn]; rfl) q4.1 (fun z => q4.2 _ (by rw [LX_len, hn]; exact Nat.le_refl _) z) (fun g h => ⟨by rw [h a (by omega)], by rw [h a (by omega)]⟩) ⟨by decide, by decide⟩ dX5_init_21 (fun g3 h3 => ?_)
  rw [LX_push]
  have q5 := gd_nil (q := 1) (n := 8) q4
  rw [LX_push] at q5
  have k3 : ∀ z, z < n → g3 z = gA G z := fun z hz => (h3 z (by omega)).trans (k2 z hz)
  refine r_putRF (pc := 23) (γ := g3) (a := a) (b := (n + 2)) fc_5_18 rfl rfl (LX_this han) (Nat.le_of_ble_eq_true rfl) (fun C T h => by rw [cf_own cf_5 h]; rfl) dX5_init_23 ?_
  rw [LX_put han]
  have q6 := gd_ref (a := a) (k := 4) (b := (n + 2)) q5 (LX_this han) (Nat.le_of_ble_eq_true rfl) (by rw [LX_len, hn]; show _ < n + 3; omega)
  rw [LX_put han] at q6
  refine r_aload_n (pc := 26) (i := 0) dX5_init_26 rfl 0 rfl ?_
  refine r_bipush (pc := 27) (v := 8) dX5_init_27 (by decide +kernel) ?_
  refine r_newA1 (pc := 29) (γ := g3) (lvf := fun g => [(0, .ref (g a))]) (stf := fun g => [.ref (g a)]) (n := n + 3) (N := 8) (tb_i 277 (by decide +kernel) (by decide +kernel)) wc_8 rfl (by decide) (by rw [LX_len, hn]; rfl) q6.1 (fun z => q6.2 _ (by rw [LX_len, hn]; exact Nat.le_refl _) z) (fun g h => ⟨by rw [h a (by omega)], by rw [h a (by omega)]⟩) ⟨by decide, by decide⟩ dX5_init_29 (fun g4 h4 => ?_)
  rw [LX_push]
  have q7 := gd_nil (q := 1) (n := 8) q6
  rw [LX_push] at q7
  have k4 : ∀ z, z < n → g4 z = gA G z := fun z hz => (h4 z (by omega)).trans (k3 z hz)
  refine r_putRF (pc := 31) (γ := g4) (a := a) (b := (n + 3)) fc_5_21 rfl rfl (LX_this han) (Nat.le_of_ble_eq_true rfl) (fun C T h => by rw [cf_own cf_5 h]; rfl) dX5_init_31 ?_
  rw [LX_put han]
  have q8 := gd_ref (a := a) (k := 5) (b := (n + 3)) q7 (LX_this han) (Nat.le_of_ble_eq_true rfl) (by rw [LX_len, hn]; show _ < n + 4; omega)
  rw [LX_put han] at q8
  refine r_aload_n (pc := 34) (i := 0) dX5_init_34 rfl 0 rfl ?_
  refine r_bipush (pc := 35) (v := 8) dX5_init_35 (by decide +kernel) ?_
  refine r_newA1 (pc := 37) (γ := g4) (lvf := fun g => [(0, .ref (g a))]) (stf := fun g => [.ref (g a)]) (n := n + 4) (N := 8) (tb_i 277 (by decide +kernel) (by decide +kernel)) wc_8 rfl (by decide) (by rw [LX_len, hn]; rfl) q8.1 (fun z => q8.2 _ (by rw [LX_len, hn]; exact Nat.le_refl _) z) (fun g h => ⟨by rw [h a (by omega)], by rw [h a (by omega)]⟩) ⟨by decide, by decide⟩ dX5_init_37 (fun g5 h5 => ?_)
  rw [LX_push]
  have q9 := gd_nil (q := 1) (n := 8) q8
  rw [LX_push] at q9
  have k5 : ∀ z, z < n → g5 z = gA G z := fun z hz => (h5 z (by omega)).trans (k4 z hz)
  refine r_putRF (pc := 39) (γ := g5) (a := a) (b := (n + 4)) fc_5_24 rfl rfl (LX_this han) (Nat.le_of_ble_eq_true rfl) (fun C T h => by rw [cf_own cf_5 h]; rfl) dX5_init_39 ?_
  rw [LX_put han]
  have q10 := gd_ref (a := a) (k := 6) (b := (n + 4)) q9 (LX_this han) (Nat.le_of_ble_eq_true rfl) (by rw [LX_len, hn]; show _ < n + 5; omega)
  rw [LX_put han] at q10
  refine r_aload_n (pc := 42) (i := 0) dX5_init_42 rfl 0 rfl ?_
  refine r_bipush (pc := 43) (v := 8) dX5_init_43 (by decide +kernel) ?_
  refine r_newA1 (pc := 45) (γ := g5) (lvf := fun g => [(0, .ref (g a))]) (stf := fun g => [.ref (g a)]) (n := n + 5) (N := 8) (tb_i 277 (by decide +kernel) (by decide +kernel)) wc_8 rfl (by decide) (by rw [LX_len, hn]; rfl) q10.1 (fun z => q10.2 _ (by rw [LX_len, hn]; exact Nat.le_refl _) z) (fun g h => ⟨by rw [h a (by omega)], by rw [h a (by omega)]⟩) ⟨by decide, by decide⟩ dX5_init_45 (fun g6 h6 => ?_)
  rw [LX_push]
  have q11 := gd_nil (q := 1) (n := 8) q10
  rw [LX_push] at q11
  have k6 : ∀ z, z < n → g6 z = gA G z := fun z hz => (h6 z (by omega)).trans (k5 z hz)
  refine r_putRF (pc := 47) (γ := g6) (a := a) (b := (n + 5)) fc_5_27 rfl rfl (LX_this han) (Nat.le_of_ble_eq_true rfl) (fun C T h => by rw [cf_own cf_5 h]; rfl) dX5_init_47 ?_
  rw [LX_put han]
  have q12 := gd_ref (a := a) (k := 7) (b := (n + 5)) q11 (LX_this han) (Nat.le_of_ble_eq_true rfl) (by rw [LX_len, hn]; show _ < n + 6; omega)
  rw [LX_put han] at q12
  refine r_aload_n (pc := 50) (i := 0) dX5_init_50 rfl 0 rfl ?_
  refine r_bipush (pc := 51) (v := 8) dX5_init_51 (by decide +kernel) ?_
  refine r_newA1 (pc := 53) (γ := g6) (lvf := fun g => [(0, .ref (g a))]) (stf := fun g => [.ref (g a)]) (n := n + 6) (N := 8) (tb_i 277 (by decide +kernel) (by decide +kernel)) wc_8 rfl (by decide) (by rw [LX_len, hn]; rfl) q12.1 (fun z => q12.2 _ (by rw [LX_len, hn]; exact Nat.le_refl _) z) (fun g h => ⟨by rw [h a (by omega)], by rw [h a (by omega)]⟩) ⟨by decide, by decide⟩ dX5_init_53 (fun g7 h7 => ?_)
  rw [LX_push]
  have q13 := gd_nil (q := 1) (n := 8) q12
  rw [LX_push] at q13
  have k7 : ∀ z, z < n → g7 z = gA G z := fun z hz => (h7 z (by omega)).trans (k6 z hz)
  refine r_putRF (pc := 55) (γ := g7) (a := a) (b := (n + 6)) fc_5_30 rfl rfl (LX_this han) (Nat.le_of_ble_eq_true rfl) (fun C T h => by rw [cf_own cf_5 h]; rfl) dX5_init_55 ?_
  rw [LX_put han]
  have q14 := gd_ref (a := a) (k := 8) (b := (n + 6)) q13 (LX_this han) (Nat.le_of_ble_eq_true rfl) (by rw [LX_len, hn]; show _ < n + 7; omega)
  rw [LX_put han] at q14
  refine r_aload_n (pc := 58) (i := 0) dX5_init_58 rfl 0 rfl ?_
  refine r_bipush (pc := 59) (v := 64) dX5_init_59 (by decide +kernel) ?_
  refine r_newA1 (pc := 61) (γ := g7) (lvf := fun g => [(0, .ref (g a))]) (stf := fun g => [.ref (g a)]) (n := n + 7) (N := 64) (tb_i 277 (by decide +kernel) (by decide +kernel)) wc_64 rfl (by decide) (by rw [LX_len, hn]; rfl) q14.1 (fun z => q14.2 _ (by rw [LX_len, hn]; exact Nat.le_refl _) z) (fun g h => ⟨by rw [h a (by omega)], by rw [h a (by omega)]⟩) ⟨by decide, by decide⟩ dX5_init_61 (fun g8 h8 => ?_)
  rw [LX_push]
  have q15 := gd_nil (q := 1) (n := 64) q14
  rw [LX_push] at q15
  have k8 : ∀ z, z < n → g8 z = gA G z := fun z hz => (h8 z (by omega)).trans (k7 z hz)
  refine r_putRF (pc := 63) (γ := g8) (a := a) (b := (n + 7)) fc_5_33 rfl rfl (LX_this han) (Nat.le_of_ble_eq_true rfl) (fun C T h => by rw [cf_own cf_5 h]; rfl) dX5_init_63 ?_
  rw [LX_put han]
  have q16 := gd_ref (a := a) (k := 9) (b := (n + 7)) q15 (LX_this han) (Nat.le_of_ble_eq_true rfl) (by rw [LX_len, hn]; show _ < n + 8; omega)
  rw [LX_put han] at q16
  refine r_aload_n (pc := 66) (i := 0) dX5_init_66 rfl 0 rfl ?_
  refine r_bipush (pc := 67) (v := 8) dX5_init_67 (by decide +kernel) ?_
  refine r_newA1 (pc := 69) (γ := g8) (lvf := fun g => [(0, .ref (g a))]) (stf := fun g => [.ref (g a)]) (n := n + 8) (N := 8) (tb_i 277 (by decide +kernel) (by decide +kernel)) wc_8 rfl (by decide) (by rw [LX_len, hn]; rfl) q16.1 (fun z => q16.2 _ (by rw [LX_len, hn]; exact Nat.le_refl _) z) (fun g h => ⟨by rw [h a (by omega)], by rw [h a (by omega)]⟩) ⟨by decide, by decide⟩ dX5_init_69 (fun g9 h9 => ?_)
  rw [LX_push]
  have q17 := gd_nil (q := 1) (n := 8) q16
  rw [LX_push] at q17
  have k9 : ∀ z, z < n → g9 z = gA G z := fun z hz => (h9 z (by omega)).trans (k8 z hz)
  refine r_putRF (pc := 71) (γ := g9) (a := a) (b := (n + 8)) fc_5_36 rfl rfl (LX_this han) (Nat.le_of_ble_eq_true rfl) (fun C T h => by rw [cf_own cf_5 h]; rfl) dX5_init_71 ?_
  rw [LX_put han]
  have q18 := gd_ref (a := a) (k := 10) (b := (n + 8)) q17 (LX_this han) (Nat.le_of_ble_eq_true rfl) (by rw [LX_len, hn]; show _ < n + 9; omega)
  rw [LX_put han] at q18
  refine r_aload_n (pc := 74) (i := 0) dX5_init_74 rfl 0 rfl ?_
  refine r_iconst (pc := 75) (v := 3) dX5_init_75 (by decide +kernel) ?_
  refine r_newA1 (pc := 76) (γ := g9) (lvf := fun g => [(0, .ref (g a))]) (stf := fun g => [.ref (g a)]) (n := n + 9) (N := 3) (tb_i 277 (by decide +kernel) (by decide +kernel)) wc_3 rfl (by decide) (by rw [LX_len, hn]; rfl) q18.1 (fun z => q18.2 _ (by rw [LX_len, hn]; exact Nat.le_refl _) z) (fun g h => ⟨by rw [h a (by omega)], by rw [h a (by omega)]⟩) ⟨by decide, by decide⟩ dX5_init_76 (fun g10 h10 => ?_)
  rw [LX_push]
  have q19 := gd_nil (q := 1) (n := 3) q18
  rw [LX_push] at q19
  have k10 : ∀ z, z < n → g10 z = gA G z := fun z hz => (h10 z (by omega)).trans (k9 z hz)
  refine r_putRF (pc := 78) (γ := g10) (a := a) (b := (n + 9)) fc_5_39 rfl rfl (LX_this han) (Nat.le_of_ble_eq_true rfl) (fun C T h => by rw [cf_own cf_5 h]; rfl) dX5_init_78 ?_
  rw [LX_put han]
  have q20 := gd_ref (a := a) (k := 11) (b := (n + 9)) q19 (LX_this han) (Nat.le_of_ble_eq_true rfl) (by rw [LX_len, hn]; show _ < n + 10; omega)
  rw [LX_put han] at q20
  exact r_vretI (pc := 81) (γ := g10) k10 rfl (by decide) (by decide) dX5_init_81
abbrev xX7_init : XX := (yX7_init, cX7_init, 1, none, 3, 64, 35, 808)
theorem ci_X7_init_11 : CKI xX7_init 11 xX5_init 0 := ⟨tb_i 141 (by decide +kernel) (by decide +kernel), tb_i 183 (by decide +kernel) (by decide +kernel), ⟨by decide +kernel, by decide +kernel, by decide +kernel⟩, by decide, by decide, rfl, tb_i 182 (by decide +kernel) (by decide +kernel), rfl, Or.inr ⟨"PaperDonkey", tn_i 408 (by decide +kernel) rfl⟩⟩
theorem fc_7_12 : FG RX7 12 7 0 (clT 7 0) true := ⟨RX7, TX7, cf_7, by decide, tb_i 415 (by decide +kernel) (by decide +kernel), rfl, rfl, rfl⟩
theorem ci_X7_init_20 : CKI xX7_init 20 xX3_init 1 := ⟨tb_i 142 (by decide +kernel) (by decide +kernel), tb_i 281 (by decide +kernel) (by decide +kernel), ⟨by decide +kernel, by decide +kernel, by decide +kernel⟩, by decide, by decide, rfl, tb_i 280 (by decide +kernel) (by decide +kernel), rfl, Or.inl (tb_i 410 (by decide +kernel) (by decide +kernel))⟩
theorem fc_7_23 : FG RX7 23 7 1 (clT 7 1) true := ⟨RX7, TX7, cf_7, by decide, tb_i 417 (by decide +kernel) (by decide +kernel), rfl, rfl, rfl⟩
theorem ci_X7_init_29 : CKI xX7_init 29 xX1_init 0 := ⟨tb_i 144 (by decide +kernel) (by decide +kernel), tb_i 324 (by decide +kernel) (by decide +kernel), ⟨by decide +kernel, by decide +kernel, by decide +kernel⟩, by decide, by decide, rfl, tb_i 323 (by decide +kernel) (by decide +kernel), rfl, Or.inr ⟨"PaperDonkey", tn_i 412 (by decide +kernel) rfl⟩⟩
theorem fc_7_30 : FG RX7 30 7 2 (clT 7 2) true := ⟨RX7, TX7, cf_7, by decide, tb_i 419 (by decide +kernel) (by decide +kernel), rfl, rfl, rfl⟩
theorem fc_7_34 : FG RX7 34 7 3 (clT 7 3) true := ⟨RX7, TX7, cf_7, by decide, tb_i 421 (by decide +kernel) (by decide +kernel), rfl, rfl, rfl⟩
theorem ci_X7_init_39 : CKI xX7_init 39 xX8_init 0 := ⟨tb_i 145 (by decide +kernel) (by decide +kernel), tb_i 344 (by decide +kernel) (by decide +kernel), ⟨by decide +kernel, by decide +kernel, by decide +kernel⟩, by decide, by decide, rfl, tb_i 343 (by decide +kernel) (by decide +kernel), rfl, Or.inr ⟨"PaperDonkey", tn_i 414 (by decide +kernel) rfl⟩⟩
theorem fc_7_40 : FG RX7 40 7 4 (clT 7 4) true := ⟨RX7, TX7, cf_7, by decide, tb_i 423 (by decide +kernel) (by decide +kernel), rfl, rfl, rfl⟩
theorem wc_4 : wI 4 = 4 := by decide +kernel
theorem fc_7_44 : FG RX7 44 7 7 (clT 7 7) true := ⟨RX7, TX7, cf_7, by decide, tb_i 429 (by decide +kernel) (by decide +kernel), rfl, rfl, rfl⟩
def eX7_init (a n : Nat) : LE := (0, 7, [some (n + 0), some (n + 11), some (n + 15), some (n + 21), some (n + 25), none, none, some (n + 34), none, none, none, none, none])
def sX7_init (a n : Nat) : List LE := [(0, 5, [none, some (n + 1), some (n + 2), none, some (n + 3), some (n + 4), some (n + 5), some (n + 6), some (n + 7), some (n + 8), some (n + 9), some (n + 10), none, none, none, none, none]), (1, 5, []), (1, 5, []), (1, 8, []), (1, 8, []), (1, 8, []), (1, 8, []), (1, 8, []), (1, 64, []), (1, 8, []), (1, 3, []), (0, 3, [none, some (n + 12), some (n + 13), some (n + 14), none]), (1, 40, []), (1, 40, []), (1, 40, []), (0, 1, [some (n + 16), some (n + 20)]), (0, 3, [none, some (n + 17), some (n + 18), some (n + 19), none]), (1, 8, []), (1, 8, []), (1, 8, []), (1, 8, []), (0, 3, [none, some (n + 22), some (n + 23), some (n + 24), none]), (1, 25, []), (1, 25, []), (1, 25, []), (0, 8, [some (n + 26), some (n + 30)]), (0, 3, [none, some (n + 27), some (n + 28), some (n + 29), none]), (1, 40, []), (1, 40, []), (1, 40, []), (0, 3, [none, some (n + 31), some (n + 32), some (n + 33), none]), (1, 15, []), (1, 15, []), (1, 15, []), (1, 4, [])]
def mX7_init (M : MM) (a n : Nat) : MM := (mX8_init (mX3_init (mX1_init (mX3_init (mX5_init M (n + 0) (n + 1)) (n + 11) (n + 12) 40) (n + 15) (n + 16)) (n + 21) (n + 22) 25) (n + 25) (n + 26))
theorem oX7_init {L : List LE} {M : MM} {a n : Nat} (hn : L.length = n) (ha : L[a]? = some (0, 7, List.replicate (clN 7) none)) (hg : gd L M) : gd (LX L a (eX7_init a n) (sX7_init a n)) (mX7_init M a n) := by
  have han : a < L.length := (List.getElem?_eq_some_iff.mp ha).1
  have han2 : a < n := by omega
  have q0 : gd (LX L a (0, 7, List.replicate (clN 7) none) []) M := by rw [LX_start ha]; exact hg
  have q1 := gd_push (q := 0) (n := 5) (m := clN 5) q0
  rw [LX_push] at q1
  have q2 := oX5_init (a := n + 0) (n := n + 1) (by rw [LX_len, hn]; rfl) (LX_at hn rfl) q1
  rw [LX_LX hn] at q2
  have q3 := gd_ref (a := a) (k := 0) (b := (n + 0)) q2 (LX_this han) (Nat.le_of_ble_eq_true rfl) (by rw [LX_len, hn]; show _ < n + 11; omega)
  rw [LX_put han] at q3
  have q4 := gd_push (q := 0) (n := 3) (m := clN 3) q3
  rw [LX_push] at q4
  have q5 := oX3_init (a := n + 11) (n := n + 12) (k := 40) (by decide) (by rw [LX_len, hn]; rfl) (LX_at hn rfl) q4
  rw [LX_LX hn] at q5
  have q6 := gd_ref (a := a) (k := 1) (b := (n + 11)) q5 (LX_this han) (Nat.le_of_ble_eq_true rfl) (by rw [LX_len, hn]; show _ < n + 15; omega)
  rw [LX_put han] at q6
  have q7 := gd_push (q := 0) (n := 1) (m := clN 1) q6
  rw [LX_push] at q7
  have q8 := oX1_init (a := n + 15) (n := n + 16) (by rw [LX_len, hn]; rfl) (LX_at hn rfl) q7
  rw [LX_LX hn] at q8
  have q9 := gd_ref (a := a) (k := 2) (b := (n + 15)) q8 (LX_this han) (Nat.le_of_ble_eq_true rfl) (by rw [LX_len, hn]; show _ < n + 21; omega)
  rw [LX_put han] at q9
  have q10 := gd_push (q := 0) (n := 3) (m := clN 3) q9
  rw [LX_push] at q10
  have q11 := oX3_init (a := n + 21) (n := n + 22) (k := 25) (by decide) (by rw [LX_len, hn]; rfl) (LX_at hn rfl) q10
  rw [LX_LX hn] at q11
  have q12 := gd_ref (a := a) (k := 3) (b := (n + 21)) q11 (LX_this han) (Nat.le_of_ble_eq_true rfl) (by rw [LX_len, hn]; show _ < n + 25; omega)
  rw [LX_put han] at q12
  have q13 := gd_push (q := 0) (n := 8) (m := clN 8) q12
  rw [LX_push] at q13
  have q14 := oX8_init (a := n + 25) (n := n + 26) (by rw [LX_len, hn]; rfl) (LX_at hn rfl) q13
  rw [LX_LX hn] at q14
  have q15 := gd_ref (a := a) (k := 4) (b := (n + 25)) q14 (LX_this han) (Nat.le_of_ble_eq_true rfl) (by rw [LX_len, hn]; show _ < n + 34; omega)
  rw [LX_put han] at q15
  have q16 := gd_nil (q := 1) (n := 4) q15
  rw [LX_push] at q16
  have q17 := gd_ref (a := a) (k := 7) (b := (n + 34)) q16 (LX_this han) (Nat.le_of_ble_eq_true rfl) (by rw [LX_len, hn]; show _ < n + 35; omega)
  rw [LX_put han] at q17
  exact q17
set_option maxHeartbeats 8000000 in
set_option maxRecDepth 100000 in
theorem kX7_init {G : GG} {L : List LE} {M : MM} {a n : Nat} (hn : L.length = n) (ha : L[a]? = some (0, 7, List.replicate (clN 7) none)) (hg : gd L M) : CI G xX7_init [.ref (gA G a)] L M (LX L a (eX7_init a n) (sX7_init a n)) (mX7_init M a n) := by
  have han : a < L.length := (List.getElem?_eq_some_iff.mp ha).1
  have han2 : a < n := by omega
  have q0 : gd (LX L a (0, 7, List.replicate (clN 7) none) []) M := by rw [LX_start ha]; exact hg
  refine CI_of (by decide +kernel) (Nat.le_of_ble_eq_true rfl) ?_
  rw [hn]
  obtain ⟨γ, hγ⟩ : ∃ γ, γ = gA G := ⟨_, rfl⟩
  have K : VV (gS G γ) xX7_init (ZI G xX7_init n (LX L a (eX7_init a n) (sX7_init a n)) (mX7_init M a n)) (LX L a (0, 7, List.replicate (clN 7) none) []) M 0 0 0 [(0, .ref (γ a))] [] := ?_
  · rw [LX_start ha, hγ] at K; exact K
  refine r_aload_n (pc := 0) (i := 0) dX7_init_0 rfl 0 rfl ?_
  refine r_objI (pc := 1) (tb_i 406 (by decide +kernel) (by decide +kernel)) (tb_i 164 (by decide +kernel) (by decide +kernel)) (tb_i 165 (by decide +kernel) (by decide +kernel)) ⟨Nat.le_of_ble_eq_true rfl, Nat.le_of_ble_eq_true rfl⟩ dX7_init_1 ?_
  refine r_aload_n (pc := 4) (i := 0) dX7_init_4 rfl 0 rfl ?_
  refine r_newO (pc := 5) (γ := γ) (lvf := fun g => [(0, .ref (g a))]) (stf := fun g => [.ref (g a)]) (n := n + 0) cf_5 (tb_i 407 (by decide +kernel) (by decide +kernel)) (tb_i 180 (by decide +kernel) (by decide +kernel)) (tb_i 141 (by decide +kernel) (by decide +kernel)) (by rw [LX_len, hn]; rfl) q0.1 (fun z => q0.2 _ (by rw [LX_len, hn]; exact Nat.le_refl _) z) (nf_all 5 (by decide)) (fun g h => ⟨by rw [h a (by omega)], by rw [h a (by omega)]⟩) ⟨by decide, by decide⟩ dX7_init_5 (fun g1 h1 => ?_)
  rw [LX_push]
  have q1 := gd_push (q := 0) (n := 5) (m := clN 5) q0
  rw [LX_push] at q1
  have k1 : ∀ z, z < n → g1 z = gA G z := fun z hz => (h1 z (by omega)).trans (by rw [hγ])
  refine r_dup (pc := 8) dX7_init_8 rfl ?_
  refine r_callI (pc := 9) (γ := g1) (lvf := fun g => [(0, .ref (g a))]) (stf := fun g => [.ref (g (n + 0)), .ref (g a)]) (b := n + 0) (As := []) (fun _ _ _ _ _ _ _ _ _ h => h) ci_X7_init_11 (kX5_init (G := gS G g1) (a := n + 0) (n := n + 1) (by rw [LX_len, hn]; rfl) (LX_at hn rfl) q1) (fun g h => ⟨by rw [h a (by rw [LX_len, hn]; show _ < n + 1; omega)], by rw [h a (by rw [LX_len, hn]; show _ < n + 1; omega), h (n + 0) (by rw [LX_len, hn]; show _ < n + 1; omega)]⟩) rfl (Nat.le_of_ble_eq_true rfl) ⟨by decide, by decide⟩ dX7_init_9 (fun g2 h2 => ?_)
  rw [LX_LX hn]
  have q2 := oX5_init (a := n + 0) (n := n + 1) (by rw [LX_len, hn]; rfl) (LX_at hn rfl) q1
  rw [LX_LX hn] at q2
  have k2 : ∀ z, z < n → g2 z = gA G z := fun z hz => (h2 z (by rw [LX_len, hn]; show z < n + 1; omega)).trans (k1 z hz)
  refine r_putRF (pc := 12) (γ := g2) (a := a) (b := (n + 0)) fc_7_12 rfl rfl (LX_this han) (Nat.le_of_ble_eq_true rfl) (fun C T h => by rw [cf_own cf_7 h]; rfl) dX7_init_12 ?_
  rw [LX_put han]
  have q3 := gd_ref (a := a) (k := 0) (b := (n + 0)) q2 (LX_this han) (Nat.le_of_ble_eq_true rfl) (by rw [LX_len, hn]; show _ < n + 11; omega)
  rw [LX_put han] at q3
  refine r_aload_n (pc := 15) (i := 0) dX7_init_15 rfl 0 rfl ?_
  refine r_newO (pc := 16) (γ := g2) (lvf := fun g => [(0, .ref (g a))]) (stf := fun g => [.ref (g a)]) (n := n + 11) cf_3 (tb_i 409 (by decide +kernel) (by decide +kernel)) (tb_i 278 (by decide +kernel) (by decide +kernel)) (tb_i 142 (by decide +kernel) (by decide +kernel)) (by rw [LX_len, hn]; rfl) q3.1 (fun z => q3.2 _ (by rw [LX_len, hn]; exact Nat.le_refl _) z) (nf_all 3 (by decide)) (fun g h => ⟨by rw [h a (by omega)], by rw [h a (by omega)]⟩) ⟨by decide, by decide⟩ dX7_init_16 (fun g3 h3 => ?_)
  rw [LX_push]
  have q4 := gd_push (q := 0) (n := 3) (m := clN 3) q3
  rw [LX_push] at q4
  have k3 : ∀ z, z < n → g3 z = gA G z := fun z hz => (h3 z (by omega)).trans (k2 z hz)
  refine r_dup (pc := 19) dX7_init_19 rfl ?_
  refine r_bipush (pc := 20) (v := 40) dX7_init_20 (by decide +kernel) ?_
  refine r_callI (pc := 22) (γ := g3) (lvf := fun g => [(0, .ref (g a))]) (stf := fun g => [.ref (g (n + 11)), .ref (g a)]) (b := n + 11) (As := [.int (eI 40)]) (fun _ _ _ _ _ _ _ _ _ h => h) ci_X7_init_20 (kX3_init (G := gS G g3) (a := n + 11) (n := n + 12) (k := 40) (by decide) (by rw [LX_len, hn]; rfl) (LX_at hn rfl) q4) (fun g h => ⟨by rw [h a (by rw [LX_len, hn]; show _ < n + 12; omega)], by rw [h a (by rw [LX_len, hn]; show _ < n + 12; omega), h (n + 11) (by rw [LX_len, hn]; show _ < n + 12; omega)]⟩) rfl (Nat.le_of_ble_eq_true rfl) ⟨by decide, by decide⟩ dX7_init_22 (fun g4 h4 => ?_)
  rw [LX_LX hn]
  have q5 := oX3_init (a := n + 11) (n := n + 12) (k := 40) (by decide) (by rw [LX_len, hn]; rfl) (LX_at hn rfl) q4
  rw [LX_LX hn] at q5
  have k4 : ∀ z, z < n → g4 z = gA G z := fun z hz => (h4 z (by rw [LX_len, hn]; show z < n + 12; omega)).trans (k3 z hz)
  refine r_putRF (pc := 25) (γ := g4) (a := a) (b := (n + 11)) fc_7_23 rfl rfl (LX_this han) (Nat.le_of_ble_eq_true rfl) (fun C T h => by rw [cf_own cf_7 h]; rfl) dX7_init_25 ?_
  rw [LX_put han]
  have q6 := gd_ref (a := a) (k := 1) (b := (n + 11)) q5 (LX_this han) (Nat.le_of_ble_eq_true rfl) (by rw [LX_len, hn]; show _ < n + 15; omega)
  rw [LX_put han] at q6
  refine r_aload_n (pc := 28) (i := 0) dX7_init_28 rfl 0 rfl ?_
  refine r_newO (pc := 29) (γ := g4) (lvf := fun g => [(0, .ref (g a))]) (stf := fun g => [.ref (g a)]) (n := n + 15) cf_1 (tb_i 411 (by decide +kernel) (by decide +kernel)) (tb_i 321 (by decide +kernel) (by decide +kernel)) (tb_i 144 (by decide +kernel) (by decide +kernel)) (by rw [LX_len, hn]; rfl) q6.1 (fun z => q6.2 _ (by rw [LX_len, hn]; exact Nat.le_refl _) z) (nf_all 1 (by decide)) (fun g h => ⟨by rw [h a (by omega)], by rw [h a (by omega)]⟩) ⟨by decide, by decide⟩ dX7_init_29 (fun g5 h5 => ?_)
  rw [LX_push]
  have q7 := gd_push (q := 0) (n := 1) (m := clN 1) q6
  rw [LX_push] at q7
  have k5 : ∀ z, z < n → g5 z = gA G z := fun z hz => (h5 z (by omega)).trans (k4 z hz)
  refine r_dup (pc := 32) dX7_init_32 rfl ?_
  refine r_callI (pc := 33) (γ := g5) (lvf := fun g => [(0, .ref (g a))]) (stf := fun g => [.ref (g (n + 15)), .ref (g a)]) (b := n + 15) (As := []) (fun _ _ _ _ _ _ _ _ _ h => h) ci_X7_init_29 (kX1_init (G := gS G g5) (a := n + 15) (n := n + 16) (by rw [LX_len, hn]; rfl) (LX_at hn rfl) q7) (fun g h => ⟨by rw [h a (by rw [LX_len, hn]; show _ < n + 16; omega)], by rw [h a (by rw [LX_len, hn]; show _ < n + 16; omega), h (n + 15) (by rw [LX_len, hn]; show _ < n + 16; omega)]⟩) rfl (Nat.le_of_ble_eq_true rfl) ⟨by decide, by decide⟩ dX7_init_33 (fun g6 h6 => ?_)
  rw [LX_LX hn]
  have q8 := oX1_init (a := n + 15) (n := n + 16) (by rw [LX_len, hn]; rfl) (LX_at hn rfl) q7
  rw [LX_LX hn] at q8
  have k6 : ∀ z, z < n → g6 z = gA G z := fun z hz => (h6 z (by rw [LX_len, hn]; show z < n + 16; omega)).trans (k5 z hz)
  refine r_putRF (pc := 36) (γ := g6) (a := a) (b := (n + 15)) fc_7_30 rfl rfl (LX_this han) (Nat.le_of_ble_eq_true rfl) (fun C T h => by rw [cf_own cf_7 h]; rfl) dX7_init_36 ?_
  rw [LX_put han]
  have q9 := gd_ref (a := a) (k := 2) (b := (n + 15)) q8 (LX_this han) (Nat.le_of_ble_eq_true rfl) (by rw [LX_len, hn]; show _ < n + 21; omega)
  rw [LX_put han] at q9
  refine r_aload_n (pc := 39) (i := 0) dX7_init_39 rfl 0 rfl ?_
  refine r_newO (pc := 40) (γ := g6) (lvf := fun g => [(0, .ref (g a))]) (stf := fun g => [.ref (g a)]) (n := n + 21) cf_3 (tb_i 409 (by decide +kernel) (by decide +kernel)) (tb_i 278 (by decide +kernel) (by decide +kernel)) (tb_i 142 (by decide +kernel) (by decide +kernel)) (by rw [LX_len, hn]; rfl) q9.1 (fun z => q9.2 _ (by rw [LX_len, hn]; exact Nat.le_refl _) z) (nf_all 3 (by decide)) (fun g h => ⟨by rw [h a (by omega)], by rw [h a (by omega)]⟩) ⟨by decide, by decide⟩ dX7_init_40 (fun g7 h7 => ?_)
  rw [LX_push]
  have q10 := gd_push (q := 0) (n := 3) (m := clN 3) q9
  rw [LX_push] at q10
  have k7 : ∀ z, z < n → g7 z = gA G z := fun z hz => (h7 z (by omega)).trans (k6 z hz)
  refine r_dup (pc := 43) dX7_init_43 rfl ?_
  refine r_bipush (pc := 44) (v := 25) dX7_init_44 (by decide +kernel) ?_
  refine r_callI (pc := 46) (γ := g7) (lvf := fun g => [(0, .ref (g a))]) (stf := fun g => [.ref (g (n + 21)), .ref (g a)]) (b := n + 21) (As := [.int (eI 25)]) (fun _ _ _ _ _ _ _ _ _ h => h) ci_X7_init_20 (kX3_init (G := gS G g7) (a := n + 21) (n := n + 22) (k := 25) (by decide) (by rw [LX_len, hn]; rfl) (LX_at hn rfl) q10) (fun g h => ⟨by rw [h a (by rw [LX_len, hn]; show _ < n + 22; omega)], by rw [h a (by rw [LX_len, hn]; show _ < n + 22; omega), h (n + 21) (by rw [LX_len, hn]; show _ < n + 22; omega)]⟩) rfl (Nat.le_of_ble_eq_true rfl) ⟨by decide, by decide⟩ dX7_init_46 (fun g8 h8 => ?_)
  rw [LX_LX hn]
  have q11 := oX3_init (a := n + 21) (n := n + 22) (k := 25) (by decide) (by rw [LX_len, hn]; rfl) (LX_at hn rfl) q10
  rw [LX_LX hn] at q11
  have k8 : ∀ z, z < n → g8 z = gA G z := fun z hz => (h8 z (by rw [LX_len, hn]; show z < n + 22; omega)).trans (k7 z hz)
  refine r_putRF (pc := 49) (γ := g8) (a := a) (b := (n + 21)) fc_7_34 rfl rfl (LX_this han) (Nat.le_of_ble_eq_true rfl) (fun C T h => by rw [cf_own cf_7 h]; rfl) dX7_init_49 ?_
  rw [LX_put han]
  have q12 := gd_ref (a := a) (k := 3) (b := (n + 21)) q11 (LX_this han) (Nat.le_of_ble_eq_true rfl) (by rw [LX_len, hn]; show _ < n + 25; omega)
  rw [LX_put han] at q12
  refine r_aload_n (pc := 52) (i := 0) dX7_init_52 rfl 0 rfl ?_
  refine r_newO (pc := 53) (γ := g8) (lvf := fun g => [(0, .ref (g a))]) (stf := fun g => [.ref (g a)]) (n := n + 25) cf_8 (tb_i 413 (by decide +kernel) (by decide +kernel)) (tb_i 341 (by decide +kernel) (by decide +kernel)) (tb_i 145 (by decide +kernel) (by decide +kernel)) (by rw [LX_len, hn]; rfl) q12.1 (fun z => q12.2 _ (by rw [LX_len, hn]; exact Nat.le_refl _) z) (nf_all 8 (by decide)) (fun g h => ⟨by rw [h a (by omega)], by rw [h a (by omega)]⟩) ⟨by decide, by decide⟩ dX7_init_53 (fun g9 h9 => ?_)
  rw [LX_push]
  have q13 := gd_push (q := 0) (n := 8) (m := clN 8) q12
  rw [LX_push] at q13
  have k9 : ∀ z, z < n → g9 z = gA G z := fun z hz => (h9 z (by omega)).trans (k8 z hz)
  refine r_dup (pc := 56) dX7_init_56 rfl ?_
  refine r_callI (pc := 57) (γ := g9) (lvf := fun g => [(0, .ref (g a))]) (stf := fun g => [.ref (g (n + 25)), .ref (g a)]) (b := n + 25) (As := []) (fun _ _ _ _ _ _ _ _ _ h => h) ci_X7_init_39 (kX8_init (G := gS G g9) (a := n + 25) (n := n + 26) (by rw [LX_len, hn]; rfl) (LX_at hn rfl) q13) (fun g h => ⟨by rw [h a (by rw [LX_len, hn]; show _ < n + 26; omega)], by rw [h a (by rw [LX_len, hn]; show _ < n + 26; omega), h (n + 25) (by rw [LX_len, hn]; show _ < n + 26; omega)]⟩) rfl (Nat.le_of_ble_eq_true rfl) ⟨by decide, by decide⟩ dX7_init_57 (fun g10 h10 => ?_)
  rw [LX_LX hn]
  have q14 := oX8_init (a := n + 25) (n := n + 26) (by rw [LX_len, hn]; rfl) (LX_at hn rfl) q13
  rw [LX_LX hn] at q14
  have k10 : ∀ z, z < n → g10 z = gA G z := fun z hz => (h10 z (by rw [LX_len, hn]; show z < n + 26; omega)).trans (k9 z hz)
  refine r_putRF (pc := 60) (γ := g10) (a := a) (b := (n + 25)) fc_7_40 rfl rfl (LX_this han) (Nat.le_of_ble_eq_true rfl) (fun C T h => by rw [cf_own cf_7 h]; rfl) dX7_init_60 ?_
  rw [LX_put han]
  have q15 := gd_ref (a := a) (k := 4) (b := (n + 25)) q14 (LX_this han) (Nat.le_of_ble_eq_true rfl) (by rw [LX_len, hn]; show _ < n + 34; omega)
  rw [LX_put han] at q15
  refine r_aload_n (pc := 63) (i := 0) dX7_init_63 rfl 0 rfl ?_
  refine r_iconst (pc := 64) (v := 4) dX7_init_64 (by decide +kernel) ?_
  refine r_newA1 (pc := 65) (γ := g10) (lvf := fun g => [(0, .ref (g a))]) (stf := fun g => [.ref (g a)]) (n := n + 34) (N := 4) (tb_i 277 (by decide +kernel) (by decide +kernel)) wc_4 rfl (by decide) (by rw [LX_len, hn]; rfl) q15.1 (fun z => q15.2 _ (by rw [LX_len, hn]; exact Nat.le_refl _) z) (fun g h => ⟨by rw [h a (by omega)], by rw [h a (by omega)]⟩) ⟨by decide, by decide⟩ dX7_init_65 (fun g11 h11 => ?_)
  rw [LX_push]
  have q16 := gd_nil (q := 1) (n := 4) q15
  rw [LX_push] at q16
  have k11 : ∀ z, z < n → g11 z = gA G z := fun z hz => (h11 z (by omega)).trans (k10 z hz)
  refine r_putRF (pc := 67) (γ := g11) (a := a) (b := (n + 34)) fc_7_44 rfl rfl (LX_this han) (Nat.le_of_ble_eq_true rfl) (fun C T h => by rw [cf_own cf_7 h]; rfl) dX7_init_67 ?_
  rw [LX_put han]
  have q17 := gd_ref (a := a) (k := 7) (b := (n + 34)) q16 (LX_this han) (Nat.le_of_ble_eq_true rfl) (by rw [LX_len, hn]; show _ < n + 35; omega)
  rw [LX_put han] at q17
  exact r_vretI (pc := 70) (γ := g11) k11 rfl (by decide) (by decide) dX7_init_70
theorem fc_6_9 : FG RX6 9 6 9 (clT 6 9) true := ⟨RX6, TX6, cf_6, by decide, tb_i 478 (by decide +kernel) (by decide +kernel), rfl, rfl, rfl⟩
theorem wc_24 : wI 24 = 24 := by decide +kernel
theorem fc_6_15 : FG RX6 15 6 10 (clT 6 10) true := ⟨RX6, TX6, cf_6, by decide, tb_i 479 (by decide +kernel) (by decide +kernel), rfl, rfl, rfl⟩
theorem fc_6_18 : FG RX6 18 6 11 (clT 6 11) true := ⟨RX6, TX6, cf_6, by decide, tb_i 480 (by decide +kernel) (by decide +kernel), rfl, rfl, rfl⟩
abbrev xX6_init : XX := (yX6_init, cX6_init, 1, none, 1, 20, 3, 37)
def eX6_init (a n : Nat) : LE := (0, 6, [none, none, none, none, none, none, none, none, none, some (n + 0), some (n + 1), some (n + 2), none, none])
def sX6_init (a n : Nat) : List LE := [(1, 5, []), (1, 24, []), (1, 8, [])]
def mX6_init (M : MM) (a n : Nat) : MM := M
theorem oX6_init {L : List LE} {M : MM} {a n : Nat} (hn : L.length = n) (ha : L[a]? = some (0, 6, List.replicate (clN 6) none)) (hg : gd L M) : gd (LX L a (eX6_init a n) (sX6_init a n)) (mX6_init M a n) := by
  have han : a < L.length := (List.getElem?_eq_some_iff.mp ha).1
  have han2 : a < n := by omega
  have q0 : gd (LX L a (0, 6, List.replicate (clN 6) none) []) M := by rw [LX_start ha]; exact hg
  have q1 := gd_nil (q := 1) (n := 5) q0
  rw [LX_push] at q1
  have q2 := gd_ref (a := a) (k := 9) (b := (n + 0)) q1 (LX_this han) (Nat.le_of_ble_eq_true rfl) (by rw [LX_len, hn]; show _ < n + 1; omega)
  rw [LX_put han] at q2
  have q3 := gd_nil (q := 1) (n := 24) q2
  rw [LX_push] at q3
  have q4 := gd_ref (a := a) (k := 10) (b := (n + 1)) q3 (LX_this han) (Nat.le_of_ble_eq_true rfl) (by rw [LX_len, hn]; show _ < n + 2; omega)
  rw [LX_put han] at q4
  have q5 := gd_nil (q := 1) (n := 8) q4
  rw [LX_push] at q5
  have q6 := gd_ref (a := a) (k := 11) (b := (n + 2)) q5 (LX_this han) (Nat.le_of_ble_eq_true rfl) (by rw [LX_len, hn]; show _ < n + 3; omega)
  rw [LX_put han] at q6
  exact q6
set_option maxHeartbeats 8000000 in
set_option maxRecDepth 100000 in
theorem kX6_init {G : GG} {L : List LE} {M : MM} {a n : Nat} (hn : L.length = n) (ha : L[a]? = some (0, 6, List.replicate (clN 6) none)) (hg : gd L M) : CI G xX6_init [.ref (gA G a)] L M (LX L a (eX6_init a n) (sX6_init a n)) (mX6_init M a n) := by
  have han : a < L.length := (List.getElem?_eq_some_iff.mp ha).1
  have han2 : a < n := by omega
  have q0 : gd (LX L a (0, 6, List.replicate (clN 6) none) []) M := by rw [LX_start ha]; exact hg
  refine CI_of (by decide +kernel) (Nat.le_of_ble_eq_true rfl) ?_
  rw [hn]
  obtain ⟨γ, hγ⟩ : ∃ γ, γ = gA G := ⟨_, rfl⟩
  have K : VV (gS G γ) xX6_init (ZI G xX6_init n (LX L a (eX6_init a n) (sX6_init a n)) (mX6_init M a n)) (LX L a (0, 6, List.replicate (clN 6) none) []) M 0 0 0 [(0, .ref (γ a))] [] := ?_
  · rw [LX_start ha, hγ] at K; exact K
  refine r_aload_n (pc := 0) (i := 0) dX6_init_0 rfl 0 rfl ?_
  refine r_objI (pc := 1) (tb_i 468 (by decide +kernel) (by decide +kernel)) (tb_i 164 (by decide +kernel) (by decide +kernel)) (tb_i 165 (by decide +kernel) (by decide +kernel)) ⟨Nat.le_of_ble_eq_true rfl, Nat.le_of_ble_eq_true rfl⟩ dX6_init_1 ?_
  refine r_aload_n (pc := 4) (i := 0) dX6_init_4 rfl 0 rfl ?_
  refine r_iconst (pc := 5) (v := 5) dX6_init_5 (by decide +kernel) ?_
  refine r_newA1 (pc := 6) (γ := γ) (lvf := fun g => [(0, .ref (g a))]) (stf := fun g => [.ref (g a)]) (n := n + 0) (N := 5) (tb_i 277 (by decide +kernel) (by decide +kernel)) wc_5 rfl (by decide) (by rw [LX_len, hn]; rfl) q0.1 (fun z => q0.2 _ (by rw [LX_len, hn]; exact Nat.le_refl _) z) (fun g h => ⟨by rw [h a (by omega)], by rw [h a (by omega)]⟩) ⟨by decide, by decide⟩ dX6_init_6 (fun g1 h1 => ?_)
  rw [LX_push]
  have q1 := gd_nil (q := 1) (n := 5) q0
  rw [LX_push] at q1
  have k1 : ∀ z, z < n → g1 z = gA G z := fun z hz => (h1 z (by omega)).trans (by rw [hγ])
  refine r_putRF (pc := 8) (γ := g1) (a := a) (b := (n + 0)) fc_6_9 rfl rfl (LX_this han) (Nat.le_of_ble_eq_true rfl) (fun C T h => by rw [cf_own cf_6 h]; rfl) dX6_init_8 ?_
  rw [LX_put han]
  have q2 := gd_ref (a := a) (k := 9) (b := (n + 0)) q1 (LX_this han) (Nat.le_of_ble_eq_true rfl) (by rw [LX_len, hn]; show _ < n + 1; omega)
  rw [LX_put han] at q2
  refine r_aload_n (pc := 11) (i := 0) dX6_init_11 rfl 0 rfl ?_
  refine r_bipush (pc := 12) (v := 24) dX6_init_12 (by decide +kernel) ?_
  refine r_newA1 (pc := 14) (γ := g1) (lvf := fun g => [(0, .ref (g a))]) (stf := fun g => [.ref (g a)]) (n := n + 1) (N := 24) (tb_i 277 (by decide +kernel) (by decide +kernel)) wc_24 rfl (by decide) (by rw [LX_len, hn]; rfl) q2.1 (fun z => q2.2 _ (by rw [LX_len, hn]; exact Nat.le_refl _) z) (fun g h => ⟨by rw [h a (by omega)], by rw [h a (by omega)]⟩) ⟨by decide, by decide⟩ dX6_init_14 (fun g2 h2 => ?_)
  rw [LX_push]
  have q3 := gd_nil (q := 1) (n := 24) q2
  rw [LX_push] at q3
  have k2 : ∀ z, z < n → g2 z = gA G z := fun z hz => (h2 z (by omega)).trans (k1 z hz)
  refine r_putRF (pc := 16) (γ := g2) (a := a) (b := (n + 1)) fc_6_15 rfl rfl (LX_this han) (Nat.le_of_ble_eq_true rfl) (fun C T h => by rw [cf_own cf_6 h]; rfl) dX6_init_16 ?_
  rw [LX_put han]
  have q4 := gd_ref (a := a) (k := 10) (b := (n + 1)) q3 (LX_this han) (Nat.le_of_ble_eq_true rfl) (by rw [LX_len, hn]; show _ < n + 2; omega)
  rw [LX_put han] at q4
  refine r_aload_n (pc := 19) (i := 0) dX6_init_19 rfl 0 rfl ?_
  refine r_bipush (pc := 20) (v := 8) dX6_init_20 (by decide +kernel) ?_
  refine r_newA1 (pc := 22) (γ := g2) (lvf := fun g => [(0, .ref (g a))]) (stf := fun g => [.ref (g a)]) (n := n + 2) (N := 8) (tb_i 277 (by decide +kernel) (by decide +kernel)) wc_8 rfl (by decide) (by rw [LX_len, hn]; rfl) q4.1 (fun z => q4.2 _ (by rw [LX_len, hn]; exact Nat.le_refl _) z) (fun g h => ⟨by rw [h a (by omega)], by rw [h a (by omega)]⟩) ⟨by decide, by decide⟩ dX6_init_22 (fun g3 h3 => ?_)
  rw [LX_push]
  have q5 := gd_nil (q := 1) (n := 8) q4
  rw [LX_push] at q5
  have k3 : ∀ z, z < n → g3 z = gA G z := fun z hz => (h3 z (by omega)).trans (k2 z hz)
  refine r_putRF (pc := 24) (γ := g3) (a := a) (b := (n + 2)) fc_6_18 rfl rfl (LX_this han) (Nat.le_of_ble_eq_true rfl) (fun C T h => by rw [cf_own cf_6 h]; rfl) dX6_init_24 ?_
  rw [LX_put han]
  have q6 := gd_ref (a := a) (k := 11) (b := (n + 2)) q5 (LX_this han) (Nat.le_of_ble_eq_true rfl) (by rw [LX_len, hn]; show _ < n + 3; omega)
  rw [LX_put han] at q6
  exact r_vretI (pc := 27) (γ := g3) k3 rfl (by decide) (by decide) dX6_init_27
theorem fc_2_9 : FG RX2 9 2 0 (clT 2 0) true := ⟨RX2, TX2, cf_2, by decide, tb_i 518 (by decide +kernel) (by decide +kernel), rfl, rfl, rfl⟩
abbrev xX2_init : XX := (yX2_init, cX2_init, 1, none, 1, 20, 1, 8)
def eX2_init (a n : Nat) : LE := (0, 2, [some (n + 0), none])
def sX2_init (a n : Nat) : List LE := [(2, 8, [])]
def mX2_init (M : MM) (a n : Nat) : MM := M
theorem oX2_init {L : List LE} {M : MM} {a n : Nat} (hn : L.length = n) (ha : L[a]? = some (0, 2, List.replicate (clN 2) none)) (hg : gd L M) : gd (LX L a (eX2_init a n) (sX2_init a n)) (mX2_init M a n) := by
  have han : a < L.length := (List.getElem?_eq_some_iff.mp ha).1
  have han2 : a < n := by omega
  have q0 : gd (LX L a (0, 2, List.replicate (clN 2) none) []) M := by rw [LX_start ha]; exact hg
  have q1 := gd_nil (q := 2) (n := 8) q0
  rw [LX_push] at q1
  have q2 := gd_ref (a := a) (k := 0) (b := (n + 0)) q1 (LX_this han) (Nat.le_of_ble_eq_true rfl) (by rw [LX_len, hn]; show _ < n + 1; omega)
  rw [LX_put han] at q2
  exact q2
set_option maxHeartbeats 8000000 in
set_option maxRecDepth 100000 in
theorem kX2_init {G : GG} {L : List LE} {M : MM} {a n : Nat} (hn : L.length = n) (ha : L[a]? = some (0, 2, List.replicate (clN 2) none)) (hg : gd L M) : CI G xX2_init [.ref (gA G a)] L M (LX L a (eX2_init a n) (sX2_init a n)) (mX2_init M a n) := by
  have han : a < L.length := (List.getElem?_eq_some_iff.mp ha).1
  have han2 : a < n := by omega
  have q0 : gd (LX L a (0, 2, List.replicate (clN 2) none) []) M := by rw [LX_start ha]; exact hg
  refine CI_of (by decide +kernel) (Nat.le_of_ble_eq_true rfl) ?_
  rw [hn]
  obtain ⟨γ, hγ⟩ : ∃ γ, γ = gA G := ⟨_, rfl⟩
  have K : VV (gS G γ) xX2_init (ZI G xX2_init n (LX L a (eX2_init a n) (sX2_init a n)) (mX2_init M a n)) (LX L a (0, 2, List.replicate (clN 2) none) []) M 0 0 0 [(0, .ref (γ a))] [] := ?_
  · rw [LX_start ha, hγ] at K; exact K
  refine r_aload_n (pc := 0) (i := 0) dX2_init_0 rfl 0 rfl ?_
  refine r_objI (pc := 1) (tb_i 517 (by decide +kernel) (by decide +kernel)) (tb_i 164 (by decide +kernel) (by decide +kernel)) (tb_i 165 (by decide +kernel) (by decide +kernel)) ⟨Nat.le_of_ble_eq_true rfl, Nat.le_of_ble_eq_true rfl⟩ dX2_init_1 ?_
  refine r_aload_n (pc := 4) (i := 0) dX2_init_4 rfl 0 rfl ?_
  refine r_bipush (pc := 5) (v := 8) dX2_init_5 (by decide +kernel) ?_
  refine r_newA2 (pc := 7) (γ := γ) (lvf := fun g => [(0, .ref (g a))]) (stf := fun g => [.ref (g a)]) (n := n + 0) (N := 8) (tb_i 527 (by decide +kernel) (by decide +kernel)) wc_8 rfl (by decide) (by rw [LX_len, hn]; rfl) q0.1 (fun z => q0.2 _ (by rw [LX_len, hn]; exact Nat.le_refl _) z) (fun g h => ⟨by rw [h a (by omega)], by rw [h a (by omega)]⟩) ⟨by decide, by decide⟩ dX2_init_7 (fun g1 h1 => ?_)
  rw [LX_push]
  have q1 := gd_nil (q := 2) (n := 8) q0
  rw [LX_push] at q1
  have k1 : ∀ z, z < n → g1 z = gA G z := fun z hz => (h1 z (by omega)).trans (by rw [hγ])
  refine r_putRF (pc := 9) (γ := g1) (a := a) (b := (n + 0)) fc_2_9 rfl rfl (LX_this han) (Nat.le_of_ble_eq_true rfl) (fun C T h => by rw [cf_own cf_2 h]; rfl) dX2_init_9 ?_
  rw [LX_put han]
  have q2 := gd_ref (a := a) (k := 0) (b := (n + 0)) q1 (LX_this han) (Nat.le_of_ble_eq_true rfl) (by rw [LX_len, hn]; show _ < n + 1; omega)
  rw [LX_put han] at q2
  exact r_vretI (pc := 12) (γ := g1) k1 rfl (by decide) (by decide) dX2_init_12
theorem fc_4_9 : FG RX4 9 4 0 (clT 4 0) true := ⟨RX4, TX4, cf_4, by decide, tb_i 534 (by decide +kernel) (by decide +kernel), rfl, rfl, rfl⟩
theorem wc_137 : wI 137 = 137 := by decide +kernel
theorem fc_4_15 : FG RX4 15 4 1 (clT 4 1) true := ⟨RX4, TX4, cf_4, by decide, tb_i 535 (by decide +kernel) (by decide +kernel), rfl, rfl, rfl⟩
theorem fc_4_19 : FG RX4 19 4 2 (clT 4 2) true := ⟨RX4, TX4, cf_4, by decide, tb_i 536 (by decide +kernel) (by decide +kernel), rfl, rfl, rfl⟩
theorem wc_32 : wI 32 = 32 := by decide +kernel
theorem fc_4_22 : FG RX4 22 4 3 (clT 4 3) true := ⟨RX4, TX4, cf_4, by decide, tb_i 537 (by decide +kernel) (by decide +kernel), rfl, rfl, rfl⟩
theorem wc_496 : wI 496 = 496 := by decide +kernel
theorem fc_4_25 : FG RX4 25 4 4 (clT 4 4) true := ⟨RX4, TX4, cf_4, by decide, tb_i 538 (by decide +kernel) (by decide +kernel), rfl, rfl, rfl⟩
abbrev xX4_init : XX := (yX4_init, cX4_init, 1, none, 1, 20, 5, 810)
def eX4_init (a n : Nat) : LE := (0, 4, [some (n + 0), some (n + 1), some (n + 2), some (n + 3), some (n + 4)])
def sX4_init (a n : Nat) : List LE := [(1, 8, []), (2, 137, []), (2, 137, []), (2, 32, []), (2, 496, [])]
def mX4_init (M : MM) (a n : Nat) : MM := M
theorem oX4_init {L : List LE} {M : MM} {a n : Nat} (hn : L.length = n) (ha : L[a]? = some (0, 4, List.replicate (clN 4) none)) (hg : gd L M) : gd (LX L a (eX4_init a n) (sX4_init a n)) (mX4_init M a n) := by
  have han : a < L.length := (List.getElem?_eq_some_iff.mp ha).1
  have han2 : a < n := by omega
  have q0 : gd (LX L a (0, 4, List.replicate (clN 4) none) []) M := by rw [LX_start ha]; exact hg
  have q1 := gd_nil (q := 1) (n := 8) q0
  rw [LX_push] at q1
  have q2 := gd_ref (a := a) (k := 0) (b := (n + 0)) q1 (LX_this han) (Nat.le_of_ble_eq_true rfl) (by rw [LX_len, hn]; show _ < n + 1; omega)
  rw [LX_put han] at q2
  have q3 := gd_nil (q := 2) (n := 137) q2
  rw [LX_push] at q3
  have q4 := gd_ref (a := a) (k := 1) (b := (n + 1)) q3 (LX_this han) (Nat.le_of_ble_eq_true rfl) (by rw [LX_len, hn]; show _ < n + 2; omega)
  rw [LX_put han] at q4
  have q5 := gd_nil (q := 2) (n := 137) q4
  rw [LX_push] at q5
  have q6 := gd_ref (a := a) (k := 2) (b := (n + 2)) q5 (LX_this han) (Nat.le_of_ble_eq_true rfl) (by rw [LX_len, hn]; show _ < n + 3; omega)
  rw [LX_put han] at q6
  have q7 := gd_nil (q := 2) (n := 32) q6
  rw [LX_push] at q7
  have q8 := gd_ref (a := a) (k := 3) (b := (n + 3)) q7 (LX_this han) (Nat.le_of_ble_eq_true rfl) (by rw [LX_len, hn]; show _ < n + 4; omega)
  rw [LX_put han] at q8
  have q9 := gd_nil (q := 2) (n := 496) q8
  rw [LX_push] at q9
  have q10 := gd_ref (a := a) (k := 4) (b := (n + 4)) q9 (LX_this han) (Nat.le_of_ble_eq_true rfl) (by rw [LX_len, hn]; show _ < n + 5; omega)
  rw [LX_put han] at q10
  exact q10
set_option maxHeartbeats 8000000 in
set_option maxRecDepth 100000 in
theorem kX4_init {G : GG} {L : List LE} {M : MM} {a n : Nat} (hn : L.length = n) (ha : L[a]? = some (0, 4, List.replicate (clN 4) none)) (hg : gd L M) : CI G xX4_init [.ref (gA G a)] L M (LX L a (eX4_init a n) (sX4_init a n)) (mX4_init M a n) := by
  have han : a < L.length := (List.getElem?_eq_some_iff.mp ha).1
  have han2 : a < n := by omega
  have q0 : gd (LX L a (0, 4, List.replicate (clN 4) none) []) M := by rw [LX_start ha]; exact hg
  refine CI_of (by decide +kernel) (Nat.le_of_ble_eq_true rfl) ?_
  rw [hn]
  obtain ⟨γ, hγ⟩ : ∃ γ, γ = gA G := ⟨_, rfl⟩
  have K : VV (gS G γ) xX4_init (ZI G xX4_init n (LX L a (eX4_init a n) (sX4_init a n)) (mX4_init M a n)) (LX L a (0, 4, List.replicate (clN 4) none) []) M 0 0 0 [(0, .ref (γ a))] [] := ?_
  · rw [LX_start ha, hγ] at K; exact K
  refine r_aload_n (pc := 0) (i := 0) dX4_init_0 rfl 0 rfl ?_
  refine r_objI (pc := 1) (tb_i 533 (by decide +kernel) (by decide +kernel)) (tb_i 164 (by decide +kernel) (by decide +kernel)) (tb_i 165 (by decide +kernel) (by decide +kernel)) ⟨Nat.le_of_ble_eq_true rfl, Nat.le_of_ble_eq_true rfl⟩ dX4_init_1 ?_
  refine r_aload_n (pc := 4) (i := 0) dX4_init_4 rfl 0 rfl ?_
  refine r_bipush (pc := 5) (v := 8) dX4_init_5 (by decide +kernel) ?_
  refine r_newA1 (pc := 7) (γ := γ) (lvf := fun g => [(0, .ref (g a))]) (stf := fun g => [.ref (g a)]) (n := n + 0) (N := 8) (tb_i 277 (by decide +kernel) (by decide +kernel)) wc_8 rfl (by decide) (by rw [LX_len, hn]; rfl) q0.1 (fun z => q0.2 _ (by rw [LX_len, hn]; exact Nat.le_refl _) z) (fun g h => ⟨by rw [h a (by omega)], by rw [h a (by omega)]⟩) ⟨by decide, by decide⟩ dX4_init_7 (fun g1 h1 => ?_)
  rw [LX_push]
  have q1 := gd_nil (q := 1) (n := 8) q0
  rw [LX_push] at q1
  have k1 : ∀ z, z < n → g1 z = gA G z := fun z hz => (h1 z (by omega)).trans (by rw [hγ])
  refine r_putRF (pc := 9) (γ := g1) (a := a) (b := (n + 0)) fc_4_9 rfl rfl (LX_this han) (Nat.le_of_ble_eq_true rfl) (fun C T h => by rw [cf_own cf_4 h]; rfl) dX4_init_9 ?_
  rw [LX_put han]
  have q2 := gd_ref (a := a) (k := 0) (b := (n + 0)) q1 (LX_this han) (Nat.le_of_ble_eq_true rfl) (by rw [LX_len, hn]; show _ < n + 1; omega)
  rw [LX_put han] at q2
  refine r_aload_n (pc := 12) (i := 0) dX4_init_12 rfl 0 rfl ?_
  refine r_sipush (pc := 13) (v := 137) dX4_init_13 (by decide +kernel) ?_
  refine r_newA2 (pc := 16) (γ := g1) (lvf := fun g => [(0, .ref (g a))]) (stf := fun g => [.ref (g a)]) (n := n + 1) (N := 137) (tb_i 527 (by decide +kernel) (by decide +kernel)) wc_137 rfl (by decide) (by rw [LX_len, hn]; rfl) q2.1 (fun z => q2.2 _ (by rw [LX_len, hn]; exact Nat.le_refl _) z) (fun g h => ⟨by rw [h a (by omega)], by rw [h a (by omega)]⟩) ⟨by decide, by decide⟩ dX4_init_16 (fun g2 h2 => ?_)
  rw [LX_push]
  have q3 := gd_nil (q := 2) (n := 137) q2
  rw [LX_push] at q3
  have k2 : ∀ z, z < n → g2 z = gA G z := fun z hz => (h2 z (by omega)).trans (k1 z hz)
  refine r_putRF (pc := 18) (γ := g2) (a := a) (b := (n + 1)) fc_4_15 rfl rfl (LX_this han) (Nat.le_of_ble_eq_true rfl) (fun C T h => by rw [cf_own cf_4 h]; rfl) dX4_init_18 ?_
  rw [LX_put han]
  have q4 := gd_ref (a := a) (k := 1) (b := (n + 1)) q3 (LX_this han) (Nat.le_of_ble_eq_true rfl) (by rw [LX_len, hn]; show _ < n + 2; omega)
  rw [LX_put han] at q4
  refine r_aload_n (pc := 21) (i := 0) dX4_init_21 rfl 0 rfl ?_
  refine r_sipush (pc := 22) (v := 137) dX4_init_22 (by decide +kernel) ?_
  refine r_newA2 (pc := 25) (γ := g2) (lvf := fun g => [(0, .ref (g a))]) (stf := fun g => [.ref (g a)]) (n := n + 2) (N := 137) (tb_i 527 (by decide +kernel) (by decide +kernel)) wc_137 rfl (by decide) (by rw [LX_len, hn]; rfl) q4.1 (fun z => q4.2 _ (by rw [LX_len, hn]; exact Nat.le_refl _) z) (fun g h => ⟨by rw [h a (by omega)], by rw [h a (by omega)]⟩) ⟨by decide, by decide⟩ dX4_init_25 (fun g3 h3 => ?_)
  rw [LX_push]
  have q5 := gd_nil (q := 2) (n := 137) q4
  rw [LX_push] at q5
  have k3 : ∀ z, z < n → g3 z = gA G z := fun z hz => (h3 z (by omega)).trans (k2 z hz)
  refine r_putRF (pc := 27) (γ := g3) (a := a) (b := (n + 2)) fc_4_19 rfl rfl (LX_this han) (Nat.le_of_ble_eq_true rfl) (fun C T h => by rw [cf_own cf_4 h]; rfl) dX4_init_27 ?_
  rw [LX_put han]
  have q6 := gd_ref (a := a) (k := 2) (b := (n + 2)) q5 (LX_this han) (Nat.le_of_ble_eq_true rfl) (by rw [LX_len, hn]; show _ < n + 3; omega)
  rw [LX_put han] at q6
  refine r_aload_n (pc := 30) (i := 0) dX4_init_30 rfl 0 rfl ?_
  refine r_bipush (pc := 31) (v := 32) dX4_init_31 (by decide +kernel) ?_
  refine r_newA2 (pc := 33) (γ := g3) (lvf := fun g => [(0, .ref (g a))]) (stf := fun g => [.ref (g a)]) (n := n + 3) (N := 32) (tb_i 527 (by decide +kernel) (by decide +kernel)) wc_32 rfl (by decide) (by rw [LX_len, hn]; rfl) q6.1 (fun z => q6.2 _ (by rw [LX_len, hn]; exact Nat.le_refl _) z) (fun g h => ⟨by rw [h a (by omega)], by rw [h a (by omega)]⟩) ⟨by decide, by decide⟩ dX4_init_33 (fun g4 h4 => ?_)
  rw [LX_push]
  have q7 := gd_nil (q := 2) (n := 32) q6
  rw [LX_push] at q7
  have k4 : ∀ z, z < n → g4 z = gA G z := fun z hz => (h4 z (by omega)).trans (k3 z hz)
  refine r_putRF (pc := 35) (γ := g4) (a := a) (b := (n + 3)) fc_4_22 rfl rfl (LX_this han) (Nat.le_of_ble_eq_true rfl) (fun C T h => by rw [cf_own cf_4 h]; rfl) dX4_init_35 ?_
  rw [LX_put han]
  have q8 := gd_ref (a := a) (k := 3) (b := (n + 3)) q7 (LX_this han) (Nat.le_of_ble_eq_true rfl) (by rw [LX_len, hn]; show _ < n + 4; omega)
  rw [LX_put han] at q8
  refine r_aload_n (pc := 38) (i := 0) dX4_init_38 rfl 0 rfl ?_
  refine r_sipush (pc := 39) (v := 496) dX4_init_39 (by decide +kernel) ?_
  refine r_newA2 (pc := 42) (γ := g4) (lvf := fun g => [(0, .ref (g a))]) (stf := fun g => [.ref (g a)]) (n := n + 4) (N := 496) (tb_i 527 (by decide +kernel) (by decide +kernel)) wc_496 rfl (by decide) (by rw [LX_len, hn]; rfl) q8.1 (fun z => q8.2 _ (by rw [LX_len, hn]; exact Nat.le_refl _) z) (fun g h => ⟨by rw [h a (by omega)], by rw [h a (by omega)]⟩) ⟨by decide, by decide⟩ dX4_init_42 (fun g5 h5 => ?_)
  rw [LX_push]
  have q9 := gd_nil (q := 2) (n := 496) q8
  rw [LX_push] at q9
  have k5 : ∀ z, z < n → g5 z = gA G z := fun z hz => (h5 z (by omega)).trans (k4 z hz)
  refine r_putRF (pc := 44) (γ := g5) (a := a) (b := (n + 4)) fc_4_25 rfl rfl (LX_this han) (Nat.le_of_ble_eq_true rfl) (fun C T h => by rw [cf_own cf_4 h]; rfl) dX4_init_44 ?_
  rw [LX_put han]
  have q10 := gd_ref (a := a) (k := 4) (b := (n + 4)) q9 (LX_this han) (Nat.le_of_ble_eq_true rfl) (by rw [LX_len, hn]; show _ < n + 5; omega)
  rw [LX_put han] at q10
  exact r_vretI (pc := 47) (γ := g5) k5 rfl (by decide) (by decide) dX4_init_47
theorem fc_10_9 : FG RX10 9 10 0 (clT 10 0) true := ⟨RX10, TX10, cf_10, by decide, tb_i 556 (by decide +kernel) (by decide +kernel), rfl, rfl, rfl⟩
theorem fc_10_15 : FG RX10 15 10 1 (clT 10 1) true := ⟨RX10, TX10, cf_10, by decide, tb_i 558 (by decide +kernel) (by decide +kernel), rfl, rfl, rfl⟩
abbrev xX10_init : XX := (yX10_init, cX10_init, 1, none, 1, 20, 2, 16)
def eX10_init (a n : Nat) : LE := (0, 10, [some (n + 0), some (n + 1)])
def sX10_init (a n : Nat) : List LE := [(1, 8, []), (1, 8, [])]
def mX10_init (M : MM) (a n : Nat) : MM := M
theorem oX10_init {L : List LE} {M : MM} {a n : Nat} (hn : L.length = n) (ha : L[a]? = some (0, 10, List.replicate (clN 10) none)) (hg : gd L M) : gd (LX L a (eX10_init a n) (sX10_init a n)) (mX10_init M a n) := by
  have han : a < L.length := (List.getElem?_eq_some_iff.mp ha).1
  have han2 : a < n := by omega
  have q0 : gd (LX L a (0, 10, List.replicate (clN 10) none) []) M := by rw [LX_start ha]; exact hg
  have q1 := gd_nil (q := 1) (n := 8) q0
  rw [LX_push] at q1
  have q2 := gd_ref (a := a) (k := 0) (b := (n + 0)) q1 (LX_this han) (Nat.le_of_ble_eq_true rfl) (by rw [LX_len, hn]; show _ < n + 1; omega)
  rw [LX_put han] at q2
  have q3 := gd_nil (q := 1) (n := 8) q2
  rw [LX_push] at q3
  have q4 := gd_ref (a := a) (k := 1) (b := (n + 1)) q3 (LX_this han) (Nat.le_of_ble_eq_true rfl) (by rw [LX_len, hn]; show _ < n + 2; omega)
  rw [LX_put han] at q4
  exact q4
set_option maxHeartbeats 8000000 in
set_option maxRecDepth 100000 in
theorem kX10_init {G : GG} {L : List LE} {M : MM} {a n : Nat} (hn : L.length = n) (ha : L[a]? = some (0, 10, List.replicate (clN 10) none)) (hg : gd L M) : CI G xX10_init [.ref (gA G a)] L M (LX L a (eX10_init a n) (sX10_init a n)) (mX10_init M a n) := by
  have han : a < L.length := (List.getElem?_eq_some_iff.mp ha).1
  have han2 : a < n := by omega
  have q0 : gd (LX L a (0, 10, List.replicate (clN 10) none) []) M := by rw [LX_start ha]; exact hg
  refine CI_of (by decide +kernel) (Nat.le_of_ble_eq_true rfl) ?_
  rw [hn]
  obtain ⟨γ, hγ⟩ : ∃ γ, γ = gA G := ⟨_, rfl⟩
  have K : VV (gS G γ) xX10_init (ZI G xX10_init n (LX L a (eX10_init a n) (sX10_init a n)) (mX10_init M a n)) (LX L a (0, 10, List.replicate (clN 10) none) []) M 0 0 0 [(0, .ref (γ a))] [] := ?_
  · rw [LX_start ha, hγ] at K; exact K
  refine r_aload_n (pc := 0) (i := 0) dX10_init_0 rfl 0 rfl ?_
  refine r_objI (pc := 1) (tb_i 555 (by decide +kernel) (by decide +kernel)) (tb_i 164 (by decide +kernel) (by decide +kernel)) (tb_i 165 (by decide +kernel) (by decide +kernel)) ⟨Nat.le_of_ble_eq_true rfl, Nat.le_of_ble_eq_true rfl⟩ dX10_init_1 ?_
  refine r_aload_n (pc := 4) (i := 0) dX10_init_4 rfl 0 rfl ?_
  refine r_bipush (pc := 5) (v := 8) dX10_init_5 (by decide +kernel) ?_
  refine r_newA1 (pc := 7) (γ := γ) (lvf := fun g => [(0, .ref (g a))]) (stf := fun g => [.ref (g a)]) (n := n + 0) (N := 8) (tb_i 277 (by decide +kernel) (by decide +kernel)) wc_8 rfl (by decide) (by rw [LX_len, hn]; rfl) q0.1 (fun z => q0.2 _ (by rw [LX_len, hn]; exact Nat.le_refl _) z) (fun g h => ⟨by rw [h a (by omega)], by rw [h a (by omega)]⟩) ⟨by decide, by decide⟩ dX10_init_7 (fun g1 h1 => ?_)
  rw [LX_push]
  have q1 := gd_nil (q := 1) (n := 8) q0
  rw [LX_push] at q1
  have k1 : ∀ z, z < n → g1 z = gA G z := fun z hz => (h1 z (by omega)).trans (by rw [hγ])
  refine r_putRF (pc := 9) (γ := g1) (a := a) (b := (n + 0)) fc_10_9 rfl rfl (LX_this han) (Nat.le_of_ble_eq_true rfl) (fun C T h => by rw [cf_own cf_10 h]; rfl) dX10_init_9 ?_
  rw [LX_put han]
  have q2 := gd_ref (a := a) (k := 0) (b := (n + 0)) q1 (LX_this han) (Nat.le_of_ble_eq_true rfl) (by rw [LX_len, hn]; show _ < n + 1; omega)
  rw [LX_put han] at q2
  refine r_aload_n (pc := 12) (i := 0) dX10_init_12 rfl 0 rfl ?_
  refine r_bipush (pc := 13) (v := 8) dX10_init_13 (by decide +kernel) ?_
  refine r_newA1 (pc := 15) (γ := g1) (lvf := fun g => [(0, .ref (g a))]) (stf := fun g => [.ref (g a)]) (n := n + 1) (N := 8) (tb_i 277 (by decide +kernel) (by decide +kernel)) wc_8 rfl (by decide) (by rw [LX_len, hn]; rfl) q2.1 (fun z => q2.2 _ (by rw [LX_len, hn]; exact Nat.le_refl _) z) (fun g h => ⟨by rw [h a (by omega)], by rw [h a (by omega)]⟩) ⟨by decide, by decide⟩ dX10_init_15 (fun g2 h2 => ?_)
  rw [LX_push]
  have q3 := gd_nil (q := 1) (n := 8) q2
  rw [LX_push] at q3
  have k2 : ∀ z, z < n → g2 z = gA G z := fun z hz => (h2 z (by omega)).trans (k1 z hz)
  refine r_putRF (pc := 17) (γ := g2) (a := a) (b := (n + 1)) fc_10_15 rfl rfl (LX_this han) (Nat.le_of_ble_eq_true rfl) (fun C T h => by rw [cf_own cf_10 h]; rfl) dX10_init_17 ?_
  rw [LX_put han]
  have q4 := gd_ref (a := a) (k := 1) (b := (n + 1)) q3 (LX_this han) (Nat.le_of_ble_eq_true rfl) (by rw [LX_len, hn]; show _ < n + 2; omega)
  rw [LX_put han] at q4
  exact r_vretI (pc := 20) (γ := g2) k2 rfl (by decide) (by decide) dX10_init_20
abbrev xX0_init : XX := (yX0_init, cX0_init, 1, none, 1, 20, 0, 0)
def eX0_init (a n : Nat) : LE := (0, 0, [none, none, none, none])
def sX0_init (a n : Nat) : List LE := []
def mX0_init (M : MM) (a n : Nat) : MM := M
theorem oX0_init {L : List LE} {M : MM} {a n : Nat} (hn : L.length = n) (ha : L[a]? = some (0, 0, List.replicate (clN 0) none)) (hg : gd L M) : gd (LX L a (eX0_init a n) (sX0_init a n)) (mX0_init M a n) := by
  have han : a < L.length := (List.getElem?_eq_some_iff.mp ha).1
  have han2 : a < n := by omega
  have q0 : gd (LX L a (0, 0, List.replicate (clN 0) none) []) M := by rw [LX_start ha]; exact hg
  exact q0
set_option maxHeartbeats 8000000 in
set_option maxRecDepth 100000 in
theorem kX0_init {G : GG} {L : List LE} {M : MM} {a n : Nat} (hn : L.length = n) (ha : L[a]? = some (0, 0, List.replicate (clN 0) none)) (hg : gd L M) : CI G xX0_init [.ref (gA G a)] L M (LX L a (eX0_init a n) (sX0_init a n)) (mX0_init M a n) := by
  have han : a < L.length := (List.getElem?_eq_some_iff.mp ha).1
  have han2 : a < n := by omega
  have q0 : gd (LX L a (0, 0, List.replicate (clN 0) none) []) M := by rw [LX_start ha]; exact hg
  refine CI_of (by decide +kernel) (Nat.le_of_ble_eq_true rfl) ?_
  rw [hn]
  obtain ⟨γ, hγ⟩ : ∃ γ, γ = gA G := ⟨_, rfl⟩
  have K : VV (gS G γ) xX0_init (ZI G xX0_init n (LX L a (eX0_init a n) (sX0_init a n)) (mX0_init M a n)) (LX L a (0, 0, List.replicate (clN 0) none) []) M 0 0 0 [(0, .ref (γ a))] [] := ?_
  · rw [LX_start ha, hγ] at K; exact K
  refine r_aload_n (pc := 0) (i := 0) dX0_init_0 rfl 0 rfl ?_
  refine r_objI (pc := 1) (tb_i 569 (by decide +kernel) (by decide +kernel)) (tb_i 164 (by decide +kernel) (by decide +kernel)) (tb_i 165 (by decide +kernel) (by decide +kernel)) ⟨Nat.le_of_ble_eq_true rfl, Nat.le_of_ble_eq_true rfl⟩ dX0_init_1 ?_
  exact r_vretI (pc := 4) (γ := γ) (fun _ _ => by rw [hγ]) rfl (by decide) (by decide) dX0_init_4
theorem wc_600 : wI 600 = 600 := by decide +kernel
theorem fc_9_9 : FG RX9 9 9 0 (clT 9 0) true := ⟨RX9, TX9, cf_9, by decide, tb_i 358 (by decide +kernel) (by decide +kernel), rfl, rfl, rfl⟩
theorem fc_9_15 : FG RX9 15 9 3 (clT 9 3) false := ⟨RX9, TX9, cf_9, by decide, tb_i 365 (by decide +kernel) (by decide +kernel), rfl, rfl, rfl⟩
theorem fc_9_19 : FG RX9 19 9 4 (clT 9 4) true := ⟨RX9, TX9, cf_9, by decide, tb_i 367 (by decide +kernel) (by decide +kernel), rfl, rfl, rfl⟩
theorem wc_2 : wI 2 = 2 := by decide +kernel
theorem fc_9_25 : FG RX9 25 9 5 (clT 9 5) true := ⟨RX9, TX9, cf_9, by decide, tb_i 369 (by decide +kernel) (by decide +kernel), rfl, rfl, rfl⟩
theorem fc_9_31 : FG RX9 31 9 6 (clT 9 6) true := ⟨RX9, TX9, cf_9, by decide, tb_i 371 (by decide +kernel) (by decide +kernel), rfl, rfl, rfl⟩
theorem fc_9_37 : FG RX9 37 9 7 (clT 9 7) true := ⟨RX9, TX9, cf_9, by decide, tb_i 373 (by decide +kernel) (by decide +kernel), rfl, rfl, rfl⟩
theorem fc_9_41 : FG RX9 41 9 8 (clT 9 8) true := ⟨RX9, TX9, cf_9, by decide, tb_i 375 (by decide +kernel) (by decide +kernel), rfl, rfl, rfl⟩
theorem fc_9_46 : FG RX9 46 9 9 (clT 9 9) true := ⟨RX9, TX9, cf_9, by decide, tb_i 377 (by decide +kernel) (by decide +kernel), rfl, rfl, rfl⟩
abbrev xX9_init : XX := (yX9_init, cX9_init, 2, none, 3, 64, 75, 2223)
theorem ci_X9_init_50 : CKI xX9_init 50 xX5_init 0 := ⟨tb_i 141 (by decide +kernel) (by decide +kernel), tb_i 183 (by decide +kernel) (by decide +kernel), ⟨by decide +kernel, by decide +kernel, by decide +kernel⟩, by decide, by decide, rfl, tb_i 182 (by decide +kernel) (by decide +kernel), rfl, Or.inr ⟨"PaperDonkey", tn_i 181 (by decide +kernel) rfl⟩⟩
theorem ci_X9_init_51 : CKI xX9_init 51 xX3_init 1 := ⟨tb_i 142 (by decide +kernel) (by decide +kernel), tb_i 281 (by decide +kernel) (by decide +kernel), ⟨by decide +kernel, by decide +kernel, by decide +kernel⟩, by decide, by decide, rfl, tb_i 280 (by decide +kernel) (by decide +kernel), rfl, Or.inl (tb_i 279 (by decide +kernel) (by decide +kernel))⟩
theorem ci_X9_init_54 : CKI xX9_init 54 xX1_init 0 := ⟨tb_i 144 (by decide +kernel) (by decide +kernel), tb_i 324 (by decide +kernel) (by decide +kernel), ⟨by decide +kernel, by decide +kernel, by decide +kernel⟩, by decide, by decide, rfl, tb_i 323 (by decide +kernel) (by decide +kernel), rfl, Or.inr ⟨"PaperDonkey", tn_i 322 (by decide +kernel) rfl⟩⟩
theorem ci_X9_init_55 : CKI xX9_init 55 xX8_init 0 := ⟨tb_i 145 (by decide +kernel) (by decide +kernel), tb_i 344 (by decide +kernel) (by decide +kernel), ⟨by decide +kernel, by decide +kernel, by decide +kernel⟩, by decide, by decide, rfl, tb_i 343 (by decide +kernel) (by decide +kernel), rfl, Or.inr ⟨"PaperDonkey", tn_i 342 (by decide +kernel) rfl⟩⟩
theorem wc_1 : wI 1 = 1 := by decide +kernel
def eX9_init (a n : Nat) : LE := (0, 9, [some (n + 0), none, none, none, some (n + 1), some (n + 2), some (n + 3), some (n + 4), some (n + 5), some (n + 6)])
def sX9_init (a n : Nat) : List LE := [(3, 600, []), (1, 5, []), (7, 2, [some (n + 7), some (n + 41)]), (6, 2, [some (n + 18), some (n + 52)]), (5, 2, [some (n + 22), some (n + 56)]), (6, 2, [some (n + 28), some (n + 62)]), (8, 2, [some (n + 32), some (n + 66)]), (0, 5, [none, some (n + 8), some (n + 9), none, some (n + 10), some (n + 11), some (n + 12), some (n + 13), some (n + 14), some (n + 15), some (n + 16), some (n + 17), none, none, none, none, none]), (1, 5, []), (1, 5, []), (1, 8, []), (1, 8, []), (1, 8, []), (1, 8, []), (1, 8, []), (1, 64, []), (1, 8, []), (1, 3, []), (0, 3, [none, some (n + 19), some (n + 20), some (n + 21), none]), (1, 40, []), (1, 40, []), (1, 40, []), (0, 1, [some (n + 23), some (n + 27)]), (0, 3, [none, some (n + 24), some (n + 25), some (n + 26), none]), (1, 8, []), (1, 8, []), (1, 8, []), (1, 8, []), (0, 3, [none, some (n + 29), some (n + 30), some (n + 31), none]), (1, 25, []), (1, 25, []), (1, 25, []), (0, 8, [some (n + 33), some (n + 37)]), (0, 3, [none, some (n + 34), some (n + 35), some (n + 36), none]), (1, 40, []), (1, 40, []), (1, 40, []), (0, 3, [none, some (n + 38), some (n + 39), some (n + 40), none]), (1, 15, []), (1, 15, []), (1, 15, []), (0, 5, [none, some (n + 42), some (n + 43), none, some (n + 44), some (n + 45), some (n + 46), some (n + 47), some (n + 48), some (n + 49), some (n + 50), some (n + 51), none, none, none, none, none]), (1, 5, []), (1, 5, []), (1, 8, []), (1, 8, []), (1, 8, []), (1, 8, []), (1, 8, []), (1, 64, []), (1, 8, []), (1, 3, []), (0, 3, [none, some (n + 53), some (n + 54), some (n + 55), none]), (1, 40, []), (1, 40, []), (1, 40, []), (0, 1, [some (n + 57), some (n + 61)]), (0, 3, [none, some (n + 58), some (n + 59), some (n + 60), none]), (1, 8, []), (1, 8, []), (1, 8, []), (1, 8, []), (0, 3, [none, some (n + 63), some (n + 64), some (n + 65), none]), (1, 25, []), (1, 25, []), (1, 25, []), (0, 8, [some (n + 67), some (n + 71)]), (0, 3, [none, some (n + 68), some (n + 69), some (n + 70), none]), (1, 40, []), (1, 40, []), (1, 40, []), (0, 3, [none, some (n + 72), some (n + 73), some (n + 74), none]), (1, 15, []), (1, 15, []), (1, 15, [])]
def mX9_init (M : MM) (a n : Nat) : MM := (mX8_init (mX3_init (mX1_init (mX3_init (mX5_init (mX8_init (mX3_init (mX1_init (mX3_init (mX5_init (mU M a 3 (-1)) (n + 7) (n + 8)) (n + 18) (n + 19) 40) (n + 22) (n + 23)) (n + 28) (n + 29) 25) (n + 32) (n + 33)) (n + 41) (n + 42)) (n + 52) (n + 53) 40) (n + 56) (n + 57)) (n + 62) (n + 63) 25) (n + 66) (n + 67))
theorem oX9_init {L : List LE} {M : MM} {a n : Nat} (hn : L.length = n) (ha : L[a]? = some (0, 9, List.replicate (clN 9) none)) (hg : gd L M) : gd (LX L a (eX9_init a n) (sX9_init a n)) (mX9_init M a n) := by
  have han : a < L.length := (List.getElem?_eq_some_iff.mp ha).1
  have han2 : a < n := by omega
  have q0 : gd (LX L a (0, 9, List.replicate (clN 9) none) []) M := by rw [LX_start ha]; exact hg
  have q1 := gd_nil (q := 3) (n := 600) q0
  rw [LX_push] at q1
  have q2 := gd_ref (a := a) (k := 0) (b := (n + 0)) q1 (LX_this han) (Nat.le_of_ble_eq_true rfl) (by rw [LX_len, hn]; show _ < n + 1; omega)
  rw [LX_put han] at q2
  have q3 := gd_mU (a := a) (k := 3) (x := (-1)) q2 (by rw [LX_len, hn]; omega)
  have q4 := gd_nil (q := 1) (n := 5) q3
  rw [LX_push] at q4
  have q5 := gd_ref (a := a) (k := 4) (b := (n + 1)) q4 (LX_this han) (Nat.le_of_ble_eq_true rfl) (by rw [LX_len, hn]; show _ < n + 2; omega)
  rw [LX_put han] at q5
  have q6 := gd_push (q := 7) (n := 2) (m := 2) q5
  rw [LX_push] at q6
  have q7 := gd_ref (a := a) (k := 5) (b := (n + 2)) q6 (LX_this han) (Nat.le_of_ble_eq_true rfl) (by rw [LX_len, hn]; show _ < n + 3; omega)
  rw [LX_put han] at q7
  have q8 := gd_push (q := 6) (n := 2) (m := 2) q7
  rw [LX_push] at q8
  have q9 := gd_ref (a := a) (k := 6) (b := (n + 3)) q8 (LX_this han) (Nat.le_of_ble_eq_true rfl) (by rw [LX_len, hn]; show _ < n + 4; omega)
  rw [LX_put han] at q9
  have q10 := gd_push (q := 5) (n := 2) (m := 2) q9
  rw [LX_push] at q10
  have q11 := gd_ref (a := a) (k := 7) (b := (n + 4)) q10 (LX_this han) (Nat.le_of_ble_eq_true rfl) (by rw [LX_len, hn]; show _ < n + 5; omega)
  rw [LX_put han] at q11
  have q12 := gd_push (q := 6) (n := 2) (m := 2) q11
  rw [LX_push] at q12
  have q13 := gd_ref (a := a) (k := 8) (b := (n + 5)) q12 (LX_this han) (Nat.le_of_ble_eq_true rfl) (by rw [LX_len, hn]; show _ < n + 6; omega)
  rw [LX_put han] at q13
  have q14 := gd_push (q := 8) (n := 2) (m := 2) q13
  rw [LX_push] at q14
  have q15 := gd_ref (a := a) (k := 9) (b := (n + 6)) q14 (LX_this han) (Nat.le_of_ble_eq_true rfl) (by rw [LX_len, hn]; show _ < n + 7; omega)
  rw [LX_put han] at q15
  have q16 := gd_push (q := 0) (n := 5) (m := clN 5) q15
  rw [LX_push] at q16
  have q17 := oX5_init (a := n + 7) (n := n + 8) (by rw [LX_len, hn]; rfl) (LX_at hn rfl) q16
  rw [LX_LX hn] at q17
  have q18 := gd_ref (a := n + 2) (k := 0) (b := n + 7) q17 (LX_at hn rfl) (Nat.le_of_ble_eq_true rfl) (by rw [LX_len, hn]; show _ < n + 18; omega)
  rw [LX_set hn] at q18
  have q19 := gd_push (q := 0) (n := 3) (m := clN 3) q18
  rw [LX_push] at q19
  have q20 := oX3_init (a := n + 18) (n := n + 19) (k := 40) (by decide) (by rw [LX_len, hn]; rfl) (LX_at hn rfl) q19
  rw [LX_LX hn] at q20
  have q21 := gd_ref (a := n + 3) (k := 0) (b := n + 18) q20 (LX_at hn rfl) (Nat.le_of_ble_eq_true rfl) (by rw [LX_len, hn]; show _ < n + 22; omega)
  rw [LX_set hn] at q21
  have q22 := gd_push (q := 0) (n := 1) (m := clN 1) q21
  rw [LX_push] at q22
  have q23 := oX1_init (a := n + 22) (n := n + 23) (by rw [LX_len, hn]; rfl) (LX_at hn rfl) q22
  rw [LX_LX hn] at q23
  have q24 := gd_ref (a := n + 4) (k := 0) (b := n + 22) q23 (LX_at hn rfl) (Nat.le_of_ble_eq_true rfl) (by rw [LX_len, hn]; show _ < n + 28; omega)
  rw [LX_set hn] at q24
  have q25 := gd_push (q := 0) (n := 3) (m := clN 3) q24
  rw [LX_push] at q25
  have q26 := oX3_init (a := n + 28) (n := n + 29) (k := 25) (by decide) (by rw [LX_len, hn]; rfl) (LX_at hn rfl) q25
  rw [LX_LX hn] at q26
  have q27 := gd_ref (a := n + 5) (k := 0) (b := n + 28) q26 (LX_at hn rfl) (Nat.le_of_ble_eq_true rfl) (by rw [LX_len, hn]; show _ < n + 32; omega)
  rw [LX_set hn] at q27
  have q28 := gd_push (q := 0) (n := 8) (m := clN 8) q27
  rw [LX_push] at q28
  have q29 := oX8_init (a := n + 32) (n := n + 33) (by rw [LX_len, hn]; rfl) (LX_at hn rfl) q28
  rw [LX_LX hn] at q29
  have q30 := gd_ref (a := n + 6) (k := 0) (b := n + 32) q29 (LX_at hn rfl) (Nat.le_of_ble_eq_true rfl) (by rw [LX_len, hn]; show _ < n + 41; omega)
  rw [LX_set hn] at q30
  have q31 := gd_push (q := 0) (n := 5) (m := clN 5) q30
  rw [LX_push] at q31
  have q32 := oX5_init (a := n + 41) (n := n + 42) (by rw [LX_len, hn]; rfl) (LX_at hn rfl) q31
  rw [LX_LX hn] at q32
  have q33 := gd_ref (a := n + 2) (k := 1) (b := n + 41) q32 (LX_at hn rfl) (Nat.le_of_ble_eq_true rfl) (by rw [LX_len, hn]; show _ < n + 52; omega)
  rw [LX_set hn] at q33
  have q34 := gd_push (q := 0) (n := 3) (m := clN 3) q33
  rw [LX_push] at q34
  have q35 := oX3_init (a := n + 52) (n := n + 53) (k := 40) (by decide) (by rw [LX_len, hn]; rfl) (LX_at hn rfl) q34
  rw [LX_LX hn] at q35
  have q36 := gd_ref (a := n + 3) (k := 1) (b := n + 52) q35 (LX_at hn rfl) (Nat.le_of_ble_eq_true rfl) (by rw [LX_len, hn]; show _ < n + 56; omega)
  rw [LX_set hn] at q36
  have q37 := gd_push (q := 0) (n := 1) (m := clN 1) q36
  rw [LX_push] at q37
  have q38 := oX1_init (a := n + 56) (n := n + 57) (by rw [LX_len, hn]; rfl) (LX_at hn rfl) q37
  rw [LX_LX hn] at q38
  have q39 := gd_ref (a := n + 4) (k := 1) (b := n + 56) q38 (LX_at hn rfl) (Nat.le_of_ble_eq_true rfl) (by rw [LX_len, hn]; show _ < n + 62; omega)
  rw [LX_set hn] at q39
  have q40 := gd_push (q := 0) (n := 3) (m := clN 3) q39
  rw [LX_push] at q40
  have q41 := oX3_init (a := n + 62) (n := n + 63) (k := 25) (by decide) (by rw [LX_len, hn]; rfl) (LX_at hn rfl) q40
  rw [LX_LX hn] at q41
  have q42 := gd_ref (a := n + 5) (k := 1) (b := n + 62) q41 (LX_at hn rfl) (Nat.le_of_ble_eq_true rfl) (by rw [LX_len, hn]; show _ < n + 66; omega)
  rw [LX_set hn] at q42
  have q43 := gd_push (q := 0) (n := 8) (m := clN 8) q42
  rw [LX_push] at q43
  have q44 := oX8_init (a := n + 66) (n := n + 67) (by rw [LX_len, hn]; rfl) (LX_at hn rfl) q43
  rw [LX_LX hn] at q44
  have q45 := gd_ref (a := n + 6) (k := 1) (b := n + 66) q44 (LX_at hn rfl) (Nat.le_of_ble_eq_true rfl) (by rw [LX_len, hn]; show _ < n + 75; omega)
  rw [LX_set hn] at q45
  exact q45
set_option maxHeartbeats 8000000 in
set_option maxRecDepth 100000 in
theorem kX9_init {G : GG} {L : List LE} {M : MM} {a n : Nat} (hn : L.length = n) (ha : L[a]? = some (0, 9, List.replicate (clN 9) none)) (hg : gd L M) : CI G xX9_init [.ref (gA G a)] L M (LX L a (eX9_init a n) (sX9_init a n)) (mX9_init M a n) := by
  have han : a < L.length := (List.getElem?_eq_some_iff.mp ha).1
  have han2 : a < n := by omega
  have q0 : gd (LX L a (0, 9, List.replicate (clN 9) none) []) M := by rw [LX_start ha]; exact hg
  refine CI_of (by decide +kernel) (Nat.le_of_ble_eq_true rfl) ?_
  rw [hn]
  obtain ⟨γ, hγ⟩ : ∃ γ, γ = gA G := ⟨_, rfl⟩
  have K : VV (gS G γ) xX9_init (ZI G xX9_init n (LX L a (eX9_init a n) (sX9_init a n)) (mX9_init M a n)) (LX L a (0, 9, List.replicate (clN 9) none) []) M 0 0 0 [(0, .ref (γ a))] [] := ?_
  · rw [LX_start ha, hγ] at K; exact K
  refine r_aload_n (pc := 0) (i := 0) dX9_init_0 rfl 0 rfl ?_
  refine r_objI (pc := 1) (tb_i 171 (by decide +kernel) (by decide +kernel)) (tb_i 164 (by decide +kernel) (by decide +kernel)) (tb_i 165 (by decide +kernel) (by decide +kernel)) ⟨Nat.le_of_ble_eq_true rfl, Nat.le_of_ble_eq_true rfl⟩ dX9_init_1 ?_
  refine r_aload_n (pc := 4) (i := 0) dX9_init_4 rfl 0 rfl ?_
  refine r_sipush (pc := 5) (v := 600) dX9_init_5 (by decide +kernel) ?_
  refine r_newA3 (pc := 8) (γ := γ) (lvf := fun g => [(0, .ref (g a))]) (stf := fun g => [.ref (g a)]) (n := n + 0) (N := 600) (tb_i 276 (by decide +kernel) (by decide +kernel)) wc_600 rfl (by decide) (by rw [LX_len, hn]; rfl) q0.1 (fun z => q0.2 _ (by rw [LX_len, hn]; exact Nat.le_refl _) z) (fun g h => ⟨by rw [h a (by omega)], by rw [h a (by omega)]⟩) ⟨by decide, by decide⟩ dX9_init_8 (fun g1 h1 => ?_)
  rw [LX_push]
  have q1 := gd_nil (q := 3) (n := 600) q0
  rw [LX_push] at q1
  have k1 : ∀ z, z < n → g1 z = gA G z := fun z hz => (h1 z (by omega)).trans (by rw [hγ])
  refine r_putRF (pc := 10) (γ := g1) (a := a) (b := (n + 0)) fc_9_9 rfl rfl (LX_this han) (Nat.le_of_ble_eq_true rfl) (fun C T h => by rw [cf_own cf_9 h]; rfl) dX9_init_10 ?_
  rw [LX_put han]
  have q2 := gd_ref (a := a) (k := 0) (b := (n + 0)) q1 (LX_this han) (Nat.le_of_ble_eq_true rfl) (by rw [LX_len, hn]; show _ < n + 1; omega)
  rw [LX_put han] at q2
  refine r_aload_n (pc := 13) (i := 0) dX9_init_13 rfl 0 rfl ?_
  refine r_iconst (pc := 14) (v := (-1)) dX9_init_14 (by decide +kernel) ?_
  refine r_putI (pc := 15) (a := a) fc_9_15 rfl ⟨_, LX_this han⟩ rfl rfl rfl dX9_init_15 ?_
  have q3 := gd_mU (a := a) (k := 3) (x := (-1)) q2 (by rw [LX_len, hn]; omega)
  refine r_aload_n (pc := 18) (i := 0) dX9_init_18 rfl 0 rfl ?_
  refine r_iconst (pc := 19) (v := 5) dX9_init_19 (by decide +kernel) ?_
  refine r_newA1 (pc := 20) (γ := g1) (lvf := fun g => [(0, .ref (g a))]) (stf := fun g => [.ref (g a)]) (n := n + 1) (N := 5) (tb_i 277 (by decide +kernel) (by decide +kernel)) wc_5 rfl (by decide) (by rw [LX_len, hn]; rfl) q3.1 (fun z => q3.2 _ (by rw [LX_len, hn]; exact Nat.le_refl _) z) (fun g h => ⟨by rw [h a (by omega)], by rw [h a (by omega)]⟩) ⟨by decide, by decide⟩ dX9_init_20 (fun g2 h2 => ?_)
  rw [LX_push]
  have q4 := gd_nil (q := 1) (n := 5) q3
  rw [LX_push] at q4
  have k2 : ∀ z, z < n → g2 z = gA G z := fun z hz => (h2 z (by omega)).trans (k1 z hz)
  refine r_putRF (pc := 22) (γ := g2) (a := a) (b := (n + 1)) fc_9_19 rfl rfl (LX_this han) (Nat.le_of_ble_eq_true rfl) (fun C T h => by rw [cf_own cf_9 h]; rfl) dX9_init_22 ?_
  rw [LX_put han]
  have q5 := gd_ref (a := a) (k := 4) (b := (n + 1)) q4 (LX_this han) (Nat.le_of_ble_eq_true rfl) (by rw [LX_len, hn]; show _ < n + 2; omega)
  rw [LX_put han] at q5
  refine r_aload_n (pc := 25) (i := 0) dX9_init_25 rfl 0 rfl ?_
  refine r_iconst (pc := 26) (v := 2) dX9_init_26 (by decide +kernel) ?_
  refine r_newQ7 (pc := 27) (γ := g2) (lvf := fun g => [(0, .ref (g a))]) (stf := fun g => [.ref (g a)]) (n := n + 2) (N := 2) (tb_i 172 (by decide +kernel) (by decide +kernel)) rfl wc_2 rfl (by decide) (by rw [LX_len, hn]; rfl) q5.1 (fun g h => ⟨by rw [h a (by omega)], by rw [h a (by omega)]⟩) ⟨by decide, by decide⟩ dX9_init_27 (fun g3 h3 => ?_)
  rw [LX_push]
  have q6 := gd_push (q := 7) (n := 2) (m := 2) q5
  rw [LX_push] at q6
  have k3 : ∀ z, z < n → g3 z = gA G z := fun z hz => (h3 z (by omega)).trans (k2 z hz)
  refine r_putRF (pc := 30) (γ := g3) (a := a) (b := (n + 2)) fc_9_25 rfl rfl (LX_this han) (Nat.le_of_ble_eq_true rfl) (fun C T h => by rw [cf_own cf_9 h]; rfl) dX9_init_30 ?_
  rw [LX_put han]
  have q7 := gd_ref (a := a) (k := 5) (b := (n + 2)) q6 (LX_this han) (Nat.le_of_ble_eq_true rfl) (by rw [LX_len, hn]; show _ < n + 3; omega)
  rw [LX_put han] at q7
  refine r_aload_n (pc := 33) (i := 0) dX9_init_33 rfl 0 rfl ?_
  refine r_iconst (pc := 34) (v := 2) dX9_init_34 (by decide +kernel) ?_
  refine r_newQ6 (pc := 35) (γ := g3) (lvf := fun g => [(0, .ref (g a))]) (stf := fun g => [.ref (g a)]) (n := n + 3) (N := 2) (tb_i 174 (by decide +kernel) (by decide +kernel)) rfl wc_2 rfl (by decide) (by rw [LX_len, hn]; rfl) q7.1 (fun g h => ⟨by rw [h a (by omega)], by rw [h a (by omega)]⟩) ⟨by decide, by decide⟩ dX9_init_35 (fun g4 h4 => ?_)
  rw [LX_push]
  have q8 := gd_push (q := 6) (n := 2) (m := 2) q7
  rw [LX_push] at q8
  have k4 : ∀ z, z < n → g4 z = gA G z := fun z hz => (h4 z (by omega)).trans (k3 z hz)
  refine r_putRF (pc := 38) (γ := g4) (a := a) (b := (n + 3)) fc_9_31 rfl rfl (LX_this han) (Nat.le_of_ble_eq_true rfl) (fun C T h => by rw [cf_own cf_9 h]; rfl) dX9_init_38 ?_
  rw [LX_put han]
  have q9 := gd_ref (a := a) (k := 6) (b := (n + 3)) q8 (LX_this han) (Nat.le_of_ble_eq_true rfl) (by rw [LX_len, hn]; show _ < n + 4; omega)
  rw [LX_put han] at q9
  refine r_aload_n (pc := 41) (i := 0) dX9_init_41 rfl 0 rfl ?_
  refine r_iconst (pc := 42) (v := 2) dX9_init_42 (by decide +kernel) ?_
  refine r_newQ5 (pc := 43) (γ := g4) (lvf := fun g => [(0, .ref (g a))]) (stf := fun g => [.ref (g a)]) (n := n + 4) (N := 2) (tb_i 176 (by decide +kernel) (by decide +kernel)) rfl wc_2 rfl (by decide) (by rw [LX_len, hn]; rfl) q9.1 (fun g h => ⟨by rw [h a (by omega)], by rw [h a (by omega)]⟩) ⟨by decide, by decide⟩ dX9_init_43 (fun g5 h5 => ?_)
  rw [LX_push]
  have q10 := gd_push (q := 5) (n := 2) (m := 2) q9
  rw [LX_push] at q10
  have k5 : ∀ z, z < n → g5 z = gA G z := fun z hz => (h5 z (by omega)).trans (k4 z hz)
  refine r_putRF (pc := 46) (γ := g5) (a := a) (b := (n + 4)) fc_9_37 rfl rfl (LX_this han) (Nat.le_of_ble_eq_true rfl) (fun C T h => by rw [cf_own cf_9 h]; rfl) dX9_init_46 ?_
  rw [LX_put han]
  have q11 := gd_ref (a := a) (k := 7) (b := (n + 4)) q10 (LX_this han) (Nat.le_of_ble_eq_true rfl) (by rw [LX_len, hn]; show _ < n + 5; omega)
  rw [LX_put han] at q11
  refine r_aload_n (pc := 49) (i := 0) dX9_init_49 rfl 0 rfl ?_
  refine r_iconst (pc := 50) (v := 2) dX9_init_50 (by decide +kernel) ?_
  refine r_newQ6 (pc := 51) (γ := g5) (lvf := fun g => [(0, .ref (g a))]) (stf := fun g => [.ref (g a)]) (n := n + 5) (N := 2) (tb_i 174 (by decide +kernel) (by decide +kernel)) rfl wc_2 rfl (by decide) (by rw [LX_len, hn]; rfl) q11.1 (fun g h => ⟨by rw [h a (by omega)], by rw [h a (by omega)]⟩) ⟨by decide, by decide⟩ dX9_init_51 (fun g6 h6 => ?_)
  rw [LX_push]
  have q12 := gd_push (q := 6) (n := 2) (m := 2) q11
  rw [LX_push] at q12
  have k6 : ∀ z, z < n → g6 z = gA G z := fun z hz => (h6 z (by omega)).trans (k5 z hz)
  refine r_putRF (pc := 54) (γ := g6) (a := a) (b := (n + 5)) fc_9_41 rfl rfl (LX_this han) (Nat.le_of_ble_eq_true rfl) (fun C T h => by rw [cf_own cf_9 h]; rfl) dX9_init_54 ?_
  rw [LX_put han]
  have q13 := gd_ref (a := a) (k := 8) (b := (n + 5)) q12 (LX_this han) (Nat.le_of_ble_eq_true rfl) (by rw [LX_len, hn]; show _ < n + 6; omega)
  rw [LX_put han] at q13
  refine r_aload_n (pc := 57) (i := 0) dX9_init_57 rfl 0 rfl ?_
  refine r_iconst (pc := 58) (v := 2) dX9_init_58 (by decide +kernel) ?_
  refine r_newQ8 (pc := 59) (γ := g6) (lvf := fun g => [(0, .ref (g a))]) (stf := fun g => [.ref (g a)]) (n := n + 6) (N := 2) (tb_i 178 (by decide +kernel) (by decide +kernel)) rfl wc_2 rfl (by decide) (by rw [LX_len, hn]; rfl) q13.1 (fun g h => ⟨by rw [h a (by omega)], by rw [h a (by omega)]⟩) ⟨by decide, by decide⟩ dX9_init_59 (fun g7 h7 => ?_)
  rw [LX_push]
  have q14 := gd_push (q := 8) (n := 2) (m := 2) q13
  rw [LX_push] at q14
  have k7 : ∀ z, z < n → g7 z = gA G z := fun z hz => (h7 z (by omega)).trans (k6 z hz)
  refine r_putRF (pc := 62) (γ := g7) (a := a) (b := (n + 6)) fc_9_46 rfl rfl (LX_this han) (Nat.le_of_ble_eq_true rfl) (fun C T h => by rw [cf_own cf_9 h]; rfl) dX9_init_62 ?_
  rw [LX_put han]
  have q15 := gd_ref (a := a) (k := 9) (b := (n + 6)) q14 (LX_this han) (Nat.le_of_ble_eq_true rfl) (by rw [LX_len, hn]; show _ < n + 7; omega)
  rw [LX_put han] at q15
  refine r_iconst (pc := 65) (v := 0) dX9_init_65 (by decide +kernel) ?_
  refine r_istore_n (pc := 66) (i := 1) (lv' := [(1, .int (eI 0)), (0, .ref (g7 a))]) dX9_init_66 rfl (Nat.le_of_ble_eq_true rfl) rfl ?_
  refine r_iload_n (pc := 67) (i := 1) dX9_init_67 rfl 0 rfl ?_
  refine r_iconst (pc := 68) (v := 2) dX9_init_68 (by decide +kernel) ?_
  refine r_icmp_ge (pc := 69) (tgt := 147) dX9_init_69 (by decide) wc_0 wc_2 (fun c => absurd c (by decide)) (fun _ => ?_)
  refine r_aload_n (pc := 72) (i := 0) dX9_init_72 rfl 1 rfl ?_
  refine r_getR (pc := 73) (a := a) (b := (n + 2)) fc_9_25 rfl ⟨_, LX_this han⟩ ⟨_, LX_this han, rfl⟩ dX9_init_73 ?_
  refine r_iload_n (pc := 76) (i := 1) dX9_init_76 rfl 0 rfl ?_
  refine r_newO (pc := 77) (γ := g7) (lvf := fun g => [(1, .int (eI 0)), (0, .ref (g a))]) (stf := fun g => [.int (eI 0), .ref (g (n + 2))]) (n := n + 7) cf_5 (tb_i 172 (by decide +kernel) (by decide +kernel)) (tb_i 180 (by decide +kernel) (by decide +kernel)) (tb_i 141 (by decide +kernel) (by decide +kernel)) (by rw [LX_len, hn]; rfl) q15.1 (fun z => q15.2 _ (by rw [LX_len, hn]; exact Nat.le_refl _) z) (nf_all 5 (by decide)) (fun g h => ⟨by rw [h a (by omega)], by rw [h (n + 2) (by omega)]⟩) ⟨by decide, by decide⟩ dX9_init_77 (fun g8 h8 => ?_)
  rw [LX_push]
  have q16 := gd_push (q := 0) (n := 5) (m := clN 5) q15
  rw [LX_push] at q16
  have k8 : ∀ z, z < n → g8 z = gA G z := fun z hz => (h8 z (by omega)).trans (k7 z hz)
  refine r_dup (pc := 80) dX9_init_80 rfl ?_
  refine r_callI (pc := 81) (γ := g8) (lvf := fun g => [(1, .int (eI 0)), (0, .ref (g a))]) (stf := fun g => [.ref (g (n + 7)), .int (eI 0), .ref (g (n + 2))]) (b := n + 7) (As := []) (fun _ _ _ _ _ _ _ _ _ h => h) ci_X9_init_50 (kX5_init (G := gS G g8) (a := n + 7) (n := n + 8) (by rw [LX_len, hn]; rfl) (LX_at hn rfl) q16) (fun g h => ⟨by rw [h a (by rw [LX_len, hn]; show _ < n + 8; omega)], by rw [h (n + 2) (by rw [LX_len, hn]; show _ < n + 8; omega), h (n + 7) (by rw [LX_len, hn]; show _ < n + 8; omega)]⟩) rfl (Nat.le_of_ble_eq_true rfl) ⟨by decide, by decide⟩ dX9_init_81 (fun g9 h9 => ?_)
  rw [LX_LX hn]
  have q17 := oX5_init (a := n + 7) (n := n + 8) (by rw [LX_len, hn]; rfl) (LX_at hn rfl) q16
  rw [LX_LX hn] at q17
  have k9 : ∀ z, z < n → g9 z = gA G z := fun z hz => (h9 z (by rw [LX_len, hn]; show z < n + 8; omega)).trans (k8 z hz)
  refine r_aast7 (pc := 84) (γ := g9) (a := n + 2) (b := n + 7) (LX_at hn rfl) (LX_at hn rfl) wc_0 ⟨by decide, by decide⟩ rfl (Nat.le_of_ble_eq_true rfl) dX9_init_84 ?_
  rw [LX_set hn]
  have q18 := gd_ref (a := n + 2) (k := 0) (b := n + 7) q17 (LX_at hn rfl) (Nat.le_of_ble_eq_true rfl) (by rw [LX_len, hn]; show _ < n + 18; omega)
  rw [LX_set hn] at q18
  refine r_aload_n (pc := 85) (i := 0) dX9_init_85 rfl 1 rfl ?_
  refine r_getR (pc := 86) (a := a) (b := (n + 3)) fc_9_31 rfl ⟨_, LX_this han⟩ ⟨_, LX_this han, rfl⟩ dX9_init_86 ?_
  refine r_iload_n (pc := 89) (i := 1) dX9_init_89 rfl 0 rfl ?_
  refine r_newO (pc := 90) (γ := g9) (lvf := fun g => [(1, .int (eI 0)), (0, .ref (g a))]) (stf := fun g => [.int (eI 0), .ref (g (n + 3))]) (n := n + 18) cf_3 (tb_i 174 (by decide +kernel) (by decide +kernel)) (tb_i 278 (by decide +kernel) (by decide +kernel)) (tb_i 142 (by decide +kernel) (by decide +kernel)) (by rw [LX_len, hn]; rfl) q18.1 (fun z => q18.2 _ (by rw [LX_len, hn]; exact Nat.le_refl _) z) (nf_all 3 (by decide)) (fun g h => ⟨by rw [h a (by omega)], by rw [h (n + 3) (by omega)]⟩) ⟨by decide, by decide⟩ dX9_init_90 (fun g10 h10 => ?_)
  rw [LX_push]
  have q19 := gd_push (q := 0) (n := 3) (m := clN 3) q18
  rw [LX_push] at q19
  have k10 : ∀ z, z < n → g10 z = gA G z := fun z hz => (h10 z (by omega)).trans (k9 z hz)
  refine r_dup (pc := 93) dX9_init_93 rfl ?_
  refine r_bipush (pc := 94) (v := 40) dX9_init_94 (by decide +kernel) ?_
  refine r_callI (pc := 96) (γ := g10) (lvf := fun g => [(1, .int (eI 0)), (0, .ref (g a))]) (stf := fun g => [.ref (g (n + 18)), .int (eI 0), .ref (g (n + 3))]) (b := n + 18) (As := [.int (eI 40)]) (fun _ _ _ _ _ _ _ _ _ h => h) ci_X9_init_51 (kX3_init (G := gS G g10) (a := n + 18) (n := n + 19) (k := 40) (by decide) (by rw [LX_len, hn]; rfl) (LX_at hn rfl) q19) (fun g h => ⟨by rw [h a (by rw [LX_len, hn]; show _ < n + 19; omega)], by rw [h (n + 3) (by rw [LX_len, hn]; show _ < n + 19; omega), h (n + 18) (by rw [LX_len, hn]; show _ < n + 19; omega)]⟩) rfl (Nat.le_of_ble_eq_true rfl) ⟨by decide, by decide⟩ dX9_init_96 (fun g11 h11 => ?_)
  rw [LX_LX hn]
  have q20 := oX3_init (a := n + 18) (n := n + 19) (k := 40) (by decide) (by rw [LX_len, hn]; rfl) (LX_at hn rfl) q19
  rw [LX_LX hn] at q20
  have k11 : ∀ z, z < n → g11 z = gA G z := fun z hz => (h11 z (by rw [LX_len, hn]; show z < n + 19; omega)).trans (k10 z hz)
  refine r_aast6 (pc := 99) (γ := g11) (a := n + 3) (b := n + 18) (LX_at hn rfl) (LX_at hn rfl) wc_0 ⟨by decide, by decide⟩ rfl (Nat.le_of_ble_eq_true rfl) dX9_init_99 ?_
  rw [LX_set hn]
  have q21 := gd_ref (a := n + 3) (k := 0) (b := n + 18) q20 (LX_at hn rfl) (Nat.le_of_ble_eq_true rfl) (by rw [LX_len, hn]; show _ < n + 22; omega)
  rw [LX_set hn] at q21
  refine r_aload_n (pc := 100) (i := 0) dX9_init_100 rfl 1 rfl ?_
  refine r_getR (pc := 101) (a := a) (b := (n + 4)) fc_9_37 rfl ⟨_, LX_this han⟩ ⟨_, LX_this han, rfl⟩ dX9_init_101 ?_
  refine r_iload_n (pc := 104) (i := 1) dX9_init_104 rfl 0 rfl ?_
  refine r_newO (pc := 105) (γ := g11) (lvf := fun g => [(1, .int (eI 0)), (0, .ref (g a))]) (stf := fun g => [.int (eI 0), .ref (g (n + 4))]) (n := n + 22) cf_1 (tb_i 176 (by decide +kernel) (by decide +kernel)) (tb_i 321 (by decide +kernel) (by decide +kernel)) (tb_i 144 (by decide +kernel) (by decide +kernel)) (by rw [LX_len, hn]; rfl) q21.1 (fun z => q21.2 _ (by rw [LX_len, hn]; exact Nat.le_refl _) z) (nf_all 1 (by decide)) (fun g h => ⟨by rw [h a (by omega)], by rw [h (n + 4) (by omega)]⟩) ⟨by decide, by decide⟩ dX9_init_105 (fun g12 h12 => ?_)
  rw [LX_push]
  have q22 := gd_push (q := 0) (n := 1) (m := clN 1) q21
  rw [LX_push] at q22
  have k12 : ∀ z, z < n → g12 z = gA G z := fun z hz => (h12 z (by omega)).trans (k11 z hz)
  refine r_dup (pc := 108) dX9_init_108 rfl ?_
  refine r_callI (pc := 109) (γ := g12) (lvf := fun g => [(1, .int (eI 0)), (0, .ref (g a))]) (stf := fun g => [.ref (g (n + 22)), .int (eI 0), .ref (g (n + 4))]) (b := n + 22) (As := []) (fun _ _ _ _ _ _ _ _ _ h => h) ci_X9_init_54 (kX1_init (G := gS G g12) (a := n + 22) (n := n + 23) (by rw [LX_len, hn]; rfl) (LX_at hn rfl) q22) (fun g h => ⟨by rw [h a (by rw [LX_len, hn]; show _ < n + 23; omega)], by rw [h (n + 4) (by rw [LX_len, hn]; show _ < n + 23; omega), h (n + 22) (by rw [LX_len, hn]; show _ < n + 23; omega)]⟩) rfl (Nat.le_of_ble_eq_true rfl) ⟨by decide, by decide⟩ dX9_init_109 (fun g13 h13 => ?_)
  rw [LX_LX hn]
  have q23 := oX1_init (a := n + 22) (n := n + 23) (by rw [LX_len, hn]; rfl) (LX_at hn rfl) q22
  rw [LX_LX hn] at q23
  have k13 : ∀ z, z < n → g13 z = gA G z := fun z hz => (h13 z (by rw [LX_len, hn]; show z < n + 23; omega)).trans (k12 z hz)
  refine r_aast5 (pc := 112) (γ := g13) (a := n + 4) (b := n + 22) (LX_at hn rfl) (LX_at hn rfl) wc_0 ⟨by decide, by decide⟩ rfl (Nat.le_of_ble_eq_true rfl) dX9_init_112 ?_
  rw [LX_set hn]
  have q24 := gd_ref (a := n + 4) (k := 0) (b := n + 22) q23 (LX_at hn rfl) (Nat.le_of_ble_eq_true rfl) (by rw [LX_len, hn]; show _ < n + 28; omega)
  rw [LX_set hn] at q24
  refine r_aload_n (pc := 113) (i := 0) dX9_init_113 rfl 1 rfl ?_
  refine r_getR (pc := 114) (a := a) (b := (n + 5)) fc_9_41 rfl ⟨_, LX_this han⟩ ⟨_, LX_this han, rfl⟩ dX9_init_114 ?_
  refine r_iload_n (pc := 117) (i := 1) dX9_init_117 rfl 0 rfl ?_
  refine r_newO (pc := 118) (γ := g13) (lvf := fun g => [(1, .int (eI 0)), (0, .ref (g a))]) (stf := fun g => [.int (eI 0), .ref (g (n + 5))]) (n := n + 28) cf_3 (tb_i 174 (by decide +kernel) (by decide +kernel)) (tb_i 278 (by decide +kernel) (by decide +kernel)) (tb_i 142 (by decide +kernel) (by decide +kernel)) (by rw [LX_len, hn]; rfl) q24.1 (fun z => q24.2 _ (by rw [LX_len, hn]; exact Nat.le_refl _) z) (nf_all 3 (by decide)) (fun g h => ⟨by rw [h a (by omega)], by rw [h (n + 5) (by omega)]⟩) ⟨by decide, by decide⟩ dX9_init_118 (fun g14 h14 => ?_)
  rw [LX_push]
  have q25 := gd_push (q := 0) (n := 3) (m := clN 3) q24
  rw [LX_push] at q25
  have k14 : ∀ z, z < n → g14 z = gA G z := fun z hz => (h14 z (by omega)).trans (k13 z hz)
  refine r_dup (pc := 121) dX9_init_121 rfl ?_
  refine r_bipush (pc := 122) (v := 25) dX9_init_122 (by decide +kernel) ?_
  refine r_callI (pc := 124) (γ := g14) (lvf := fun g => [(1, .int (eI 0)), (0, .ref (g a))]) (stf := fun g => [.ref (g (n + 28)), .int (eI 0), .ref (g (n + 5))]) (b := n + 28) (As := [.int (eI 25)]) (fun _ _ _ _ _ _ _ _ _ h => h) ci_X9_init_51 (kX3_init (G := gS G g14) (a := n + 28) (n := n + 29) (k := 25) (by decide) (by rw [LX_len, hn]; rfl) (LX_at hn rfl) q25) (fun g h => ⟨by rw [h a (by rw [LX_len, hn]; show _ < n + 29; omega)], by rw [h (n + 5) (by rw [LX_len, hn]; show _ < n + 29; omega), h (n + 28) (by rw [LX_len, hn]; show _ < n + 29; omega)]⟩) rfl (Nat.le_of_ble_eq_true rfl) ⟨by decide, by decide⟩ dX9_init_124 (fun g15 h15 => ?_)
  rw [LX_LX hn]
  have q26 := oX3_init (a := n + 28) (n := n + 29) (k := 25) (by decide) (by rw [LX_len, hn]; rfl) (LX_at hn rfl) q25
  rw [LX_LX hn] at q26
  have k15 : ∀ z, z < n → g15 z = gA G z := fun z hz => (h15 z (by rw [LX_len, hn]; show z < n + 29; omega)).trans (k14 z hz)
  refine r_aast6 (pc := 127) (γ := g15) (a := n + 5) (b := n + 28) (LX_at hn rfl) (LX_at hn rfl) wc_0 ⟨by decide, by decide⟩ rfl (Nat.le_of_ble_eq_true rfl) dX9_init_127 ?_
  rw [LX_set hn]
  have q27 := gd_ref (a := n + 5) (k := 0) (b := n + 28) q26 (LX_at hn rfl) (Nat.le_of_ble_eq_true rfl) (by rw [LX_len, hn]; show _ < n + 32; omega)
  rw [LX_set hn] at q27
  refine r_aload_n (pc := 128) (i := 0) dX9_init_128 rfl 1 rfl ?_
  refine r_getR (pc := 129) (a := a) (b := (n + 6)) fc_9_46 rfl ⟨_, LX_this han⟩ ⟨_, LX_this han, rfl⟩ dX9_init_129 ?_
  refine r_iload_n (pc := 132) (i := 1) dX9_init_132 rfl 0 rfl ?_
  refine r_newO (pc := 133) (γ := g15) (lvf := fun g => [(1, .int (eI 0)), (0, .ref (g a))]) (stf := fun g => [.int (eI 0), .ref (g (n + 6))]) (n := n + 32) cf_8 (tb_i 178 (by decide +kernel) (by decide +kernel)) (tb_i 341 (by decide +kernel) (by decide +kernel)) (tb_i 145 (by decide +kernel) (by decide +kernel)) (by rw [LX_len, hn]; rfl) q27.1 (fun z => q27.2 _ (by rw [LX_len, hn]; exact Nat.le_refl _) z) (nf_all 8 (by decide)) (fun g h => ⟨by rw [h a (by omega)], by rw [h (n + 6) (by omega)]⟩) ⟨by decide, by decide⟩ dX9_init_133 (fun g16 h16 => ?_)
  rw [LX_push]
  have q28 := gd_push (q := 0) (n := 8) (m := clN 8) q27
  rw [LX_push] at q28
  have k16 : ∀ z, z < n → g16 z = gA G z := fun z hz => (h16 z (by omega)).trans (k15 z hz)
  refine r_dup (pc := 136) dX9_init_136 rfl ?_
  refine r_callI (pc := 137) (γ := g16) (lvf := fun g => [(1, .int (eI 0)), (0, .ref (g a))]) (stf := fun g => [.ref (g (n + 32)), .int (eI 0), .ref (g (n + 6))]) (b := n + 32) (As := []) (fun _ _ _ _ _ _ _ _ _ h => h) ci_X9_init_55 (kX8_init (G := gS G g16) (a := n + 32) (n := n + 33) (by rw [LX_len, hn]; rfl) (LX_at hn rfl) q28) (fun g h => ⟨by rw [h a (by rw [LX_len, hn]; show _ < n + 33; omega)], by rw [h (n + 6) (by rw [LX_len, hn]; show _ < n + 33; omega), h (n + 32) (by rw [LX_len, hn]; show _ < n + 33; omega)]⟩) rfl (Nat.le_of_ble_eq_true rfl) ⟨by decide, by decide⟩ dX9_init_137 (fun g17 h17 => ?_)
  rw [LX_LX hn]
  have q29 := oX8_init (a := n + 32) (n := n + 33) (by rw [LX_len, hn]; rfl) (LX_at hn rfl) q28
  rw [LX_LX hn] at q29
  have k17 : ∀ z, z < n → g17 z = gA G z := fun z hz => (h17 z (by rw [LX_len, hn]; show z < n + 33; omega)).trans (k16 z hz)
  refine r_aast8 (pc := 140) (γ := g17) (a := n + 6) (b := n + 32) (LX_at hn rfl) (LX_at hn rfl) wc_0 ⟨by decide, by decide⟩ rfl (Nat.le_of_ble_eq_true rfl) dX9_init_140 ?_
  rw [LX_set hn]
  have q30 := gd_ref (a := n + 6) (k := 0) (b := n + 32) q29 (LX_at hn rfl) (Nat.le_of_ble_eq_true rfl) (by rw [LX_len, hn]; show _ < n + 41; omega)
  rw [LX_set hn] at q30
  refine r_iinc (pc := 141) (y := 1) (lv' := [(1, .int (eI 1)), (0, .ref (g17 a))]) dX9_init_141 0 rfl (by decide) (Nat.le_of_ble_eq_true rfl) rfl ?_
  refine r_goto (pc := 144) (tgt := 67) dX9_init_144 (by decide) ?_
  refine r_iload_n (pc := 67) (i := 1) dX9_init_67 rfl 0 rfl ?_
  refine r_iconst (pc := 68) (v := 2) dX9_init_68 (by decide +kernel) ?_
  refine r_icmp_ge (pc := 69) (tgt := 147) dX9_init_69 (by decide) wc_1 wc_2 (fun c => absurd c (by decide)) (fun _ => ?_)
  refine r_aload_n (pc := 72) (i := 0) dX9_init_72 rfl 1 rfl ?_
  refine r_getR (pc := 73) (a := a) (b := (n + 2)) fc_9_25 rfl ⟨_, LX_this han⟩ ⟨_, LX_this han, rfl⟩ dX9_init_73 ?_
  refine r_iload_n (pc := 76) (i := 1) dX9_init_76 rfl 0 rfl ?_
  refine r_newO (pc := 77) (γ := g17) (lvf := fun g => [(1, .int (eI 1)), (0, .ref (g a))]) (stf := fun g => [.int (eI 1), .ref (g (n + 2))]) (n := n + 41) cf_5 (tb_i 172 (by decide +kernel) (by decide +kernel)) (tb_i 180 (by decide +kernel) (by decide +kernel)) (tb_i 141 (by decide +kernel) (by decide +kernel)) (by rw [LX_len, hn]; rfl) q30.1 (fun z => q30.2 _ (by rw [LX_len, hn]; exact Nat.le_refl _) z) (nf_all 5 (by decide)) (fun g h => ⟨by rw [h a (by omega)], by rw [h (n + 2) (by omega)]⟩) ⟨by decide, by decide⟩ dX9_init_77 (fun g18 h18 => ?_)
  rw [LX_push]
  have q31 := gd_push (q := 0) (n := 5) (m := clN 5) q30
  rw [LX_push] at q31
  have k18 : ∀ z, z < n → g18 z = gA G z := fun z hz => (h18 z (by omega)).trans (k17 z hz)
  refine r_dup (pc := 80) dX9_init_80 rfl ?_
  refine r_callI (pc := 81) (γ := g18) (lvf := fun g => [(1, .int (eI 1)), (0, .ref (g a))]) (stf := fun g => [.ref (g (n + 41)), .int (eI 1), .ref (g (n + 2))]) (b := n + 41) (As := []) (fun _ _ _ _ _ _ _ _ _ h => h) ci_X9_init_50 (kX5_init (G := gS G g18) (a := n + 41) (n := n + 42) (by rw [LX_len, hn]; rfl) (LX_at hn rfl) q31) (fun g h => ⟨by rw [h a (by rw [LX_len, hn]; show _ < n + 42; omega)], by rw [h (n + 2) (by rw [LX_len, hn]; show _ < n + 42; omega), h (n + 41) (by rw [LX_len, hn]; show _ < n + 42; omega)]⟩) rfl (Nat.le_of_ble_eq_true rfl) ⟨by decide, by decide⟩ dX9_init_81 (fun g19 h19 => ?_)
  rw [LX_LX hn]
  have q32 := oX5_init (a := n + 41) (n := n + 42) (by rw [LX_len, hn]; rfl) (LX_at hn rfl) q31
  rw [LX_LX hn] at q32
  have k19 : ∀ z, z < n → g19 z = gA G z := fun z hz => (h19 z (by rw [LX_len, hn]; show z < n + 42; omega)).trans (k18 z hz)
  refine r_aast7 (pc := 84) (γ := g19) (a := n + 2) (b := n + 41) (LX_at hn rfl) (LX_at hn rfl) wc_1 ⟨by decide, by decide⟩ rfl (Nat.le_of_ble_eq_true rfl) dX9_init_84 ?_
  rw [LX_set hn]
  have q33 := gd_ref (a := n + 2) (k := 1) (b := n + 41) q32 (LX_at hn rfl) (Nat.le_of_ble_eq_true rfl) (by rw [LX_len, hn]; show _ < n + 52; omega)
  rw [LX_set hn] at q33
  refine r_aload_n (pc := 85) (i := 0) dX9_init_85 rfl 1 rfl ?_
  refine r_getR (pc := 86) (a := a) (b := (n + 3)) fc_9_31 rfl ⟨_, LX_this han⟩ ⟨_, LX_this han, rfl⟩ dX9_init_86 ?_
  refine r_iload_n (pc := 89) (i := 1) dX9_init_89 rfl 0 rfl ?_
  refine r_newO (pc := 90) (γ := g19) (lvf := fun g => [(1, .int (eI 1)), (0, .ref (g a))]) (stf := fun g => [.int (eI 1), .ref (g (n + 3))]) (n := n + 52) cf_3 (tb_i 174 (by decide +kernel) (by decide +kernel)) (tb_i 278 (by decide +kernel) (by decide +kernel)) (tb_i 142 (by decide +kernel) (by decide +kernel)) (by rw [LX_len, hn]; rfl) q33.1 (fun z => q33.2 _ (by rw [LX_len, hn]; exact Nat.le_refl _) z) (nf_all 3 (by decide)) (fun g h => ⟨by rw [h a (by omega)], by rw [h (n + 3) (by omega)]⟩) ⟨by decide, by decide⟩ dX9_init_90 (fun g20 h20 => ?_)
  rw [LX_push]
  have q34 := gd_push (q := 0) (n := 3) (m := clN 3) q33
  rw [LX_push] at q34
  have k20 : ∀ z, z < n → g20 z = gA G z := fun z hz => (h20 z (by omega)).trans (k19 z hz)
  refine r_dup (pc := 93) dX9_init_93 rfl ?_
  refine r_bipush (pc := 94) (v := 40) dX9_init_94 (by decide +kernel) ?_
  refine r_callI (pc := 96) (γ := g20) (lvf := fun g => [(1, .int (eI 1)), (0, .ref (g a))]) (stf := fun g => [.ref (g (n + 52)), .int (eI 1), .ref (g (n + 3))]) (b := n + 52) (As := [.int (eI 40)]) (fun _ _ _ _ _ _ _ _ _ h => h) ci_X9_init_51 (kX3_init (G := gS G g20) (a := n + 52) (n := n + 53) (k := 40) (by decide) (by rw [LX_len, hn]; rfl) (LX_at hn rfl) q34) (fun g h => ⟨by rw [h a (by rw [LX_len, hn]; show _ < n + 53; omega)], by rw [h (n + 3) (by rw [LX_len, hn]; show _ < n + 53; omega), h (n + 52) (by rw [LX_len, hn]; show _ < n + 53; omega)]⟩) rfl (Nat.le_of_ble_eq_true rfl) ⟨by decide, by decide⟩ dX9_init_96 (fun g21 h21 => ?_)
  rw [LX_LX hn]
  have q35 := oX3_init (a := n + 52) (n := n + 53) (k := 40) (by decide) (by rw [LX_len, hn]; rfl) (LX_at hn rfl) q34
  rw [LX_LX hn] at q35
  have k21 : ∀ z, z < n → g21 z = gA G z := fun z hz => (h21 z (by rw [LX_len, hn]; show z < n + 53; omega)).trans (k20 z hz)
  refine r_aast6 (pc := 99) (γ := g21) (a := n + 3) (b := n + 52) (LX_at hn rfl) (LX_at hn rfl) wc_1 ⟨by decide, by decide⟩ rfl (Nat.le_of_ble_eq_true rfl) dX9_init_99 ?_
  rw [LX_set hn]
  have q36 := gd_ref (a := n + 3) (k := 1) (b := n + 52) q35 (LX_at hn rfl) (Nat.le_of_ble_eq_true rfl) (by rw [LX_len, hn]; show _ < n + 56; omega)
  rw [LX_set hn] at q36
  refine r_aload_n (pc := 100) (i := 0) dX9_init_100 rfl 1 rfl ?_
  refine r_getR (pc := 101) (a := a) (b := (n + 4)) fc_9_37 rfl ⟨_, LX_this han⟩ ⟨_, LX_this han, rfl⟩ dX9_init_101 ?_
  refine r_iload_n (pc := 104) (i := 1) dX9_init_104 rfl 0 rfl ?_
  refine r_newO (pc := 105) (γ := g21) (lvf := fun g => [(1, .int (eI 1)), (0, .ref (g a))]) (stf := fun g => [.int (eI 1), .ref (g (n + 4))]) (n := n + 56) cf_1 (tb_i 176 (by decide +kernel) (by decide +kernel)) (tb_i 321 (by decide +kernel) (by decide +kernel)) (tb_i 144 (by decide +kernel) (by decide +kernel)) (by rw [LX_len, hn]; rfl) q36.1 (fun z => q36.2 _ (by rw [LX_len, hn]; exact Nat.le_refl _) z) (nf_all 1 (by decide)) (fun g h => ⟨by rw [h a (by omega)], by rw [h (n + 4) (by omega)]⟩) ⟨by decide, by decide⟩ dX9_init_105 (fun g22 h22 => ?_)
  rw [LX_push]
  have q37 := gd_push (q := 0) (n := 1) (m := clN 1) q36
  rw [LX_push] at q37
  have k22 : ∀ z, z < n → g22 z = gA G z := fun z hz => (h22 z (by omega)).trans (k21 z hz)
  refine r_dup (pc := 108) dX9_init_108 rfl ?_
  refine r_callI (pc := 109) (γ := g22) (lvf := fun g => [(1, .int (eI 1)), (0, .ref (g a))]) (stf := fun g => [.ref (g (n + 56)), .int (eI 1), .ref (g (n + 4))]) (b := n + 56) (As := []) (fun _ _ _ _ _ _ _ _ _ h => h) ci_X9_init_54 (kX1_init (G := gS G g22) (a := n + 56) (n := n + 57) (by rw [LX_len, hn]; rfl) (LX_at hn rfl) q37) (fun g h => ⟨by rw [h a (by rw [LX_len, hn]; show _ < n + 57; omega)], by rw [h (n + 4) (by rw [LX_len, hn]; show _ < n + 57; omega), h (n + 56) (by rw [LX_len, hn]; show _ < n + 57; omega)]⟩) rfl (Nat.le_of_ble_eq_true rfl) ⟨by decide, by decide⟩ dX9_init_109 (fun g23 h23 => ?_)
  rw [LX_LX hn]
  have q38 := oX1_init (a := n + 56) (n := n + 57) (by rw [LX_len, hn]; rfl) (LX_at hn rfl) q37
  rw [LX_LX hn] at q38
  have k23 : ∀ z, z < n → g23 z = gA G z := fun z hz => (h23 z (by rw [LX_len, hn]; show z < n + 57; omega)).trans (k22 z hz)
  refine r_aast5 (pc := 112) (γ := g23) (a := n + 4) (b := n + 56) (LX_at hn rfl) (LX_at hn rfl) wc_1 ⟨by decide, by decide⟩ rfl (Nat.le_of_ble_eq_true rfl) dX9_init_112 ?_
  rw [LX_set hn]
  have q39 := gd_ref (a := n + 4) (k := 1) (b := n + 56) q38 (LX_at hn rfl) (Nat.le_of_ble_eq_true rfl) (by rw [LX_len, hn]; show _ < n + 62; omega)
  rw [LX_set hn] at q39
  refine r_aload_n (pc := 113) (i := 0) dX9_init_113 rfl 1 rfl ?_
  refine r_getR (pc := 114) (a := a) (b := (n + 5)) fc_9_41 rfl ⟨_, LX_this han⟩ ⟨_, LX_this han, rfl⟩ dX9_init_114 ?_
  refine r_iload_n (pc := 117) (i := 1) dX9_init_117 rfl 0 rfl ?_
  refine r_newO (pc := 118) (γ := g23) (lvf := fun g => [(1, .int (eI 1)), (0, .ref (g a))]) (stf := fun g => [.int (eI 1), .ref (g (n + 5))]) (n := n + 62) cf_3 (tb_i 174 (by decide +kernel) (by decide +kernel)) (tb_i 278 (by decide +kernel) (by decide +kernel)) (tb_i 142 (by decide +kernel) (by decide +kernel)) (by rw [LX_len, hn]; rfl) q39.1 (fun z => q39.2 _ (by rw [LX_len, hn]; exact Nat.le_refl _) z) (nf_all 3 (by decide)) (fun g h => ⟨by rw [h a (by omega)], by rw [h (n + 5) (by omega)]⟩) ⟨by decide, by decide⟩ dX9_init_118 (fun g24 h24 => ?_)
  rw [LX_push]
  have q40 := gd_push (q := 0) (n := 3) (m := clN 3) q39
  rw [LX_push] at q40
  have k24 : ∀ z, z < n → g24 z = gA G z := fun z hz => (h24 z (by omega)).trans (k23 z hz)
  refine r_dup (pc := 121) dX9_init_121 rfl ?_
  refine r_bipush (pc := 122) (v := 25) dX9_init_122 (by decide +kernel) ?_
  refine r_callI (pc := 124) (γ := g24) (lvf := fun g => [(1, .int (eI 1)), (0, .ref (g a))]) (stf := fun g => [.ref (g (n + 62)), .int (eI 1), .ref (g (n + 5))]) (b := n + 62) (As := [.int (eI 25)]) (fun _ _ _ _ _ _ _ _ _ h => h) ci_X9_init_51 (kX3_init (G := gS G g24) (a := n + 62) (n := n + 63) (k := 25) (by decide) (by rw [LX_len, hn]; rfl) (LX_at hn rfl) q40) (fun g h => ⟨by rw [h a (by rw [LX_len, hn]; show _ < n + 63; omega)], by rw [h (n + 5) (by rw [LX_len, hn]; show _ < n + 63; omega), h (n + 62) (by rw [LX_len, hn]; show _ < n + 63; omega)]⟩) rfl (Nat.le_of_ble_eq_true rfl) ⟨by decide, by decide⟩ dX9_init_124 (fun g25 h25 => ?_)
  rw [LX_LX hn]
  have q41 := oX3_init (a := n + 62) (n := n + 63) (k := 25) (by decide) (by rw [LX_len, hn]; rfl) (LX_at hn rfl) q40
  rw [LX_LX hn] at q41
  have k25 : ∀ z, z < n → g25 z = gA G z := fun z hz => (h25 z (by rw [LX_len, hn]; show z < n + 63; omega)).trans (k24 z hz)
  refine r_aast6 (pc := 127) (γ := g25) (a := n + 5) (b := n + 62) (LX_at hn rfl) (LX_at hn rfl) wc_1 ⟨by decide, by decide⟩ rfl (Nat.le_of_ble_eq_true rfl) dX9_init_127 ?_
  rw [LX_set hn]
  have q42 := gd_ref (a := n + 5) (k := 1) (b := n + 62) q41 (LX_at hn rfl) (Nat.le_of_ble_eq_true rfl) (by rw [LX_len, hn]; show _ < n + 66; omega)
  rw [LX_set hn] at q42
  refine r_aload_n (pc := 128) (i := 0) dX9_init_128 rfl 1 rfl ?_
  refine r_getR (pc := 129) (a := a) (b := (n + 6)) fc_9_46 rfl ⟨_, LX_this han⟩ ⟨_, LX_this han, rfl⟩ dX9_init_129 ?_
  refine r_iload_n (pc := 132) (i := 1) dX9_init_132 rfl 0 rfl ?_
  refine r_newO (pc := 133) (γ := g25) (lvf := fun g => [(1, .int (eI 1)), (0, .ref (g a))]) (stf := fun g => [.int (eI 1), .ref (g (n + 6))]) (n := n + 66) cf_8 (tb_i 178 (by decide +kernel) (by decide +kernel)) (tb_i 341 (by decide +kernel) (by decide +kernel)) (tb_i 145 (by decide +kernel) (by decide +kernel)) (by rw [LX_len, hn]; rfl) q42.1 (fun z => q42.2 _ (by rw [LX_len, hn]; exact Nat.le_refl _) z) (nf_all 8 (by decide)) (fun g h => ⟨by rw [h a (by omega)], by rw [h (n + 6) (by omega)]⟩) ⟨by decide, by decide⟩ dX9_init_133 (fun g26 h26 => ?_)
  rw [LX_push]
  have q43 := gd_push (q := 0) (n := 8) (m := clN 8) q42
  rw [LX_push] at q43
  have k26 : ∀ z, z < n → g26 z = gA G z := fun z hz => (h26 z (by omega)).trans (k25 z hz)
  refine r_dup (pc := 136) dX9_init_136 rfl ?_
  refine r_callI (pc := 137) (γ := g26) (lvf := fun g => [(1, .int (eI 1)), (0, .ref (g a))]) (stf := fun g => [.ref (g (n + 66)), .int (eI 1), .ref (g (n + 6))]) (b := n + 66) (As := []) (fun _ _ _ _ _ _ _ _ _ h => h) ci_X9_init_55 (kX8_init (G := gS G g26) (a := n + 66) (n := n + 67) (by rw [LX_len, hn]; rfl) (LX_at hn rfl) q43) (fun g h => ⟨by rw [h a (by rw [LX_len, hn]; show _ < n + 67; omega)], by rw [h (n + 6) (by rw [LX_len, hn]; show _ < n + 67; omega), h (n + 66) (by rw [LX_len, hn]; show _ < n + 67; omega)]⟩) rfl (Nat.le_of_ble_eq_true rfl) ⟨by decide, by decide⟩ dX9_init_137 (fun g27 h27 => ?_)
  rw [LX_LX hn]
  have q44 := oX8_init (a := n + 66) (n := n + 67) (by rw [LX_len, hn]; rfl) (LX_at hn rfl) q43
  rw [LX_LX hn] at q44
  have k27 : ∀ z, z < n → g27 z = gA G z := fun z hz => (h27 z (by rw [LX_len, hn]; show z < n + 67; omega)).trans (k26 z hz)
  refine r_aast8 (pc := 140) (γ := g27) (a := n + 6) (b := n + 66) (LX_at hn rfl) (LX_at hn rfl) wc_1 ⟨by decide, by decide⟩ rfl (Nat.le_of_ble_eq_true rfl) dX9_init_140 ?_
  rw [LX_set hn]
  have q45 := gd_ref (a := n + 6) (k := 1) (b := n + 66) q44 (LX_at hn rfl) (Nat.le_of_ble_eq_true rfl) (by rw [LX_len, hn]; show _ < n + 75; omega)
  rw [LX_set hn] at q45
  refine r_iinc (pc := 141) (y := 2) (lv' := [(1, .int (eI 2)), (0, .ref (g27 a))]) dX9_init_141 0 rfl (by decide) (Nat.le_of_ble_eq_true rfl) rfl ?_
  refine r_goto (pc := 144) (tgt := 67) dX9_init_144 (by decide) ?_
  refine r_iload_n (pc := 67) (i := 1) dX9_init_67 rfl 0 rfl ?_
  refine r_iconst (pc := 68) (v := 2) dX9_init_68 (by decide +kernel) ?_
  refine r_icmp_ge (pc := 69) (tgt := 147) dX9_init_69 (by decide) wc_2 wc_2 (fun _ => ?_) (fun c => absurd (by decide) c)
  exact r_vretI (pc := 147) (γ := g27) k27 rfl (by decide) (by decide) dX9_init_147
abbrev xX11_init : XX := (yX11_init, cX11_init, 2, none, 4, 85, 358, 10657)
theorem ci_X11_init_9 : CKI xX11_init 9 xX9_init 0 := ⟨tb_i 140 (by decide +kernel) (by decide +kernel), tb_i 170 (by decide +kernel) (by decide +kernel), ⟨by decide +kernel, by decide +kernel, by decide +kernel⟩, by decide, by decide, rfl, tb_i 169 (by decide +kernel) (by decide +kernel), rfl, Or.inl (tb_i 168 (by decide +kernel) (by decide +kernel))⟩
theorem fc_11_10 : FG RX11 10 11 0 (clT 11 0) true := ⟨RX11, TX11, cf_11, by decide, tb_i 583 (by decide +kernel) (by decide +kernel), rfl, rfl, rfl⟩
theorem fc_11_16 : FG RX11 16 11 1 (clT 11 1) true := ⟨RX11, TX11, cf_11, by decide, tb_i 584 (by decide +kernel) (by decide +kernel), rfl, rfl, rfl⟩
theorem fc_11_20 : FG RX11 20 11 2 (clT 11 2) true := ⟨RX11, TX11, cf_11, by decide, tb_i 585 (by decide +kernel) (by decide +kernel), rfl, rfl, rfl⟩
theorem ci_X11_init_26 : CKI xX11_init 26 xX7_init 0 := ⟨tb_i 146 (by decide +kernel) (by decide +kernel), tb_i 405 (by decide +kernel) (by decide +kernel), ⟨by decide +kernel, by decide +kernel, by decide +kernel⟩, by decide, by decide, rfl, tb_i 404 (by decide +kernel) (by decide +kernel), rfl, Or.inr ⟨"PaperDonkey", tn_i 403 (by decide +kernel) rfl⟩⟩
theorem fc_11_27 : FG RX11 27 11 3 (clT 11 3) true := ⟨RX11, TX11, cf_11, by decide, tb_i 586 (by decide +kernel) (by decide +kernel), rfl, rfl, rfl⟩
theorem ci_X11_init_33 : CKI xX11_init 33 xX6_init 0 := ⟨tb_i 147 (by decide +kernel) (by decide +kernel), tb_i 467 (by decide +kernel) (by decide +kernel), ⟨by decide +kernel, by decide +kernel, by decide +kernel⟩, by decide, by decide, rfl, tb_i 466 (by decide +kernel) (by decide +kernel), rfl, Or.inr ⟨"PaperDonkey", tn_i 465 (by decide +kernel) rfl⟩⟩
theorem fc_11_34 : FG RX11 34 11 4 (clT 11 4) true := ⟨RX11, TX11, cf_11, by decide, tb_i 587 (by decide +kernel) (by decide +kernel), rfl, rfl, rfl⟩
theorem ci_X11_init_40 : CKI xX11_init 40 xX2_init 0 := ⟨tb_i 148 (by decide +kernel) (by decide +kernel), tb_i 516 (by decide +kernel) (by decide +kernel), ⟨by decide +kernel, by decide +kernel, by decide +kernel⟩, by decide, by decide, rfl, tb_i 515 (by decide +kernel) (by decide +kernel), rfl, Or.inr ⟨"PaperDonkey", tn_i 514 (by decide +kernel) rfl⟩⟩
theorem fc_11_41 : FG RX11 41 11 5 (clT 11 5) true := ⟨RX11, TX11, cf_11, by decide, tb_i 588 (by decide +kernel) (by decide +kernel), rfl, rfl, rfl⟩
theorem ci_X11_init_47 : CKI xX11_init 47 xX4_init 0 := ⟨tb_i 149 (by decide +kernel) (by decide +kernel), tb_i 532 (by decide +kernel) (by decide +kernel), ⟨by decide +kernel, by decide +kernel, by decide +kernel⟩, by decide, by decide, rfl, tb_i 531 (by decide +kernel) (by decide +kernel), rfl, Or.inr ⟨"PaperDonkey", tn_i 530 (by decide +kernel) rfl⟩⟩
theorem fc_11_48 : FG RX11 48 11 6 (clT 11 6) true := ⟨RX11, TX11, cf_11, by decide, tb_i 589 (by decide +kernel) (by decide +kernel), rfl, rfl, rfl⟩
theorem ci_X11_init_54 : CKI xX11_init 54 xX10_init 0 := ⟨tb_i 150 (by decide +kernel) (by decide +kernel), tb_i 554 (by decide +kernel) (by decide +kernel), ⟨by decide +kernel, by decide +kernel, by decide +kernel⟩, by decide, by decide, rfl, tb_i 553 (by decide +kernel) (by decide +kernel), rfl, Or.inr ⟨"PaperDonkey", tn_i 552 (by decide +kernel) rfl⟩⟩
theorem fc_11_55 : FG RX11 55 11 7 (clT 11 7) true := ⟨RX11, TX11, cf_11, by decide, tb_i 590 (by decide +kernel) (by decide +kernel), rfl, rfl, rfl⟩
theorem ci_X11_init_61 : CKI xX11_init 61 xX0_init 0 := ⟨tb_i 151 (by decide +kernel) (by decide +kernel), tb_i 568 (by decide +kernel) (by decide +kernel), ⟨by decide +kernel, by decide +kernel, by decide +kernel⟩, by decide, by decide, rfl, tb_i 567 (by decide +kernel) (by decide +kernel), rfl, Or.inr ⟨"PaperDonkey", tn_i 566 (by decide +kernel) rfl⟩⟩
theorem fc_11_62 : FG RX11 62 11 8 (clT 11 8) true := ⟨RX11, TX11, cf_11, by decide, tb_i 591 (by decide +kernel) (by decide +kernel), rfl, rfl, rfl⟩
def eX11_init (a n : Nat) : LE := (0, 11, [some (n + 0), some (n + 76), some (n + 77), some (n + 78), some (n + 114), some (n + 118), some (n + 120), some (n + 126), some (n + 129)])
def sX11_init (a n : Nat) : List LE := [(0, 9, [some (n + 1), none, none, none, some (n + 2), some (n + 3), some (n + 4), some (n + 5), some (n + 6), some (n + 7)]), (3, 600, []), (1, 5, []), (7, 2, [some (n + 8), some (n + 42)]), (6, 2, [some (n + 19), some (n + 53)]), (5, 2, [some (n + 23), some (n + 57)]), (6, 2, [some (n + 29), some (n + 63)]), (8, 2, [some (n + 33), some (n + 67)]), (0, 5, [none, some (n + 9), some (n + 10), none, some (n + 11), some (n + 12), some (n + 13), some (n + 14), some (n + 15), some (n + 16), some (n + 17), some (n + 18), none, none, none, none, none]), (1, 5, []), (1, 5, []), (1, 8, []), (1, 8, []), (1, 8, []), (1, 8, []), (1, 8, []), (1, 64, []), (1, 8, []), (1, 3, []), (0, 3, [none, some (n + 20), some (n + 21), some (n + 22), none]), (1, 40, []), (1, 40, []), (1, 40, []), (0, 1, [some (n + 24), some (n + 28)]), (0, 3, [none, some (n + 25), some (n + 26), some (n + 27), none]), (1, 8, []), (1, 8, []), (1, 8, []), (1, 8, []), (0, 3, [none, some (n + 30), some (n + 31), some (n + 32), none]), (1, 25, []), (1, 25, []), (1, 25, []), (0, 8, [some (n + 34), some (n + 38)]), (0, 3, [none, some (n + 35), some (n + 36), some (n + 37), none]), (1, 40, []), (1, 40, []), (1, 40, []), (0, 3, [none, some (n + 39), some (n + 40), some (n + 41), none]), (1, 15, []), (1, 15, []), (1, 15, []), (0, 5, [none, some (n + 43), some (n + 44), none, some (n + 45), some (n + 46), some (n + 47), some (n + 48), some (n + 49), some (n + 50), some (n + 51), some (n + 52), none, none, none, none, none]), (1, 5, []), (1, 5, []), (1, 8, []), (1, 8, []), (1, 8, []), (1, 8, []), (1, 8, []), (1, 64, []), (1, 8, []), (1, 3, []), (0, 3, [none, some (n + 54), some (n + 55), some (n + 56), none]), (1, 40, []), (1, 40, []), (1, 40, []), (0, 1, [some (n + 58), some (n + 62)]), (0, 3, [none, some (n + 59), some (n + 60), some (n + 61), none]), (1, 8, []), (1, 8, []), (1, 8, []), (1, 8, []), (0, 3, [none, some (n + 64), some (n + 65), some (n + 66), none]), (1, 25, []), (1, 25, []), (1, 25, []), (0, 8, [some (n + 68), some (n + 72)]), (0, 3, [none, some (n + 69), some (n + 70), some (n + 71), none]), (1, 40, []), (1, 40, []), (1, 40, []), (0, 3, [none, some (n + 73), some (n + 74), some (n + 75), none]), (1, 15, []), (1, 15, []), (1, 15, []), (9, 3, [some (n + 130), some (n + 206), some (n + 282)]), (4, 3, []), (0, 7, [some (n + 79), some (n + 90), some (n + 94), some (n + 100), some (n + 104), none, none, some (n + 113), none, none, none, none, none]), (0, 5, [none, some (n + 80), some (n + 81), none, some (n + 82), some (n + 83), some (n + 84), some (n + 85), some (n + 86), some (n + 87), some (n + 88), some (n + 89), none, none, none, none, none]), (1, 5, []), (1, 5, []), (1, 8, []), (1, 8, []), (1, 8, []), (1, 8, []), (1, 8, []), (1, 64, []), (1, 8, []), (1, 3, []), (0, 3, [none, some (n + 91), some (n + 92), some (n + 93), none]), (1, 40, []), (1, 40, []), (1, 40, []), (0, 1, [some (n + 95), some (n + 99)]), (0, 3, [none, some (n + 96), some (n + 97), some (n + 98), none]), (1, 8, []), (1, 8, []), (1, 8, []), (1, 8, []), (0, 3, [none, some (n + 101), some (n + 102), some (n + 103), none]), (1, 25, []), (1, 25, []), (1, 25, []), (0, 8, [some (n + 105), some (n + 109)]), (0, 3, [none, some (n + 106), some (n + 107), some (n + 108), none]), (1, 40, []), (1, 40, []), (1, 40, []), (0, 3, [none, some (n + 110), some (n + 111), some (n + 112), none]), (1, 15, []), (1, 15, []), (1, 15, []), (1, 4, []), (0, 6, [none, none, none, none, none, none, none, none, none, some (n + 115), some (n + 116), some (n + 117), none, none]), (1, 5, []), (1, 24, []), (1, 8, []), (0, 2, [some (n + 119), none]), (2, 8, []), (0, 4, [some (n + 121), some (n + 122), some (n + 123), some (n + 124), some (n + 125)]), (1, 8, []), (2, 137, []), (2, 137, []), (2, 32, []), (2, 496, []), (0, 10, [some (n + 127), some (n + 128)]), (1, 8, []), (1, 8, []), (0, 0, [none, none, none, none]), (0, 9, [some (n + 131), none, none, none, some (n + 132), some (n + 133), some (n + 134), some (n + 135), some (n + 136), some (n + 137)]), (3, 600, []), (1, 5, []), (7, 2, [some (n + 138), some (n + 172)]), (6, 2, [some (n + 149), some (n + 183)]), (5, 2, [some (n + 153), some (n + 187)]), (6, 2, [some (n + 159), some (n + 193)]), (8, 2, [some (n + 163), some (n + 197)]), (0, 5, [none, some (n + 139), some (n + 140), none, some (n + 141), some (n + 142), some (n + 143), some (n + 144), some (n + 145), some (n + 146), some (n + 147), some (n + 148), none, none, none, none, none]), (1, 5, []), (1, 5, []), (1, 8, []), (1, 8, []), (1, 8, []), (1, 8, []), (1, 8, []), (1, 64, []), (1, 8, []), (1, 3, []), (0, 3, [none, some (n + 150), some (n + 151), some (n + 152), none]), (1, 40, []), (1, 40, []), (1, 40, []), (0, 1, [some (n + 154), some (n + 158)]), (0, 3, [none, some (n + 155), some (n + 156), some (n + 157), none]), (1, 8, []), (1, 8, []), (1, 8, []), (1, 8, []), (0, 3, [none, some (n + 160), some (n + 161), some (n + 162), none]), (1, 25, []), (1, 25, []), (1, 25, []), (0, 8, [some (n + 164), some (n + 168)]), (0, 3, [none, some (n + 165), some (n + 166), some (n + 167), none]), (1, 40, []), (1, 40, []), (1, 40, []), (0, 3, [none, some (n + 169), some (n + 170), some (n + 171), none]), (1, 15, []), (1, 15, []), (1, 15, []), (0, 5, [none, some (n + 173), some (n + 174), none, some (n + 175), some (n + 176), some (n + 177), some (n + 178), some (n + 179), some (n + 180), some (n + 181), some (n + 182), none, none, none, none, none]), (1, 5, []), (1, 5, []), (1, 8, []), (1, 8, []), (1, 8, []), (1, 8, []), (1, 8, []), (1, 64, []), (1, 8, []), (1, 3, []), (0, 3, [none, some (n + 184), some (n + 185), some (n + 186), none]), (1, 40, []), (1, 40, []), (1, 40, []), (0, 1, [some (n + 188), some (n + 192)]), (0, 3, [none, some (n + 189), some (n + 190), some (n + 191), none]), (1, 8, []), (1, 8, []), (1, 8, []), (1, 8, []), (0, 3, [none, some (n + 194), some (n + 195), some (n + 196), none]), (1, 25, []), (1, 25, []), (1, 25, []), (0, 8, [some (n + 198), some (n + 202)]), (0, 3, [none, some (n + 199), some (n + 200), some (n + 201), none]), (1, 40, []), (1, 40, []), (1, 40, []), (0, 3, [none, some (n + 203), some (n + 204), some (n + 205), none]), (1, 15, []), (1, 15, []), (1, 15, []), (0, 9, [some (n + 207), none, none, none, some (n + 208), some (n + 209), some (n + 210), some (n + 211), some (n + 212), some (n + 213)]), (3, 600, []), (1, 5, []), (7, 2, [some (n + 214), some (n + 248)]), (6, 2, [some (n + 225), some (n + 259)]), (5, 2, [some (n + 229), some (n + 263)]), (6, 2, [some (n + 235), some (n + 269)]), (8, 2, [some (n + 239), some (n + 273)]), (0, 5, [none, some (n + 215), some (n + 216), none, some (n + 217), some (n + 218), some (n + 219), some (n + 220), some (n + 221), some (n + 222), some (n + 223), some (n + 224), none, none, none, none, none]), (1, 5, []), (1, 5, []), (1, 8, []), (1, 8, []), (1, 8, []), (1, 8, []), (1, 8, []), (1, 64, []), (1, 8, []), (1, 3, []), (0, 3, [none, some (n + 226), some (n + 227), some (n + 228), none]), (1, 40, []), (1, 40, []), (1, 40, []), (0, 1, [some (n + 230), some (n + 234)]), (0, 3, [none, some (n + 231), some (n + 232), some (n + 233), none]), (1, 8, []), (1, 8, []), (1, 8, []), (1, 8, []), (0, 3, [none, some (n + 236), some (n + 237), some (n + 238), none]), (1, 25, []), (1, 25, []), (1, 25, []), (0, 8, [some (n + 240), some (n + 244)]), (0, 3, [none, some (n + 241), some (n + 242), some (n + 243), none]), (1, 40, []), (1, 40, []), (1, 40, []), (0, 3, [none, some (n + 245), some (n + 246), some (n + 247), none]), (1, 15, []), (1, 15, []), (1, 15, []), (0, 5, [none, some (n + 249), some (n + 250), none, some (n + 251), some (n + 252), some (n + 253), some (n + 254), some (n + 255), some (n + 256), some (n + 257), some (n + 258), none, none, none, none, none]), (1, 5, []), (1, 5, []), (1, 8, []), (1, 8, []), (1, 8, []), (1, 8, []), (1, 8, []), (1, 64, []), (1, 8, []), (1, 3, []), (0, 3, [none, some (n + 260), some (n + 261), some (n + 262), none]), (1, 40, []), (1, 40, []), (1, 40, []), (0, 1, [some (n + 264), some (n + 268)]), (0, 3, [none, some (n + 265), some (n + 266), some (n + 267), none]), (1, 8, []), (1, 8, []), (1, 8, []), (1, 8, []), (0, 3, [none, some (n + 270), some (n + 271), some (n + 272), none]), (1, 25, []), (1, 25, []), (1, 25, []), (0, 8, [some (n + 274), some (n + 278)]), (0, 3, [none, some (n + 275), some (n + 276), some (n + 277), none]), (1, 40, []), (1, 40, []), (1, 40, []), (0, 3, [none, some (n + 279), some (n + 280), some (n + 281), none]), (1, 15, []), (1, 15, []), (1, 15, []), (0, 9, [some (n + 283), none, none, none, some (n + 284), some (n + 285), some (n + 286), some (n + 287), some (n + 288), some (n + 289)]), (3, 600, []), (1, 5, []), (7, 2, [some (n + 290), some (n + 324)]), (6, 2, [some (n + 301), some (n + 335)]), (5, 2, [some (n + 305), some (n + 339)]), (6, 2, [some (n + 311), some (n + 345)]), (8, 2, [some (n + 315), some (n + 349)]), (0, 5, [none, some (n + 291), some (n + 292), none, some (n + 293), some (n + 294), some (n + 295), some (n + 296), some (n + 297), some (n + 298), some (n + 299), some (n + 300), none, none, none, none, none]), (1, 5, []), (1, 5, []), (1, 8, []), (1, 8, []), (1, 8, []), (1, 8, []), (1, 8, []), (1, 64, []), (1, 8, []), (1, 3, []), (0, 3, [none, some (n + 302), some (n + 303), some (n + 304), none]), (1, 40, []), (1, 40, []), (1, 40, []), (0, 1, [some (n + 306), some (n + 310)]), (0, 3, [none, some (n + 307), some (n + 308), some (n + 309), none]), (1, 8, []), (1, 8, []), (1, 8, []), (1, 8, []), (0, 3, [none, some (n + 312), some (n + 313), some (n + 314), none]), (1, 25, []), (1, 25, []), (1, 25, []), (0, 8, [some (n + 316), some (n + 320)]), (0, 3, [none, some (n + 317), some (n + 318), some (n + 319), none]), (1, 40, []), (1, 40, []), (1, 40, []), (0, 3, [none, some (n + 321), some (n + 322), some (n + 323), none]), (1, 15, []), (1, 15, []), (1, 15, []), (0, 5, [none, some (n + 325), some (n + 326), none, some (n + 327), some (n + 328), some (n + 329), some (n + 330), some (n + 331), some (n + 332), some (n + 333), some (n + 334), none, none, none, none, none]), (1, 5, []), (1, 5, []), (1, 8, []), (1, 8, []), (1, 8, []), (1, 8, []), (1, 8, []), (1, 64, []), (1, 8, []), (1, 3, []), (0, 3, [none, some (n + 336), some (n + 337), some (n + 338), none]), (1, 40, []), (1, 40, []), (1, 40, []), (0, 1, [some (n + 340), some (n + 344)]), (0, 3, [none, some (n + 341), some (n + 342), some (n + 343), none]), (1, 8, []), (1, 8, []), (1, 8, []), (1, 8, []), (0, 3, [none, some (n + 346), some (n + 347), some (n + 348), none]), (1, 25, []), (1, 25, []), (1, 25, []), (0, 8, [some (n + 350), some (n + 354)]), (0, 3, [none, some (n + 351), some (n + 352), some (n + 353), none]), (1, 40, []), (1, 40, []), (1, 40, []), (0, 3, [none, some (n + 355), some (n + 356), some (n + 357), none]), (1, 15, []), (1, 15, []), (1, 15, [])]
def mX11_init (M : MM) (a n : Nat) : MM := (mX9_init (mX9_init (mX9_init (mX0_init (mX10_init (mX4_init (mX2_init (mX6_init (mX7_init (mX9_init M (n + 0) (n + 1)) (n + 78) (n + 79)) (n + 114) (n + 115)) (n + 118) (n + 119)) (n + 120) (n + 121)) (n + 126) (n + 127)) (n + 129) (n + 130)) (n + 130) (n + 131)) (n + 206) (n + 207)) (n + 282) (n + 283))
theorem oX11_init {L : List LE} {M : MM} {a n : Nat} (hn : L.length = n) (ha : L[a]? = some (0, 11, List.replicate (clN 11) none)) (hg : gd L M) : gd (LX L a (eX11_init a n) (sX11_init a n)) (mX11_init M a n) := by
  have han : a < L.length := (List.getElem?_eq_some_iff.mp ha).1
  have han2 : a < n := by omega
  have q0 : gd (LX L a (0, 11, List.replicate (clN 11) none) []) M := by rw [LX_start ha]; exact hg
  have q1 := gd_push (q := 0) (n := 9) (m := clN 9) q0
  rw [LX_push] at q1
  have q2 := oX9_init (a := n + 0) (n := n + 1) (by rw [LX_len, hn]; rfl) (LX_at hn rfl) q1
  rw [LX_LX hn] at q2
  have q3 := gd_ref (a := a) (k := 0) (b := (n + 0)) q2 (LX_this han) (Nat.le_of_ble_eq_true rfl) (by rw [LX_len, hn]; show _ < n + 76; omega)
  rw [LX_put han] at q3
  have q4 := gd_push (q := 9) (n := 3) (m := 3) q3
  rw [LX_push] at q4
  have q5 := gd_ref (a := a) (k := 1) (b := (n + 76)) q4 (LX_this han) (Nat.le_of_ble_eq_true rfl) (by rw [LX_len, hn]; show _ < n + 77; omega)
  rw [LX_put han] at q5
  have q6 := gd_nil (q := 4) (n := 3) q5
  rw [LX_push] at q6
  have q7 := gd_ref (a := a) (k := 2) (b := (n + 77)) q6 (LX_this han) (Nat.le_of_ble_eq_true rfl) (by rw [LX_len, hn]; show _ < n + 78; omega)
  rw [LX_put han] at q7
  have q8 := gd_push (q := 0) (n := 7) (m := clN 7) q7
  rw [LX_push] at q8
  have q9 := oX7_init (a := n + 78) (n := n + 79) (by rw [LX_len, hn]; rfl) (LX_at hn rfl) q8
  rw [LX_LX hn] at q9
  have q10 := gd_ref (a := a) (k := 3) (b := (n + 78)) q9 (LX_this han) (Nat.le_of_ble_eq_true rfl) (by rw [LX_len, hn]; show _ < n + 114; omega)
  rw [LX_put han] at q10
  have q11 := gd_push (q := 0) (n := 6) (m := clN 6) q10
  rw [LX_push] at q11
  have q12 := oX6_init (a := n + 114) (n := n + 115) (by rw [LX_len, hn]; rfl) (LX_at hn rfl) q11
  rw [LX_LX hn] at q12
  have q13 := gd_ref (a := a) (k := 4) (b := (n + 114)) q12 (LX_this han) (Nat.le_of_ble_eq_true rfl) (by rw [LX_len, hn]; show _ < n + 118; omega)
  rw [LX_put han] at q13
  have q14 := gd_push (q := 0) (n := 2) (m := clN 2) q13
  rw [LX_push] at q14
  have q15 := oX2_init (a := n + 118) (n := n + 119) (by rw [LX_len, hn]; rfl) (LX_at hn rfl) q14
  rw [LX_LX hn] at q15
  have q16 := gd_ref (a := a) (k := 5) (b := (n + 118)) q15 (LX_this han) (Nat.le_of_ble_eq_true rfl) (by rw [LX_len, hn]; show _ < n + 120; omega)
  rw [LX_put han] at q16
  have q17 := gd_push (q := 0) (n := 4) (m := clN 4) q16
  rw [LX_push] at q17
  have q18 := oX4_init (a := n + 120) (n := n + 121) (by rw [LX_len, hn]; rfl) (LX_at hn rfl) q17
  rw [LX_LX hn] at q18
  have q19 := gd_ref (a := a) (k := 6) (b := (n + 120)) q18 (LX_this han) (Nat.le_of_ble_eq_true rfl) (by rw [LX_len, hn]; show _ < n + 126; omega)
  rw [LX_put han] at q19
  have q20 := gd_push (q := 0) (n := 10) (m := clN 10) q19
  rw [LX_push] at q20
  have q21 := oX10_init (a := n + 126) (n := n + 127) (by rw [LX_len, hn]; rfl) (LX_at hn rfl) q20
  rw [LX_LX hn] at q21
  have q22 := gd_ref (a := a) (k := 7) (b := (n + 126)) q21 (LX_this han) (Nat.le_of_ble_eq_true rfl) (by rw [LX_len, hn]; show _ < n + 129; omega)
  rw [LX_put han] at q22
  have q23 := gd_push (q := 0) (n := 0) (m := clN 0) q22
  rw [LX_push] at q23
  have q24 := oX0_init (a := n + 129) (n := n + 130) (by rw [LX_len, hn]; rfl) (LX_at hn rfl) q23
  rw [LX_LX hn] at q24
  have q25 := gd_ref (a := a) (k := 8) (b := (n + 129)) q24 (LX_this han) (Nat.le_of_ble_eq_true rfl) (by rw [LX_len, hn]; show _ < n + 130; omega)
  rw [LX_put han] at q25
  have q26 := gd_push (q := 0) (n := 9) (m := clN 9) q25
  rw [LX_push] at q26
  have q27 := oX9_init (a := n + 130) (n := n + 131) (by rw [LX_len, hn]; rfl) (LX_at hn rfl) q26
  rw [LX_LX hn] at q27
  have q28 := gd_ref (a := n + 76) (k := 0) (b := n + 130) q27 (LX_at hn rfl) (Nat.le_of_ble_eq_true rfl) (by rw [LX_len, hn]; show _ < n + 206; omega)
  rw [LX_set hn] at q28
  have q29 := gd_push (q := 0) (n := 9) (m := clN 9) q28
  rw [LX_push] at q29
  have q30 := oX9_init (a := n + 206) (n := n + 207) (by rw [LX_len, hn]; rfl) (LX_at hn rfl) q29
  rw [LX_LX hn] at q30
  have q31 := gd_ref (a := n + 76) (k := 1) (b := n + 206) q30 (LX_at hn rfl) (Nat.le_of_ble_eq_true rfl) (by rw [LX_len, hn]; show _ < n + 282; omega)
  rw [LX_set hn] at q31
  have q32 := gd_push (q := 0) (n := 9) (m := clN 9) q31
  rw [LX_push] at q32
  have q33 := oX9_init (a := n + 282) (n := n + 283) (by rw [LX_len, hn]; rfl) (LX_at hn rfl) q32
  rw [LX_LX hn] at q33
  have q34 := gd_ref (a := n + 76) (k := 2) (b := n + 282) q33 (LX_at hn rfl) (Nat.le_of_ble_eq_true rfl) (by rw [LX_len, hn]; show _ < n + 358; omega)
  rw [LX_set hn] at q34
  exact q34
set_option maxHeartbeats 8000000 in
set_option maxRecDepth 100000 in
theorem kX11_init {G : GG} {L : List LE} {M : MM} {a n : Nat} (hn : L.length = n) (ha : L[a]? = some (0, 11, List.replicate (clN 11) none)) (hg : gd L M) : CI G xX11_init [.ref (gA G a)] L M (LX L a (eX11_init a n) (sX11_init a n)) (mX11_init M a n) := by
  have han : a < L.length := (List.getElem?_eq_some_iff.mp ha).1
  have han2 : a < n := by omega
  have q0 : gd (LX L a (0, 11, List.replicate (clN 11) none) []) M := by rw [LX_start ha]; exact hg
  refine CI_of (by decide +kernel) (Nat.le_of_ble_eq_true rfl) ?_
  rw [hn]
  obtain ⟨γ, hγ⟩ : ∃ γ, γ = gA G := ⟨_, rfl⟩
  have K : VV (gS G γ) xX11_init (ZI G xX11_init n (LX L a (eX11_init a n) (sX11_init a n)) (mX11_init M a n)) (LX L a (0, 11, List.replicate (clN 11) none) []) M 0 0 0 [(0, .ref (γ a))] [] := ?_
  · rw [LX_start ha, hγ] at K; exact K
  refine r_aload_n (pc := 0) (i := 0) dX11_init_0 rfl 0 rfl ?_
  refine r_objI (pc := 1) (tb_i 163 (by decide +kernel) (by decide +kernel)) (tb_i 164 (by decide +kernel) (by decide +kernel)) (tb_i 165 (by decide +kernel) (by decide +kernel)) ⟨Nat.le_of_ble_eq_true rfl, Nat.le_of_ble_eq_true rfl⟩ dX11_init_1 ?_
  refine r_aload_n (pc := 4) (i := 0) dX11_init_4 rfl 0 rfl ?_
  refine r_newO (pc := 5) (γ := γ) (lvf := fun g => [(0, .ref (g a))]) (stf := fun g => [.ref (g a)]) (n := n + 0) cf_9 (tb_i 166 (by decide +kernel) (by decide +kernel)) (tb_i 167 (by decide +kernel) (by decide +kernel)) (tb_i 140 (by decide +kernel) (by decide +kernel)) (by rw [LX_len, hn]; rfl) q0.1 (fun z => q0.2 _ (by rw [LX_len, hn]; exact Nat.le_refl _) z) (nf_all 9 (by decide)) (fun g h => ⟨by rw [h a (by omega)], by rw [h a (by omega)]⟩) ⟨by decide, by decide⟩ dX11_init_5 (fun g1 h1 => ?_)
  rw [LX_push]
  have q1 := gd_push (q := 0) (n := 9) (m := clN 9) q0
  rw [LX_push] at q1
  have k1 : ∀ z, z < n → g1 z = gA G z := fun z hz => (h1 z (by omega)).trans (by rw [hγ])
  refine r_dup (pc := 8) dX11_init_8 rfl ?_
  refine r_callI (pc := 9) (γ := g1) (lvf := fun g => [(0, .ref (g a))]) (stf := fun g => [.ref (g (n + 0)), .ref (g a)]) (b := n + 0) (As := []) (fun _ _ _ _ _ _ _ _ _ h => h) ci_X11_init_9 (kX9_init (G := gS G g1) (a := n + 0) (n := n + 1) (by rw [LX_len, hn]; rfl) (LX_at hn rfl) q1) (fun g h => ⟨by rw [h a (by rw [LX_len, hn]; show _ < n + 1; omega)], by rw [h a (by rw [LX_len, hn]; show _ < n + 1; omega), h (n + 0) (by rw [LX_len, hn]; show _ < n + 1; omega)]⟩) rfl (Nat.le_of_ble_eq_true rfl) ⟨by decide, by decide⟩ dX11_init_9 (fun g2 h2 => ?_)
  rw [LX_LX hn]
  have q2 := oX9_init (a := n + 0) (n := n + 1) (by rw [LX_len, hn]; rfl) (LX_at hn rfl) q1
  rw [LX_LX hn] at q2
  have k2 : ∀ z, z < n → g2 z = gA G z := fun z hz => (h2 z (by rw [LX_len, hn]; show z < n + 1; omega)).trans (k1 z hz)
  refine r_putRF (pc := 12) (γ := g2) (a := a) (b := (n + 0)) fc_11_10 rfl rfl (LX_this han) (Nat.le_of_ble_eq_true rfl) (fun C T h => by rw [cf_own cf_11 h]; rfl) dX11_init_12 ?_
  rw [LX_put han]
  have q3 := gd_ref (a := a) (k := 0) (b := (n + 0)) q2 (LX_this han) (Nat.le_of_ble_eq_true rfl) (by rw [LX_len, hn]; show _ < n + 76; omega)
  rw [LX_put han] at q3
  refine r_aload_n (pc := 15) (i := 0) dX11_init_15 rfl 0 rfl ?_
  refine r_iconst (pc := 16) (v := 3) dX11_init_16 (by decide +kernel) ?_
  refine r_newQ9 (pc := 17) (γ := g2) (lvf := fun g => [(0, .ref (g a))]) (stf := fun g => [.ref (g a)]) (n := n + 76) (N := 3) (tb_i 166 (by decide +kernel) (by decide +kernel)) rfl wc_3 rfl (by decide) (by rw [LX_len, hn]; rfl) q3.1 (fun g h => ⟨by rw [h a (by omega)], by rw [h a (by omega)]⟩) ⟨by decide, by decide⟩ dX11_init_17 (fun g3 h3 => ?_)
  rw [LX_push]
  have q4 := gd_push (q := 9) (n := 3) (m := 3) q3
  rw [LX_push] at q4
  have k3 : ∀ z, z < n → g3 z = gA G z := fun z hz => (h3 z (by omega)).trans (k2 z hz)
  refine r_putRF (pc := 20) (γ := g3) (a := a) (b := (n + 76)) fc_11_16 rfl rfl (LX_this han) (Nat.le_of_ble_eq_true rfl) (fun C T h => by rw [cf_own cf_11 h]; rfl) dX11_init_20 ?_
  rw [LX_put han]
  have q5 := gd_ref (a := a) (k := 1) (b := (n + 76)) q4 (LX_this han) (Nat.le_of_ble_eq_true rfl) (by rw [LX_len, hn]; show _ < n + 77; omega)
  rw [LX_put han] at q5
  refine r_aload_n (pc := 23) (i := 0) dX11_init_23 rfl 0 rfl ?_
  refine r_iconst (pc := 24) (v := 3) dX11_init_24 (by decide +kernel) ?_
  refine r_newA4 (pc := 25) (γ := g3) (lvf := fun g => [(0, .ref (g a))]) (stf := fun g => [.ref (g a)]) (n := n + 77) (N := 3) (tb_i 462 (by decide +kernel) (by decide +kernel)) wc_3 rfl (by decide) (by rw [LX_len, hn]; rfl) q5.1 (fun z => q5.2 _ (by rw [LX_len, hn]; exact Nat.le_refl _) z) (fun g h => ⟨by rw [h a (by omega)], by rw [h a (by omega)]⟩) ⟨by decide, by decide⟩ dX11_init_25 (fun g4 h4 => ?_)
  rw [LX_push]
  have q6 := gd_nil (q := 4) (n := 3) q5
  rw [LX_push] at q6
  have k4 : ∀ z, z < n → g4 z = gA G z := fun z hz => (h4 z (by omega)).trans (k3 z hz)
  refine r_putRF (pc := 27) (γ := g4) (a := a) (b := (n + 77)) fc_11_20 rfl rfl (LX_this han) (Nat.le_of_ble_eq_true rfl) (fun C T h => by rw [cf_own cf_11 h]; rfl) dX11_init_27 ?_
  rw [LX_put han]
  have q7 := gd_ref (a := a) (k := 2) (b := (n + 77)) q6 (LX_this han) (Nat.le_of_ble_eq_true rfl) (by rw [LX_len, hn]; show _ < n + 78; omega)
  rw [LX_put han] at q7
  refine r_aload_n (pc := 30) (i := 0) dX11_init_30 rfl 0 rfl ?_
  refine r_newO (pc := 31) (γ := g4) (lvf := fun g => [(0, .ref (g a))]) (stf := fun g => [.ref (g a)]) (n := n + 78) cf_7 (tb_i 401 (by decide +kernel) (by decide +kernel)) (tb_i 402 (by decide +kernel) (by decide +kernel)) (tb_i 146 (by decide +kernel) (by decide +kernel)) (by rw [LX_len, hn]; rfl) q7.1 (fun z => q7.2 _ (by rw [LX_len, hn]; exact Nat.le_refl _) z) (nf_all 7 (by decide)) (fun g h => ⟨by rw [h a (by omega)], by rw [h a (by omega)]⟩) ⟨by decide, by decide⟩ dX11_init_31 (fun g5 h5 => ?_)
  rw [LX_push]
  have q8 := gd_push (q := 0) (n := 7) (m := clN 7) q7
  rw [LX_push] at q8
  have k5 : ∀ z, z < n → g5 z = gA G z := fun z hz => (h5 z (by omega)).trans (k4 z hz)
  refine r_dup (pc := 34) dX11_init_34 rfl ?_
  refine r_callI (pc := 35) (γ := g5) (lvf := fun g => [(0, .ref (g a))]) (stf := fun g => [.ref (g (n + 78)), .ref (g a)]) (b := n + 78) (As := []) (fun _ _ _ _ _ _ _ _ _ h => h) ci_X11_init_26 (kX7_init (G := gS G g5) (a := n + 78) (n := n + 79) (by rw [LX_len, hn]; rfl) (LX_at hn rfl) q8) (fun g h => ⟨by rw [h a (by rw [LX_len, hn]; show _ < n + 79; omega)], by rw [h a (by rw [LX_len, hn]; show _ < n + 79; omega), h (n + 78) (by rw [LX_len, hn]; show _ < n + 79; omega)]⟩) rfl (Nat.le_of_ble_eq_true rfl) ⟨by decide, by decide⟩ dX11_init_35 (fun g6 h6 => ?_)
  rw [LX_LX hn]
  have q9 := oX7_init (a := n + 78) (n := n + 79) (by rw [LX_len, hn]; rfl) (LX_at hn rfl) q8
  rw [LX_LX hn] at q9
  have k6 : ∀ z, z < n → g6 z = gA G z := fun z hz => (h6 z (by rw [LX_len, hn]; show z < n + 79; omega)).trans (k5 z hz)
  refine r_putRF (pc := 38) (γ := g6) (a := a) (b := (n + 78)) fc_11_27 rfl rfl (LX_this han) (Nat.le_of_ble_eq_true rfl) (fun C T h => by rw [cf_own cf_11 h]; rfl) dX11_init_38 ?_
  rw [LX_put han]
  have q10 := gd_ref (a := a) (k := 3) (b := (n + 78)) q9 (LX_this han) (Nat.le_of_ble_eq_true rfl) (by rw [LX_len, hn]; show _ < n + 114; omega)
  rw [LX_put han] at q10
  refine r_aload_n (pc := 41) (i := 0) dX11_init_41 rfl 0 rfl ?_
  refine r_newO (pc := 42) (γ := g6) (lvf := fun g => [(0, .ref (g a))]) (stf := fun g => [.ref (g a)]) (n := n + 114) cf_6 (tb_i 463 (by decide +kernel) (by decide +kernel)) (tb_i 464 (by decide +kernel) (by decide +kernel)) (tb_i 147 (by decide +kernel) (by decide +kernel)) (by rw [LX_len, hn]; rfl) q10.1 (fun z => q10.2 _ (by rw [LX_len, hn]; exact Nat.le_refl _) z) (nf_all 6 (by decide)) (fun g h => ⟨by rw [h a (by omega)], by rw [h a (by omega)]⟩) ⟨by decide, by decide⟩ dX11_init_42 (fun g7 h7 => ?_)
  rw [LX_push]
  have q11 := gd_push (q := 0) (n := 6) (m := clN 6) q10
  rw [LX_push] at q11
  have k7 : ∀ z, z < n → g7 z = gA G z := fun z hz => (h7 z (by omega)).trans (k6 z hz)
  refine r_dup (pc := 45) dX11_init_45 rfl ?_
  refine r_callI (pc := 46) (γ := g7) (lvf := fun g => [(0, .ref (g a))]) (stf := fun g => [.ref (g (n + 114)), .ref (g a)]) (b := n + 114) (As := []) (fun _ _ _ _ _ _ _ _ _ h => h) ci_X11_init_33 (kX6_init (G := gS G g7) (a := n + 114) (n := n + 115) (by rw [LX_len, hn]; rfl) (LX_at hn rfl) q11) (fun g h => ⟨by rw [h a (by rw [LX_len, hn]; show _ < n + 115; omega)], by rw [h a (by rw [LX_len, hn]; show _ < n + 115; omega), h (n + 114) (by rw [LX_len, hn]; show _ < n + 115; omega)]⟩) rfl (Nat.le_of_ble_eq_true rfl) ⟨by decide, by decide⟩ dX11_init_46 (fun g8 h8 => ?_)
  rw [LX_LX hn]
  have q12 := oX6_init (a := n + 114) (n := n + 115) (by rw [LX_len, hn]; rfl) (LX_at hn rfl) q11
  rw [LX_LX hn] at q12
  have k8 : ∀ z, z < n → g8 z = gA G z := fun z hz => (h8 z (by rw [LX_len, hn]; show z < n + 115; omega)).trans (k7 z hz)
  refine r_putRF (pc := 49) (γ := g8) (a := a) (b := (n + 114)) fc_11_34 rfl rfl (LX_this han) (Nat.le_of_ble_eq_true rfl) (fun C T h => by rw [cf_own cf_11 h]; rfl) dX11_init_49 ?_
  rw [LX_put han]
  have q13 := gd_ref (a := a) (k := 4) (b := (n + 114)) q12 (LX_this han) (Nat.le_of_ble_eq_true rfl) (by rw [LX_len, hn]; show _ < n + 118; omega)
  rw [LX_put han] at q13
  refine r_aload_n (pc := 52) (i := 0) dX11_init_52 rfl 0 rfl ?_
  refine r_newO (pc := 53) (γ := g8) (lvf := fun g => [(0, .ref (g a))]) (stf := fun g => [.ref (g a)]) (n := n + 118) cf_2 (tb_i 512 (by decide +kernel) (by decide +kernel)) (tb_i 513 (by decide +kernel) (by decide +kernel)) (tb_i 148 (by decide +kernel) (by decide +kernel)) (by rw [LX_len, hn]; rfl) q13.1 (fun z => q13.2 _ (by rw [LX_len, hn]; exact Nat.le_refl _) z) (nf_all 2 (by decide)) (fun g h => ⟨by rw [h a (by omega)], by rw [h a (by omega)]⟩) ⟨by decide, by decide⟩ dX11_init_53 (fun g9 h9 => ?_)
  rw [LX_push]
  have q14 := gd_push (q := 0) (n := 2) (m := clN 2) q13
  rw [LX_push] at q14
  have k9 : ∀ z, z < n → g9 z = gA G z := fun z hz => (h9 z (by omega)).trans (k8 z hz)
  refine r_dup (pc := 56) dX11_init_56 rfl ?_
  refine r_callI (pc := 57) (γ := g9) (lvf := fun g => [(0, .ref (g a))]) (stf := fun g => [.ref (g (n + 118)), .ref (g a)]) (b := n + 118) (As := []) (fun _ _ _ _ _ _ _ _ _ h => h) ci_X11_init_40 (kX2_init (G := gS G g9) (a := n + 118) (n := n + 119) (by rw [LX_len, hn]; rfl) (LX_at hn rfl) q14) (fun g h => ⟨by rw [h a (by rw [LX_len, hn]; show _ < n + 119; omega)], by rw [h a (by rw [LX_len, hn]; show _ < n + 119; omega), h (n + 118) (by rw [LX_len, hn]; show _ < n + 119; omega)]⟩) rfl (Nat.le_of_ble_eq_true rfl) ⟨by decide, by decide⟩ dX11_init_57 (fun g10 h10 => ?_)
  rw [LX_LX hn]
  have q15 := oX2_init (a := n + 118) (n := n + 119) (by rw [LX_len, hn]; rfl) (LX_at hn rfl) q14
  rw [LX_LX hn] at q15
  have k10 : ∀ z, z < n → g10 z = gA G z := fun z hz => (h10 z (by rw [LX_len, hn]; show z < n + 119; omega)).trans (k9 z hz)
  refine r_putRF (pc := 60) (γ := g10) (a := a) (b := (n + 118)) fc_11_41 rfl rfl (LX_this han) (Nat.le_of_ble_eq_true rfl) (fun C T h => by rw [cf_own cf_11 h]; rfl) dX11_init_60 ?_
  rw [LX_put han]
  have q16 := gd_ref (a := a) (k := 5) (b := (n + 118)) q15 (LX_this han) (Nat.le_of_ble_eq_true rfl) (by rw [LX_len, hn]; show _ < n + 120; omega)
  rw [LX_put han] at q16
  refine r_aload_n (pc := 63) (i := 0) dX11_init_63 rfl 0 rfl ?_
  refine r_newO (pc := 64) (γ := g10) (lvf := fun g => [(0, .ref (g a))]) (stf := fun g => [.ref (g a)]) (n := n + 120) cf_4 (tb_i 528 (by decide +kernel) (by decide +kernel)) (tb_i 529 (by decide +kernel) (by decide +kernel)) (tb_i 149 (by decide +kernel) (by decide +kernel)) (by rw [LX_len, hn]; rfl) q16.1 (fun z => q16.2 _ (by rw [LX_len, hn]; exact Nat.le_refl _) z) (nf_all 4 (by decide)) (fun g h => ⟨by rw [h a (by omega)], by rw [h a (by omega)]⟩) ⟨by decide, by decide⟩ dX11_init_64 (fun g11 h11 => ?_)
  rw [LX_push]
  have q17 := gd_push (q := 0) (n := 4) (m := clN 4) q16
  rw [LX_push] at q17
  have k11 : ∀ z, z < n → g11 z = gA G z := fun z hz => (h11 z (by omega)).trans (k10 z hz)
  refine r_dup (pc := 67) dX11_init_67 rfl ?_
  refine r_callI (pc := 68) (γ := g11) (lvf := fun g => [(0, .ref (g a))]) (stf := fun g => [.ref (g (n + 120)), .ref (g a)]) (b := n + 120) (As := []) (fun _ _ _ _ _ _ _ _ _ h => h) ci_X11_init_47 (kX4_init (G := gS G g11) (a := n + 120) (n := n + 121) (by rw [LX_len, hn]; rfl) (LX_at hn rfl) q17) (fun g h => ⟨by rw [h a (by rw [LX_len, hn]; show _ < n + 121; omega)], by rw [h a (by rw [LX_len, hn]; show _ < n + 121; omega), h (n + 120) (by rw [LX_len, hn]; show _ < n + 121; omega)]⟩) rfl (Nat.le_of_ble_eq_true rfl) ⟨by decide, by decide⟩ dX11_init_68 (fun g12 h12 => ?_)
  rw [LX_LX hn]
  have q18 := oX4_init (a := n + 120) (n := n + 121) (by rw [LX_len, hn]; rfl) (LX_at hn rfl) q17
  rw [LX_LX hn] at q18
  have k12 : ∀ z, z < n → g12 z = gA G z := fun z hz => (h12 z (by rw [LX_len, hn]; show z < n + 121; omega)).trans (k11 z hz)
  refine r_putRF (pc := 71) (γ := g12) (a := a) (b := (n + 120)) fc_11_48 rfl rfl (LX_this han) (Nat.le_of_ble_eq_true rfl) (fun C T h => by rw [cf_own cf_11 h]; rfl) dX11_init_71 ?_
  rw [LX_put han]
  have q19 := gd_ref (a := a) (k := 6) (b := (n + 120)) q18 (LX_this han) (Nat.le_of_ble_eq_true rfl) (by rw [LX_len, hn]; show _ < n + 126; omega)
  rw [LX_put han] at q19
  refine r_aload_n (pc := 74) (i := 0) dX11_init_74 rfl 0 rfl ?_
  refine r_newO (pc := 75) (γ := g12) (lvf := fun g => [(0, .ref (g a))]) (stf := fun g => [.ref (g a)]) (n := n + 126) cf_10 (tb_i 550 (by decide +kernel) (by decide +kernel)) (tb_i 551 (by decide +kernel) (by decide +kernel)) (tb_i 150 (by decide +kernel) (by decide +kernel)) (by rw [LX_len, hn]; rfl) q19.1 (fun z => q19.2 _ (by rw [LX_len, hn]; exact Nat.le_refl _) z) (nf_all 10 (by decide)) (fun g h => ⟨by rw [h a (by omega)], by rw [h a (by omega)]⟩) ⟨by decide, by decide⟩ dX11_init_75 (fun g13 h13 => ?_)
  rw [LX_push]
  have q20 := gd_push (q := 0) (n := 10) (m := clN 10) q19
  rw [LX_push] at q20
  have k13 : ∀ z, z < n → g13 z = gA G z := fun z hz => (h13 z (by omega)).trans (k12 z hz)
  refine r_dup (pc := 78) dX11_init_78 rfl ?_
  refine r_callI (pc := 79) (γ := g13) (lvf := fun g => [(0, .ref (g a))]) (stf := fun g => [.ref (g (n + 126)), .ref (g a)]) (b := n + 126) (As := []) (fun _ _ _ _ _ _ _ _ _ h => h) ci_X11_init_54 (kX10_init (G := gS G g13) (a := n + 126) (n := n + 127) (by rw [LX_len, hn]; rfl) (LX_at hn rfl) q20) (fun g h => ⟨by rw [h a (by rw [LX_len, hn]; show _ < n + 127; omega)], by rw [h a (by rw [LX_len, hn]; show _ < n + 127; omega), h (n + 126) (by rw [LX_len, hn]; show _ < n + 127; omega)]⟩) rfl (Nat.le_of_ble_eq_true rfl) ⟨by decide, by decide⟩ dX11_init_79 (fun g14 h14 => ?_)
  rw [LX_LX hn]
  have q21 := oX10_init (a := n + 126) (n := n + 127) (by rw [LX_len, hn]; rfl) (LX_at hn rfl) q20
  rw [LX_LX hn] at q21
  have k14 : ∀ z, z < n → g14 z = gA G z := fun z hz => (h14 z (by rw [LX_len, hn]; show z < n + 127; omega)).trans (k13 z hz)
  refine r_putRF (pc := 82) (γ := g14) (a := a) (b := (n + 126)) fc_11_55 rfl rfl (LX_this han) (Nat.le_of_ble_eq_true rfl) (fun C T h => by rw [cf_own cf_11 h]; rfl) dX11_init_82 ?_
  rw [LX_put han]
  have q22 := gd_ref (a := a) (k := 7) (b := (n + 126)) q21 (LX_this han) (Nat.le_of_ble_eq_true rfl) (by rw [LX_len, hn]; show _ < n + 129; omega)
  rw [LX_put han] at q22
  refine r_aload_n (pc := 85) (i := 0) dX11_init_85 rfl 0 rfl ?_
  refine r_newO (pc := 86) (γ := g14) (lvf := fun g => [(0, .ref (g a))]) (stf := fun g => [.ref (g a)]) (n := n + 129) cf_0 (tb_i 564 (by decide +kernel) (by decide +kernel)) (tb_i 565 (by decide +kernel) (by decide +kernel)) (tb_i 151 (by decide +kernel) (by decide +kernel)) (by rw [LX_len, hn]; rfl) q22.1 (fun z => q22.2 _ (by rw [LX_len, hn]; exact Nat.le_refl _) z) (nf_all 0 (by decide)) (fun g h => ⟨by rw [h a (by omega)], by rw [h a (by omega)]⟩) ⟨by decide, by decide⟩ dX11_init_86 (fun g15 h15 => ?_)
  rw [LX_push]
  have q23 := gd_push (q := 0) (n := 0) (m := clN 0) q22
  rw [LX_push] at q23
  have k15 : ∀ z, z < n → g15 z = gA G z := fun z hz => (h15 z (by omega)).trans (k14 z hz)
  refine r_dup (pc := 89) dX11_init_89 rfl ?_
  refine r_callI (pc := 90) (γ := g15) (lvf := fun g => [(0, .ref (g a))]) (stf := fun g => [.ref (g (n + 129)), .ref (g a)]) (b := n + 129) (As := []) (fun _ _ _ _ _ _ _ _ _ h => h) ci_X11_init_61 (kX0_init (G := gS G g15) (a := n + 129) (n := n + 130) (by rw [LX_len, hn]; rfl) (LX_at hn rfl) q23) (fun g h => ⟨by rw [h a (by rw [LX_len, hn]; show _ < n + 130; omega)], by rw [h a (by rw [LX_len, hn]; show _ < n + 130; omega), h (n + 129) (by rw [LX_len, hn]; show _ < n + 130; omega)]⟩) rfl (Nat.le_of_ble_eq_true rfl) ⟨by decide, by decide⟩ dX11_init_90 (fun g16 h16 => ?_)
  rw [LX_LX hn]
  have q24 := oX0_init (a := n + 129) (n := n + 130) (by rw [LX_len, hn]; rfl) (LX_at hn rfl) q23
  rw [LX_LX hn] at q24
  have k16 : ∀ z, z < n → g16 z = gA G z := fun z hz => (h16 z (by rw [LX_len, hn]; show z < n + 130; omega)).trans (k15 z hz)
  refine r_putRF (pc := 93) (γ := g16) (a := a) (b := (n + 129)) fc_11_62 rfl rfl (LX_this han) (Nat.le_of_ble_eq_true rfl) (fun C T h => by rw [cf_own cf_11 h]; rfl) dX11_init_93 ?_
  rw [LX_put han]
  have q25 := gd_ref (a := a) (k := 8) (b := (n + 129)) q24 (LX_this han) (Nat.le_of_ble_eq_true rfl) (by rw [LX_len, hn]; show _ < n + 130; omega)
  rw [LX_put han] at q25
  refine r_iconst (pc := 96) (v := 0) dX11_init_96 (by decide +kernel) ?_
  refine r_istore_n (pc := 97) (i := 1) (lv' := [(1, .int (eI 0)), (0, .ref (g16 a))]) dX11_init_97 rfl (Nat.le_of_ble_eq_true rfl) rfl ?_
  refine r_iload_n (pc := 98) (i := 1) dX11_init_98 rfl 0 rfl ?_
  refine r_iconst (pc := 99) (v := 3) dX11_init_99 (by decide +kernel) ?_
  refine r_icmp_ge (pc := 100) (tgt := 122) dX11_init_100 (by decide) wc_0 wc_3 (fun c => absurd c (by decide)) (fun _ => ?_)
  refine r_aload_n (pc := 103) (i := 0) dX11_init_103 rfl 1 rfl ?_
  refine r_getR (pc := 104) (a := a) (b := (n + 76)) fc_11_16 rfl ⟨_, LX_this han⟩ ⟨_, LX_this han, rfl⟩ dX11_init_104 ?_
  refine r_iload_n (pc := 107) (i := 1) dX11_init_107 rfl 0 rfl ?_
  refine r_newO (pc := 108) (γ := g16) (lvf := fun g => [(1, .int (eI 0)), (0, .ref (g a))]) (stf := fun g => [.int (eI 0), .ref (g (n + 76))]) (n := n + 130) cf_9 (tb_i 166 (by decide +kernel) (by decide +kernel)) (tb_i 167 (by decide +kernel) (by decide +kernel)) (tb_i 140 (by decide +kernel) (by decide +kernel)) (by rw [LX_len, hn]; rfl) q25.1 (fun z => q25.2 _ (by rw [LX_len, hn]; exact Nat.le_refl _) z) (nf_all 9 (by decide)) (fun g h => ⟨by rw [h a (by omega)], by rw [h (n + 76) (by omega)]⟩) ⟨by decide, by decide⟩ dX11_init_108 (fun g17 h17 => ?_)
  rw [LX_push]
  have q26 := gd_push (q := 0) (n := 9) (m := clN 9) q25
  rw [LX_push] at q26
  have k17 : ∀ z, z < n → g17 z = gA G z := fun z hz => (h17 z (by omega)).trans (k16 z hz)
  refine r_dup (pc := 111) dX11_init_111 rfl ?_
  refine r_callI (pc := 112) (γ := g17) (lvf := fun g => [(1, .int (eI 0)), (0, .ref (g a))]) (stf := fun g => [.ref (g (n + 130)), .int (eI 0), .ref (g (n + 76))]) (b := n + 130) (As := []) (fun _ _ _ _ _ _ _ _ _ h => h) ci_X11_init_9 (kX9_init (G := gS G g17) (a := n + 130) (n := n + 131) (by rw [LX_len, hn]; rfl) (LX_at hn rfl) q26) (fun g h => ⟨by rw [h a (by rw [LX_len, hn]; show _ < n + 131; omega)], by rw [h (n + 76) (by rw [LX_len, hn]; show _ < n + 131; omega), h (n + 130) (by rw [LX_len, hn]; show _ < n + 131; omega)]⟩) rfl (Nat.le_of_ble_eq_true rfl) ⟨by decide, by decide⟩ dX11_init_112 (fun g18 h18 => ?_)
  rw [LX_LX hn]
  have q27 := oX9_init (a := n + 130) (n := n + 131) (by rw [LX_len, hn]; rfl) (LX_at hn rfl) q26
  rw [LX_LX hn] at q27
  have k18 : ∀ z, z < n → g18 z = gA G z := fun z hz => (h18 z (by rw [LX_len, hn]; show z < n + 131; omega)).trans (k17 z hz)
  refine r_aast9 (pc := 115) (γ := g18) (a := n + 76) (b := n + 130) (LX_at hn rfl) (LX_at hn rfl) wc_0 ⟨by decide, by decide⟩ rfl (Nat.le_of_ble_eq_true rfl) dX11_init_115 ?_
  rw [LX_set hn]
  have q28 := gd_ref (a := n + 76) (k := 0) (b := n + 130) q27 (LX_at hn rfl) (Nat.le_of_ble_eq_true rfl) (by rw [LX_len, hn]; show _ < n + 206; omega)
  rw [LX_set hn] at q28
  refine r_iinc (pc := 116) (y := 1) (lv' := [(1, .int (eI 1)), (0, .ref (g18 a))]) dX11_init_116 0 rfl (by decide) (Nat.le_of_ble_eq_true rfl) rfl ?_
  refine r_goto (pc := 119) (tgt := 98) dX11_init_119 (by decide) ?_
  refine r_iload_n (pc := 98) (i := 1) dX11_init_98 rfl 0 rfl ?_
  refine r_iconst (pc := 99) (v := 3) dX11_init_99 (by decide +kernel) ?_
  refine r_icmp_ge (pc := 100) (tgt := 122) dX11_init_100 (by decide) wc_1 wc_3 (fun c => absurd c (by decide)) (fun _ => ?_)
  refine r_aload_n (pc := 103) (i := 0) dX11_init_103 rfl 1 rfl ?_
  refine r_getR (pc := 104) (a := a) (b := (n + 76)) fc_11_16 rfl ⟨_, LX_this han⟩ ⟨_, LX_this han, rfl⟩ dX11_init_104 ?_
  refine r_iload_n (pc := 107) (i := 1) dX11_init_107 rfl 0 rfl ?_
  refine r_newO (pc := 108) (γ := g18) (lvf := fun g => [(1, .int (eI 1)), (0, .ref (g a))]) (stf := fun g => [.int (eI 1), .ref (g (n + 76))]) (n := n + 206) cf_9 (tb_i 166 (by decide +kernel) (by decide +kernel)) (tb_i 167 (by decide +kernel) (by decide +kernel)) (tb_i 140 (by decide +kernel) (by decide +kernel)) (by rw [LX_len, hn]; rfl) q28.1 (fun z => q28.2 _ (by rw [LX_len, hn]; exact Nat.le_refl _) z) (nf_all 9 (by decide)) (fun g h => ⟨by rw [h a (by omega)], by rw [h (n + 76) (by omega)]⟩) ⟨by decide, by decide⟩ dX11_init_108 (fun g19 h19 => ?_)
  rw [LX_push]
  have q29 := gd_push (q := 0) (n := 9) (m := clN 9) q28
  rw [LX_push] at q29
  have k19 : ∀ z, z < n → g19 z = gA G z := fun z hz => (h19 z (by omega)).trans (k18 z hz)
  refine r_dup (pc := 111) dX11_init_111 rfl ?_
  refine r_callI (pc := 112) (γ := g19) (lvf := fun g => [(1, .int (eI 1)), (0, .ref (g a))]) (stf := fun g => [.ref (g (n + 206)), .int (eI 1), .ref (g (n + 76))]) (b := n + 206) (As := []) (fun _ _ _ _ _ _ _ _ _ h => h) ci_X11_init_9 (kX9_init (G := gS G g19) (a := n + 206) (n := n + 207) (by rw [LX_len, hn]; rfl) (LX_at hn rfl) q29) (fun g h => ⟨by rw [h a (by rw [LX_len, hn]; show _ < n + 207; omega)], by rw [h (n + 76) (by rw [LX_len, hn]; show _ < n + 207; omega), h (n + 206) (by rw [LX_len, hn]; show _ < n + 207; omega)]⟩) rfl (Nat.le_of_ble_eq_true rfl) ⟨by decide, by decide⟩ dX11_init_112 (fun g20 h20 => ?_)
  rw [LX_LX hn]
  have q30 := oX9_init (a := n + 206) (n := n + 207) (by rw [LX_len, hn]; rfl) (LX_at hn rfl) q29
  rw [LX_LX hn] at q30
  have k20 : ∀ z, z < n → g20 z = gA G z := fun z hz => (h20 z (by rw [LX_len, hn]; show z < n + 207; omega)).trans (k19 z hz)
  refine r_aast9 (pc := 115) (γ := g20) (a := n + 76) (b := n + 206) (LX_at hn rfl) (LX_at hn rfl) wc_1 ⟨by decide, by decide⟩ rfl (Nat.le_of_ble_eq_true rfl) dX11_init_115 ?_
  rw [LX_set hn]
  have q31 := gd_ref (a := n + 76) (k := 1) (b := n + 206) q30 (LX_at hn rfl) (Nat.le_of_ble_eq_true rfl) (by rw [LX_len, hn]; show _ < n + 282; omega)
  rw [LX_set hn] at q31
  refine r_iinc (pc := 116) (y := 2) (lv' := [(1, .int (eI 2)), (0, .ref (g20 a))]) dX11_init_116 0 rfl (by decide) (Nat.le_of_ble_eq_true rfl) rfl ?_
  refine r_goto (pc := 119) (tgt := 98) dX11_init_119 (by decide) ?_
  refine r_iload_n (pc := 98) (i := 1) dX11_init_98 rfl 0 rfl ?_
  refine r_iconst (pc := 99) (v := 3) dX11_init_99 (by decide +kernel) ?_
  refine r_icmp_ge (pc := 100) (tgt := 122) dX11_init_100 (by decide) wc_2 wc_3 (fun c => absurd c (by decide)) (fun _ => ?_)
  refine r_aload_n (pc := 103) (i := 0) dX11_init_103 rfl 1 rfl ?_
  refine r_getR (pc := 104) (a := a) (b := (n + 76)) fc_11_16 rfl ⟨_, LX_this han⟩ ⟨_, LX_this han, rfl⟩ dX11_init_104 ?_
  refine r_iload_n (pc := 107) (i := 1) dX11_init_107 rfl 0 rfl ?_
  refine r_newO (pc := 108) (γ := g20) (lvf := fun g => [(1, .int (eI 2)), (0, .ref (g a))]) (stf := fun g => [.int (eI 2), .ref (g (n + 76))]) (n := n + 282) cf_9 (tb_i 166 (by decide +kernel) (by decide +kernel)) (tb_i 167 (by decide +kernel) (by decide +kernel)) (tb_i 140 (by decide +kernel) (by decide +kernel)) (by rw [LX_len, hn]; rfl) q31.1 (fun z => q31.2 _ (by rw [LX_len, hn]; exact Nat.le_refl _) z) (nf_all 9 (by decide)) (fun g h => ⟨by rw [h a (by omega)], by rw [h (n + 76) (by omega)]⟩) ⟨by decide, by decide⟩ dX11_init_108 (fun g21 h21 => ?_)
  rw [LX_push]
  have q32 := gd_push (q := 0) (n := 9) (m := clN 9) q31
  rw [LX_push] at q32
  have k21 : ∀ z, z < n → g21 z = gA G z := fun z hz => (h21 z (by omega)).trans (k20 z hz)
  refine r_dup (pc := 111) dX11_init_111 rfl ?_
  refine r_callI (pc := 112) (γ := g21) (lvf := fun g => [(1, .int (eI 2)), (0, .ref (g a))]) (stf := fun g => [.ref (g (n + 282)), .int (eI 2), .ref (g (n + 76))]) (b := n + 282) (As := []) (fun _ _ _ _ _ _ _ _ _ h => h) ci_X11_init_9 (kX9_init (G := gS G g21) (a := n + 282) (n := n + 283) (by rw [LX_len, hn]; rfl) (LX_at hn rfl) q32) (fun g h => ⟨by rw [h a (by rw [LX_len, hn]; show _ < n + 283; omega)], by rw [h (n + 76) (by rw [LX_len, hn]; show _ < n + 283; omega), h (n + 282) (by rw [LX_len, hn]; show _ < n + 283; omega)]⟩) rfl (Nat.le_of_ble_eq_true rfl) ⟨by decide, by decide⟩ dX11_init_112 (fun g22 h22 => ?_)
  rw [LX_LX hn]
  have q33 := oX9_init (a := n + 282) (n := n + 283) (by rw [LX_len, hn]; rfl) (LX_at hn rfl) q32
  rw [LX_LX hn] at q33
  have k22 : ∀ z, z < n → g22 z = gA G z := fun z hz => (h22 z (by rw [LX_len, hn]; show z < n + 283; omega)).trans (k21 z hz)
  refine r_aast9 (pc := 115) (γ := g22) (a := n + 76) (b := n + 282) (LX_at hn rfl) (LX_at hn rfl) wc_2 ⟨by decide, by decide⟩ rfl (Nat.le_of_ble_eq_true rfl) dX11_init_115 ?_
  rw [LX_set hn]
  have q34 := gd_ref (a := n + 76) (k := 2) (b := n + 282) q33 (LX_at hn rfl) (Nat.le_of_ble_eq_true rfl) (by rw [LX_len, hn]; show _ < n + 358; omega)
  rw [LX_set hn] at q34
  refine r_iinc (pc := 116) (y := 3) (lv' := [(1, .int (eI 3)), (0, .ref (g22 a))]) dX11_init_116 0 rfl (by decide) (Nat.le_of_ble_eq_true rfl) rfl ?_
  refine r_goto (pc := 119) (tgt := 98) dX11_init_119 (by decide) ?_
  refine r_iload_n (pc := 98) (i := 1) dX11_init_98 rfl 0 rfl ?_
  refine r_iconst (pc := 99) (v := 3) dX11_init_99 (by decide +kernel) ?_
  refine r_icmp_ge (pc := 100) (tgt := 122) dX11_init_100 (by decide) wc_3 wc_3 (fun _ => ?_) (fun c => absurd (by decide) c)
  exact r_vretI (pc := 122) (γ := g22) k22 rfl (by decide) (by decide) dX11_init_122
theorem wc_2400 : wI 2400 = 2400 := by decide +kernel
theorem fc_12_7 : FG RX12 7 12 1 (clT 12 1) true := ⟨RX12, TX12, cf_12, by decide, tb_i 1406 (by decide +kernel) (by decide +kernel), rfl, rfl, rfl⟩
theorem fc_12_13 : FG RX12 13 12 2 (clT 12 2) true := ⟨RX12, TX12, cf_12, by decide, tb_i 1407 (by decide +kernel) (by decide +kernel), rfl, rfl, rfl⟩
theorem fc_12_17 : FG RX12 17 12 3 (clT 12 3) true := ⟨RX12, TX12, cf_12, by decide, tb_i 1408 (by decide +kernel) (by decide +kernel), rfl, rfl, rfl⟩
theorem fc_12_20 : FG RX12 20 12 4 (clT 12 4) true := ⟨RX12, TX12, cf_12, by decide, tb_i 1409 (by decide +kernel) (by decide +kernel), rfl, rfl, rfl⟩
theorem wc_20 : wI 20 = 20 := by decide +kernel
theorem fc_12_23 : FG RX12 23 12 5 (clT 12 5) true := ⟨RX12, TX12, cf_12, by decide, tb_i 1410 (by decide +kernel) (by decide +kernel), rfl, rfl, rfl⟩
theorem wc_1056 : wI 1056 = 1056 := by decide +kernel
theorem fc_12_26 : FG RX12 26 12 6 (clT 12 6) true := ⟨RX12, TX12, cf_12, by decide, tb_i 1411 (by decide +kernel) (by decide +kernel), rfl, rfl, rfl⟩
theorem wc_968 : wI 968 = 968 := by decide +kernel
theorem fc_12_29 : FG RX12 29 12 7 (clT 12 7) true := ⟨RX12, TX12, cf_12, by decide, tb_i 1412 (by decide +kernel) (by decide +kernel), rfl, rfl, rfl⟩
theorem wc_264 : wI 264 = 264 := by decide +kernel
theorem fc_12_32 : FG RX12 32 12 8 (clT 12 8) true := ⟨RX12, TX12, cf_12, by decide, tb_i 1413 (by decide +kernel) (by decide +kernel), rfl, rfl, rfl⟩
theorem wc_408 : wI 408 = 408 := by decide +kernel
theorem fc_12_35 : FG RX12 35 12 9 (clT 12 9) true := ⟨RX12, TX12, cf_12, by decide, tb_i 1414 (by decide +kernel) (by decide +kernel), rfl, rfl, rfl⟩
theorem wc_776 : wI 776 = 776 := by decide +kernel
theorem fc_12_38 : FG RX12 38 12 10 (clT 12 10) true := ⟨RX12, TX12, cf_12, by decide, tb_i 1415 (by decide +kernel) (by decide +kernel), rfl, rfl, rfl⟩
theorem wc_132 : wI 132 = 132 := by decide +kernel
theorem fc_12_41 : FG RX12 41 12 20 (clT 12 20) true := ⟨RX12, TX12, cf_12, by decide, tb_i 1425 (by decide +kernel) (by decide +kernel), rfl, rfl, rfl⟩
theorem fc_12_44 : FG RX12 44 12 21 (clT 12 21) true := ⟨RX12, TX12, cf_12, by decide, tb_i 1426 (by decide +kernel) (by decide +kernel), rfl, rfl, rfl⟩
theorem fc_12_47 : FG RX12 47 12 40 (clT 12 40) true := ⟨RX12, TX12, cf_12, by decide, tb_i 1445 (by decide +kernel) (by decide +kernel), rfl, rfl, rfl⟩
theorem fc_12_50 : FG RX12 50 12 41 (clT 12 41) true := ⟨RX12, TX12, cf_12, by decide, tb_i 1446 (by decide +kernel) (by decide +kernel), rfl, rfl, rfl⟩
theorem wc_40 : wI 40 = 40 := by decide +kernel
theorem fc_12_53 : FG RX12 53 12 42 (clT 12 42) true := ⟨RX12, TX12, cf_12, by decide, tb_i 1447 (by decide +kernel) (by decide +kernel), rfl, rfl, rfl⟩
theorem fc_12_56 : FG RX12 56 12 43 (clT 12 43) true := ⟨RX12, TX12, cf_12, by decide, tb_i 1448 (by decide +kernel) (by decide +kernel), rfl, rfl, rfl⟩
theorem fc_12_59 : FG RX12 59 12 44 (clT 12 44) true := ⟨RX12, TX12, cf_12, by decide, tb_i 1449 (by decide +kernel) (by decide +kernel), rfl, rfl, rfl⟩
theorem fc_12_62 : FG RX12 62 12 45 (clT 12 45) true := ⟨RX12, TX12, cf_12, by decide, tb_i 1450 (by decide +kernel) (by decide +kernel), rfl, rfl, rfl⟩
theorem fc_12_65 : FG RX12 65 12 47 (clT 12 47) true := ⟨RX12, TX12, cf_12, by decide, tb_i 1452 (by decide +kernel) (by decide +kernel), rfl, rfl, rfl⟩
theorem wc_542 : wI 542 = 542 := by decide +kernel
theorem fc_12_69 : FG RX12 69 12 49 (clT 12 49) true := ⟨RX12, TX12, cf_12, by decide, tb_i 1454 (by decide +kernel) (by decide +kernel), rfl, rfl, rfl⟩
theorem fc_12_72 : FG RX12 72 12 50 (clT 12 50) true := ⟨RX12, TX12, cf_12, by decide, tb_i 1455 (by decide +kernel) (by decide +kernel), rfl, rfl, rfl⟩
theorem fc_12_75 : FG RX12 75 12 51 (clT 12 51) true := ⟨RX12, TX12, cf_12, by decide, tb_i 1456 (by decide +kernel) (by decide +kernel), rfl, rfl, rfl⟩
theorem fc_12_78 : FG RX12 78 12 52 (clT 12 52) true := ⟨RX12, TX12, cf_12, by decide, tb_i 1457 (by decide +kernel) (by decide +kernel), rfl, rfl, rfl⟩
theorem fc_12_81 : FG RX12 81 12 57 (clT 12 57) true := ⟨RX12, TX12, cf_12, by decide, tb_i 1462 (by decide +kernel) (by decide +kernel), rfl, rfl, rfl⟩
theorem fc_12_84 : FG RX12 84 12 59 (clT 12 59) true := ⟨RX12, TX12, cf_12, by decide, tb_i 1464 (by decide +kernel) (by decide +kernel), rfl, rfl, rfl⟩
theorem fc_12_87 : FG RX12 87 12 61 (clT 12 61) true := ⟨RX12, TX12, cf_12, by decide, tb_i 1466 (by decide +kernel) (by decide +kernel), rfl, rfl, rfl⟩
theorem fc_12_90 : FG RX12 90 12 62 (clT 12 62) true := ⟨RX12, TX12, cf_12, by decide, tb_i 1467 (by decide +kernel) (by decide +kernel), rfl, rfl, rfl⟩
theorem fc_12_93 : FG RX12 93 12 67 (clT 12 67) true := ⟨RX12, TX12, cf_12, by decide, tb_i 1472 (by decide +kernel) (by decide +kernel), rfl, rfl, rfl⟩
abbrev xX12_init : XX := (yX12_init, cX12_init, 1, none, 1, 20, 28, 7868)
def eX12_init (a n : Nat) : LE := (0, 12, [none, some (n + 0), some (n + 1), some (n + 2), some (n + 3), some (n + 4), some (n + 5), some (n + 6), some (n + 7), some (n + 8), some (n + 9), none, none, none, none, none, none, none, none, none, some (n + 10), some (n + 11), none, none, none, none, none, none, none, none, none, none, none, none, none, none, none, none, none, none, some (n + 12), some (n + 13), some (n + 14), some (n + 15), some (n + 16), some (n + 17), none, some (n + 18), none, some (n + 19), some (n + 20), some (n + 21), some (n + 22), none, none, none, none, some (n + 23), none, some (n + 24), none, some (n + 25), some (n + 26), none, none, none, none, some (n + 27)])
def sX12_init (a n : Nat) : List LE := [(3, 2400, []), (1, 4, []), (1, 4, []), (1, 4, []), (1, 20, []), (1, 1056, []), (1, 968, []), (1, 264, []), (1, 408, []), (1, 776, []), (1, 132, []), (1, 4, []), (1, 5, []), (1, 32, []), (1, 40, []), (1, 40, []), (1, 40, []), (1, 40, []), (2, 8, []), (2, 542, []), (2, 542, []), (2, 8, []), (1, 8, []), (2, 496, []), (1, 8, []), (1, 8, []), (1, 8, []), (4, 3, [])]
def mX12_init (M : MM) (a n : Nat) : MM := (mU M (n + 3) 0 (-1))
theorem oX12_init {L : List LE} {M : MM} {a n : Nat} (hn : L.length = n) (ha : L[a]? = some (0, 12, List.replicate (clN 12) none)) (hg : gd L M) : gd (LX L a (eX12_init a n) (sX12_init a n)) (mX12_init M a n) := by
  have han : a < L.length := (List.getElem?_eq_some_iff.mp ha).1
  have han2 : a < n := by omega
  have q0 : gd (LX L a (0, 12, List.replicate (clN 12) none) []) M := by rw [LX_start ha]; exact hg
  have q1 := gd_nil (q := 3) (n := 2400) q0
  rw [LX_push] at q1
  have q2 := gd_ref (a := a) (k := 1) (b := (n + 0)) q1 (LX_this han) (Nat.le_of_ble_eq_true rfl) (by rw [LX_len, hn]; show _ < n + 1; omega)
  rw [LX_put han] at q2
  have q3 := gd_nil (q := 1) (n := 4) q2
  rw [LX_push] at q3
  have q4 := gd_ref (a := a) (k := 2) (b := (n + 1)) q3 (LX_this han) (Nat.le_of_ble_eq_true rfl) (by rw [LX_len, hn]; show _ < n + 2; omega)
  rw [LX_put han] at q4
  have q5 := gd_nil (q := 1) (n := 4) q4
  rw [LX_push] at q5
  have q6 := gd_ref (a := a) (k := 3) (b := (n + 2)) q5 (LX_this han) (Nat.le_of_ble_eq_true rfl) (by rw [LX_len, hn]; show _ < n + 3; omega)
  rw [LX_put han] at q6
  have q7 := gd_nil (q := 1) (n := 4) q6
  rw [LX_push] at q7
  have q8 := gd_ref (a := a) (k := 4) (b := (n + 3)) q7 (LX_this han) (Nat.le_of_ble_eq_true rfl) (by rw [LX_len, hn]; show _ < n + 4; omega)
  rw [LX_put han] at q8
  have q9 := gd_nil (q := 1) (n := 20) q8
  rw [LX_push] at q9
  have q10 := gd_ref (a := a) (k := 5) (b := (n + 4)) q9 (LX_this han) (Nat.le_of_ble_eq_true rfl) (by rw [LX_len, hn]; show _ < n + 5; omega)
  rw [LX_put han] at q10
  have q11 := gd_nil (q := 1) (n := 1056) q10
  rw [LX_push] at q11
  have q12 := gd_ref (a := a) (k := 6) (b := (n + 5)) q11 (LX_this han) (Nat.le_of_ble_eq_true rfl) (by rw [LX_len, hn]; show _ < n + 6; omega)
  rw [LX_put han] at q12
  have q13 := gd_nil (q := 1) (n := 968) q12
  rw [LX_push] at q13
  have q14 := gd_ref (a := a) (k := 7) (b := (n + 6)) q13 (LX_this han) (Nat.le_of_ble_eq_true rfl) (by rw [LX_len, hn]; show _ < n + 7; omega)
  rw [LX_put han] at q14
  have q15 := gd_nil (q := 1) (n := 264) q14
  rw [LX_push] at q15
  have q16 := gd_ref (a := a) (k := 8) (b := (n + 7)) q15 (LX_this han) (Nat.le_of_ble_eq_true rfl) (by rw [LX_len, hn]; show _ < n + 8; omega)
  rw [LX_put han] at q16
  have q17 := gd_nil (q := 1) (n := 408) q16
  rw [LX_push] at q17
  have q18 := gd_ref (a := a) (k := 9) (b := (n + 8)) q17 (LX_this han) (Nat.le_of_ble_eq_true rfl) (by rw [LX_len, hn]; show _ < n + 9; omega)
  rw [LX_put han] at q18
  have q19 := gd_nil (q := 1) (n := 776) q18
  rw [LX_push] at q19
  have q20 := gd_ref (a := a) (k := 10) (b := (n + 9)) q19 (LX_this han) (Nat.le_of_ble_eq_true rfl) (by rw [LX_len, hn]; show _ < n + 10; omega)
  rw [LX_put han] at q20
  have q21 := gd_nil (q := 1) (n := 132) q20
  rw [LX_push] at q21
  have q22 := gd_ref (a := a) (k := 20) (b := (n + 10)) q21 (LX_this han) (Nat.le_of_ble_eq_true rfl) (by rw [LX_len, hn]; show _ < n + 11; omega)
  rw [LX_put han] at q22
  have q23 := gd_nil (q := 1) (n := 4) q22
  rw [LX_push] at q23
  have q24 := gd_ref (a := a) (k := 21) (b := (n + 11)) q23 (LX_this han) (Nat.le_of_ble_eq_true rfl) (by rw [LX_len, hn]; show _ < n + 12; omega)
  rw [LX_put han] at q24
  have q25 := gd_nil (q := 1) (n := 5) q24
  rw [LX_push] at q25
  have q26 := gd_ref (a := a) (k := 40) (b := (n + 12)) q25 (LX_this han) (Nat.le_of_ble_eq_true rfl) (by rw [LX_len, hn]; show _ < n + 13; omega)
  rw [LX_put han] at q26
  have q27 := gd_nil (q := 1) (n := 32) q26
  rw [LX_push] at q27
  have q28 := gd_ref (a := a) (k := 41) (b := (n + 13)) q27 (LX_this han) (Nat.le_of_ble_eq_true rfl) (by rw [LX_len, hn]; show _ < n + 14; omega)
  rw [LX_put han] at q28
  have q29 := gd_nil (q := 1) (n := 40) q28
  rw [LX_push] at q29
  have q30 := gd_ref (a := a) (k := 42) (b := (n + 14)) q29 (LX_this han) (Nat.le_of_ble_eq_true rfl) (by rw [LX_len, hn]; show _ < n + 15; omega)
  rw [LX_put han] at q30
  have q31 := gd_nil (q := 1) (n := 40) q30
  rw [LX_push] at q31
  have q32 := gd_ref (a := a) (k := 43) (b := (n + 15)) q31 (LX_this han) (Nat.le_of_ble_eq_true rfl) (by rw [LX_len, hn]; show _ < n + 16; omega)
  rw [LX_put han] at q32
  have q33 := gd_nil (q := 1) (n := 40) q32
  rw [LX_push] at q33
  have q34 := gd_ref (a := a) (k := 44) (b := (n + 16)) q33 (LX_this han) (Nat.le_of_ble_eq_true rfl) (by rw [LX_len, hn]; show _ < n + 17; omega)
  rw [LX_put han] at q34
  have q35 := gd_nil (q := 1) (n := 40) q34
  rw [LX_push] at q35
  have q36 := gd_ref (a := a) (k := 45) (b := (n + 17)) q35 (LX_this han) (Nat.le_of_ble_eq_true rfl) (by rw [LX_len, hn]; show _ < n + 18; omega)
  rw [LX_put han] at q36
  have q37 := gd_nil (q := 2) (n := 8) q36
  rw [LX_push] at q37
  have q38 := gd_ref (a := a) (k := 47) (b := (n + 18)) q37 (LX_this han) (Nat.le_of_ble_eq_true rfl) (by rw [LX_len, hn]; show _ < n + 19; omega)
  rw [LX_put han] at q38
  have q39 := gd_nil (q := 2) (n := 542) q38
  rw [LX_push] at q39
  have q40 := gd_ref (a := a) (k := 49) (b := (n + 19)) q39 (LX_this han) (Nat.le_of_ble_eq_true rfl) (by rw [LX_len, hn]; show _ < n + 20; omega)
  rw [LX_put han] at q40
  have q41 := gd_nil (q := 2) (n := 542) q40
  rw [LX_push] at q41
  have q42 := gd_ref (a := a) (k := 50) (b := (n + 20)) q41 (LX_this han) (Nat.le_of_ble_eq_true rfl) (by rw [LX_len, hn]; show _ < n + 21; omega)
  rw [LX_put han] at q42
  have q43 := gd_nil (q := 2) (n := 8) q42
  rw [LX_push] at q43
  have q44 := gd_ref (a := a) (k := 51) (b := (n + 21)) q43 (LX_this han) (Nat.le_of_ble_eq_true rfl) (by rw [LX_len, hn]; show _ < n + 22; omega)
  rw [LX_put han] at q44
  have q45 := gd_nil (q := 1) (n := 8) q44
  rw [LX_push] at q45
  have q46 := gd_ref (a := a) (k := 52) (b := (n + 22)) q45 (LX_this han) (Nat.le_of_ble_eq_true rfl) (by rw [LX_len, hn]; show _ < n + 23; omega)
  rw [LX_put han] at q46
  have q47 := gd_nil (q := 2) (n := 496) q46
  rw [LX_push] at q47
  have q48 := gd_ref (a := a) (k := 57) (b := (n + 23)) q47 (LX_this han) (Nat.le_of_ble_eq_true rfl) (by rw [LX_len, hn]; show _ < n + 24; omega)
  rw [LX_put han] at q48
  have q49 := gd_nil (q := 1) (n := 8) q48
  rw [LX_push] at q49
  have q50 := gd_ref (a := a) (k := 59) (b := (n + 24)) q49 (LX_this han) (Nat.le_of_ble_eq_true rfl) (by rw [LX_len, hn]; show _ < n + 25; omega)
  rw [LX_put han] at q50
  have q51 := gd_nil (q := 1) (n := 8) q50
  rw [LX_push] at q51
  have q52 := gd_ref (a := a) (k := 61) (b := (n + 25)) q51 (LX_this han) (Nat.le_of_ble_eq_true rfl) (by rw [LX_len, hn]; show _ < n + 26; omega)
  rw [LX_put han] at q52
  have q53 := gd_nil (q := 1) (n := 8) q52
  rw [LX_push] at q53
  have q54 := gd_ref (a := a) (k := 62) (b := (n + 26)) q53 (LX_this han) (Nat.le_of_ble_eq_true rfl) (by rw [LX_len, hn]; show _ < n + 27; omega)
  rw [LX_put han] at q54
  have q55 := gd_nil (q := 4) (n := 3) q54
  rw [LX_push] at q55
  have q56 := gd_ref (a := a) (k := 67) (b := (n + 27)) q55 (LX_this han) (Nat.le_of_ble_eq_true rfl) (by rw [LX_len, hn]; show _ < n + 28; omega)
  rw [LX_put han] at q56
  have q57 := gd_mU (a := n + 3) (k := 0) (x := (-1)) q56 (by rw [LX_len, hn]; show _ < n + 28; omega)
  exact q57
set_option maxHeartbeats 8000000 in
set_option maxRecDepth 100000 in
theorem kX12_init {G : GG} {L : List LE} {M : MM} {a n : Nat} (hn : L.length = n) (ha : L[a]? = some (0, 12, List.replicate (clN 12) none)) (hg : gd L M) : CI G xX12_init [.ref (gA G a)] L M (LX L a (eX12_init a n) (sX12_init a n)) (mX12_init M a n) := by
  have han : a < L.length := (List.getElem?_eq_some_iff.mp ha).1
  have han2 : a < n := by omega
  have q0 : gd (LX L a (0, 12, List.replicate (clN 12) none) []) M := by rw [LX_start ha]; exact hg
  refine CI_of (by decide +kernel) (Nat.le_of_ble_eq_true rfl) ?_
  rw [hn]
  obtain ⟨γ, hγ⟩ : ∃ γ, γ = gA G := ⟨_, rfl⟩
  have K : VV (gS G γ) xX12_init (ZI G xX12_init n (LX L a (eX12_init a n) (sX12_init a n)) (mX12_init M a n)) (LX L a (0, 12, List.replicate (clN 12) none) []) M 0 0 0 [(0, .ref (γ a))] [] := ?_
  · rw [LX_start ha, hγ] at K; exact K
  refine r_aload_n (pc := 0) (i := 0) dX12_init_0 rfl 0 rfl ?_
  refine r_objI (pc := 1) (tb_i 1404 (by decide +kernel) (by decide +kernel)) (tb_i 164 (by decide +kernel) (by decide +kernel)) (tb_i 165 (by decide +kernel) (by decide +kernel)) ⟨Nat.le_of_ble_eq_true rfl, Nat.le_of_ble_eq_true rfl⟩ dX12_init_1 ?_
  refine r_aload_n (pc := 4) (i := 0) dX12_init_4 rfl 0 rfl ?_
  refine r_sipush (pc := 5) (v := 2400) dX12_init_5 (by decide +kernel) ?_
  refine r_newA3 (pc := 8) (γ := γ) (lvf := fun g => [(0, .ref (g a))]) (stf := fun g => [.ref (g a)]) (n := n + 0) (N := 2400) (tb_i 276 (by decide +kernel) (by decide +kernel)) wc_2400 rfl (by decide) (by rw [LX_len, hn]; rfl) q0.1 (fun z => q0.2 _ (by rw [LX_len, hn]; exact Nat.le_refl _) z) (fun g h => ⟨by rw [h a (by omega)], by rw [h a (by omega)]⟩) ⟨by decide, by decide⟩ dX12_init_8 (fun g1 h1 => ?_)
  rw [LX_push]
  have q1 := gd_nil (q := 3) (n := 2400) q0
  rw [LX_push] at q1
  have k1 : ∀ z, z < n → g1 z = gA G z := fun z hz => (h1 z (by omega)).trans (by rw [hγ])
  refine r_putRF (pc := 10) (γ := g1) (a := a) (b := (n + 0)) fc_12_7 rfl rfl (LX_this han) (Nat.le_of_ble_eq_true rfl) (fun C T h => by rw [cf_own cf_12 h]; rfl) dX12_init_10 ?_
  rw [LX_put han]
  have q2 := gd_ref (a := a) (k := 1) (b := (n + 0)) q1 (LX_this han) (Nat.le_of_ble_eq_true rfl) (by rw [LX_len, hn]; show _ < n + 1; omega)
  rw [LX_put han] at q2
  refine r_aload_n (pc := 13) (i := 0) dX12_init_13 rfl 0 rfl ?_
  refine r_iconst (pc := 14) (v := 4) dX12_init_14 (by decide +kernel) ?_
  refine r_newA1 (pc := 15) (γ := g1) (lvf := fun g => [(0, .ref (g a))]) (stf := fun g => [.ref (g a)]) (n := n + 1) (N := 4) (tb_i 277 (by decide +kernel) (by decide +kernel)) wc_4 rfl (by decide) (by rw [LX_len, hn]; rfl) q2.1 (fun z => q2.2 _ (by rw [LX_len, hn]; exact Nat.le_refl _) z) (fun g h => ⟨by rw [h a (by omega)], by rw [h a (by omega)]⟩) ⟨by decide, by decide⟩ dX12_init_15 (fun g2 h2 => ?_)
  rw [LX_push]
  have q3 := gd_nil (q := 1) (n := 4) q2
  rw [LX_push] at q3
  have k2 : ∀ z, z < n → g2 z = gA G z := fun z hz => (h2 z (by omega)).trans (k1 z hz)
  refine r_putRF (pc := 17) (γ := g2) (a := a) (b := (n + 1)) fc_12_13 rfl rfl (LX_this han) (Nat.le_of_ble_eq_true rfl) (fun C T h => by rw [cf_own cf_12 h]; rfl) dX12_init_17 ?_
  rw [LX_put han]
  have q4 := gd_ref (a := a) (k := 2) (b := (n + 1)) q3 (LX_this han) (Nat.le_of_ble_eq_true rfl) (by rw [LX_len, hn]; show _ < n + 2; omega)
  rw [LX_put han] at q4
  refine r_aload_n (pc := 20) (i := 0) dX12_init_20 rfl 0 rfl ?_
  refine r_iconst (pc := 21) (v := 4) dX12_init_21 (by decide +kernel) ?_
  refine r_newA1 (pc := 22) (γ := g2) (lvf := fun g => [(0, .ref (g a))]) (stf := fun g => [.ref (g a)]) (n := n + 2) (N := 4) (tb_i 277 (by decide +kernel) (by decide +kernel)) wc_4 rfl (by decide) (by rw [LX_len, hn]; rfl) q4.1 (fun z => q4.2 _ (by rw [LX_len, hn]; exact Nat.le_refl _) z) (fun g h => ⟨by rw [h a (by omega)], by rw [h a (by omega)]⟩) ⟨by decide, by decide⟩ dX12_init_22 (fun g3 h3 => ?_)
  rw [LX_push]
  have q5 := gd_nil (q := 1) (n := 4) q4
  rw [LX_push] at q5
  have k3 : ∀ z, z < n → g3 z = gA G z := fun z hz => (h3 z (by omega)).trans (k2 z hz)
  refine r_putRF (pc := 24) (γ := g3) (a := a) (b := (n + 2)) fc_12_17 rfl rfl (LX_this han) (Nat.le_of_ble_eq_true rfl) (fun C T h => by rw [cf_own cf_12 h]; rfl) dX12_init_24 ?_
  rw [LX_put han]
  have q6 := gd_ref (a := a) (k := 3) (b := (n + 2)) q5 (LX_this han) (Nat.le_of_ble_eq_true rfl) (by rw [LX_len, hn]; show _ < n + 3; omega)
  rw [LX_put han] at q6
  refine r_aload_n (pc := 27) (i := 0) dX12_init_27 rfl 0 rfl ?_
  refine r_iconst (pc := 28) (v := 4) dX12_init_28 (by decide +kernel) ?_
  refine r_newA1 (pc := 29) (γ := g3) (lvf := fun g => [(0, .ref (g a))]) (stf := fun g => [.ref (g a)]) (n := n + 3) (N := 4) (tb_i 277 (by decide +kernel) (by decide +kernel)) wc_4 rfl (by decide) (by rw [LX_len, hn]; rfl) q6.1 (fun z => q6.2 _ (by rw [LX_len, hn]; exact Nat.le_refl _) z) (fun g h => ⟨by rw [h a (by omega)], by rw [h a (by omega)]⟩) ⟨by decide, by decide⟩ dX12_init_29 (fun g4 h4 => ?_)
  rw [LX_push]
  have q7 := gd_nil (q := 1) (n := 4) q6
  rw [LX_push] at q7
  have k4 : ∀ z, z < n → g4 z = gA G z := fun z hz => (h4 z (by omega)).trans (k3 z hz)
  refine r_putRF (pc := 31) (γ := g4) (a := a) (b := (n + 3)) fc_12_20 rfl rfl (LX_this han) (Nat.le_of_ble_eq_true rfl) (fun C T h => by rw [cf_own cf_12 h]; rfl) dX12_init_31 ?_
  rw [LX_put han]
  have q8 := gd_ref (a := a) (k := 4) (b := (n + 3)) q7 (LX_this han) (Nat.le_of_ble_eq_true rfl) (by rw [LX_len, hn]; show _ < n + 4; omega)
  rw [LX_put han] at q8
  refine r_aload_n (pc := 34) (i := 0) dX12_init_34 rfl 0 rfl ?_
  refine r_bipush (pc := 35) (v := 20) dX12_init_35 (by decide +kernel) ?_
  refine r_newA1 (pc := 37) (γ := g4) (lvf := fun g => [(0, .ref (g a))]) (stf := fun g => [.ref (g a)]) (n := n + 4) (N := 20) (tb_i 277 (by decide +kernel) (by decide +kernel)) wc_20 rfl (by decide) (by rw [LX_len, hn]; rfl) q8.1 (fun z => q8.2 _ (by rw [LX_len, hn]; exact Nat.le_refl _) z) (fun g h => ⟨by rw [h a (by omega)], by rw [h a (by omega)]⟩) ⟨by decide, by decide⟩ dX12_init_37 (fun g5 h5 => ?_)
  rw [LX_push]
  have q9 := gd_nil (q := 1) (n := 20) q8
  rw [LX_push] at q9
  have k5 : ∀ z, z < n → g5 z = gA G z := fun z hz => (h5 z (by omega)).trans (k4 z hz)
  refine r_putRF (pc := 39) (γ := g5) (a := a) (b := (n + 4)) fc_12_23 rfl rfl (LX_this han) (Nat.le_of_ble_eq_true rfl) (fun C T h => by rw [cf_own cf_12 h]; rfl) dX12_init_39 ?_
  rw [LX_put han]
  have q10 := gd_ref (a := a) (k := 5) (b := (n + 4)) q9 (LX_this han) (Nat.le_of_ble_eq_true rfl) (by rw [LX_len, hn]; show _ < n + 5; omega)
  rw [LX_put han] at q10
  refine r_aload_n (pc := 42) (i := 0) dX12_init_42 rfl 0 rfl ?_
  refine r_sipush (pc := 43) (v := 1056) dX12_init_43 (by decide +kernel) ?_
  refine r_newA1 (pc := 46) (γ := g5) (lvf := fun g => [(0, .ref (g a))]) (stf := fun g => [.ref (g a)]) (n := n + 5) (N := 1056) (tb_i 277 (by decide +kernel) (by decide +kernel)) wc_1056 rfl (by decide) (by rw [LX_len, hn]; rfl) q10.1 (fun z => q10.2 _ (by rw [LX_len, hn]; exact Nat.le_refl _) z) (fun g h => ⟨by rw [h a (by omega)], by rw [h a (by omega)]⟩) ⟨by decide, by decide⟩ dX12_init_46 (fun g6 h6 => ?_)
  rw [LX_push]
  have q11 := gd_nil (q := 1) (n := 1056) q10
  rw [LX_push] at q11
  have k6 : ∀ z, z < n → g6 z = gA G z := fun z hz => (h6 z (by omega)).trans (k5 z hz)
  refine r_putRF (pc := 48) (γ := g6) (a := a) (b := (n + 5)) fc_12_26 rfl rfl (LX_this han) (Nat.le_of_ble_eq_true rfl) (fun C T h => by rw [cf_own cf_12 h]; rfl) dX12_init_48 ?_
  rw [LX_put han]
  have q12 := gd_ref (a := a) (k := 6) (b := (n + 5)) q11 (LX_this han) (Nat.le_of_ble_eq_true rfl) (by rw [LX_len, hn]; show _ < n + 6; omega)
  rw [LX_put han] at q12
  refine r_aload_n (pc := 51) (i := 0) dX12_init_51 rfl 0 rfl ?_
  refine r_sipush (pc := 52) (v := 968) dX12_init_52 (by decide +kernel) ?_
  refine r_newA1 (pc := 55) (γ := g6) (lvf := fun g => [(0, .ref (g a))]) (stf := fun g => [.ref (g a)]) (n := n + 6) (N := 968) (tb_i 277 (by decide +kernel) (by decide +kernel)) wc_968 rfl (by decide) (by rw [LX_len, hn]; rfl) q12.1 (fun z => q12.2 _ (by rw [LX_len, hn]; exact Nat.le_refl _) z) (fun g h => ⟨by rw [h a (by omega)], by rw [h a (by omega)]⟩) ⟨by decide, by decide⟩ dX12_init_55 (fun g7 h7 => ?_)
  rw [LX_push]
  have q13 := gd_nil (q := 1) (n := 968) q12
  rw [LX_push] at q13
  have k7 : ∀ z, z < n → g7 z = gA G z := fun z hz => (h7 z (by omega)).trans (k6 z hz)
  refine r_putRF (pc := 57) (γ := g7) (a := a) (b := (n + 6)) fc_12_29 rfl rfl (LX_this han) (Nat.le_of_ble_eq_true rfl) (fun C T h => by rw [cf_own cf_12 h]; rfl) dX12_init_57 ?_
  rw [LX_put han]
  have q14 := gd_ref (a := a) (k := 7) (b := (n + 6)) q13 (LX_this han) (Nat.le_of_ble_eq_true rfl) (by rw [LX_len, hn]; show _ < n + 7; omega)
  rw [LX_put han] at q14
  refine r_aload_n (pc := 60) (i := 0) dX12_init_60 rfl 0 rfl ?_
  refine r_sipush (pc := 61) (v := 264) dX12_init_61 (by decide +kernel) ?_
  refine r_newA1 (pc := 64) (γ := g7) (lvf := fun g => [(0, .ref (g a))]) (stf := fun g => [.ref (g a)]) (n := n + 7) (N := 264) (tb_i 277 (by decide +kernel) (by decide +kernel)) wc_264 rfl (by decide) (by rw [LX_len, hn]; rfl) q14.1 (fun z => q14.2 _ (by rw [LX_len, hn]; exact Nat.le_refl _) z) (fun g h => ⟨by rw [h a (by omega)], by rw [h a (by omega)]⟩) ⟨by decide, by decide⟩ dX12_init_64 (fun g8 h8 => ?_)
  rw [LX_push]
  have q15 := gd_nil (q := 1) (n := 264) q14
  rw [LX_push] at q15
  have k8 : ∀ z, z < n → g8 z = gA G z := fun z hz => (h8 z (by omega)).trans (k7 z hz)
  refine r_putRF (pc := 66) (γ := g8) (a := a) (b := (n + 7)) fc_12_32 rfl rfl (LX_this han) (Nat.le_of_ble_eq_true rfl) (fun C T h => by rw [cf_own cf_12 h]; rfl) dX12_init_66 ?_
  rw [LX_put han]
  have q16 := gd_ref (a := a) (k := 8) (b := (n + 7)) q15 (LX_this han) (Nat.le_of_ble_eq_true rfl) (by rw [LX_len, hn]; show _ < n + 8; omega)
  rw [LX_put han] at q16
  refine r_aload_n (pc := 69) (i := 0) dX12_init_69 rfl 0 rfl ?_
  refine r_sipush (pc := 70) (v := 408) dX12_init_70 (by decide +kernel) ?_
  refine r_newA1 (pc := 73) (γ := g8) (lvf := fun g => [(0, .ref (g a))]) (stf := fun g => [.ref (g a)]) (n := n + 8) (N := 408) (tb_i 277 (by decide +kernel) (by decide +kernel)) wc_408 rfl (by decide) (by rw [LX_len, hn]; rfl) q16.1 (fun z => q16.2 _ (by rw [LX_len, hn]; exact Nat.le_refl _) z) (fun g h => ⟨by rw [h a (by omega)], by rw [h a (by omega)]⟩) ⟨by decide, by decide⟩ dX12_init_73 (fun g9 h9 => ?_)
  rw [LX_push]
  have q17 := gd_nil (q := 1) (n := 408) q16
  rw [LX_push] at q17
  have k9 : ∀ z, z < n → g9 z = gA G z := fun z hz => (h9 z (by omega)).trans (k8 z hz)
  refine r_putRF (pc := 75) (γ := g9) (a := a) (b := (n + 8)) fc_12_35 rfl rfl (LX_this han) (Nat.le_of_ble_eq_true rfl) (fun C T h => by rw [cf_own cf_12 h]; rfl) dX12_init_75 ?_
  rw [LX_put han]
  have q18 := gd_ref (a := a) (k := 9) (b := (n + 8)) q17 (LX_this han) (Nat.le_of_ble_eq_true rfl) (by rw [LX_len, hn]; show _ < n + 9; omega)
  rw [LX_put han] at q18
  refine r_aload_n (pc := 78) (i := 0) dX12_init_78 rfl 0 rfl ?_
  refine r_sipush (pc := 79) (v := 776) dX12_init_79 (by decide +kernel) ?_
  refine r_newA1 (pc := 82) (γ := g9) (lvf := fun g => [(0, .ref (g a))]) (stf := fun g => [.ref (g a)]) (n := n + 9) (N := 776) (tb_i 277 (by decide +kernel) (by decide +kernel)) wc_776 rfl (by decide) (by rw [LX_len, hn]; rfl) q18.1 (fun z => q18.2 _ (by rw [LX_len, hn]; exact Nat.le_refl _) z) (fun g h => ⟨by rw [h a (by omega)], by rw [h a (by omega)]⟩) ⟨by decide, by decide⟩ dX12_init_82 (fun g10 h10 => ?_)
  rw [LX_push]
  have q19 := gd_nil (q := 1) (n := 776) q18
  rw [LX_push] at q19
  have k10 : ∀ z, z < n → g10 z = gA G z := fun z hz => (h10 z (by omega)).trans (k9 z hz)
  refine r_putRF (pc := 84) (γ := g10) (a := a) (b := (n + 9)) fc_12_38 rfl rfl (LX_this han) (Nat.le_of_ble_eq_true rfl) (fun C T h => by rw [cf_own cf_12 h]; rfl) dX12_init_84 ?_
  rw [LX_put han]
  have q20 := gd_ref (a := a) (k := 10) (b := (n + 9)) q19 (LX_this han) (Nat.le_of_ble_eq_true rfl) (by rw [LX_len, hn]; show _ < n + 10; omega)
  rw [LX_put han] at q20
  refine r_aload_n (pc := 87) (i := 0) dX12_init_87 rfl 0 rfl ?_
  refine r_sipush (pc := 88) (v := 132) dX12_init_88 (by decide +kernel) ?_
  refine r_newA1 (pc := 91) (γ := g10) (lvf := fun g => [(0, .ref (g a))]) (stf := fun g => [.ref (g a)]) (n := n + 10) (N := 132) (tb_i 277 (by decide +kernel) (by decide +kernel)) wc_132 rfl (by decide) (by rw [LX_len, hn]; rfl) q20.1 (fun z => q20.2 _ (by rw [LX_len, hn]; exact Nat.le_refl _) z) (fun g h => ⟨by rw [h a (by omega)], by rw [h a (by omega)]⟩) ⟨by decide, by decide⟩ dX12_init_91 (fun g11 h11 => ?_)
  rw [LX_push]
  have q21 := gd_nil (q := 1) (n := 132) q20
  rw [LX_push] at q21
  have k11 : ∀ z, z < n → g11 z = gA G z := fun z hz => (h11 z (by omega)).trans (k10 z hz)
  refine r_putRF (pc := 93) (γ := g11) (a := a) (b := (n + 10)) fc_12_41 rfl rfl (LX_this han) (Nat.le_of_ble_eq_true rfl) (fun C T h => by rw [cf_own cf_12 h]; rfl) dX12_init_93 ?_
  rw [LX_put han]
  have q22 := gd_ref (a := a) (k := 20) (b := (n + 10)) q21 (LX_this han) (Nat.le_of_ble_eq_true rfl) (by rw [LX_len, hn]; show _ < n + 11; omega)
  rw [LX_put han] at q22
  refine r_aload_n (pc := 96) (i := 0) dX12_init_96 rfl 0 rfl ?_
  refine r_iconst (pc := 97) (v := 4) dX12_init_97 (by decide +kernel) ?_
  refine r_newA1 (pc := 98) (γ := g11) (lvf := fun g => [(0, .ref (g a))]) (stf := fun g => [.ref (g a)]) (n := n + 11) (N := 4) (tb_i 277 (by decide +kernel) (by decide +kernel)) wc_4 rfl (by decide) (by rw [LX_len, hn]; rfl) q22.1 (fun z => q22.2 _ (by rw [LX_len, hn]; exact Nat.le_refl _) z) (fun g h => ⟨by rw [h a (by omega)], by rw [h a (by omega)]⟩) ⟨by decide, by decide⟩ dX12_init_98 (fun g12 h12 => ?_)
  rw [LX_push]
  have q23 := gd_nil (q := 1) (n := 4) q22
  rw [LX_push] at q23
  have k12 : ∀ z, z < n → g12 z = gA G z := fun z hz => (h12 z (by omega)).trans (k11 z hz)
  refine r_putRF (pc := 100) (γ := g12) (a := a) (b := (n + 11)) fc_12_44 rfl rfl (LX_this han) (Nat.le_of_ble_eq_true rfl) (fun C T h => by rw [cf_own cf_12 h]; rfl) dX12_init_100 ?_
  rw [LX_put han]
  have q24 := gd_ref (a := a) (k := 21) (b := (n + 11)) q23 (LX_this han) (Nat.le_of_ble_eq_true rfl) (by rw [LX_len, hn]; show _ < n + 12; omega)
  rw [LX_put han] at q24
  refine r_aload_n (pc := 103) (i := 0) dX12_init_103 rfl 0 rfl ?_
  refine r_iconst (pc := 104) (v := 5) dX12_init_104 (by decide +kernel) ?_
  refine r_newA1 (pc := 105) (γ := g12) (lvf := fun g => [(0, .ref (g a))]) (stf := fun g => [.ref (g a)]) (n := n + 12) (N := 5) (tb_i 277 (by decide +kernel) (by decide +kernel)) wc_5 rfl (by decide) (by rw [LX_len, hn]; rfl) q24.1 (fun z => q24.2 _ (by rw [LX_len, hn]; exact Nat.le_refl _) z) (fun g h => ⟨by rw [h a (by omega)], by rw [h a (by omega)]⟩) ⟨by decide, by decide⟩ dX12_init_105 (fun g13 h13 => ?_)
  rw [LX_push]
  have q25 := gd_nil (q := 1) (n := 5) q24
  rw [LX_push] at q25
  have k13 : ∀ z, z < n → g13 z = gA G z := fun z hz => (h13 z (by omega)).trans (k12 z hz)
  refine r_putRF (pc := 107) (γ := g13) (a := a) (b := (n + 12)) fc_12_47 rfl rfl (LX_this han) (Nat.le_of_ble_eq_true rfl) (fun C T h => by rw [cf_own cf_12 h]; rfl) dX12_init_107 ?_
  rw [LX_put han]
  have q26 := gd_ref (a := a) (k := 40) (b := (n + 12)) q25 (LX_this han) (Nat.le_of_ble_eq_true rfl) (by rw [LX_len, hn]; show _ < n + 13; omega)
  rw [LX_put han] at q26
  refine r_aload_n (pc := 110) (i := 0) dX12_init_110 rfl 0 rfl ?_
  refine r_bipush (pc := 111) (v := 32) dX12_init_111 (by decide +kernel) ?_
  refine r_newA1 (pc := 113) (γ := g13) (lvf := fun g => [(0, .ref (g a))]) (stf := fun g => [.ref (g a)]) (n := n + 13) (N := 32) (tb_i 277 (by decide +kernel) (by decide +kernel)) wc_32 rfl (by decide) (by rw [LX_len, hn]; rfl) q26.1 (fun z => q26.2 _ (by rw [LX_len, hn]; exact Nat.le_refl _) z) (fun g h => ⟨by rw [h a (by omega)], by rw [h a (by omega)]⟩) ⟨by decide, by decide⟩ dX12_init_113 (fun g14 h14 => ?_)
  rw [LX_push]
  have q27 := gd_nil (q := 1) (n := 32) q26
  rw [LX_push] at q27
  have k14 : ∀ z, z < n → g14 z = gA G z := fun z hz => (h14 z (by omega)).trans (k13 z hz)
  refine r_putRF (pc := 115) (γ := g14) (a := a) (b := (n + 13)) fc_12_50 rfl rfl (LX_this han) (Nat.le_of_ble_eq_true rfl) (fun C T h => by rw [cf_own cf_12 h]; rfl) dX12_init_115 ?_
  rw [LX_put han]
  have q28 := gd_ref (a := a) (k := 41) (b := (n + 13)) q27 (LX_this han) (Nat.le_of_ble_eq_true rfl) (by rw [LX_len, hn]; show _ < n + 14; omega)
  rw [LX_put han] at q28
  refine r_aload_n (pc := 118) (i := 0) dX12_init_118 rfl 0 rfl ?_
  refine r_bipush (pc := 119) (v := 40) dX12_init_119 (by decide +kernel) ?_
  refine r_newA1 (pc := 121) (γ := g14) (lvf := fun g => [(0, .ref (g a))]) (stf := fun g => [.ref (g a)]) (n := n + 14) (N := 40) (tb_i 277 (by decide +kernel) (by decide +kernel)) wc_40 rfl (by decide) (by rw [LX_len, hn]; rfl) q28.1 (fun z => q28.2 _ (by rw [LX_len, hn]; exact Nat.le_refl _) z) (fun g h => ⟨by rw [h a (by omega)], by rw [h a (by omega)]⟩) ⟨by decide, by decide⟩ dX12_init_121 (fun g15 h15 => ?_)
  rw [LX_push]
  have q29 := gd_nil (q := 1) (n := 40) q28
  rw [LX_push] at q29
  have k15 : ∀ z, z < n → g15 z = gA G z := fun z hz => (h15 z (by omega)).trans (k14 z hz)
  refine r_putRF (pc := 123) (γ := g15) (a := a) (b := (n + 14)) fc_12_53 rfl rfl (LX_this han) (Nat.le_of_ble_eq_true rfl) (fun C T h => by rw [cf_own cf_12 h]; rfl) dX12_init_123 ?_
  rw [LX_put han]
  have q30 := gd_ref (a := a) (k := 42) (b := (n + 14)) q29 (LX_this han) (Nat.le_of_ble_eq_true rfl) (by rw [LX_len, hn]; show _ < n + 15; omega)
  rw [LX_put han] at q30
  refine r_aload_n (pc := 126) (i := 0) dX12_init_126 rfl 0 rfl ?_
  refine r_bipush (pc := 127) (v := 40) dX12_init_127 (by decide +kernel) ?_
  refine r_newA1 (pc := 129) (γ := g15) (lvf := fun g => [(0, .ref (g a))]) (stf := fun g => [.ref (g a)]) (n := n + 15) (N := 40) (tb_i 277 (by decide +kernel) (by decide +kernel)) wc_40 rfl (by decide) (by rw [LX_len, hn]; rfl) q30.1 (fun z => q30.2 _ (by rw [LX_len, hn]; exact Nat.le_refl _) z) (fun g h => ⟨by rw [h a (by omega)], by rw [h a (by omega)]⟩) ⟨by decide, by decide⟩ dX12_init_129 (fun g16 h16 => ?_)
  rw [LX_push]
  have q31 := gd_nil (q := 1) (n := 40) q30
  rw [LX_push] at q31
  have k16 : ∀ z, z < n → g16 z = gA G z := fun z hz => (h16 z (by omega)).trans (k15 z hz)
  refine r_putRF (pc := 131) (γ := g16) (a := a) (b := (n + 15)) fc_12_56 rfl rfl (LX_this han) (Nat.le_of_ble_eq_true rfl) (fun C T h => by rw [cf_own cf_12 h]; rfl) dX12_init_131 ?_
  rw [LX_put han]
  have q32 := gd_ref (a := a) (k := 43) (b := (n + 15)) q31 (LX_this han) (Nat.le_of_ble_eq_true rfl) (by rw [LX_len, hn]; show _ < n + 16; omega)
  rw [LX_put han] at q32
  refine r_aload_n (pc := 134) (i := 0) dX12_init_134 rfl 0 rfl ?_
  refine r_bipush (pc := 135) (v := 40) dX12_init_135 (by decide +kernel) ?_
  refine r_newA1 (pc := 137) (γ := g16) (lvf := fun g => [(0, .ref (g a))]) (stf := fun g => [.ref (g a)]) (n := n + 16) (N := 40) (tb_i 277 (by decide +kernel) (by decide +kernel)) wc_40 rfl (by decide) (by rw [LX_len, hn]; rfl) q32.1 (fun z => q32.2 _ (by rw [LX_len, hn]; exact Nat.le_refl _) z) (fun g h => ⟨by rw [h a (by omega)], by rw [h a (by omega)]⟩) ⟨by decide, by decide⟩ dX12_init_137 (fun g17 h17 => ?_)
  rw [LX_push]
  have q33 := gd_nil (q := 1) (n := 40) q32
  rw [LX_push] at q33
  have k17 : ∀ z, z < n → g17 z = gA G z := fun z hz => (h17 z (by omega)).trans (k16 z hz)
  refine r_putRF (pc := 139) (γ := g17) (a := a) (b := (n + 16)) fc_12_59 rfl rfl (LX_this han) (Nat.le_of_ble_eq_true rfl) (fun C T h => by rw [cf_own cf_12 h]; rfl) dX12_init_139 ?_
  rw [LX_put han]
  have q34 := gd_ref (a := a) (k := 44) (b := (n + 16)) q33 (LX_this han) (Nat.le_of_ble_eq_true rfl) (by rw [LX_len, hn]; show _ < n + 17; omega)
  rw [LX_put han] at q34
  refine r_aload_n (pc := 142) (i := 0) dX12_init_142 rfl 0 rfl ?_
  refine r_bipush (pc := 143) (v := 40) dX12_init_143 (by decide +kernel) ?_
  refine r_newA1 (pc := 145) (γ := g17) (lvf := fun g => [(0, .ref (g a))]) (stf := fun g => [.ref (g a)]) (n := n + 17) (N := 40) (tb_i 277 (by decide +kernel) (by decide +kernel)) wc_40 rfl (by decide) (by rw [LX_len, hn]; rfl) q34.1 (fun z => q34.2 _ (by rw [LX_len, hn]; exact Nat.le_refl _) z) (fun g h => ⟨by rw [h a (by omega)], by rw [h a (by omega)]⟩) ⟨by decide, by decide⟩ dX12_init_145 (fun g18 h18 => ?_)
  rw [LX_push]
  have q35 := gd_nil (q := 1) (n := 40) q34
  rw [LX_push] at q35
  have k18 : ∀ z, z < n → g18 z = gA G z := fun z hz => (h18 z (by omega)).trans (k17 z hz)
  refine r_putRF (pc := 147) (γ := g18) (a := a) (b := (n + 17)) fc_12_62 rfl rfl (LX_this han) (Nat.le_of_ble_eq_true rfl) (fun C T h => by rw [cf_own cf_12 h]; rfl) dX12_init_147 ?_
  rw [LX_put han]
  have q36 := gd_ref (a := a) (k := 45) (b := (n + 17)) q35 (LX_this han) (Nat.le_of_ble_eq_true rfl) (by rw [LX_len, hn]; show _ < n + 18; omega)
  rw [LX_put han] at q36
  refine r_aload_n (pc := 150) (i := 0) dX12_init_150 rfl 0 rfl ?_
  refine r_bipush (pc := 151) (v := 8) dX12_init_151 (by decide +kernel) ?_
  refine r_newA2 (pc := 153) (γ := g18) (lvf := fun g => [(0, .ref (g a))]) (stf := fun g => [.ref (g a)]) (n := n + 18) (N := 8) (tb_i 527 (by decide +kernel) (by decide +kernel)) wc_8 rfl (by decide) (by rw [LX_len, hn]; rfl) q36.1 (fun z => q36.2 _ (by rw [LX_len, hn]; exact Nat.le_refl _) z) (fun g h => ⟨by rw [h a (by omega)], by rw [h a (by omega)]⟩) ⟨by decide, by decide⟩ dX12_init_153 (fun g19 h19 => ?_)
  rw [LX_push]
  have q37 := gd_nil (q := 2) (n := 8) q36
  rw [LX_push] at q37
  have k19 : ∀ z, z < n → g19 z = gA G z := fun z hz => (h19 z (by omega)).trans (k18 z hz)
  refine r_putRF (pc := 155) (γ := g19) (a := a) (b := (n + 18)) fc_12_65 rfl rfl (LX_this han) (Nat.le_of_ble_eq_true rfl) (fun C T h => by rw [cf_own cf_12 h]; rfl) dX12_init_155 ?_
  rw [LX_put han]
  have q38 := gd_ref (a := a) (k := 47) (b := (n + 18)) q37 (LX_this han) (Nat.le_of_ble_eq_true rfl) (by rw [LX_len, hn]; show _ < n + 19; omega)
  rw [LX_put han] at q38
  refine r_aload_n (pc := 158) (i := 0) dX12_init_158 rfl 0 rfl ?_
  refine r_sipush (pc := 159) (v := 542) dX12_init_159 (by decide +kernel) ?_
  refine r_newA2 (pc := 162) (γ := g19) (lvf := fun g => [(0, .ref (g a))]) (stf := fun g => [.ref (g a)]) (n := n + 19) (N := 542) (tb_i 527 (by decide +kernel) (by decide +kernel)) wc_542 rfl (by decide) (by rw [LX_len, hn]; rfl) q38.1 (fun z => q38.2 _ (by rw [LX_len, hn]; exact Nat.le_refl _) z) (fun g h => ⟨by rw [h a (by omega)], by rw [h a (by omega)]⟩) ⟨by decide, by decide⟩ dX12_init_162 (fun g20 h20 => ?_)
  rw [LX_push]
  have q39 := gd_nil (q := 2) (n := 542) q38
  rw [LX_push] at q39
  have k20 : ∀ z, z < n → g20 z = gA G z := fun z hz => (h20 z (by omega)).trans (k19 z hz)
  refine r_putRF (pc := 164) (γ := g20) (a := a) (b := (n + 19)) fc_12_69 rfl rfl (LX_this han) (Nat.le_of_ble_eq_true rfl) (fun C T h => by rw [cf_own cf_12 h]; rfl) dX12_init_164 ?_
  rw [LX_put han]
  have q40 := gd_ref (a := a) (k := 49) (b := (n + 19)) q39 (LX_this han) (Nat.le_of_ble_eq_true rfl) (by rw [LX_len, hn]; show _ < n + 20; omega)
  rw [LX_put han] at q40
  refine r_aload_n (pc := 167) (i := 0) dX12_init_167 rfl 0 rfl ?_
  refine r_sipush (pc := 168) (v := 542) dX12_init_168 (by decide +kernel) ?_
  refine r_newA2 (pc := 171) (γ := g20) (lvf := fun g => [(0, .ref (g a))]) (stf := fun g => [.ref (g a)]) (n := n + 20) (N := 542) (tb_i 527 (by decide +kernel) (by decide +kernel)) wc_542 rfl (by decide) (by rw [LX_len, hn]; rfl) q40.1 (fun z => q40.2 _ (by rw [LX_len, hn]; exact Nat.le_refl _) z) (fun g h => ⟨by rw [h a (by omega)], by rw [h a (by omega)]⟩) ⟨by decide, by decide⟩ dX12_init_171 (fun g21 h21 => ?_)
  rw [LX_push]
  have q41 := gd_nil (q := 2) (n := 542) q40
  rw [LX_push] at q41
  have k21 : ∀ z, z < n → g21 z = gA G z := fun z hz => (h21 z (by omega)).trans (k20 z hz)
  refine r_putRF (pc := 173) (γ := g21) (a := a) (b := (n + 20)) fc_12_72 rfl rfl (LX_this han) (Nat.le_of_ble_eq_true rfl) (fun C T h => by rw [cf_own cf_12 h]; rfl) dX12_init_173 ?_
  rw [LX_put han]
  have q42 := gd_ref (a := a) (k := 50) (b := (n + 20)) q41 (LX_this han) (Nat.le_of_ble_eq_true rfl) (by rw [LX_len, hn]; show _ < n + 21; omega)
  rw [LX_put han] at q42
  refine r_aload_n (pc := 176) (i := 0) dX12_init_176 rfl 0 rfl ?_
  refine r_bipush (pc := 177) (v := 8) dX12_init_177 (by decide +kernel) ?_
  refine r_newA2 (pc := 179) (γ := g21) (lvf := fun g => [(0, .ref (g a))]) (stf := fun g => [.ref (g a)]) (n := n + 21) (N := 8) (tb_i 527 (by decide +kernel) (by decide +kernel)) wc_8 rfl (by decide) (by rw [LX_len, hn]; rfl) q42.1 (fun z => q42.2 _ (by rw [LX_len, hn]; exact Nat.le_refl _) z) (fun g h => ⟨by rw [h a (by omega)], by rw [h a (by omega)]⟩) ⟨by decide, by decide⟩ dX12_init_179 (fun g22 h22 => ?_)
  rw [LX_push]
  have q43 := gd_nil (q := 2) (n := 8) q42
  rw [LX_push] at q43
  have k22 : ∀ z, z < n → g22 z = gA G z := fun z hz => (h22 z (by omega)).trans (k21 z hz)
  refine r_putRF (pc := 181) (γ := g22) (a := a) (b := (n + 21)) fc_12_75 rfl rfl (LX_this han) (Nat.le_of_ble_eq_true rfl) (fun C T h => by rw [cf_own cf_12 h]; rfl) dX12_init_181 ?_
  rw [LX_put han]
  have q44 := gd_ref (a := a) (k := 51) (b := (n + 21)) q43 (LX_this han) (Nat.le_of_ble_eq_true rfl) (by rw [LX_len, hn]; show _ < n + 22; omega)
  rw [LX_put han] at q44
  refine r_aload_n (pc := 184) (i := 0) dX12_init_184 rfl 0 rfl ?_
  refine r_bipush (pc := 185) (v := 8) dX12_init_185 (by decide +kernel) ?_
  refine r_newA1 (pc := 187) (γ := g22) (lvf := fun g => [(0, .ref (g a))]) (stf := fun g => [.ref (g a)]) (n := n + 22) (N := 8) (tb_i 277 (by decide +kernel) (by decide +kernel)) wc_8 rfl (by decide) (by rw [LX_len, hn]; rfl) q44.1 (fun z => q44.2 _ (by rw [LX_len, hn]; exact Nat.le_refl _) z) (fun g h => ⟨by rw [h a (by omega)], by rw [h a (by omega)]⟩) ⟨by decide, by decide⟩ dX12_init_187 (fun g23 h23 => ?_)
  rw [LX_push]
  have q45 := gd_nil (q := 1) (n := 8) q44
  rw [LX_push] at q45
  have k23 : ∀ z, z < n → g23 z = gA G z := fun z hz => (h23 z (by omega)).trans (k22 z hz)
  refine r_putRF (pc := 189) (γ := g23) (a := a) (b := (n + 22)) fc_12_78 rfl rfl (LX_this han) (Nat.le_of_ble_eq_true rfl) (fun C T h => by rw [cf_own cf_12 h]; rfl) dX12_init_189 ?_
  rw [LX_put han]
  have q46 := gd_ref (a := a) (k := 52) (b := (n + 22)) q45 (LX_this han) (Nat.le_of_ble_eq_true rfl) (by rw [LX_len, hn]; show _ < n + 23; omega)
  rw [LX_put han] at q46
  refine r_aload_n (pc := 192) (i := 0) dX12_init_192 rfl 0 rfl ?_
  refine r_sipush (pc := 193) (v := 496) dX12_init_193 (by decide +kernel) ?_
  refine r_newA2 (pc := 196) (γ := g23) (lvf := fun g => [(0, .ref (g a))]) (stf := fun g => [.ref (g a)]) (n := n + 23) (N := 496) (tb_i 527 (by decide +kernel) (by decide +kernel)) wc_496 rfl (by decide) (by rw [LX_len, hn]; rfl) q46.1 (fun z => q46.2 _ (by rw [LX_len, hn]; exact Nat.le_refl _) z) (fun g h => ⟨by rw [h a (by omega)], by rw [h a (by omega)]⟩) ⟨by decide, by decide⟩ dX12_init_196 (fun g24 h24 => ?_)
  rw [LX_push]
  have q47 := gd_nil (q := 2) (n := 496) q46
  rw [LX_push] at q47
  have k24 : ∀ z, z < n → g24 z = gA G z := fun z hz => (h24 z (by omega)).trans (k23 z hz)
  refine r_putRF (pc := 198) (γ := g24) (a := a) (b := (n + 23)) fc_12_81 rfl rfl (LX_this han) (Nat.le_of_ble_eq_true rfl) (fun C T h => by rw [cf_own cf_12 h]; rfl) dX12_init_198 ?_
  rw [LX_put han]
  have q48 := gd_ref (a := a) (k := 57) (b := (n + 23)) q47 (LX_this han) (Nat.le_of_ble_eq_true rfl) (by rw [LX_len, hn]; show _ < n + 24; omega)
  rw [LX_put han] at q48
  refine r_aload_n (pc := 201) (i := 0) dX12_init_201 rfl 0 rfl ?_
  refine r_bipush (pc := 202) (v := 8) dX12_init_202 (by decide +kernel) ?_
  refine r_newA1 (pc := 204) (γ := g24) (lvf := fun g => [(0, .ref (g a))]) (stf := fun g => [.ref (g a)]) (n := n + 24) (N := 8) (tb_i 277 (by decide +kernel) (by decide +kernel)) wc_8 rfl (by decide) (by rw [LX_len, hn]; rfl) q48.1 (fun z => q48.2 _ (by rw [LX_len, hn]; exact Nat.le_refl _) z) (fun g h => ⟨by rw [h a (by omega)], by rw [h a (by omega)]⟩) ⟨by decide, by decide⟩ dX12_init_204 (fun g25 h25 => ?_)
  rw [LX_push]
  have q49 := gd_nil (q := 1) (n := 8) q48
  rw [LX_push] at q49
  have k25 : ∀ z, z < n → g25 z = gA G z := fun z hz => (h25 z (by omega)).trans (k24 z hz)
  refine r_putRF (pc := 206) (γ := g25) (a := a) (b := (n + 24)) fc_12_84 rfl rfl (LX_this han) (Nat.le_of_ble_eq_true rfl) (fun C T h => by rw [cf_own cf_12 h]; rfl) dX12_init_206 ?_
  rw [LX_put han]
  have q50 := gd_ref (a := a) (k := 59) (b := (n + 24)) q49 (LX_this han) (Nat.le_of_ble_eq_true rfl) (by rw [LX_len, hn]; show _ < n + 25; omega)
  rw [LX_put han] at q50
  refine r_aload_n (pc := 209) (i := 0) dX12_init_209 rfl 0 rfl ?_
  refine r_bipush (pc := 210) (v := 8) dX12_init_210 (by decide +kernel) ?_
  refine r_newA1 (pc := 212) (γ := g25) (lvf := fun g => [(0, .ref (g a))]) (stf := fun g => [.ref (g a)]) (n := n + 25) (N := 8) (tb_i 277 (by decide +kernel) (by decide +kernel)) wc_8 rfl (by decide) (by rw [LX_len, hn]; rfl) q50.1 (fun z => q50.2 _ (by rw [LX_len, hn]; exact Nat.le_refl _) z) (fun g h => ⟨by rw [h a (by omega)], by rw [h a (by omega)]⟩) ⟨by decide, by decide⟩ dX12_init_212 (fun g26 h26 => ?_)
  rw [LX_push]
  have q51 := gd_nil (q := 1) (n := 8) q50
  rw [LX_push] at q51
  have k26 : ∀ z, z < n → g26 z = gA G z := fun z hz => (h26 z (by omega)).trans (k25 z hz)
  refine r_putRF (pc := 214) (γ := g26) (a := a) (b := (n + 25)) fc_12_87 rfl rfl (LX_this han) (Nat.le_of_ble_eq_true rfl) (fun C T h => by rw [cf_own cf_12 h]; rfl) dX12_init_214 ?_
  rw [LX_put han]
  have q52 := gd_ref (a := a) (k := 61) (b := (n + 25)) q51 (LX_this han) (Nat.le_of_ble_eq_true rfl) (by rw [LX_len, hn]; show _ < n + 26; omega)
  rw [LX_put han] at q52
  refine r_aload_n (pc := 217) (i := 0) dX12_init_217 rfl 0 rfl ?_
  refine r_bipush (pc := 218) (v := 8) dX12_init_218 (by decide +kernel) ?_
  refine r_newA1 (pc := 220) (γ := g26) (lvf := fun g => [(0, .ref (g a))]) (stf := fun g => [.ref (g a)]) (n := n + 26) (N := 8) (tb_i 277 (by decide +kernel) (by decide +kernel)) wc_8 rfl (by decide) (by rw [LX_len, hn]; rfl) q52.1 (fun z => q52.2 _ (by rw [LX_len, hn]; exact Nat.le_refl _) z) (fun g h => ⟨by rw [h a (by omega)], by rw [h a (by omega)]⟩) ⟨by decide, by decide⟩ dX12_init_220 (fun g27 h27 => ?_)
  rw [LX_push]
  have q53 := gd_nil (q := 1) (n := 8) q52
  rw [LX_push] at q53
  have k27 : ∀ z, z < n → g27 z = gA G z := fun z hz => (h27 z (by omega)).trans (k26 z hz)
  refine r_putRF (pc := 222) (γ := g27) (a := a) (b := (n + 26)) fc_12_90 rfl rfl (LX_this han) (Nat.le_of_ble_eq_true rfl) (fun C T h => by rw [cf_own cf_12 h]; rfl) dX12_init_222 ?_
  rw [LX_put han]
  have q54 := gd_ref (a := a) (k := 62) (b := (n + 26)) q53 (LX_this han) (Nat.le_of_ble_eq_true rfl) (by rw [LX_len, hn]; show _ < n + 27; omega)
  rw [LX_put han] at q54
  refine r_aload_n (pc := 225) (i := 0) dX12_init_225 rfl 0 rfl ?_
  refine r_iconst (pc := 226) (v := 3) dX12_init_226 (by decide +kernel) ?_
  refine r_newA4 (pc := 227) (γ := g27) (lvf := fun g => [(0, .ref (g a))]) (stf := fun g => [.ref (g a)]) (n := n + 27) (N := 3) (tb_i 462 (by decide +kernel) (by decide +kernel)) wc_3 rfl (by decide) (by rw [LX_len, hn]; rfl) q54.1 (fun z => q54.2 _ (by rw [LX_len, hn]; exact Nat.le_refl _) z) (fun g h => ⟨by rw [h a (by omega)], by rw [h a (by omega)]⟩) ⟨by decide, by decide⟩ dX12_init_227 (fun g28 h28 => ?_)
  rw [LX_push]
  have q55 := gd_nil (q := 4) (n := 3) q54
  rw [LX_push] at q55
  have k28 : ∀ z, z < n → g28 z = gA G z := fun z hz => (h28 z (by omega)).trans (k27 z hz)
  refine r_putRF (pc := 229) (γ := g28) (a := a) (b := (n + 27)) fc_12_93 rfl rfl (LX_this han) (Nat.le_of_ble_eq_true rfl) (fun C T h => by rw [cf_own cf_12 h]; rfl) dX12_init_229 ?_
  rw [LX_put han]
  have q56 := gd_ref (a := a) (k := 67) (b := (n + 27)) q55 (LX_this han) (Nat.le_of_ble_eq_true rfl) (by rw [LX_len, hn]; show _ < n + 28; omega)
  rw [LX_put han] at q56
  refine r_aload_n (pc := 232) (i := 0) dX12_init_232 rfl 0 rfl ?_
  refine r_getR (pc := 233) (a := a) (b := (n + 3)) fc_12_20 rfl ⟨_, LX_this han⟩ ⟨_, LX_this han, rfl⟩ dX12_init_233 ?_
  refine r_iconst (pc := 236) (v := 0) dX12_init_236 (by decide +kernel) ?_
  refine r_iconst (pc := 237) (v := (-1)) dX12_init_237 (by decide +kernel) ?_
  refine r_iast (pc := 238) (a := n + 3) ⟨_, LX_at hn rfl⟩ wc_0 ⟨by decide, by decide⟩ rfl rfl dX12_init_238 ?_
  have q57 := gd_mU (a := n + 3) (k := 0) (x := (-1)) q56 (by rw [LX_len, hn]; show _ < n + 28; omega)
  exact r_vretI (pc := 239) (γ := g28) k28 rfl (by decide) (by decide) dX12_init_239
