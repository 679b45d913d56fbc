def gd (L : List LE) (M : MM) : Prop := okL L ∧ fresh L M
theorem gd_push {L : List LE} {M : MM} {q n m : Nat} (h : gd L M) : gd (L ++ [(q, n, List.replicate m none)]) M := ⟨okL_rep h.1, fresh_push h.2⟩
theorem gd_nil {L : List LE} {M : MM} {q n : Nat} (h : gd L M) : gd (L ++ [(q, n, [])]) M := ⟨okL_nil h.1, fresh_push h.2⟩
theorem gd_ref {L : List LE} {M : MM} {a q n k b : Nat} {rs : List (Option Nat)} (h : gd L M) (ha : L[a]? = some (q, n, rs)) (hk : k < rs.length) (hb : b < L.length) : gd (L.set a (q, n, rs.set k (some b))) M := ⟨okL_ref h.1 ha hk hb, fresh_set h.2⟩
theorem gd_mU {L : List LE} {M : MM} {a k : Nat} {x : Int} (h : gd L M) (ha : a < L.length) : gd L (mU M a k x) := ⟨h.1, fresh_mU h.2 ha⟩
theorem cf_own {ci : Nat} {C C0 : String} {T T0 : u_T} (h0 : CF ci C0 T0) (h : CF ci C T) : T = T0 := by
  have h1 := h0.1.symm.trans h.1
  cases h1
  rfl
theorem nf_all : ∀ ci, ci < 13 → ∀ j, j < clN ci → clT ci j ≠ .float ∧ clT ci j ≠ .double := by decide +kernel
theorem ml_3_9 : ML RX3 9 Lib.Math.max.name Lib.Math.max.code 2 .int := ⟨tb_i 283 (by decide +kernel) (by decide +kernel), tb_i 284 (by decide +kernel) (by decide +kernel), tb_i 143 (by decide +kernel) (by decide +kernel), tb_i 285 (by decide +kernel) (by decide +kernel)⟩
theorem wc_0 : wI 0 = 0 := by decide +kernel
theorem fc_3_15 : FG RX3 15 3 0 (clT 3 0) true := ⟨RX3, TX3, cf_3, by decide, tb_i 286 (by decide +kernel) (by decide +kernel), rfl, rfl, rfl⟩
theorem fc_3_21 : FG RX3 21 3 1 (clT 3 1) true := ⟨RX3, TX3, cf_3, by decide, tb_i 287 (by decide +kernel) (by decide +kernel), rfl, rfl, rfl⟩
theorem fc_3_25 : FG RX3 25 3 2 (clT 3 2) true := ⟨RX3, TX3, cf_3, by decide, tb_i 290 (by decide +kernel) (by decide +kernel), rfl, rfl, rfl⟩
theorem fc_3_28 : FG RX3 28 3 3 (clT 3 3) true := ⟨RX3, TX3, cf_3, by decide, tb_i 296 (by decide +kernel) (by decide +kernel), rfl, rfl, rfl⟩
abbrev xX3_init : XX := (yX3_init, cX3_init, 2, none, 1, 23, 3, 125)
def eX3_init (a n : Nat) (k : Nat) : LE := (0, 3, [none, some (n + 0), some (n + 1), some (n + 2), none])
def sX3_init (a n : Nat) (k : Nat) : List LE := [(1, k, []), (1, k, []), (1, k, [])]
def mX3_init (M : MM) (a n : Nat) (k : Nat) : MM := (mU M a 0 (k : Int))
theorem oX3_init {L : List LE} {M : MM} {a n : Nat} {k : Nat} (hk : k ≤ 40) (hn : L.length = n) (ha : L[a]? = some (0, 3, List.replicate (clN 3) none)) (hg : gd L M) : gd (LX L a (eX3_init a n k) (sX3_init a n k)) (mX3_init M a n k) := by
  have han : a < L.length := (List.getElem?_eq_some_iff.mp ha).1
  have han2 : a < n := by omega
  have q0 : gd (LX L a (0, 3, List.replicate (clN 3) none) []) M := by rw [LX_start ha]; exact hg
  have wk : wI (k : Int) = (k : Int) := wI_of (by omega) (by omega)
  have q1 := gd_mU (a := a) (k := 0) (x := (k : Int)) q0 (by rw [LX_len, hn]; omega)
  have q2 := gd_nil (q := 1) (n := k) q1
  rw [LX_push] at q2
  have q3 := gd_ref (a := a) (k := 1) (b := (n + 0)) q2 (LX_this han) (Nat.le_of_ble_eq_true rfl) (by rw [LX_len, hn]; show _ < n + 1; omega)
  rw [LX_put han] at q3
  have q4 := gd_nil (q := 1) (n := k) q3
  rw [LX_push] at q4
  have q5 := gd_ref (a := a) (k := 2) (b := (n + 1)) q4 (LX_this han) (Nat.le_of_ble_eq_true rfl) (by rw [LX_len, hn]; show _ < n + 2; omega)
  rw [LX_put han] at q5
  have q6 := gd_nil (q := 1) (n := k) q5
  rw [LX_push] at q6
  have q7 := gd_ref (a := a) (k := 3) (b := (n + 2)) q6 (LX_this han) (Nat.le_of_ble_eq_true rfl) (by rw [LX_len, hn]; show _ < n + 3; omega)
  rw [LX_put han] at q7
  exact q7
set_option maxHeartbeats 8000000 in
set_option maxRecDepth 100000 in
theorem kX3_init {G : GG} {L : List LE} {M : MM} {a n : Nat} {k : Nat} (hk : k ≤ 40) (hn : L.length = n) (ha : L[a]? = some (0, 3, List.replicate (clN 3) none)) (hg : gd L M) : CI G xX3_init [.ref (gA G a), .int (eI (k : Int))] L M (LX L a (eX3_init a n k) (sX3_init a n k)) (mX3_init M a n k) := by
  have han : a < L.length := (List.getElem?_eq_some_iff.mp ha).1
  have han2 : a < n := by omega
  have q0 : gd (LX L a (0, 3, List.replicate (clN 3) none) []) M := by rw [LX_start ha]; exact hg
  have wk : wI (k : Int) = (k : Int) := wI_of (by omega) (by omega)
  refine CI_of (by decide +kernel) (Nat.le_of_ble_eq_true rfl) ?_
  rw [hn]
  obtain ⟨γ, hγ⟩ : ∃ γ, γ = gA G := ⟨_, rfl⟩
  have K : VV (gS G γ) xX3_init (ZI G xX3_init n (LX L a (eX3_init a n k) (sX3_init a n k)) (mX3_init M a n k)) (LX L a (0, 3, List.replicate (clN 3) none) []) M 0 0 0 [(0, .ref (γ a)), (1, .int (eI (k : Int)))] [] := ?_
  · rw [LX_start ha, hγ] at K; exact K
  refine r_aload_n (pc := 0) (i := 0) dX3_init_0 rfl 0 rfl ?_
  refine r_objI (pc := 1) (γ := γ) (tb_i 282 (by decide +kernel) (by decide +kernel)) (tb_i 164 (by decide +kernel) (by decide +kernel)) (tb_i 165 (by decide +kernel) (by decide +kernel)) ⟨Nat.le_of_ble_eq_true rfl, Nat.le_of_ble_eq_true rfl⟩ dX3_init_1 ?_
  refine r_aload_n (pc := 4) (i := 0) dX3_init_4 rfl 0 rfl ?_
  refine r_iconst (pc := 5) (v := 0) dX3_init_5 (by decide +kernel) ?_
  refine r_iload_n (pc := 6) (i := 1) dX3_init_6 rfl 1 rfl ?_
  refine r_mmax (pc := 7) ml_3_9 ⟨Nat.le_of_ble_eq_true rfl, Nat.le_of_ble_eq_true rfl, Nat.le_of_ble_eq_true rfl, Nat.le_of_ble_eq_true rfl⟩ wc_0 wk dX3_init_7 ?_
  rw [show max (0 : Int) (k : Int) = (k : Int) by omega]
  refine r_putIF (pc := 10) (γ := γ) (a := a) fc_3_15 rfl (LX_this han) (fun C T h => by rw [cf_own cf_3 h]; rfl) dX3_init_10 ?_
  have q1 := gd_mU (a := a) (k := 0) (x := (k : Int)) q0 (by rw [LX_len, hn]; omega)
  refine r_aload_n (pc := 13) (i := 0) dX3_init_13 rfl 0 rfl ?_
  refine r_aload_n (pc := 14) (i := 0) dX3_init_14 rfl 0 rfl ?_
  refine r_getI (pc := 15) (a := a) fc_3_15 rfl ⟨_, LX_this han⟩ dX3_init_15 ?_
  rw [mU_eq]
  refine r_newA1 (pc := 18) (γ := γ) (lvf := fun g => [(0, .ref (g a)), (1, .int (eI (k : Int)))]) (stf := fun g => [.ref (g a)]) (n := n + 0) (N := k) (tb_i 277 (by decide +kernel) (by decide +kernel)) wk rfl (by omega) (by rw [LX_len, hn]; rfl) q1.1 (fun z => q1.2 _ (by rw [LX_len, hn]; exact Nat.le_refl _) z) (fun g h => ⟨by rw [h a (by omega)], by rw [h a (by omega)]⟩) ⟨by decide, by show _ ≤ 125; omega⟩ dX3_init_18 (fun g1 h1 => ?_)
  rw [LX_push]
  have q2 := gd_nil (q := 1) (n := k) q1
  rw [LX_push] at q2
  have k1 : ∀ z, z < n → g1 z = gA G z := fun z hz => (h1 z (by omega)).trans (by rw [hγ])
  refine r_putRF (pc := 20) (γ := g1) (a := a) (b := (n + 0)) fc_3_21 rfl rfl (LX_this han) (Nat.le_of_ble_eq_true rfl) (fun C T h => by rw [cf_own cf_3 h]; rfl) dX3_init_20 ?_
  rw [LX_put han]
  have q3 := gd_ref (a := a) (k := 1) (b := (n + 0)) q2 (LX_this han) (Nat.le_of_ble_eq_true rfl) (by rw [LX_len, hn]; show _ < n + 1; omega)
  rw [LX_put han] at q3
  refine r_aload_n (pc := 23) (i := 0) dX3_init_23 rfl 0 rfl ?_
  refine r_aload_n (pc := 24) (i := 0) dX3_init_24 rfl 0 rfl ?_
  refine r_getI (pc := 25) (a := a) fc_3_15 rfl ⟨_, LX_this han⟩ dX3_init_25 ?_
  rw [mU_eq]
  refine r_newA1 (pc := 28) (γ := g1) (lvf := fun g => [(0, .ref (g a)), (1, .int (eI (k : Int)))]) (stf := fun g => [.ref (g a)]) (n := n + 1) (N := k) (tb_i 277 (by decide +kernel) (by decide +kernel)) wk rfl (by omega) (by rw [LX_len, hn]; rfl) q3.1 (fun z => q3.2 _ (by rw [LX_len, hn]; exact Nat.le_refl _) z) (fun g h => ⟨by rw [h a (by omega)], by rw [h a (by omega)]⟩) ⟨by decide, by show _ ≤ 125; omega⟩ dX3_init_28 (fun g2 h2 => ?_)
  rw [LX_push]
  have q4 := gd_nil (q := 1) (n := k) q3
  rw [LX_push] at q4
  have k2 : ∀ z, z < n → g2 z = gA G z := fun z hz => (h2 z (by omega)).trans (k1 z hz)
  refine r_putRF (pc := 30) (γ := g2) (a := a) (b := (n + 1)) fc_3_25 rfl rfl (LX_this han) (Nat.le_of_ble_eq_true rfl) (fun C T h => by rw [cf_own cf_3 h]; rfl) dX3_init_30 ?_
  rw [LX_put han]
  have q5 := gd_ref (a := a) (k := 2) (b := (n + 1)) q4 (LX_this han) (Nat.le_of_ble_eq_true rfl) (by rw [LX_len, hn]; show _ < n + 2; omega)
  rw [LX_put han] at q5
  refine r_aload_n (pc := 33) (i := 0) dX3_init_33 rfl 0 rfl ?_
  refine r_aload_n (pc := 34) (i := 0) dX3_init_34 rfl 0 rfl ?_
  refine r_getI (pc := 35) (a := a) fc_3_15 rfl ⟨_, LX_this han⟩ dX3_init_35 ?_
  rw [mU_eq]
  refine r_newA1 (pc := 38) (γ := g2) (lvf := fun g => [(0, .ref (g a)), (1, .int (eI (k : Int)))]) (stf := fun g => [.ref (g a)]) (n := n + 2) (N := k) (tb_i 277 (by decide +kernel) (by decide +kernel)) wk rfl (by omega) (by rw [LX_len, hn]; rfl) q5.1 (fun z => q5.2 _ (by rw [LX_len, hn]; exact Nat.le_refl _) z) (fun g h => ⟨by rw [h a (by omega)], by rw [h a (by omega)]⟩) ⟨by decide, by show _ ≤ 125; omega⟩ dX3_init_38 (fun g3 h3 => ?_)
  rw [LX_push]
  have q6 := gd_nil (q := 1) (n := k) q5
  rw [LX_push] at q6
  have k3 : ∀ z, z < n → g3 z = gA G z := fun z hz => (h3 z (by omega)).trans (k2 z hz)
  refine r_putRF (pc := 40) (γ := g3) (a := a) (b := (n + 2)) fc_3_28 rfl rfl (LX_this han) (Nat.le_of_ble_eq_true rfl) (fun C T h => by rw [cf_own cf_3 h]; rfl) dX3_init_40 ?_
  rw [LX_put han]
  have q7 := gd_ref (a := a) (k := 3) (b := (n + 2)) q6 (LX_this han) (Nat.le_of_ble_eq_true rfl) (by rw [LX_len, hn]; show _ < n + 3; omega)
  rw [LX_put han] at q7
  exact r_vretI (pc := 43) (γ := g3) k3 rfl (by decide) (by show _ ≤ 125; omega) dX3_init_43
abbrev xX1_init : XX := (yX1_init, cX1_init, 1, none, 2, 44, 5, 138)
theorem ci_X1_init_11 : CKI xX1_init 11 xX3_init 1 := ⟨tb_i 142 (by decide +kernel) (by decide +kernel), tb_i 281 (by decide +kernel) (by decide +kernel), ⟨by decide +kernel, by decide +kernel, by decide +kernel⟩, by decide, by decide, rfl, tb_i 280 (by decide +kernel) (by decide +kernel), rfl, Or.inl (tb_i 327 (by decide +kernel) (by decide +kernel))⟩
theorem fc_1_14 : FG RX1 14 1 0 (clT 1 0) true := ⟨RX1, TX1, cf_1, by decide, tb_i 328 (by decide +kernel) (by decide +kernel), rfl, rfl, rfl⟩
theorem wc_8 : wI 8 = 8 := by decide +kernel
theorem fc_1_20 : FG RX1 20 1 1 (clT 1 1) true := ⟨RX1, TX1, cf_1, by decide, tb_i 332 (by decide +kernel) (by decide +kernel), rfl, rfl, rfl⟩
def eX1_init (a n : Nat) : LE := (0, 1, [some (n + 0), some (n + 4)])
def sX1_init (a n : Nat) : List LE := [(0, 3, [none, some (n + 1), some (n + 2), some (n + 3), none]), (1, 8, []), (1, 8, []), (1, 8, []), (1, 8, [])]
def mX1_init (M : MM) (a n : Nat) : MM := (mX3_init M (n + 0) (n + 1) 8)
theorem oX1_init {L : List LE} {M : MM} {a n : Nat} (hn : L.length = n) (ha : L[a]? = some (0, 1, List.replicate (clN 1) none)) (hg : gd L M) : gd (LX L a (eX1_init a n) (sX1_init a n)) (mX1_init M a n) := by
  have han : a < L.length := (List.getElem?_eq_some_iff.mp ha).1
  have han2 : a < n := by omega
  have q0 : gd (LX L a (0, 1, List.replicate (clN 1) none) []) M := by rw [LX_start ha]; exact hg
  have q1 := gd_push (q := 0) (n := 3) (m := clN 3) q0
  rw [LX_push] at q1
  have q2 := oX3_init (a := n + 0) (n := n + 1) (k := 8) (by decide) (by rw [LX_len, hn]; rfl) (LX_at hn rfl) q1
  rw [LX_LX hn] at q2
  have q3 := gd_ref (a := a) (k := 0) (b := (n + 0)) q2 (LX_this han) (Nat.le_of_ble_eq_true rfl) (by rw [LX_len, hn]; show _ < n + 4; omega)
  rw [LX_put han] at q3
  have q4 := gd_nil (q := 1) (n := 8) q3
  rw [LX_push] at q4
  have q5 := gd_ref (a := a) (k := 1) (b := (n + 4)) q4 (LX_this han) (Nat.le_of_ble_eq_true rfl) (by rw [LX_len, hn]; show _ < n + 5; omega)
  rw [LX_put han] at q5
  exact q5
set_option maxHeartbeats 8000000 in
set_option maxRecDepth 100000 in
theorem kX1_init {G : GG} {L : List LE} {M : MM} {a n : Nat} (hn : L.length = n) (ha : L[a]? = some (0, 1, List.replicate (clN 1) none)) (hg : gd L M) : CI G xX1_init [.ref (gA G a)] L M (LX L a (eX1_init a n) (sX1_init a n)) (mX1_init M a n) := by
  have han : a < L.length := (List.getElem?_eq_some_iff.mp ha).1
  have han2 : a < n := by omega
  have q0 : gd (LX L a (0, 1, List.replicate (clN 1) none) []) M := by rw [LX_start ha]; exact hg
  refine CI_of (by decide +kernel) (Nat.le_of_ble_eq_true rfl) ?_
  rw [hn]
  obtain ⟨γ, hγ⟩ : ∃ γ, γ = gA G := ⟨_, rfl⟩
  have K : VV (gS G γ) xX1_init (ZI G xX1_init n (LX L a (eX1_init a n) (sX1_init a n)) (mX1_init M a n)) (LX L a (0, 1, List.replicate (clN 1) none) []) M 0 0 0 [(0, .ref (γ a))] [] := ?_
  · rw [LX_start ha, hγ] at K; exact K
  refine r_aload_n (pc := 0) (i := 0) dX1_init_0 rfl 0 rfl ?_
  refine r_objI (pc := 1) (γ := γ) (tb_i 325 (by decide +kernel) (by decide +kernel)) (tb_i 164 (by decide +kernel) (by decide +kernel)) (tb_i 165 (by decide +kernel) (by decide +kernel)) ⟨Nat.le_of_ble_eq_true rfl, Nat.le_of_ble_eq_true rfl⟩ dX1_init_1 ?_
  refine r_aload_n (pc := 4) (i := 0) dX1_init_4 rfl 0 rfl ?_
  refine r_newO (pc := 5) (γ := γ) (lvf := fun g => [(0, .ref (g a))]) (stf := fun g => [.ref (g a)]) (n := n + 0) cf_3 (tb_i 326 (by decide +kernel) (by decide +kernel)) (tb_i 278 (by decide +kernel) (by decide +kernel)) (tb_i 142 (by decide +kernel) (by decide +kernel)) (by rw [LX_len, hn]; rfl) q0.1 (fun z => q0.2 _ (by rw [LX_len, hn]; exact Nat.le_refl _) z) (nf_all 3 (by decide)) (fun g h => ⟨by rw [h a (by omega)], by rw [h a (by omega)]⟩) ⟨by decide, by decide⟩ dX1_init_5 (fun g1 h1 => ?_)
  rw [LX_push]
  have q1 := gd_push (q := 0) (n := 3) (m := clN 3) q0
  rw [LX_push] at q1
  have k1 : ∀ z, z < n → g1 z = gA G z := fun z hz => (h1 z (by omega)).trans (by rw [hγ])
  refine r_dup (pc := 8) dX1_init_8 rfl ?_
  refine r_bipush (pc := 9) (v := 8) dX1_init_9 (by decide +kernel) ?_
  refine r_callI (pc := 11) (γ := g1) (lvf := fun g => [(0, .ref (g a))]) (stf := fun g => [.ref (g (n + 0)), .ref (g a)]) (b := n + 0) (As := [.int (eI 8)]) (fun _ _ _ _ _ _ _ _ _ h => h) ci_X1_init_11 (kX3_init (G := gS G g1) (a := n + 0) (n := n + 1) (k := 8) (by decide) (by rw [LX_len, hn]; rfl) (LX_at hn rfl) q1) (fun g h => ⟨by rw [h a (by rw [LX_len, hn]; show _ < n + 1; omega)], by rw [h a (by rw [LX_len, hn]; show _ < n + 1; omega), h (n + 0) (by rw [LX_len, hn]; show _ < n + 1; omega)]⟩) rfl (Nat.le_of_ble_eq_true rfl) ⟨by decide, by decide⟩ dX1_init_11 (fun g2 h2 => ?_)
  rw [LX_LX hn]
  have q2 := oX3_init (a := n + 0) (n := n + 1) (k := 8) (by decide) (by rw [LX_len, hn]; rfl) (LX_at hn rfl) q1
  rw [LX_LX hn] at q2
  have k2 : ∀ z, z < n → g2 z = gA G z := fun z hz => (h2 z (by rw [LX_len, hn]; show z < n + 1; omega)).trans (k1 z hz)
  refine r_putRF (pc := 14) (γ := g2) (a := a) (b := (n + 0)) fc_1_14 rfl rfl (LX_this han) (Nat.le_of_ble_eq_true rfl) (fun C T h => by rw [cf_own cf_1 h]; rfl) dX1_init_14 ?_
  rw [LX_put han]
  have q3 := gd_ref (a := a) (k := 0) (b := (n + 0)) q2 (LX_this han) (Nat.le_of_ble_eq_true rfl) (by rw [LX_len, hn]; show _ < n + 4; omega)
  rw [LX_put han] at q3
  refine r_aload_n (pc := 17) (i := 0) dX1_init_17 rfl 0 rfl ?_
  refine r_bipush (pc := 18) (v := 8) dX1_init_18 (by decide +kernel) ?_
  refine r_newA1 (pc := 20) (γ := g2) (lvf := fun g => [(0, .ref (g a))]) (stf := fun g => [.ref (g a)]) (n := n + 4) (N := 8) (tb_i 277 (by decide +kernel) (by decide +kernel)) wc_8 rfl (by decide) (by rw [LX_len, hn]; rfl) q3.1 (fun z => q3.2 _ (by rw [LX_len, hn]; exact Nat.le_refl _) z) (fun g h => ⟨by rw [h a (by omega)], by rw [h a (by omega)]⟩) ⟨by decide, by decide⟩ dX1_init_20 (fun g3 h3 => ?_)
  rw [LX_push]
  have q4 := gd_nil (q := 1) (n := 8) q3
  rw [LX_push] at q4
  have k3 : ∀ z, z < n → g3 z = gA G z := fun z hz => (h3 z (by omega)).trans (k2 z hz)
  refine r_putRF (pc := 22) (γ := g3) (a := a) (b := (n + 4)) fc_1_20 rfl rfl (LX_this han) (Nat.le_of_ble_eq_true rfl) (fun C T h => by rw [cf_own cf_1 h]; rfl) dX1_init_22 ?_
  rw [LX_put han]
  have q5 := gd_ref (a := a) (k := 1) (b := (n + 4)) q4 (LX_this han) (Nat.le_of_ble_eq_true rfl) (by rw [LX_len, hn]; show _ < n + 5; omega)
  rw [LX_put han] at q5
  exact r_vretI (pc := 25) (γ := g3) k3 rfl (by decide) (by decide) dX1_init_25
abbrev xX8_init : XX := (yX8_init, cX8_init, 1, none, 2, 44, 8, 260)
theorem ci_X8_init_11 : CKI xX8_init 11 xX3_init 1 := ⟨tb_i 142 (by decide +kernel) (by decide +kernel), tb_i 281 (by decide +kernel) (by decide +kernel), ⟨by decide +kernel, by decide +kernel, by decide +kernel⟩, by decide, by decide, rfl, tb_i 280 (by decide +kernel) (by decide +kernel), rfl, Or.inl (tb_i 347 (by decide +kernel) (by decide +kernel))⟩
theorem fc_8_14 : FG RX8 14 8 0 (clT 8 0) true := ⟨RX8, TX8, cf_8, by decide, tb_i 348 (by decide +kernel) (by decide +kernel), rfl, rfl, rfl⟩
theorem fc_8_20 : FG RX8 20 8 1 (clT 8 1) true := ⟨RX8, TX8, cf_8, by decide, tb_i 350 (by decide +kernel) (by decide +kernel), rfl, rfl, rfl⟩
def eX8_init (a n : Nat) : LE := (0, 8, [some (n + 0), some (n + 4)])
def sX8_init (a n : Nat) : List LE := [(0, 3, [none, some (n + 1), some (n + 2), some (n + 3), none]), (1, 40, []), (1, 40, []), (1, 40, []), (0, 3, [none, some (n + 5), some (n + 6), some (n + 7), none]), (1, 15, []), (1, 15, []), (1, 15, [])]
def mX8_init (M : MM) (a n : Nat) : MM := (mX3_init (mX3_init M (n + 0) (n + 1) 40) (n + 4) (n + 5) 15)
theorem oX8_init {L : List LE} {M : MM} {a n : Nat} (hn : L.length = n) (ha : L[a]? = some (0, 8, List.replicate (clN 8) none)) (hg : gd L M) : gd (LX L a (eX8_init a n) (sX8_init a n)) (mX8_init M a n) := by
  have han : a < L.length := (List.getElem?_eq_some_iff.mp ha).1
  have han2 : a < n := by omega
  have q0 : gd (LX L a (0, 8, List.replicate (clN 8) none) []) M := by rw [LX_start ha]; exact hg
  have q1 := gd_push (q := 0) (n := 3) (m := clN 3) q0
  rw [LX_push] at q1
  have q2 := oX3_init (a := n + 0) (n := n + 1) (k := 40) (by decide) (by rw [LX_len, hn]; rfl) (LX_at hn rfl) q1
  rw [LX_LX hn] at q2
  have q3 := gd_ref (a := a) (k := 0) (b := (n + 0)) q2 (LX_this han) (Nat.le_of_ble_eq_true rfl) (by rw [LX_len, hn]; show _ < n + 4; omega)
  rw [LX_put han] at q3
  have q4 := gd_push (q := 0) (n := 3) (m := clN 3) q3
  rw [LX_push] at q4
  have q5 := oX3_init (a := n + 4) (n := n + 5) (k := 15) (by decide) (by rw [LX_len, hn]; rfl) (LX_at hn rfl) q4
  rw [LX_LX hn] at q5
  have q6 := gd_ref (a := a) (k := 1) (b := (n + 4)) q5 (LX_this han) (Nat.le_of_ble_eq_true rfl) (by rw [LX_len, hn]; show _ < n + 8; omega)
  rw [LX_put han] at q6
  exact q6
set_option maxHeartbeats 8000000 in
set_option maxRecDepth 100000 in
theorem kX8_init {G : GG} {L : List LE} {M : MM} {a n : Nat} (hn : L.length = n) (ha : L[a]? = some (0, 8, List.replicate (clN 8) none)) (hg : gd L M) : CI G xX8_init [.ref (gA G a)] L M (LX L a (eX8_init a n) (sX8_init a n)) (mX8_init M a n) := by
  have han : a < L.length := (List.getElem?_eq_some_iff.mp ha).1
  have han2 : a < n := by omega
  have q0 : gd (LX L a (0, 8, List.replicate (clN 8) none) []) M := by rw [LX_start ha]; exact hg
  refine CI_of (by decide +kernel) (Nat.le_of_ble_eq_true rfl) ?_
  rw [hn]
  obtain ⟨γ, hγ⟩ : ∃ γ, γ = gA G := ⟨_, rfl⟩
  have K : VV (gS G γ) xX8_init (ZI G xX8_init n (LX L a (eX8_init a n) (sX8_init a n)) (mX8_init M a n)) (LX L a (0, 8, List.replicate (clN 8) none) []) M 0 0 0 [(0, .ref (γ a))] [] := ?_
  · rw [LX_start ha, hγ] at K; exact K
  refine r_aload_n (pc := 0) (i := 0) dX8_init_0 rfl 0 rfl ?_
  refine r_objI (pc := 1) (γ := γ) (tb_i 345 (by decide +kernel) (by decide +kernel)) (tb_i 164 (by decide +kernel) (by decide +kernel)) (tb_i 165 (by decide +kernel) (by decide +kernel)) ⟨Nat.le_of_ble_eq_true rfl, Nat.le_of_ble_eq_true rfl⟩ dX8_init_1 ?_
  refine r_aload_n (pc := 4) (i := 0) dX8_init_4 rfl 0 rfl ?_
  refine r_newO (pc := 5) (γ := γ) (lvf := fun g => [(0, .ref (g a))]) (stf := fun g => [.ref (g a)]) (n := n + 0) cf_3 (tb_i 346 (by decide +kernel) (by decide +kernel)) (tb_i 278 (by decide +kernel) (by decide +kernel)) (tb_i 142 (by decide +kernel) (by decide +kernel)) (by rw [LX_len, hn]; rfl) q0.1 (fun z => q0.2 _ (by rw [LX_len, hn]; exact Nat.le_refl _) z) (nf_all 3 (by decide)) (fun g h => ⟨by rw [h a (by omega)], by rw [h a (by omega)]⟩) ⟨by decide, by decide⟩ dX8_init_5 (fun g1 h1 => ?_)
  rw [LX_push]
  have q1 := gd_push (q := 0) (n := 3) (m := clN 3) q0
  rw [LX_push] at q1
  have k1 : ∀ z, z < n → g1 z = gA G z := fun z hz => (h1 z (by omega)).trans (by rw [hγ])
  refine r_dup (pc := 8) dX8_init_8 rfl ?_
  refine r_bipush (pc := 9) (v := 40) dX8_init_9 (by decide +kernel) ?_
  refine r_callI (pc := 11) (γ := g1) (lvf := fun g => [(0, .ref (g a))]) (stf := fun g => [.ref (g (n + 0)), .ref (g a)]) (b := n + 0) (As := [.int (eI 40)]) (fun _ _ _ _ _ _ _ _ _ h => h) ci_X8_init_11 (kX3_init (G := gS G g1) (a := n + 0) (n := n + 1) (k := 40) (by decide) (by rw [LX_len, hn]; rfl) (LX_at hn rfl) q1) (fun g h => ⟨by rw [h a (by rw [LX_len, hn]; show _ < n + 1; omega)], by rw [h a (by rw [LX_len, hn]; show _ < n + 1; omega), h (n + 0) (by rw [LX_len, hn]; show _ < n + 1; omega)]⟩) rfl (Nat.le_of_ble_eq_true rfl) ⟨by decide, by decide⟩ dX8_init_11 (fun g2 h2 => ?_)
  rw [LX_LX hn]
  have q2 := oX3_init (a := n + 0) (n := n + 1) (k := 40) (by decide) (by rw [LX_len, hn]; rfl) (LX_at hn rfl) q1
  rw [LX_LX hn] at q2
  have k2 : ∀ z, z < n → g2 z = gA G z := fun z hz => (h2 z (by rw [LX_len, hn]; show z < n + 1; omega)).trans (k1 z hz)
  refine r_putRF (pc := 14) (γ := g2) (a := a) (b := (n + 0)) fc_8_14 rfl rfl (LX_this han) (Nat.le_of_ble_eq_true rfl) (fun C T h => by rw [cf_own cf_8 h]; rfl) dX8_init_14 ?_
  rw [LX_put han]
  have q3 := gd_ref (a := a) (k := 0) (b := (n + 0)) q2 (LX_this han) (Nat.le_of_ble_eq_true rfl) (by rw [LX_len, hn]; show _ < n + 4; omega)
  rw [LX_put han] at q3
  refine r_aload_n (pc := 17) (i := 0) dX8_init_17 rfl 0 rfl ?_
  refine r_newO (pc := 18) (γ := g2) (lvf := fun g => [(0, .ref (g a))]) (stf := fun g => [.ref (g a)]) (n := n + 4) cf_3 (tb_i 346 (by decide +kernel) (by decide +kernel)) (tb_i 278 (by decide +kernel) (by decide +kernel)) (tb_i 142 (by decide +kernel) (by decide +kernel)) (by rw [LX_len, hn]; rfl) q3.1 (fun z => q3.2 _ (by rw [LX_len, hn]; exact Nat.le_refl _) z) (nf_all 3 (by decide)) (fun g h => ⟨by rw [h a (by omega)], by rw [h a (by omega)]⟩) ⟨by decide, by decide⟩ dX8_init_18 (fun g3 h3 => ?_)
  rw [LX_push]
  have q4 := gd_push (q := 0) (n := 3) (m := clN 3) q3
  rw [LX_push] at q4
  have k3 : ∀ z, z < n → g3 z = gA G z := fun z hz => (h3 z (by omega)).trans (k2 z hz)
  refine r_dup (pc := 21) dX8_init_21 rfl ?_
  refine r_bipush (pc := 22) (v := 15) dX8_init_22 (by decide +kernel) ?_
  refine r_callI (pc := 24) (γ := g3) (lvf := fun g => [(0, .ref (g a))]) (stf := fun g => [.ref (g (n + 4)), .ref (g a)]) (b := n + 4) (As := [.int (eI 15)]) (fun _ _ _ _ _ _ _ _ _ h => h) ci_X8_init_11 (kX3_init (G := gS G g3) (a := n + 4) (n := n + 5) (k := 15) (by decide) (by rw [LX_len, hn]; rfl) (LX_at hn rfl) q4) (fun g h => ⟨by rw [h a (by rw [LX_len, hn]; show _ < n + 5; omega)], by rw [h a (by rw [LX_len, hn]; show _ < n + 5; omega), h (n + 4) (by rw [LX_len, hn]; show _ < n + 5; omega)]⟩) rfl (Nat.le_of_ble_eq_true rfl) ⟨by decide, by decide⟩ dX8_init_24 (fun g4 h4 => ?_)
  rw [LX_LX hn]
  have q5 := oX3_init (a := n + 4) (n := n + 5) (k := 15) (by decide) (by rw [LX_len, hn]; rfl) (LX_at hn rfl) q4
  rw [LX_LX hn] at q5
  have k4 : ∀ z, z < n → g4 z = gA G z := fun z hz => (h4 z (by rw [LX_len, hn]; show z < n + 5; omega)).trans (k3 z hz)
  refine r_putRF (pc := 27) (γ := g4) (a := a) (b := (n + 4)) fc_8_20 rfl rfl (LX_this han) (Nat.le_of_ble_eq_true rfl) (fun C T h => by rw [cf_own cf_8 h]; rfl) dX8_init_27 ?_
  rw [LX_put han]
  have q6 := gd_ref (a := a) (k := 1) (b := (n + 4)) q5 (LX_this han) (Nat.le_of_ble_eq_true rfl) (by rw [LX_len, hn]; show _ < n + 8; omega)
  rw [LX_put han] at q6
  exact r_vretI (pc := 30) (γ := g4) k4 rfl (by decide) (by decide) dX8_init_30
theorem wc_5 : wI 5 = 5 := by decide +kernel
theorem fc_5_9 : FG RX5 9 5 1 (clT 5 1) true := ⟨RX5, TX5, cf_5, by decide, tb_i 188 (by decide +kernel) (by decide +kernel), rfl, rfl, rfl⟩
theorem fc_5_15 : FG RX5 15 5 2 (clT 5 2) true := ⟨RX5, TX5, cf_5, by decide, tb_i 190 (by decide +kernel) (by decide +kernel), rfl, rfl, rfl⟩
theorem fc_5_18 : FG RX5 18 5 4 (clT 5 4) true := ⟨RX5, TX5, cf_5, by decide, tb_i 202 (by decide +kernel) (by decide +kernel), rfl, rfl, rfl⟩
theorem fc_5_21 : FG RX5 21 5 5 (clT 5 5) true := ⟨RX5, TX5, cf_5, by decide, tb_i 206 (by decide +kernel) (by decide +kernel), rfl, rfl, rfl⟩
theorem fc_5_24 : FG RX5 24 5 6 (clT 5 6) true := ⟨RX5, TX5, cf_5, by decide, tb_i 210 (by decide +kernel) (by decide +kernel), rfl, rfl, rfl⟩
theorem fc_5_27 : FG RX5 27 5 7 (clT 5 7) true := ⟨RX5, TX5, cf_5, by decide, tb_i 213 (by decide +kernel) (by decide +kernel), rfl, rfl, rfl⟩
theorem fc_5_30 : FG RX5 30 5 8 (clT 5 8) true := ⟨RX5, TX5, cf_5, by decide, tb_i 215 (by decide +kernel) (by decide +kernel), rfl, rfl, rfl⟩
theorem wc_64 : wI 64 = 64 := by decide +kernel
theorem fc_5_33 : FG RX5 33 5 9 (clT 5 9) true := ⟨RX5, TX5, cf_5, by decide, tb_i 217 (by decide +kernel) (by decide +kernel), rfl, rfl, rfl⟩
theorem fc_5_36 : FG RX5 36 5 10 (clT 5 10) true := ⟨RX5, TX5, cf_5, by decide, tb_i 218 (by decide +kernel) (by decide +kernel), rfl, rfl, rfl⟩
theorem wc_3 : wI 3 = 3 := by decide +kernel
theorem fc_5_39 : FG RX5 39 5 11 (clT 5 11) true := ⟨RX5, TX5, cf_5, by decide, tb_i 220 (by decide +kernel) (by decide +kernel), rfl, rfl, rfl⟩
abbrev xX5_init : XX := (yX5_init, cX5_init, 1, none, 1, 20, 10, 125)
def eX5_init (a n : Nat) : LE := (0, 5, [none, some (n + 0), some (n + 1), none, some (n + 2), some (n + 3), some (n + 4), some (n + 5), some (n + 6), some (n + 7), some (n + 8), some (n + 9), none, none, none, none, none])
def sX5_init (a n : Nat) : List LE := [(1, 5, []), (1, 5, []), (1, 8, []), (1, 8, []), (1, 8, []), (1, 8, []), (1, 8, []), (1, 64, []), (1, 8, []), (1, 3, [])]
def mX5_init (M : MM) (a n : Nat) : MM := M
theorem oX5_init {L : List LE} {M : MM} {a n : Nat} (hn : L.length = n) (ha : L[a]? = some (0, 5, List.replicate (clN 5) none)) (hg : gd L M) : gd (LX L a (eX5_init a n) (sX5_init a n)) (mX5_init M a n) := by
  have han : a < L.length := (List.getElem?_eq_some_iff.mp ha).1
  have han2 : a < n := by omega
  have q0 : gd (LX L a (0, 5, List.replicate (clN 5) none) []) M := by rw [LX_start ha]; exact hg
  have q1 := gd_nil (q := 1) (n := 5) q0
  rw [LX_push] at q1
  have q2 := gd_ref (a := a) (k := 1) (b := (n + 0)) q1 (LX_this han) (Nat.le_of_ble_eq_true rfl) (by rw [LX_len, hn]; show _ < n + 1; omega)
  rw [LX_put han] at q2
  have q3 := gd_nil (q := 1) (n := 5) q2
  rw [LX_push] at q3
  have q4 := gd_ref (a := a) (k := 2) (b := (n + 1)) q3 (LX_this han) (Nat.le_of_ble_eq_true rfl) (by rw [LX_len, hn]; show _ < n + 2; omega)
  rw [LX_put han] at q4
  have q5 := gd_nil (q := 1) (n := 8) q4
  rw [LX_push] at q5
  have q6 := gd_ref (a := a) (k := 4) (b := (n + 2)) q5 (LX_this han) (Nat.le_of_ble_eq_true rfl) (by rw [LX_len, hn]; show _ < n + 3; omega)
  rw [LX_put han] at q6
  have q7 := gd_nil (q := 1) (n := 8) q6
  rw [LX_push] at q7
  have q8 := gd_ref (a := a) (k := 5) (b := (n + 3)) q7 (LX_this han) (Nat.le_of_ble_eq_true rfl) (by rw [LX_len, hn]; show _ < n + 4; omega)
  rw [LX_put han] at q8
  have q9 := gd_nil (q := 1) (n := 8) q8
  rw [LX_push] at q9
  have q10 := gd_ref (a := a) (k := 6) (b := (n + 4)) q9 (LX_this han) (Nat.le_of_ble_eq_true rfl) (by rw [LX_len, hn]; show _ < n + 5; omega)
  rw [LX_put han] at q10
  have q11 := gd_nil (q := 1) (n := 8) q10
  rw [LX_push] at q11
  have q12 := gd_ref (a := a) (k := 7) (b := (n + 5)) q11 (LX_this han) (Nat.le_of_ble_eq_true rfl) (by rw [LX_len, hn]; show _ < n + 6; omega)
  rw [LX_put han] at q12
  have q13 := gd_nil (q := 1) (n := 8) q12
  rw [LX_push] at q13
  have q14 := gd_ref (a := a) (k := 8) (b := (n + 6)) q13 (LX_this han) (Nat.le_of_ble_eq_true rfl) (by rw [LX_len, hn]; show _ < n + 7; omega)
  rw [LX_put han] at q14
  have q15 := gd_nil (q := 1) (n := 64) q14
  rw [LX_push] at q15
  have q16 := gd_ref (a := a) (k := 9) (b := (n + 7)) q15 (LX_this han) (Nat.le_of_ble_eq_true rfl) (by rw [LX_len, hn]; show _ < n + 8; omega)
  rw [LX_put han] at q16
  have q17 := gd_nil (q := 1) (n := 8) q16
  rw [LX_push] at q17
  have q18 := gd_ref (a := a) (k := 10) (b := (n + 8)) q17 (LX_this han) (Nat.le_of_ble_eq_true rfl) (by rw [LX_len, hn]; show _ < n + 9; omega)
  rw [LX_put han] at q18
  have q19 := gd_nil (q := 1) (n := 3) q18
  rw [LX_push] at q19
  have q20 := gd_ref (a := a) (k := 11) (b := (n + 9)) q19 (LX_this han) (Nat.le_of_ble_eq_true rfl) (by rw [LX_len, hn]; show _ < n + 10; omega)
  rw [LX_put han] at q20
  exact q20
set_option maxHeartbeats 8000000 in
set_option maxRecDepth 100000 in
theorem kX5_init {G : GG} {L : List LE} {M : MM} {a n : Nat} (hn : L.length = n) (ha : L[a]? = some (0, 5, List.replicate (clN 5) none)) (hg : gd L M) : CI G xX5_init [.ref (gA G a)] L M (LX L a (eX5_init a n) (sX5_init a n)) (mX5_init M a n) := by
  have han : a < L.length := (List.getElem?_eq_some_iff.mp ha).1
  have han2 : a < n := by omega
  have q0 : gd (LX L a (0, 5, List.replicate (clN 5) none) []) M := by rw [LX_start ha]; exact hg
  refine CI_of (by decide +kernel) (Nat.le_of_ble_eq_true rfl) ?_
  rw [hn]
  obtain ⟨γ, hγ⟩ : ∃ γ, γ = gA G := ⟨_, rfl⟩
  have K : VV (gS G γ) xX5_init (ZI G xX5_init n (LX L a (eX5_init a n) (sX5_init a n)) (mX5_init M a n)) (LX L a (0, 5, List.replicate (clN 5) none) []) M 0 0 0 [(0, .ref (γ a))] [] := ?_
  · rw [LX_start ha, hγ] at K; exact K
  refine r_aload_n (pc := 0) (i := 0) dX5_init_0 rfl 0 rfl ?_
  refine r_objI (pc := 1) (γ := γ) (tb_i 184 (by decide +kernel) (by decide +kernel)) (tb_i 164 (by decide +kernel) (by decide +kernel)) (tb_i 165 (by decide +kernel) (by decide +kernel)) ⟨Nat.le_of_ble_eq_true rfl, Nat.le_of_ble_eq_true rfl⟩ dX5_init_1 ?_
  refine r_aload_n (pc := 4) (i := 0) dX5_init_4 rfl 0 rfl ?_
  refine r_iconst (pc := 5) (v := 5) dX5_init_5 (by decide +kernel) ?_
  refine r_newA1 (pc := 6) (γ := γ) (lvf := fun g => [(0, .ref (g a))]) (stf := fun g => [.ref (g a)]) (n := n + 0) (N := 5) (tb_i 277 (by decide +kernel) (by decide +kernel)) wc_5 rfl (by decide) (by rw [LX_len, hn]; rfl) q0.1 (fun z => q0.2 _ (by rw [LX_len, hn]; exact Nat.le_refl _) z) (fun g h => ⟨by rw [h a (by omega)], by rw [h a (by omega)]⟩) ⟨by decide, by decide⟩ dX5_init_6 (fun g1 h1 => ?_)
  rw [LX_push]
  have q1 := gd_nil (q := 1) (n := 5) q0
  rw [LX_push] at q1
  have k1 : ∀ z, z < n → g1 z = gA G z := fun z hz => (h1 z (by omega)).trans (by rw [hγ])
  refine r_putRF (pc := 8) (γ := g1) (a := a) (b := (n + 0)) fc_5_9 rfl rfl (LX_this han) (Nat.le_of_ble_eq_true rfl) (fun C T h => by rw [cf_own cf_5 h]; rfl) dX5_init_8 ?_
  rw [LX_put han]
  have q2 := gd_ref (a := a) (k := 1) (b := (n + 0)) q1 (LX_this han) (Nat.le_of_ble_eq_true rfl) (by rw [LX_len, hn]; show _ < n + 1; omega)
  rw [LX_put han] at q2
  refine r_aload_n (pc := 11) (i := 0) dX5_init_11 rfl 0 rfl ?_
  refine r_iconst (pc := 12) (v := 5) dX5_init_12 (by decide +kernel) ?_
  refine r_newA1 (pc := 13) (γ := g1) (lvf := fun g => [(0, .ref (g a))]) (stf := fun g => [.ref (g a)]) (n := n + 1) (N := 5) (tb_i 277 (by decide +kernel) (by decide +kernel)) wc_5 rfl (by decide) (by rw [LX_len, hn]; rfl) q2.1 (fun z => q2.2 _ (by rw [LX_len, hn]; exact Nat.le_refl _) z) (fun g h => ⟨by rw [h a (by omega)], by rw [h a (by omega)]⟩) ⟨by decide, by decide⟩ dX5_init_13 (fun g2 h2 => ?_)
  rw [LX_push]
  have q3 := gd_nil (q := 1) (n := 5) q2
  rw [LX_push] at q3
  have k2 : ∀ z, z < n → g2 z = gA G z := fun z hz => (h2 z (by omega)).trans (k1 z hz)
  refine r_putRF (pc := 15) (γ := g2) (a := a) (b := (n + 1)) fc_5_15 rfl rfl (LX_this han) (Nat.le_of_ble_eq_true rfl) (fun C T h => by rw [cf_own cf_5 h]; rfl) dX5_init_15 ?_
  rw [LX_put han]
  have q4 := gd_ref (a := a) (k := 2) (b := (n + 1)) q3 (LX_this han) (Nat.le_of_ble_eq_true rfl) (by rw [LX_len, hn]; show _ < n + 2; omega)
  rw [LX_put han] at q4
  refine r_aload_n (pc := 18) (i := 0) dX5_init_18 rfl 0 rfl ?_
  refine r_bipush (pc := 19) (v := 8) dX5_init_19 (by decide +kernel) ?_
  refine r_newA1 (pc := 21) (γ := g2) (lvf := fun g => [(0, .ref (g a))]) (stf := fun g => [.ref (g a)]) (n := n + 2) (N := 8) (tb_i 277 (by decide +kernel) (by decide +kernel)) wc_8 rfl (by decide) (by rw [LX_len, hn]; rfl) q4.1 (fun z => q4.2 _ (by rw [LX_len, hn]; exact Nat.le_refl _) z) (fun g h => ⟨by rw [h a (by omega)], by rw [h a (by omega)]⟩) ⟨by decide, by decide⟩ dX5_init_21 (fun g3 h3 => ?_)
  rw [LX_push]
  have q5 := gd_nil (q := 1) (n := 8) q4
  rw [LX_push] at q5
  have k3 : ∀ z, z < n → g3 z = gA G z := fun z hz => (h3 z (by omega)).trans (k2 z hz)
  refine r_putRF (pc := 23) (γ := g3) (a := a) (b := (n + 2)) fc_5_18 rfl rfl (LX_this han) (Nat.le_of_ble_eq_true rfl) (fun C T h => by rw [cf_own cf_5 h]; rfl) dX5_init_23 ?_
  rw [LX_put han]
  have q6 := gd_ref (a := a) (k := 4) (b := (n + 2)) q5 (LX_this han) (Nat.le_of_ble_eq_true rfl) (by rw [LX_len, hn]; show _ < n + 3; omega)
  rw [LX_put han] at q6
  refine r_aload_n (pc := 26) (i := 0) dX5_init_26 rfl 0 rfl ?_
  refine r_bipush (pc := 27) (v := 8) dX5_init_27 (by decide +kernel) ?_
  refine r_newA1 (pc := 29) (γ := g3) (lvf := fun g => [(0, .ref (g a))]) (stf := fun g => [.ref (g a)]) (n := n + 3) (N := 8) (tb_i 277 (by decide +kernel) (by decide +kernel)) wc_8 rfl (by decide) (by rw [LX_len, hn]; rfl) q6.1 (fun z => q6.2 _ (by rw [LX_len, hn]; exact Nat.le_refl _) z) (fun g h => ⟨by rw [h a (by omega)], by rw [h a (by omega)]⟩) ⟨by decide, by decide⟩ dX5_init_29 (fun g4 h4 => ?_)
  rw [LX_push]
  have q7 := gd_nil (q := 1) (n := 8) q6
  rw [LX_push] at q7
  have k4 : ∀ z, z < n → g4 z = gA G z := fun z hz => (h4 z (by omega)).trans (k3 z hz)
  refine r_putRF (pc := 31) (γ := g4) (a := a) (b := (n + 3)) fc_5_21 rfl rfl (LX_this han) (Nat.le_of_ble_eq_true rfl) (fun C T h => by rw [cf_own cf_5 h]; rfl) dX5_init_31 ?_
  rw [LX_put han]
  have q8 := gd_ref (a := a) (k := 5) (b := (n + 3)) q7 (LX_this han) (Nat.le_of_ble_eq_true rfl) (by rw [LX_len, hn]; show _ < n + 4; omega)
  rw [LX_put han] at q8
  refine r_aload_n (pc := 34) (i := 0) dX5_init_34 rfl 0 rfl ?_
  refine r_bipush (pc := 35) (v := 8) dX5_init_35 (by decide +kernel) ?_
  refine r_newA1 (pc := 37) (γ := g4) (lvf := fun g => [(0, .ref (g a))]) (stf := fun g => [.ref (g a)]) (n := n + 4) (N := 8) (tb_i 277 (by decide +kernel) (by decide +kernel)) wc_8 rfl (by decide) (by rw [LX_len, hn]; rfl) q8.1 (fun z => q8.2 _ (by rw [LX_len, hn]; exact Nat.le_refl _) z) (fun g h => ⟨by rw [h a (by omega)], by rw [h a (by omega)]⟩) ⟨by decide, by decide⟩ dX5_init_37 (fun g5 h5 => ?_)
  rw [LX_push]
  have q9 := gd_nil (q := 1) (n := 8) q8
  rw [LX_push] at q9
  have k5 : ∀ z, z < n → g5 z = gA G z := fun z hz => (h5 z (by omega)).trans (k4 z hz)
  refine r_putRF (pc := 39) (γ := g5) (a := a) (b := (n + 4)) fc_5_24 rfl rfl (LX_this han) (Nat.le_of_ble_eq_true rfl) (fun C T h => by rw [cf_own cf_5 h]; rfl) dX5_init_39 ?_
  rw [LX_put han]
  have q10 := gd_ref (a := a) (k := 6) (b := (n + 4)) q9 (LX_this han) (Nat.le_of_ble_eq_true rfl) (by rw [LX_len, hn]; show _ < n + 5; omega)
  rw [LX_put han] at q10
  refine r_aload_n (pc := 42) (i := 0) dX5_init_42 rfl 0 rfl ?_
  refine r_bipush (pc := 43) (v := 8) dX5_init_43 (by decide +kernel) ?_
  refine r_newA1 (pc := 45) (γ := g5) (lvf := fun g => [(0, .ref (g a))]) (stf := fun g => [.ref (g a)]) (n := n + 5) (N := 8) (tb_i 277 (by decide +kernel) (by decide +kernel)) wc_8 rfl (by decide) (by rw [LX_len, hn]; rfl) q10.1 (fun z => q10.2 _ (by rw [LX_len, hn]; exact Nat.le_refl _) z) (fun g h => ⟨by rw [h a (by omega)], by rw [h a (by omega)]⟩) ⟨by decide, by decide⟩ dX5_init_45 (fun g6 h6 => ?_)
  rw [LX_push]
  have q11 := gd_nil (q := 1) (n := 8) q10
  rw [LX_push] at q11
  have k6 : ∀ z, z < n → g6 z = gA G z := fun z hz => (h6 z (by omega)).trans (k5 z hz)
  refine r_putRF (pc := 47) (γ := g6) (a := a) (b := (n + 5)) fc_5_27 rfl rfl (LX_this han) (Nat.le_of_ble_eq_true rfl) (fun C T h => by rw [cf_own cf_5 h]; rfl) dX5_init_47 ?_
  rw [LX_put han]
  have q12 := gd_ref (a := a) (k := 7) (b := (n + 5)) q11 (LX_this han) (Nat.le_of_ble_eq_true rfl) (by rw [LX_len, hn]; show _ < n + 6; omega)
  rw [LX_put han] at q12
  refine r_aload_n (pc := 50) (i := 0) dX5_init_50 rfl 0 rfl ?_
  refine r_bipush (pc := 51) (v := 8) dX5_init_51 (by decide +kernel) ?_
  refine r_newA1 (pc := 53) (γ := g6) (lvf := fun g => [(0, .ref (g a))]) (stf := fun g => [.ref (g a)]) (n := n + 6) (N := 8) (tb_i 277 (by decide +kernel) (by decide +kernel)) wc_8 rfl (by decide) (by rw [LX_len, hn]; rfl) q12.1 (fun z => q12.2 _ (by rw [LX_len, hn]; exact Nat.le_refl _) z) (fun g h => ⟨by rw [h a (by omega)], by rw [h a (by omega)]⟩) ⟨by decide, by decide⟩ dX5_init_53 (fun g7 h7 => ?_)
  rw [LX_push]
  have q13 := gd_nil (q := 1) (n := 8) q12
  rw [LX_push] at q13
  have k7 : ∀ z, z < n → g7 z = gA G z := fun z hz => (h7 z (by omega)).trans (k6 z hz)
  refine r_putRF (pc := 55) (γ := g7) (a := a) (b := (n + 6)) fc_5_30 rfl rfl (LX_this han) (Nat.le_of_ble_eq_true rfl) (fun C T h => by rw [cf_own cf_5 h]; rfl) dX5_init_55 ?_
  rw [LX_put han]
  have q14 := gd_ref (a := a) (k := 8) (b := (n + 6)) q13 (LX_this han) (Nat.le_of_ble_eq_true rfl) (by rw [LX_len, hn]; show _ < n + 7; omega)
  rw [LX_put han] at q14
  refine r_aload_n (pc := 58) (i := 0) dX5_init_58 rfl 0 rfl ?_
  refine r_bipush (pc := 59) (v := 64) dX5_init_59 (by decide +kernel) ?_
  refine r_newA1 (pc := 61) (γ := g7) (lvf := fun g => [(0, .ref (g a))]) (stf := fun g => [.ref (g a)]) (n := n + 7) (N := 64) (tb_i 277 (by decide +kernel) (by decide +kernel)) wc_64 rfl (by decide) (by rw [LX_len, hn]; rfl) q14.1 (fun z => q14.2 _ (by rw [LX_len, hn]; exact Nat.le_refl _) z) (fun g h => ⟨by rw [h a (by omega)], by rw [h a (by omega)]⟩) ⟨by decide, by decide⟩ dX5_init_61 (fun g8 h8 => ?_)
  rw [LX_push]
  have q15 := gd_nil (q := 1) (n := 64) q14
  rw [LX_push] at q15
  have k8 : ∀ z, z < n → g8 z = gA G z := fun z hz => (h8 z (by omega)).trans (k7 z hz)
  refine r_putRF (pc := 63) (γ := g8) (a := a) (b := (n + 7)) fc_5_33 rfl rfl (LX_this han) (Nat.le_of_ble_eq_true rfl) (fun C T h => by rw [cf_own cf_5 h]; rfl) dX5_init_63 ?_
  rw [LX_put han]
  have q16 := gd_ref (a := a) (k := 9) (b := (n + 7)) q15 (LX_this han) (Nat.le_of_ble_eq_true rfl) (by rw [LX_len, hn]; show _ < n + 8; omega)
  rw [LX_put han] at q16
  refine r_aload_n (pc := 66) (i := 0) dX5_init_66 rfl 0 rfl ?_
  refine r_bipush (pc := 67) (v := 8) dX5_init_67 (by decide +kernel) ?_
  refine r_newA1 (pc := 69) (γ := g8) (lvf := fun g => [(0, .ref (g a))]) (stf := fun g => [.ref (g a)]) (n := n + 8) (N := 8) (tb_i 277 (by decide +kernel) (by decide +kernel)) wc_8 rfl (by decide) (by rw [LX_len, hn]; rfl) q16.1 (fun z => q16.2 _ (by rw [LX_len, hn]; exact Nat.le_refl _) z) (fun g h => ⟨by rw [h a (by omega)], by rw [h a (by omega)]⟩) ⟨by decide, by decide⟩ dX5_init_69 (fun g9 h9 => ?_)
  rw [LX_push]
  have q17 := gd_nil (q := 1) (n := 8) q16
  rw [LX_push] at q17
  have k9 : ∀ z, z < n → g9 z = gA G z := fun z hz => (h9 z (by omega)).trans (k8 z hz)
  refine r_putRF (pc := 71) (γ := g9) (a := a) (b := (n + 8)) fc_5_36 rfl rfl (LX_this han) (Nat.le_of_ble_eq_true rfl) (fun C T h => by rw [cf_own cf_5 h]; rfl) dX5_init_71 ?_
  rw [LX_put han]
  have q18 := gd_ref (a := a) (k := 10) (b := (n + 8)) q17 (LX_this han) (Nat.le_of_ble_eq_true rfl) (by rw [LX_len, hn]; show _ < n + 9; omega)
  rw [LX_put han] at q18
  refine r_aload_n (pc := 74) (i := 0) dX5_init_74 rfl 0 rfl ?_
  refine r_iconst (pc := 75) (v := 3) dX5_init_75 (by decide +kernel) ?_
  refine r_newA1 (pc := 76) (γ := g9) (lvf := fun g => [(0, .ref (g a))]) (stf := fun g => [.ref (g a)]) (n := n + 9) (N := 3) (tb_i 277 (by decide +kernel) (by decide +kernel)) wc_3 rfl (by decide) (by rw [LX_len, hn]; rfl) q18.1 (fun z => q18.2 _ (by rw [LX_len, hn]; exact Nat.le_refl _) z) (fun g h => ⟨by rw [h a (by omega)], by rw [h a (by omega)]⟩) ⟨by decide, by decide⟩ dX5_init_76 (fun g10 h10 => ?_)
  rw [LX_push]
  have q19 := gd_nil (q := 1) (n := 3) q18
  rw [LX_push] at q19
  have k10 : ∀ z, z < n → g10 z = gA G z := fun z hz => (h10 z (by omega)).trans (k9 z hz)
  refine r_putRF (pc := 78) (γ := g10) (a := a) (b := (n + 9)) fc_5_39 rfl rfl (LX_this han) (Nat.le_of_ble_eq_true rfl) (fun C T h => by rw [cf_own cf_5 h]; rfl) dX5_init_78 ?_
  rw [LX_put han]
  have q20 := gd_ref (a := a) (k := 11) (b := (n + 9)) q19 (LX_this han) (Nat.le_of_ble_eq_true rfl) (by rw [LX_len, hn]; show _ < n + 10; omega)
  rw [LX_put han] at q20
  exact r_vretI (pc := 81) (γ := g10) k10 rfl (by decide) (by decide) dX5_init_81
abbrev xX7_init : XX := (yX7_init, cX7_init, 1, none, 3, 64, 35, 808)
theorem ci_X7_init_11 : CKI xX7_init 11 xX5_init 0 := ⟨tb_i 141 (by decide +kernel) (by decide +kernel), tb_i 183 (by decide +kernel) (by decide +kernel), ⟨by decide +kernel, by decide +kernel, by decide +kernel⟩, by decide, by decide, rfl, tb_i 182 (by decide +kernel) (by decide +kernel), rfl, Or.inr ⟨"PaperDonkey", tn_i 408 (by decide +kernel) rfl⟩⟩
theorem fc_7_12 : FG RX7 12 7 0 (clT 7 0) true := ⟨RX7, TX7, cf_7, by decide, tb_i 415 (by decide +kernel) (by decide +kernel), rfl, rfl, rfl⟩
theorem ci_X7_init_20 : CKI xX7_init 20 xX3_init 1 := ⟨tb_i 142 (by decide +kernel) (by decide +kernel), tb_i 281 (by decide +kernel) (by decide +kernel), ⟨by decide +kernel, by decide +kernel, by decide +kernel⟩, by decide, by decide, rfl, tb_i 280 (by decide +kernel) (by decide +kernel), rfl, Or.inl (tb_i 410 (by decide +kernel) (by decide +kernel))⟩
theorem fc_7_23 : FG RX7 23 7 1 (clT 7 1) true := ⟨RX7, TX7, cf_7, by decide, tb_i 417 (by decide +kernel) (by decide +kernel), rfl, rfl, rfl⟩
theorem ci_X7_init_29 : CKI xX7_init 29 xX1_init 0 := ⟨tb_i 144 (by decide +kernel) (by decide +kernel), tb_i 324 (by decide +kernel) (by decide +kernel), ⟨by decide +kernel, by decide +kernel, by decide +kernel⟩, by decide, by decide, rfl, tb_i 323 (by decide +kernel) (by decide +kernel), rfl, Or.inr ⟨"PaperDonkey", tn_i 412 (by decide +kernel) rfl⟩⟩
theorem fc_7_30 : FG RX7 30 7 2 (clT 7 2) true := ⟨RX7, TX7, cf_7, by decide, tb_i 419 (by decide +kernel) (by decide +kernel), rfl, rfl, rfl⟩
theorem fc_7_34 : FG RX7 34 7 3 (clT 7 3) true := ⟨RX7, TX7, cf_7, by decide, tb_i 421 (by decide +kernel) (by decide +kernel), rfl, rfl, rfl⟩
theorem ci_X7_init_39 : CKI xX7_init 39 xX8_init 0 := ⟨tb_i 145 (by decide +kernel) (by decide +kernel), tb_i 344 (by decide +kernel) (by decide +kernel), ⟨by decide +kernel, by decide +kernel, by decide +kernel⟩, by decide, by decide, rfl, tb_i 343 (by decide +kernel) (by decide +kernel), rfl, Or.inr ⟨"PaperDonkey", tn_i 414 (by decide +kernel) rfl⟩⟩
theorem fc_7_40 : FG RX7 40 7 4 (clT 7 4) true := ⟨RX7, TX7, cf_7, by decide, tb_i 423 (by decide +kernel) (by decide +kernel), rfl, rfl, rfl⟩
theorem wc_4 : wI 4 = 4 := by decide +kernel
theorem fc_7_44 : FG RX7 44 7 7 (clT 7 7) true := ⟨RX7, TX7, cf_7, by decide, tb_i 429 (by decide +kernel) (by decide +kernel), rfl, rfl, rfl⟩
def eX7_init (a n : Nat) : LE := (0, 7, [some (n + 0), some (n + 11), some (n + 15), some (n + 21), some (n + 25), none, none, some (n + 34), none, none, none, none, none])
def sX7_init (a n : Nat) : List LE := [(0, 5, [none, some (n + 1), some (n + 2), none, some (n + 3), some (n + 4), some (n + 5), some (n + 6), some (n + 7), some (n + 8), some (n + 9), some (n + 10), none, none, none, none, none]), (1, 5, []), (1, 5, []), (1, 8, []), (1, 8, []), (1, 8, []), (1, 8, []), (1, 8, []), (1, 64, []), (1, 8, []), (1, 3, []), (0, 3, [none, some (n + 12), some (n + 13), some (n + 14), none]), (1, 40, []), (1, 40, []), (1, 40, []), (0, 1, [some (n + 16), some (n + 20)]), (0, 3, [none, some (n + 17), some (n + 18), some (n + 19), none]), (1, 8, []), (1, 8, []), (1, 8, []), (1, 8, []), (0, 3, [none, some (n + 22), some (n + 23), some (n + 24), none]), (1, 25, []), (1, 25, []), (1, 25, []), (0, 8, [some (n + 26), some (n + 30)]), (0, 3, [none, some (n + 27), some (n + 28), some (n + 29), none]), (1, 40, []), (1, 40, []), (1, 40, []), (0, 3, [none, some (n + 31), some (n + 32), some (n + 33), none]), (1, 15, []), (1, 15, []), (1, 15, []), (1, 4, [])]
def mX7_init (M : MM) (a n : Nat) : MM := (mX8_init (mX3_init (mX1_init (mX3_init (mX5_init M (n + 0) (n + 1)) (n + 11) (n + 12) 40) (n + 15) (n + 16)) (n + 21) (n + 22) 25) (n + 25) (n + 26))
theorem oX7_init {L : List LE} {M : MM} {a n : Nat} (hn : L.length = n) (ha : L[a]? = some (0, 7, List.replicate (clN 7) none)) (hg : gd L M) : gd (LX L a (eX7_init a n) (sX7_init a n)) (mX7_init M a n) := by
  have han : a < L.length := (List.getElem?_eq_some_iff.mp ha).1
  have han2 : a < n := by omega
  have q0 : gd (LX L a (0, 7, List.replicate (clN 7) none) []) M := by rw [LX_start ha]; exact hg
  have q1 := gd_push (q := 0) (n := 5) (m := clN 5) q0
  rw [LX_push] at q1
  have q2 := oX5_init (a := n + 0) (n := n + 1) (by rw [LX_len, hn]; rfl) (LX_at hn rfl) q1
  rw [LX_LX hn] at q2
  have q3 := gd_ref (a := a) (k := 0) (b := (n + 0)) q2 (LX_this han) (Nat.le_of_ble_eq_true rfl) (by rw [LX_len, hn]; show _ < n + 11; omega)
  rw [LX_put han] at q3
  have q4 := gd_push (q := 0) (n := 3) (m := clN 3) q3
  rw [LX_push] at q4
  have q5 := oX3_init (a := n + 11) (n := n + 12) (k := 40) (by decide) (by rw [LX_len, hn]; rfl) (LX_at hn rfl) q4
  rw [LX_LX hn] at q5
  have q6 := gd_ref (a := a) (k := 1) (b := (n + 11)) q5 (LX_this han) (Nat.le_of_ble_eq_true rfl) (by rw [LX_len, hn]; show _ < n + 15; omega)
  rw [LX_put han] at q6
  have q7 := gd_push (q := 0) (n := 1) (m := clN 1) q6
  rw [LX_push] at q7
  have q8 := oX1_init (a := n + 15) (n := n + 16) (by rw [LX_len, hn]; rfl) (LX_at hn rfl) q7
  rw [LX_LX hn] at q8
  have q9 := gd_ref (a := a) (k := 2) (b := (n + 15)) q8 (LX_this han) (Nat.le_of_ble_eq_true rfl) (by rw [LX_len, hn]; show _ < n + 21; omega)
  rw [LX_put han] at q9
  have q10 := gd_push (q := 0) (n := 3) (m := clN 3) q9
  rw [LX_push] at q10
  have q11 := oX3_init (a := n + 21) (n := n + 22) (k := 25) (by decide) (by rw [LX_len, hn]; rfl) (LX_at hn rfl) q10
  rw [LX_LX hn] at q11
  have q12 := gd_ref (a := a) (k := 3) (b := (n + 21)) q11 (LX_this han) (Nat.le_of_ble_eq_true rfl) (by rw [LX_len, hn]; show _ < n + 25; omega)
  rw [LX_put han] at q12
  have q13 := gd_push (q := 0) (n := 8) (m := clN 8) q12
  rw [LX_push] at q13
  have q14 := oX8_init (a := n + 25) (n := n + 26) (by rw [LX_len, hn]; rfl) (LX_at hn rfl) q13
  rw [LX_LX hn] at q14
  have q15 := gd_ref (a := a) (k := 4) (b := (n + 25)) q14 (LX_this han) (Nat.le_of_ble_eq_true rfl) (by rw [LX_len, hn]; show _ < n + 34; omega)
  rw [LX_put han] at q15
  have q16 := gd_nil (q := 1) (n := 4) q15
  rw [LX_push] at q16
  have q17 := gd_ref (a := a) (k := 7) (b := (n + 34)) q16 (LX_this han) (Nat.le_of_ble_eq_true rfl) (by rw [LX_len, hn]; show _ < n + 35; omega)
  rw [LX_put han] at q17
  exact q17
set_option maxHeartbeats 8000000 in
set_option maxRecDepth 100000 in
theorem kX7_init {G : GG} {L : List LE} {M : MM} {a n : Nat} (hn : L.length = n) (ha : L[a]? = some (0, 7, List.replicate (clN 7) none)) (hg : gd L M) : CI G xX7_init [.ref (gA G a)] L M (LX L a (eX7_init a n) (sX7_init a n)) (mX7_init M a n) := by
  have han : a < L.length := (List.getElem?_eq_some_iff.mp ha).1
  have han2 : a < n := by omega
  have q0 : gd (LX L a (0, 7, List.replicate (clN 7) none) []) M := by rw [LX_start ha]; exact hg
  refine CI_of (by decide +kernel) (Nat.le_of_ble_eq_true rfl) ?_
  rw [hn]
  obtain ⟨γ, hγ⟩ : ∃ γ, γ = gA G := ⟨_, rfl⟩
  have K : VV (gS G γ) xX7_init (ZI G xX7_init n (LX L a (eX7_init a n) (sX7_init a n)) (mX7_init M a n)) (LX L a (0, 7, List.replicate (clN 7) none) []) M 0 0 0 [(0, .ref (γ a))] [] := ?_
  · rw [LX_start ha, hγ] at K; exact K
  refine r_aload_n (pc := 0) (i := 0) dX7_init_0 rfl 0 rfl ?_
  refine r_objI (pc := 1) (γ := γ) (tb_i 406 (by decide +kernel) (by decide +kernel)) (tb_i 164 (by decide +kernel) (by decide +kernel)) (tb_i 165 (by decide +kernel) (by decide +kernel)) ⟨Nat.le_of_ble_eq_true rfl, Nat.le_of_ble_eq_true rfl⟩ dX7_init_1 ?_
  refine r_aload_n (pc := 4) (i := 0) dX7_init_4 rfl 0 rfl ?_
  refine r_newO (pc := 5) (γ := γ) (lvf := fun g => [(0, .ref (g a))]) (stf := fun g => [.ref (g a)]) (n := n + 0) cf_5 (tb_i 407 (by decide +kernel) (by decide +kernel)) (tb_i 180 (by decide +kernel) (by decide +kernel)) (tb_i 141 (by decide +kernel) (by decide +kernel)) (by rw [LX_len, hn]; rfl) q0.1 (fun z => q0.2 _ (by rw [LX_len, hn]; exact Nat.le_refl _) z) (nf_all 5 (by decide)) (fun g h => ⟨by rw [h a (by omega)], by rw [h a (by omega)]⟩) ⟨by decide, by decide⟩ dX7_init_5 (fun g1 h1 => ?_)
  rw [LX_push]
  have q1 := gd_push (q := 0) (n := 5) (m := clN 5) q0
  rw [LX_push] at q1
  have k1 : ∀ z, z < n → g1 z = gA G z := fun z hz => (h1 z (by omega)).trans (by rw [hγ])
  refine r_dup (pc := 8) dX7_init_8 rfl ?_
  refine r_callI (pc := 9) (γ := g1) (lvf := fun g => [(0, .ref (g a))]) (stf := fun g => [.ref (g (n + 0)), .ref (g a)]) (b := n + 0) (As := []) (fun _ _ _ _ _ _ _ _ _ h => h) ci_X7_init_11 (kX5_init (G := gS G g1) (a := n + 0) (n := n + 1) (by rw [LX_len, hn]; rfl) (LX_at hn rfl) q1) (fun g h => ⟨by rw [h a (by rw [LX_len, hn]; show _ < n + 1; omega)], by rw [h a (by rw [LX_len, hn]; show _ < n + 1; omega), h (n + 0) (by rw [LX_len, hn]; show _ < n + 1; omega)]⟩) rfl (Nat.le_of_ble_eq_true rfl) ⟨by decide, by decide⟩ dX7_init_9 (fun g2 h2 => ?_)
  rw [LX_LX hn]
  have q2 := oX5_init (a := n + 0) (n := n + 1) (by rw [LX_len, hn]; rfl) (LX_at hn rfl) q1
  rw [LX_LX hn] at q2
  have k2 : ∀ z, z < n → g2 z = gA G z := fun z hz => (h2 z (by rw [LX_len, hn]; show z < n + 1; omega)).trans (k1 z hz)
  refine r_putRF (pc := 12) (γ := g2) (a := a) (b := (n + 0)) fc_7_12 rfl rfl (LX_this han) (Nat.le_of_ble_eq_true rfl) (fun C T h => by rw [cf_own cf_7 h]; rfl) dX7_init_12 ?_
  rw [LX_put han]
  have q3 := gd_ref (a := a) (k := 0) (b := (n + 0)) q2 (LX_this han) (Nat.le_of_ble_eq_true rfl) (by rw [LX_len, hn]; show _ < n + 11; omega)
  rw [LX_put han] at q3
  refine r_aload_n (pc := 15) (i := 0) dX7_init_15 rfl 0 rfl ?_
  refine r_newO (pc := 16) (γ := g2) (lvf := fun g => [(0, .ref (g a))]) (stf := fun g => [.ref (g a)]) (n := n + 11) cf_3 (tb_i 409 (by decide +kernel) (by decide +kernel)) (tb_i 278 (by decide +kernel) (by decide +kernel)) (tb_i 142 (by decide +kernel) (by decide +kernel)) (by rw [LX_len, hn]; rfl) q3.1 (fun z => q3.2 _ (by rw [LX_len, hn]; exact Nat.le_refl _) z) (nf_all 3 (by decide)) (fun g h => ⟨by rw [h a (by omega)], by rw [h a (by omega)]⟩) ⟨by decide, by decide⟩ dX7_init_16 (fun g3 h3 => ?_)
  rw [LX_push]
  have q4 := gd_push (q := 0) (n := 3) (m := clN 3) q3
  rw [LX_push] at q4
  have k3 : ∀ z, z < n → g3 z = gA G z := fun z hz => (h3 z (by omega)).trans (k2 z hz)
  refine r_dup (pc := 19) dX7_init_19 rfl ?_
  refine r_bipush (pc := 20) (v := 40) dX7_init_20 (by decide +kernel) ?_
  refine r_callI (pc := 22) (γ := g3) (lvf := fun g => [(0, .ref (g a))]) (stf := fun g => [.ref (g (n + 11)), .ref (g a)]) (b := n + 11) (As := [.int (eI 40)]) (fun _ _ _ _ _ _ _ _ _ h => h) ci_X7_init_20 (kX3_init (G := gS G g3) (a := n + 11) (n := n + 12) (k := 40) (by decide) (by rw [LX_len, hn]; rfl) (LX_at hn rfl) q4) (fun g h => ⟨by rw [h a (by rw [LX_len, hn]; show _ < n + 12; omega)], by rw [h a (by rw [LX_len, hn]; show _ < n + 12; omega), h (n + 11) (by rw [LX_len, hn]; show _ < n + 12; omega)]⟩) rfl (Nat.le_of_ble_eq_true rfl) ⟨by decide, by decide⟩ dX7_init_22 (fun g4 h4 => ?_)
  rw [LX_LX hn]
  have q5 := oX3_init (a := n + 11) (n := n + 12) (k := 40) (by decide) (by rw [LX_len, hn]; rfl) (LX_at hn rfl) q4
  rw [LX_LX hn] at q5
  have k4 : ∀ z, z < n → g4 z = gA G z := fun z hz => (h4 z (by rw [LX_len, hn]; show z < n + 12; omega)).trans (k3 z hz)
  refine r_putRF (pc := 25) (γ := g4) (a := a) (b := (n + 11)) fc_7_23 rfl rfl (LX_this han) (Nat.le_of_ble_eq_true rfl) (fun C T h => by rw [cf_own cf_7 h]; rfl) dX7_init_25 ?_
  rw [LX_put han]
  have q6 := gd_ref (a := a) (k := 1) (b := (n + 11)) q5 (LX_this han) (Nat.le_of_ble_eq_true rfl) (by rw [LX_len, hn]; show _ < n + 15; omega)
  rw [LX_put han] at q6
  refine r_aload_n (pc := 28) (i := 0) dX7_init_28 rfl 0 rfl ?_
  refine r_newO (pc := 29) (γ := g4) (lvf := fun g => [(0, .ref (g a))]) (stf := fun g => [.ref (g a)]) (n := n + 15) cf_1 (tb_i 411 (by decide +kernel) (by decide +kernel)) (tb_i 321 (by decide +kernel) (by decide +kernel)) (tb_i 144 (by decide +kernel) (by decide +kernel)) (by rw [LX_len, hn]; rfl) q6.1 (fun z => q6.2 _ (by rw [LX_len, hn]; exact Nat.le_refl _) z) (nf_all 1 (by decide)) (fun g h => ⟨by rw [h a (by omega)], by rw [h a (by omega)]⟩) ⟨by decide, by decide⟩ dX7_init_29 (fun g5 h5 => ?_)
  rw [LX_push]
  have q7 := gd_push (q := 0) (n := 1) (m := clN 1) q6
  rw [LX_push] at q7
  have k5 : ∀ z, z < n → g5 z = gA G z := fun z hz => (h5 z (by omega)).trans (k4 z hz)
  refine r_dup (pc := 32) dX7_init_32 rfl ?_
  refine r_callI (pc := 33) (γ := g5) (lvf := fun g => [(0, .ref (g a))]) (stf := fun g => [.ref (g (n + 15)), .ref (g a)]) (b := n + 15) (As := []) (fun _ _ _ _ _ _ _ _ _ h => h) ci_X7_init_29 (kX1_init (G := gS G g5) (a := n + 15) (n := n + 16) (by rw [LX_len, hn]; rfl) (LX_at hn rfl) q7) (fun g h => ⟨by rw [h a (by rw [LX_len, hn]; show _ < n + 16; omega)], by rw [h a (by rw [LX_len, hn]; show _ < n + 16; omega), h (n + 15) (by rw [LX_len, hn]; show _ < n + 16; omega)]⟩) rfl (Nat.le_of_ble_eq_true rfl) ⟨by decide, by decide⟩ dX7_init_33 (fun g6 h6 => ?_)
  rw [LX_LX hn]
  have q8 := oX1_init (a := n + 15) (n := n + 16) (by rw [LX_len, hn]; rfl) (LX_at hn rfl) q7
  rw [LX_LX hn] at q8
  have k6 : ∀ z, z < n → g6 z = gA G z := fun z hz => (h6 z (by rw [LX_len, hn]; show z < n + 16; omega)).trans (k5 z hz)
  refine r_putRF (pc := 36) (γ := g6) (a := a) (b := (n + 15)) fc_7_30 rfl rfl (LX_this han) (Nat.le_of_ble_eq_true rfl) (fun C T h => by rw [cf_own cf_7 h]; rfl) dX7_init_36 ?_
  rw [LX_put han]
  have q9 := gd_ref (a := a) (k := 2) (b := (n + 15)) q8 (LX_this han) (Nat.le_of_ble_eq_true rfl) (by rw [LX_len, hn]; show _ < n + 21; omega)
  rw [LX_put han] at q9
  refine r_aload_n (pc := 39) (i := 0) dX7_init_39 rfl 0 rfl ?_
  refine r_newO (pc := 40) (γ := g6) (lvf := fun g => [(0, .ref (g a))]) (stf := fun g => [.ref (g a)]) (n := n + 21) cf_3 (tb_i 409 (by decide +kernel) (by decide +kernel)) (tb_i 278 (by decide +kernel) (by decide +kernel)) (tb_i 142 (by decide +kernel) (by decide +kernel)) (by rw [LX_len, hn]; rfl) q9.1 (fun z => q9.2 _ (by rw [LX_len, hn]; exact Nat.le_refl _) z) (nf_all 3 (by decide)) (fun g h => ⟨by rw [h a (by omega)], by rw [h a (by omega)]⟩) ⟨by decide, by decide⟩ dX7_init_40 (fun g7 h7 => ?_)
  rw [LX_push]
  have q10 := gd_push (q := 0) (n := 3) (m := clN 3) q9
  rw [LX_push] at q10
  have k7 : ∀ z, z < n → g7 z = gA G z := fun z hz => (h7 z (by omega)).trans (k6 z hz)
  refine r_dup (pc := 43) dX7_init_43 rfl ?_
  refine r_bipush (pc := 44) (v := 25) dX7_init_44 (by decide +kernel) ?_
  refine r_callI (pc := 46) (γ := g7) (lvf := fun g => [(0, .ref (g a))]) (stf := fun g => [.ref (g (n + 21)), .ref (g a)]) (b := n + 21) (As := [.int (eI 25)]) (fun _ _ _ _ _ _ _ _ _ h => h) ci_X7_init_20 (kX3_init (G := gS G g7) (a := n + 21) (n := n + 22) (k := 25) (by decide) (by rw [LX_len, hn]; rfl) (LX_at hn rfl) q10) (fun g h => ⟨by rw [h a (by rw [LX_len, hn]; show _ < n + 22; omega)], by rw [h a (by rw [LX_len, hn]; show _ < n + 22; omega), h (n + 21) (by rw [LX_len, hn]; show _ < n + 22; omega)]⟩) rfl (Nat.le_of_ble_eq_true rfl) ⟨by decide, by decide⟩ dX7_init_46 (fun g8 h8 => ?_)
  rw [LX_LX hn]
  have q11 := oX3_init (a := n + 21) (n := n + 22) (k := 25) (by decide) (by rw [LX_len, hn]; rfl) (LX_at hn rfl) q10
  rw [LX_LX hn] at q11
  have k8 : ∀ z, z < n → g8 z = gA G z := fun z hz => (h8 z (by rw [LX_len, hn]; show z < n + 22; omega)).trans (k7 z hz)
  refine r_putRF (pc := 49) (γ := g8) (a := a) (b := (n + 21)) fc_7_34 rfl rfl (LX_this han) (Nat.le_of_ble_eq_true rfl) (fun C T h => by rw [cf_own cf_7 h]; rfl) dX7_init_49 ?_
  rw [LX_put han]
  have q12 := gd_ref (a := a) (k := 3) (b := (n + 21)) q11 (LX_this han) (Nat.le_of_ble_eq_true rfl) (by rw [LX_len, hn]; show _ < n + 25; omega)
  rw [LX_put han] at q12
  refine r_aload_n (pc := 52) (i := 0) dX7_init_52 rfl 0 rfl ?_
  refine r_newO (pc := 53) (γ := g8) (lvf := fun g => [(0, .ref (g a))]) (stf := fun g => [.ref (g a)]) (n := n + 25) cf_8 (tb_i 413 (by decide +kernel) (by decide +kernel)) (tb_i 341 (by decide +kernel) (by decide +kernel)) (tb_i 145 (by decide +kernel) (by decide +kernel)) (by rw [LX_len, hn]; rfl) q12.1 (fun z => q12.2 _ (by rw [LX_len, hn]; exact Nat.le_refl _) z) (nf_all 8 (by decide)) (fun g h => ⟨by rw [h a (by omega)], by rw [h a (by omega)]⟩) ⟨by decide, by decide⟩ dX7_init_53 (fun g9 h9 => ?_)
  rw [LX_push]
  have q13 := gd_push (q := 0) (n := 8) (m := clN 8) q12
  rw [LX_push] at q13
  have k9 : ∀ z, z < n → g9 z = gA G z := fun z hz => (h9 z (by omega)).trans (k8 z hz)
  refine r_dup (pc := 56) dX7_init_56 rfl ?_
  refine r_callI (pc := 57) (γ := g9) (lvf := fun g => [(0, .ref (g a))]) (stf := fun g => [.ref (g (n + 25)), .ref (g a)]) (b := n + 25) (As := []) (fun _ _ _ _ _ _ _ _ _ h => h) ci_X7_init_39 (kX8_init (G := gS G g9) (a := n + 25) (n := n + 26) (by rw [LX_len, hn]; rfl) (LX_at hn rfl) q13) (fun g h => ⟨by rw [h a (by rw [LX_len, hn]; show _ < n + 26; omega)], by rw [h a (by rw [LX_len, hn]; show _ < n + 26; omega), h (n + 25) (by rw [LX_len, hn]; show _ < n + 26; omega)]⟩) rfl (Nat.le_of_ble_eq_true rfl) ⟨by decide, by decide⟩ dX7_init_57 (fun g10 h10 => ?_)
  rw [LX_LX hn]
  have q14 := oX8_init (a := n + 25) (n := n + 26) (by rw [LX_len, hn]; rfl) (LX_at hn rfl) q13
  rw [LX_LX hn] at q14
  have k10 : ∀ z, z < n → g10 z = gA G z := fun z hz => (h10 z (by rw [LX_len, hn]; show z < n + 26; omega)).trans (k9 z hz)
  refine r_putRF (pc := 60) (γ := g10) (a := a) (b := (n + 25)) fc_7_40 rfl rfl (LX_this han) (Nat.le_of_ble_eq_true rfl) (fun C T h => by rw [cf_own cf_7 h]; rfl) dX7_init_60 ?_
  rw [LX_put han]
  have q15 := gd_ref (a := a) (k := 4) (b := (n + 25)) q14 (LX_this han) (Nat.le_of_ble_eq_true rfl) (by rw [LX_len, hn]; show _ < n + 34; omega)
  rw [LX_put han] at q15
  refine r_aload_n (pc := 63) (i := 0) dX7_init_63 rfl 0 rfl ?_
  refine r_iconst (pc := 64) (v := 4) dX7_init_64 (by decide +kernel) ?_
  refine r_newA1 (pc := 65) (γ := g10) (lvf := fun g => [(0, .ref (g a))]) (stf := fun g => [.ref (g a)]) (n := n + 34) (N := 4) (tb_i 277 (by decide +kernel) (by decide +kernel)) wc_4 rfl (by decide) (by rw [LX_len, hn]; rfl) q15.1 (fun z => q15.2 _ (by rw [LX_len, hn]; exact Nat.le_refl _) z) (fun g h => ⟨by rw [h a (by omega)], by rw [h a (by omega)]⟩) ⟨by decide, by decide⟩ dX7_init_65 (fun g11 h11 => ?_)
  rw [LX_push]
  have q16 := gd_nil (q := 1) (n := 4) q15
  rw [LX_push] at q16
  have k11 : ∀ z, z < n → g11 z = gA G z := fun z hz => (h11 z (by omega)).trans (k10 z hz)
  refine r_putRF (pc := 67) (γ := g11) (a := a) (b := (n + 34)) fc_7_44 rfl rfl (LX_this han) (Nat.le_of_ble_eq_true rfl) (fun C T h => by rw [cf_own cf_7 h]; rfl) dX7_init_67 ?_
  rw [LX_put han]
  have q17 := gd_ref (a := a) (k := 7) (b := (n + 34)) q16 (LX_this han) (Nat.le_of_ble_eq_true rfl) (by rw [LX_len, hn]; show _ < n + 35; omega)
  rw [LX_put han] at q17
  exact r_vretI (pc := 70) (γ := g11) k11 rfl (by decide) (by decide) dX7_init_70
theorem fc_6_9 : FG RX6 9 6 9 (clT 6 9) true := ⟨RX6, TX6, cf_6, by decide, tb_i 478 (by decide +kernel) (by decide +kernel), rfl, rfl, rfl⟩
theorem wc_24 : wI 24 = 24 := by decide +kernel
theorem fc_6_15 : FG RX6 15 6 10 (clT 6 10) true := ⟨RX6, TX6, cf_6, by decide, tb_i 479 (by decide +kernel) (by decide +kernel), rfl, rfl, rfl⟩
theorem fc_6_18 : FG RX6 18 6 11 (clT 6 11) true := ⟨RX6, TX6, cf_6, by decide, tb_i 480 (by decide +kernel) (by decide +kernel), rfl, rfl, rfl⟩
abbrev xX6_init : XX := (yX6_init, cX6_init, 1, none, 1, 20, 3, 37)
def eX6_init (a n : Nat) : LE := (0, 6, [none, none, none, none, none, none, none, none, none, some (n + 0), some (n + 1), some (n + 2), none, none])
def sX6_init (a n : Nat) : List LE := [(1, 5, []), (1, 24, []), (1, 8, [])]
def mX6_init (M : MM) (a n : Nat) : MM := M
theorem oX6_init {L : List LE} {M : MM} {a n : Nat} (hn : L.length = n) (ha : L[a]? = some (0, 6, List.replicate (clN 6) none)) (hg : gd L M) : gd (LX L a (eX6_init a n) (sX6_init a n)) (mX6_init M a n) := by
  have han : a < L.length := (List.getElem?_eq_some_iff.mp ha).1
  have han2 : a < n := by omega
  have q0 : gd (LX L a (0, 6, List.replicate (clN 6) none) []) M := by rw [LX_start ha]; exact hg
  have q1 := gd_nil (q := 1) (n := 5) q0
  rw [LX_push] at q1
  have q2 := gd_ref (a := a) (k := 9) (b := (n + 0)) q1 (LX_this han) (Nat.le_of_ble_eq_true rfl) (by rw [LX_len, hn]; show _ < n + 1; omega)
  rw [LX_put han] at q2
  have q3 := gd_nil (q := 1) (n := 24) q2
  rw [LX_push] at q3
  have q4 := gd_ref (a := a) (k := 10) (b := (n + 1)) q3 (LX_this han) (Nat.le_of_ble_eq_true rfl) (by rw [LX_len, hn]; show _ < n + 2; omega)
  rw [LX_put han] at q4
  have q5 := gd_nil (q := 1) (n := 8) q4
  rw [LX_push] at q5
  have q6 := gd_ref (a := a) (k := 11) (b := (n + 2)) q5 (LX_this han) (Nat.le_of_ble_eq_true rfl) (by rw [LX_len, hn]; show _ < n + 3; omega)
  rw [LX_put han] at q6
  exact q6
set_option maxHeartbeats 8000000 in
set_option maxRecDepth 100000 in
theorem kX6_init {G : GG} {L : List LE} {M : MM} {a n : Nat} (hn : L.length = n) (ha : L[a]? = some (0, 6, List.replicate (clN 6) none)) (hg : gd L M) : CI G xX6_init [.ref (gA G a)] L M (LX L a (eX6_init a n) (sX6_init a n)) (mX6_init M a n) := by
  have han : a < L.length := (List.getElem?_eq_some_iff.mp ha).1
  have han2 : a < n := by omega
  have q0 : gd (LX L a (0, 6, List.replicate (clN 6) none) []) M := by rw [LX_start ha]; exact hg
  refine CI_of (by decide +kernel) (Nat.le_of_ble_eq_true rfl) ?_
  rw [hn]
  obtain ⟨γ, hγ⟩ : ∃ γ, γ = gA G := ⟨_, rfl⟩
  have K : VV (gS G γ) xX6_init (ZI G xX6_init n (LX L a (eX6_init a n) (sX6_init a n)) (mX6_init M a n)) (LX L a (0, 6, List.replicate (clN 6) none) []) M 0 0 0 [(0, .ref (γ a))] [] := ?_
  · rw [LX_start ha, hγ] at K; exact K
  refine r_aload_n (pc := 0) (i := 0) dX6_init_0 rfl 0 rfl ?_
  refine r_objI (pc := 1) (γ := γ) (tb_i 468 (by decide +kernel) (by decide +kernel)) (tb_i 164 (by decide +kernel) (by decide +kernel)) (tb_i 165 (by decide +kernel) (by decide +kernel)) ⟨Nat.le_of_ble_eq_true rfl, Nat.le_of_ble_eq_true rfl⟩ dX6_init_1 ?_
  refine r_aload_n (pc := 4) (i := 0) dX6_init_4 rfl 0 rfl ?_
  refine r_iconst (pc := 5) (v := 5) dX6_init_5 (by decide +kernel) ?_
  refine r_newA1 (pc := 6) (γ := γ) (lvf := fun g => [(0, .ref (g a))]) (stf := fun g => [.ref (g a)]) (n := n + 0) (N := 5) (tb_i 277 (by decide +kernel) (by decide +kernel)) wc_5 rfl (by decide) (by rw [LX_len, hn]; rfl) q0.1 (fun z => q0.2 _ (by rw [LX_len, hn]; exact Nat.le_refl _) z) (fun g h => ⟨by rw [h a (by omega)], by rw [h a (by omega)]⟩) ⟨by decide, by decide⟩ dX6_init_6 (fun g1 h1 => ?_)
  rw [LX_push]
  have q1 := gd_nil (q := 1) (n := 5) q0
  rw [LX_push] at q1
  have k1 : ∀ z, z < n → g1 z = gA G z := fun z hz => (h1 z (by omega)).trans (by rw [hγ])
  refine r_putRF (pc := 8) (γ := g1) (a := a) (b := (n + 0)) fc_6_9 rfl rfl (LX_this han) (Nat.le_of_ble_eq_true rfl) (fun C T h => by rw [cf_own cf_6 h]; rfl) dX6_init_8 ?_
  rw [LX_put han]
  have q2 := gd_ref (a := a) (k := 9) (b := (n + 0)) q1 (LX_this han) (Nat.le_of_ble_eq_true rfl) (by rw [LX_len, hn]; show _ < n + 1; omega)
  rw [LX_put han] at q2
  refine r_aload_n (pc := 11) (i := 0) dX6_init_11 rfl 0 rfl ?_
  refine r_bipush (pc := 12) (v := 24) dX6_init_12 (by decide +kernel) ?_
  refine r_newA1 (pc := 14) (γ := g1) (lvf := fun g => [(0, .ref (g a))]) (stf := fun g => [.ref (g a)]) (n := n + 1) (N := 24) (tb_i 277 (by decide +kernel) (by decide +kernel)) wc_24 rfl (by decide) (by rw [LX_len, hn]; rfl) q2.1 (fun z => q2.2 _ (by rw [LX_len, hn]; exact Nat.le_refl _) z) (fun g h => ⟨by rw [h a (by omega)], by rw [h a (by omega)]⟩) ⟨by decide, by decide⟩ dX6_init_14 (fun g2 h2 => ?_)
  rw [LX_push]
  have q3 := gd_nil (q := 1) (n := 24) q2
  rw [LX_push] at q3
  have k2 : ∀ z, z < n → g2 z = gA G z := fun z hz => (h2 z (by omega)).trans (k1 z hz)
  refine r_putRF (pc := 16) (γ := g2) (a := a) (b := (n + 1)) fc_6_15 rfl rfl (LX_this han) (Nat.le_of_ble_eq_true rfl) (fun C T h => by rw [cf_own cf_6 h]; rfl) dX6_init_16 ?_
  rw [LX_put han]
  have q4 := gd_ref (a := a) (k := 10) (b := (n + 1)) q3 (LX_this han) (Nat.le_of_ble_eq_true rfl) (by rw [LX_len, hn]; show _ < n + 2; omega)
  rw [LX_put han] at q4
  refine r_aload_n (pc := 19) (i := 0) dX6_init_19 rfl 0 rfl ?_
  refine r_bipush (pc := 20) (v := 8) dX6_init_20 (by decide +kernel) ?_
  refine r_newA1 (pc := 22) (γ := g2) (lvf := fun g => [(0, .ref (g a))]) (stf := fun g => [.ref (g a)]) (n := n + 2) (N := 8) (tb_i 277 (by decide +kernel) (by decide +kernel)) wc_8 rfl (by decide) (by rw [LX_len, hn]; rfl) q4.1 (fun z => q4.2 _ (by rw [LX_len, hn]; exact Nat.le_refl _) z) (fun g h => ⟨by rw [h a (by omega)], by rw [h a (by omega)]⟩) ⟨by decide, by decide⟩ dX6_init_22 (fun g3 h3 => ?_)
  rw [LX_push]
  have q5 := gd_nil (q := 1) (n := 8) q4
  rw [LX_push] at q5
  have k3 : ∀ z, z < n → g3 z = gA G z := fun z hz => (h3 z (by omega)).trans (k2 z hz)
  refine r_putRF (pc := 24) (γ := g3) (a := a) (b := (n + 2)) fc_6_18 rfl rfl (LX_this han) (Nat.le_of_ble_eq_true rfl) (fun C T h => by rw [cf_own cf_6 h]; rfl) dX6_init_24 ?_
  rw [LX_put han]
  have q6 := gd_ref (a := a) (k := 11) (b := (n + 2)) q5 (LX_this han) (Nat.le_of_ble_eq_true rfl) (by rw [LX_len, hn]; show _ < n + 3; omega)
  rw [LX_put han] at q6
  exact r_vretI (pc := 27) (γ := g3) k3 rfl (by decide) (by decide) dX6_init_27
theorem fc_2_9 : FG RX2 9 2 0 (clT 2 0) true := ⟨RX2, TX2, cf_2, by decide, tb_i 518 (by decide +kernel) (by decide +kernel), rfl, rfl, rfl⟩
abbrev xX2_init : XX := (yX2_init, cX2_init, 1, none, 1, 20, 1, 8)
def eX2_init (a n : Nat) : LE := (0, 2, [some (n + 0), none])
def sX2_init (a n : Nat) : List LE := [(2, 8, [])]
def mX2_init (M : MM) (a n : Nat) : MM := M
theorem oX2_init {L : List LE} {M : MM} {a n : Nat} (hn : L.length = n) (ha : L[a]? = some (0, 2, List.replicate (clN 2) none)) (hg : gd L M) : gd (LX L a (eX2_init a n) (sX2_init a n)) (mX2_init M a n) := by
  have han : a < L.length := (List.getElem?_eq_some_iff.mp ha).1
  have han2 : a < n := by omega
  have q0 : gd (LX L a (0, 2, List.replicate (clN 2) none) []) M := by rw [LX_start ha]; exact hg
  have q1 := gd_nil (q := 2) (n := 8) q0
  rw [LX_push] at q1
  have q2 := gd_ref (a := a) (k := 0) (b := (n + 0)) q1 (LX_this han) (Nat.le_of_ble_eq_true rfl) (by rw [LX_len, hn]; show _ < n + 1; omega)
  rw [LX_put han] at q2
  exact q2
set_option maxHeartbeats 8000000 in
set_option maxRecDepth 100000 in
theorem kX2_init {G : GG} {L : List LE} {M : MM} {a n : Nat} (hn : L.length = n) (ha : L[a]? = some (0, 2, List.replicate (clN 2) none)) (hg : gd L M) : CI G xX2_init [.ref (gA G a)] L M (LX L a (eX2_init a n) (sX2_init a n)) (mX2_init M a n) := by
  have han : a < L.length := (List.getElem?_eq_some_iff.mp ha).1
  have han2 : a < n := by omega
  have q0 : gd (LX L a (0, 2, List.replicate (clN 2) none) []) M := by rw [LX_start ha]; exact hg
  refine CI_of (by decide +kernel) (Nat.le_of_ble_eq_true rfl) ?_
  rw [hn]
  obtain ⟨γ, hγ⟩ : ∃ γ, γ = gA G := ⟨_, rfl⟩
  have K : VV (gS G γ) xX2_init (ZI G xX2_init n (LX L a (eX2_init a n) (sX2_init a n)) (mX2_init M a n)) (LX L a (0, 2, List.replicate (clN 2) none) []) M 0 0 0 [(0, .ref (γ a))] [] := ?_
  · rw [LX_start ha, hγ] at K; exact K
  refine r_aload_n (pc := 0) (i := 0) dX2_init_0 rfl 0 rfl ?_
  refine r_objI (pc := 1) (γ := γ) (tb_i 517 (by decide +kernel) (by decide +kernel)) (tb_i 164 (by decide +kernel) (by decide +kernel)) (tb_i 165 (by decide +kernel) (by decide +kernel)) ⟨Nat.le_of_ble_eq_true rfl, Nat.le_of_ble_eq_true rfl⟩ dX2_init_1 ?_
  refine r_aload_n (pc := 4) (i := 0) dX2_init_4 rfl 0 rfl ?_
  refine r_bipush (pc := 5) (v := 8) dX2_init_5 (by decide +kernel) ?_
  refine r_newA2 (pc := 7) (γ := γ) (lvf := fun g => [(0, .ref (g a))]) (stf := fun g => [.ref (g a)]) (n := n + 0) (N := 8) (tb_i 527 (by decide +kernel) (by decide +kernel)) wc_8 rfl (by decide) (by rw [LX_len, hn]; rfl) q0.1 (fun z => q0.2 _ (by rw [LX_len, hn]; exact Nat.le_refl _) z) (fun g h => ⟨by rw [h a (by omega)], by rw [h a (by omega)]⟩) ⟨by decide, by decide⟩ dX2_init_7 (fun g1 h1 => ?_)
  rw [LX_push]
  have q1 := gd_nil (q := 2) (n := 8) q0
  rw [LX_push] at q1
  have k1 : ∀ z, z < n → g1 z = gA G z := fun z hz => (h1 z (by omega)).trans (by rw [hγ])
  refine r_putRF (pc := 9) (γ := g1) (a := a) (b := (n + 0)) fc_2_9 rfl rfl (LX_this han) (Nat.le_of_ble_eq_true rfl) (fun C T h => by rw [cf_own cf_2 h]; rfl) dX2_init_9 ?_
  rw [LX_put han]
  have q2 := gd_ref (a := a) (k := 0) (b := (n + 0)) q1 (LX_this han) (Nat.le_of_ble_eq_true rfl) (by rw [LX_len, hn]; show _ < n + 1; omega)
  rw [LX_put han] at q2
  exact r_vretI (pc := 12) (γ := g1) k1 rfl (by decide) (by decide) dX2_init_12
theorem fc_4_9 : FG RX4 9 4 0 (clT 4 0) true := ⟨RX4, TX4, cf_4, by decide, tb_i 534 (by decide +kernel) (by decide +kernel), rfl, rfl, rfl⟩
theorem wc_137 : wI 137 = 137 := by decide +kernel
theorem fc_4_15 : FG RX4 15 4 1 (clT 4 1) true := ⟨RX4, TX4, cf_4, by decide, tb_i 535 (by decide +kernel) (by decide +kernel), rfl, rfl, rfl⟩
theorem fc_4_19 : FG RX4 19 4 2 (clT 4 2) true := ⟨RX4, TX4, cf_4, by decide, tb_i 536 (by decide +kernel) (by decide +kernel), rfl, rfl, rfl⟩
theorem wc_32 : wI 32 = 32 := by decide +kernel
theorem fc_4_22 : FG RX4 22 4 3 (clT 4 3) true := ⟨RX4, TX4, cf_4, by decide, tb_i 537 (by decide +kernel) (by decide +kernel), rfl, rfl, rfl⟩
theorem wc_496 : wI 496 = 496 := by decide +kernel
theorem fc_4_25 : FG RX4 25 4 4 (clT 4 4) true := ⟨RX4, TX4, cf_4, by decide, tb_i 538 (by decide +kernel) (by decide +kernel), rfl, rfl, rfl⟩
abbrev xX4_init : XX := (yX4_init, cX4_init, 1, none, 1, 20, 5, 810)
def eX4_init (a n : Nat) : LE := (0, 4, [some (n + 0), some (n + 1), some (n + 2), some (n + 3), some (n + 4)])
def sX4_init (a n : Nat) : List LE := [(1, 8, []), (2, 137, []), (2, 137, []), (2, 32, []), (2, 496, [])]
def mX4_init (M : MM) (a n : Nat) : MM := M
theorem oX4_init {L : List LE} {M : MM} {a n : Nat} (hn : L.length = n) (ha : L[a]? = some (0, 4, List.replicate (clN 4) none)) (hg : gd L M) : gd (LX L a (eX4_init a n) (sX4_init a n)) (mX4_init M a n) := by
  have han : a < L.length := (List.getElem?_eq_some_iff.mp ha).1
  have han2 : a < n := by omega
  have q0 : gd (LX L a (0, 4, List.replicate (clN 4) none) []) M := by rw [LX_start ha]; exact hg
  have q1 := gd_nil (q := 1) (n := 8) q0
  rw [LX_push] at q1
  have q2 := gd_ref (a := a) (k := 0) (b := (n + 0)) q1 (LX_this han) (Nat.le_of_ble_eq_true rfl) (by rw [LX_len, hn]; show _ < n + 1; omega)
  rw [LX_put han] at q2
  have q3 := gd_nil (q := 2) (n := 137) q2
  rw [LX_push] at q3
  have q4 := gd_ref (a := a) (k := 1) (b := (n + 1)) q3 (LX_this han) (Nat.le_of_ble_eq_true rfl) (by rw [LX_len, hn]; show _ < n + 2; omega)
  rw [LX_put han] at q4
  have q5 := gd_nil (q := 2) (n := 137) q4
  rw [LX_push] at q5
  have q6 := gd_ref (a := a) (k := 2) (b := (n + 2)) q5 (LX_this han) (Nat.le_of_ble_eq_true rfl) (by rw [LX_len, hn]; show _ < n + 3; omega)
  rw [LX_put han] at q6
  have q7 := gd_nil (q := 2) (n := 32) q6
  rw [LX_push] at q7
  have q8 := gd_ref (a := a) (k := 3) (b := (n + 3)) q7 (LX_this han) (Nat.le_of_ble_eq_true rfl) (by rw [LX_len, hn]; show _ < n + 4; omega)
  rw [LX_put han] at q8
  have q9 := gd_nil (q := 2) (n := 496) q8
  rw [LX_push] at q9
  have q10 := gd_ref (a := a) (k := 4) (b := (n + 4)) q9 (LX_this han) (Nat.le_of_ble_eq_true rfl) (by rw [LX_len, hn]; show _ < n + 5; omega)
  rw [LX_put han] at q10
  exact q10
set_option maxHeartbeats 8000000 in
set_option maxRecDepth 100000 in
theorem kX4_init {G : GG} {L : List LE} {M : MM} {a n : Nat} (hn : L.length = n) (ha : L[a]? = some (0, 4, List.replicate (clN 4) none)) (hg : gd L M) : CI G xX4_init [.ref (gA G a)] L M (LX L a (eX4_init a n) (sX4_init a n)) (mX4_init M a n) := by
  have han : a < L.length := (List.getElem?_eq_some_iff.mp ha).1
  have han2 : a < n := by omega
  have q0 : gd (LX L a (0, 4, List.replicate (clN 4) none) []) M := by rw [LX_start ha]; exact hg
  refine CI_of (by decide +kernel) (Nat.le_of_ble_eq_true rfl) ?_
  rw [hn]
  obtain ⟨γ, hγ⟩ : ∃ γ, γ = gA G := ⟨_, rfl⟩
  have K : VV (gS G γ) xX4_init (ZI G xX4_init n (LX L a (eX4_init a n) (sX4_init a n)) (mX4_init M a n)) (LX L a (0, 4, List.replicate (clN 4) none) []) M 0 0 0 [(0, .ref (γ a))] [] := ?_
  · rw [LX_start ha, hγ] at K; exact K
  refine r_aload_n (pc := 0) (i := 0) dX4_init_0 rfl 0 rfl ?_
  refine r_objI (pc := 1) (γ := γ) (tb_i 533 (by decide +kernel) (by decide +kernel)) (tb_i 164 (by decide +kernel) (by decide +kernel)) (tb_i 165 (by decide +kernel) (by decide +kernel)) ⟨Nat.le_of_ble_eq_true rfl, Nat.le_of_ble_eq_true rfl⟩ dX4_init_1 ?_
  refine r_aload_n (pc := 4) (i := 0) dX4_init_4 rfl 0 rfl ?_
  refine r_bipush (pc := 5) (v := 8) dX4_init_5 (by decide +kernel) ?_
  refine r_newA1 (pc := 7) (γ := γ) (lvf := fun g => [(0, .ref (g a))]) (stf := fun g => [.ref (g a)]) (n := n + 0) (N := 8) (tb_i 277 (by decide +kernel) (by decide +kernel)) wc_8 rfl (by decide) (by rw [LX_len, hn]; rfl) q0.1 (fun z => q0.2 _ (by rw [LX_len, hn]; exact Nat.le_refl _) z) (fun g h => ⟨by rw [h a (by omega)], by rw [h a (by omega)]⟩) ⟨by decide, by decide⟩ dX4_init_7 (fun g1 h1 => ?_)
  rw [LX_push]
  have q1 := gd_nil (q := 1) (n := 8) q0
  rw [LX_push] at q1
  have k1 : ∀ z, z < n → g1 z = gA G z := fun z hz => (h1 z (by omega)).trans (by rw [hγ])
  refine r_putRF (pc := 9) (γ := g1) (a := a) (b := (n + 0)) fc_4_9 rfl rfl (LX_this han) (Nat.le_of_ble_eq_true rfl) (fun C T h => by rw [cf_own cf_4 h]; rfl) dX4_init_9 ?_
  rw [LX_put han]
  have q2 := gd_ref (a := a) (k := 0) (b := (n + 0)) q1 (LX_this han) (Nat.le_of_ble_eq_true rfl) (by rw [LX_len, hn]; show _ < n + 1; omega)
  rw [LX_put han] at q2
  refine r_aload_n (pc := 12) (i := 0) dX4_init_12 rfl 0 rfl ?_
  refine r_sipush (pc := 13) (v := 137) dX4_init_13 (by decide +kernel) ?_
  refine r_newA2 (pc := 16) (γ := g1) (lvf := fun g => [(0, .ref (g a))]) (stf := fun g => [.ref (g a)]) (n := n + 1) (N := 137) (tb_i 527 (by decide +kernel) (by decide +kernel)) wc_137 rfl (by decide) (by rw [LX_len, hn]; rfl) q2.1 (fun z => q2.2 _ (by rw [LX_len, hn]; exact Nat.le_refl _) z) (fun g h => ⟨by rw [h a (by omega)], by rw [h a (by omega)]⟩) ⟨by decide, by decide⟩ dX4_init_16 (fun g2 h2 => ?_)
  rw [LX_push]
  have q3 := gd_nil (q := 2) (n := 137) q2
  rw [LX_push] at q3
  have k2 : ∀ z, z < n → g2 z = gA G z := fun z hz => (h2 z (by omega)).trans (k1 z hz)
  refine r_putRF (pc := 18) (γ := g2) (a := a) (b := (n + 1)) fc_4_15 rfl rfl (LX_this han) (Nat.le_of_ble_eq_true rfl) (fun C T h => by rw [cf_own cf_4 h]; rfl) dX4_init_18 ?_
  rw [LX_put han]
  have q4 := gd_ref (a := a) (k := 1) (b := (n + 1)) q3 (LX_this han) (Nat.le_of_ble_eq_true rfl) (by rw [LX_len, hn]; show _ < n + 2; omega)
  rw [LX_put han] at q4
  refine r_aload_n (pc := 21) (i := 0) dX4_init_21 rfl 0 rfl ?_
  refine r_sipush (pc := 22) (v := 137) dX4_init_22 (by decide +kernel) ?_
  refine r_newA2 (pc := 25) (γ := g2) (lvf := fun g => [(0, .ref (g a))]) (stf := fun g => [.ref (g a)]) (n := n + 2) (N := 137) (tb_i 527 (by decide +kernel) (by decide +kernel)) wc_137 rfl (by decide) (by rw [LX_len, hn]; rfl) q4.1 (fun z => q4.2 _ (by rw [LX_len, hn]; exact Nat.le_refl _) z) (fun g h => ⟨by rw [h a (by omega)], by rw [h a (by omega)]⟩) ⟨by decide, by decide⟩ dX4_init_25 (fun g3 h3 => ?_)
  rw [LX_push]
  have q5 := gd_nil (q := 2) (n := 137) q4
  rw [LX_push] at q5
  have k3 : ∀ z, z < n → g3 z = gA G z := fun z hz => (h3 z (by omega)).trans (k2 z hz)
  refine r_putRF (pc := 27) (γ := g3) (a := a) (b := (n + 2)) fc_4_19 rfl rfl (LX_this han) (Nat.le_of_ble_eq_true rfl) (fun C T h => by rw [cf_own cf_4 h]; rfl) dX4_init_27 ?_
  rw [LX_put han]
  have q6 := gd_ref (a := a) (k := 2) (b := (n + 2)) q5 (LX_this han) (Nat.le_of_ble_eq_true rfl) (by rw [LX_len, hn]; show _ < n + 3; omega)
  rw [LX_put han] at q6
  refine r_aload_n (pc := 30) (i := 0) dX4_init_30 rfl 0 rfl ?_
  refine r_bipush (pc := 31) (v := 32) dX4_init_31 (by decide +kernel) ?_
  refine r_newA2 (pc := 33) (γ := g3) (lvf := fun g => [(0, .ref (g a))]) (stf := fun g => [.ref (g a)]) (n := n + 3) (N := 32) (tb_i 527 (by decide +kernel) (by decide +kernel)) wc_32 rfl (by decide) (by rw [LX_len, hn]; rfl) q6.1 (fun z => q6.2 _ (by rw [LX_len, hn]; exact Nat.le_refl _) z) (fun g h => ⟨by rw [h a (by omega)], by rw [h a (by omega)]⟩) ⟨by decide, by decide⟩ dX4_init_33 (fun g4 h4 => ?_)
  rw [LX_push]
  have q7 := gd_nil (q := 2) (n := 32) q6
  rw [LX_push] at q7
  have k4 : ∀ z, z < n → g4 z = gA G z := fun z hz => (h4 z (by omega)).trans (k3 z hz)
  refine r_putRF (pc := 35) (γ := g4) (a := a) (b := (n + 3)) fc_4_22 rfl rfl (LX_this han) (Nat.le_of_ble_eq_true rfl) (fun C T h => by rw [cf_own cf_4 h]; rfl) dX4_init_35 ?_
  rw [LX_put han]
  have q8 := gd_ref (a := a) (k := 3) (b := (n + 3)) q7 (LX_this han) (Nat.le_of_ble_eq_true rfl) (by rw [LX_len, hn]; show _ < n + 4; omega)
  rw [LX_put han] at q8
  refine r_aload_n (pc := 38) (i := 0) dX4_init_38 rfl 0 rfl ?_
  refine r_sipush (pc := 39) (v := 496) dX4_init_39 (by decide +kernel) ?_
  refine r_newA2 (pc := 42) (γ := g4) (lvf := fun g => [(0, .ref (g a))]) (stf := fun g => [.ref (g a)]) (n := n + 4) (N := 496) (tb_i 527 (by decide +kernel) (by decide +kernel)) wc_496 rfl (by decide) (by rw [LX_len, hn]; rfl) q8.1 (fun z => q8.2 _ (by rw [LX_len, hn]; exact Nat.le_refl _) z) (fun g h => ⟨by rw [h a (by omega)], by rw [h a (by omega)]⟩) ⟨by decide, by decide⟩ dX4_init_42 (fun g5 h5 => ?_)
  rw [LX_push]
  have q9 := gd_nil (q := 2) (n := 496) q8
  rw [LX_push] at q9
  have k5 : ∀ z, z < n → g5 z = gA G z := fun z hz => (h5 z (by omega)).trans (k4 z hz)
  refine r_putRF (pc := 44) (γ := g5) (a := a) (b := (n + 4)) fc_4_25 rfl rfl (LX_this han) (Nat.le_of_ble_eq_true rfl) (fun C T h => by rw [cf_own cf_4 h]; rfl) dX4_init_44 ?_
  rw [LX_put han]
  have q10 := gd_ref (a := a) (k := 4) (b := (n + 4)) q9 (LX_this han) (Nat.le_of_ble_eq_true rfl) (by rw [LX_len, hn]; show _ < n + 5; omega)
  rw [LX_put han] at q10
  exact r_vretI (pc := 47) (γ := g5) k5 rfl (by decide) (by decide) dX4_init_47
theorem fc_10_9 : FG RX10 9 10 0 (clT 10 0) true := ⟨RX10, TX10, cf_10, by decide, tb_i 556 (by decide +kernel) (by decide +kernel), rfl, rfl, rfl⟩
theorem fc_10_15 : FG RX10 15 10 1 (clT 10 1) true := ⟨RX10, TX10, cf_10, by decide, tb_i 558 (by decide +kernel) (by decide +kernel), rfl, rfl, rfl⟩
abbrev xX10_init : XX := (yX10_init, cX10_init, 1, none, 1, 20, 2, 16)
def eX10_init (a n : Nat) : LE := (0, 10, [some (n + 0), some (n + 1)])
def sX10_init (a n : Nat) : List LE := [(1, 8, []), (1, 8, [])]
def mX10_init (M : MM) (a n : Nat) : MM := M
theorem oX10_init {L : List LE} {M : MM} {a n : Nat} (hn : L.length = n) (ha : L[a]? = some (0, 10, List.replicate (clN 10) none)) (hg : gd L M) : gd (LX L a (eX10_init a n) (sX10_init a n)) (mX10_init M a n) := by
  have han : a < L.length := (List.getElem?_eq_some_iff.mp ha).1
  have han2 : a < n := by omega
  have q0 : gd (LX L a (0, 10, List.replicate (clN 10) none) []) M := by rw [LX_start ha]; exact hg
  have q1 := gd_nil (q := 1) (n := 8) q0
  rw [LX_push] at q1
  have q2 := gd_ref (a := a) (k := 0) (b := (n + 0)) q1 (LX_this han) (Nat.le_of_ble_eq_true rfl) (by rw [LX_len, hn]; show _ < n + 1; omega)
  rw [LX_put han] at q2
  have q3 := gd_nil (q := 1) (n := 8) q2
  rw [LX_push] at q3
  have q4 := gd_ref (a := a) (k := 1) (b := (n + 1)) q3 (LX_this han) (Nat.le_of_ble_eq_true rfl) (by rw [LX_len, hn]; show _ < n + 2; omega)
  rw [LX_put han] at q4
  exact q4
set_option maxHeartbeats 8000000 in
set_option maxRecDepth 100000 in
theorem kX10_init {G : GG} {L : List LE} {M : MM} {a n : Nat} (hn : L.length = n) (ha : L[a]? = some (0, 10, List.replicate (clN 10) none)) (hg : gd L M) : CI G xX10_init [.ref (gA G a)] L M (LX L a (eX10_init a n) (sX10_init a n)) (mX10_init M a n) := by
  have han : a < L.length := (List.getElem?_eq_some_iff.mp ha).1
  have han2 : a < n := by omega
  have q0 : gd (LX L a (0, 10, List.replicate (clN 10) none) []) M := by rw [LX_start ha]; exact hg
  refine CI_of (by decide +kernel) (Nat.le_of_ble_eq_true rfl) ?_
  rw [hn]
  obtain ⟨γ, hγ⟩ : ∃ γ, γ = gA G := ⟨_, rfl⟩
  have K : VV (gS G γ) xX10_init (ZI G xX10_init n (LX L a (eX10_init a n) (sX10_init a n)) (mX10_init M a n)) (LX L a (0, 10, List.replicate (clN 10) none) []) M 0 0 0 [(0, .ref (γ a))] [] := ?_
  · rw [LX_start ha, hγ] at K; exact K
  refine r_aload_n (pc := 0) (i := 0) dX10_init_0 rfl 0 rfl ?_
  refine r_objI (pc := 1) (γ := γ) (tb_i 555 (by decide +kernel) (by decide +kernel)) (tb_i 164 (by decide +kernel) (by decide +kernel)) (tb_i 165 (by decide +kernel) (by decide +kernel)) ⟨Nat.le_of_ble_eq_true rfl, Nat.le_of_ble_eq_true rfl⟩ dX10_init_1 ?_
  refine r_aload_n (pc := 4) (i := 0) dX10_init_4 rfl 0 rfl ?_
  refine r_bipush (pc := 5) (v := 8) dX10_init_5 (by decide +kernel) ?_
  refine r_newA1 (pc := 7) (γ := γ) (lvf := fun g => [(0, .ref (g a))]) (stf := fun g => [.ref (g a)]) (n := n + 0) (N := 8) (tb_i 277 (by decide +kernel) (by decide +kernel)) wc_8 rfl (by decide) (by rw [LX_len, hn]; rfl) q0.1 (fun z => q0.2 _ (by rw [LX_len, hn]; exact Nat.le_refl _) z) (fun g h => ⟨by rw [h a (by omega)], by rw [h a (by omega)]⟩) ⟨by decide, by decide⟩ dX10_init_7 (fun g1 h1 => ?_)
  rw [LX_push]
  have q1 := gd_nil (q := 1) (n := 8) q0
  rw [LX_push] at q1
  have k1 : ∀ z, z < n → g1 z = gA G z := fun z hz => (h1 z (by omega)).trans (by rw [hγ])
  refine r_putRF (pc := 9) (γ := g1) (a := a) (b := (n + 0)) fc_10_9 rfl rfl (LX_this han) (Nat.le_of_ble_eq_true rfl) (fun C T h => by rw [cf_own cf_10 h]; rfl) dX10_init_9 ?_
  rw [LX_put han]
  have q2 := gd_ref (a := a) (k := 0) (b := (n + 0)) q1 (LX_this han) (Nat.le_of_ble_eq_true rfl) (by rw [LX_len, hn]; show _ < n + 1; omega)
  rw [LX_put han] at q2
  refine r_aload_n (pc := 12) (i := 0) dX10_init_12 rfl 0 rfl ?_
  refine r_bipush (pc := 13) (v := 8) dX10_init_13 (by decide +kernel) ?_
  refine r_newA1 (pc := 15) (γ := g1) (lvf := fun g => [(0, .ref (g a))]) (stf := fun g => [.ref (g a)]) (n := n + 1) (N := 8) (tb_i 277 (by decide +kernel) (by decide +kernel)) wc_8 rfl (by decide) (by rw [LX_len, hn]; rfl) q2.1 (fun z => q2.2 _ (by rw [LX_len, hn]; exact Nat.le_refl _) z) (fun g h => ⟨by rw [h a (by omega)], by rw [h a (by omega)]⟩) ⟨by decide, by decide⟩ dX10_init_15 (fun g2 h2 => ?_)
  rw [LX_push]
  have q3 := gd_nil (q := 1) (n := 8) q2
  rw [LX_push] at q3
  have k2 : ∀ z, z < n → g2 z = gA G z := fun z hz => (h2 z (by omega)).trans (k1 z hz)
  refine r_putRF (pc := 17) (γ := g2) (a := a) (b := (n + 1)) fc_10_15 rfl rfl (LX_this han) (Nat.le_of_ble_eq_true rfl) (fun C T h => by rw [cf_own cf_10 h]; rfl) dX10_init_17 ?_
  rw [LX_put han]
  have q4 := gd_ref (a := a) (k := 1) (b := (n + 1)) q3 (LX_this han) (Nat.le_of_ble_eq_true rfl) (by rw [LX_len, hn]; show _ < n + 2; omega)
  rw [LX_put han] at q4
  exact r_vretI (pc := 20) (γ := g2) k2 rfl (by decide) (by decide) dX10_init_20
abbrev xX0_init : XX := (yX0_init, cX0_init, 1, none, 1, 20, 0, 0)
def eX0_init (a n : Nat) : LE := (0, 0, [none, none, none, none])
def sX0_init (a n : Nat) : List LE := []
def mX0_init (M : MM) (a n : Nat) : MM := M
theorem oX0_init {L : List LE} {M : MM} {a n : Nat} (hn : L.length = n) (ha : L[a]? = some (0, 0, List.replicate (clN 0) none)) (hg : gd L M) : gd (LX L a (eX0_init a n) (sX0_init a n)) (mX0_init M a n) := by
  have han : a < L.length := (List.getElem?_eq_some_iff.mp ha).1
  have han2 : a < n := by omega
  have q0 : gd (LX L a (0, 0, List.replicate (clN 0) none) []) M := by rw [LX_start ha]; exact hg
  exact q0
set_option maxHeartbeats 8000000 in
set_option maxRecDepth 100000 in
theorem kX0_init {G : GG} {L : List LE} {M : MM} {a n : Nat} (hn : L.length = n) (ha : L[a]? = some (0, 0, List.replicate (clN 0) none)) (hg : gd L M) : CI G xX0_init [.ref (gA G a)] L M (LX L a (eX0_init a n) (sX0_init a n)) (mX0_init M a n) := by
  have han : a < L.length := (List.getElem?_eq_some_iff.mp ha).1
  have han2 : a < n := by omega
  have q0 : gd (LX L a (0, 0, List.replicate (clN 0) none) []) M := by rw [LX_start ha]; exact hg
  refine CI_of (by decide +kernel) (Nat.le_of_ble_eq_true rfl) ?_
  rw [hn]
  obtain ⟨γ, hγ⟩ : ∃ γ, γ = gA G := ⟨_, rfl⟩
  have K : VV (gS G γ) xX0_init (ZI G xX0_init n (LX L a (eX0_init a n) (sX0_init a n)) (mX0_init M a n)) (LX L a (0, 0, List.replicate (clN 0) none) []) M 0 0 0 [(0, .ref (γ a))] [] := ?_
  · rw [LX_start ha, hγ] at K; exact K
  refine r_aload_n (pc := 0) (i := 0) dX0_init_0 rfl 0 rfl ?_
  refine r_objI (pc := 1) (γ := γ) (tb_i 569 (by decide +kernel) (by decide +kernel)) (tb_i 164 (by decide +kernel) (by decide +kernel)) (tb_i 165 (by decide +kernel) (by decide +kernel)) ⟨Nat.le_of_ble_eq_true rfl, Nat.le_of_ble_eq_true rfl⟩ dX0_init_1 ?_
  exact r_vretI (pc := 4) (γ := γ) (fun _ _ => by rw [hγ]) rfl (by decide) (by decide) dX0_init_4
theorem wc_600 : wI 600 = 600 := by decide +kernel
theorem fc_9_9 : FG RX9 9 9 0 (clT 9 0) true := ⟨RX9, TX9, cf_9, by decide, tb_i 358 (by decide +kernel) (by decide +kernel), rfl, rfl, rfl⟩
theorem fc_9_15 : FG RX9 15 9 3 (clT 9 3) false := ⟨RX9, TX9, cf_9, by decide, tb_i 365 (by decide +kernel) (by decide +kernel), rfl, rfl, rfl⟩
theorem fc_9_19 : FG RX9 19 9 4 (clT 9 4) true := ⟨RX9, TX9, cf_9, by decide, tb_i 367 (by decide +kernel) (by decide +kernel), rfl, rfl, rfl⟩
theorem wc_2 : wI 2 = 2 := by decide +kernel
theorem fc_9_25 : FG RX9 25 9 5 (clT 9 5) true := ⟨RX9, TX9, cf_9, by decide, tb_i 369 (by decide +kernel) (by decide +kernel), rfl, rfl, rfl⟩
theorem fc_9_31 : FG RX9 31 9 6 (clT 9 6) true := ⟨RX9, TX9, cf_9, by decide, tb_i 371 (by decide +kernel) (by decide +kernel), rfl, rfl, rfl⟩
theorem fc_9_37 : FG RX9 37 9 7 (clT 9 7) true := ⟨RX9, TX9, cf_9, by decide, tb_i 373 (by decide +kernel) (by decide +kernel), rfl, rfl, rfl⟩
theorem fc_9_41 : FG RX9 41 9 8 (clT 9 8) true := ⟨RX9, TX9, cf_9, by decide, tb_i 375 (by decide +kernel) (by decide +kernel), rfl, rfl, rfl⟩
theorem fc_9_46 : FG RX9 46 9 9 (clT 9 9) true := ⟨RX9, TX9, cf_9, by decide, tb_i 377 (by decide +kernel) (by decide +kernel), rfl, rfl, rfl⟩
