def LX (L : List LE) (a : Nat) (e : LE) (s : List LE) : List LE := L.set a e ++ s
theorem LX_len {L : List LE} {a : Nat} {e : LE} {s : List LE} : (LX L a e s).length = L.length + s.length := by simp [LX]
theorem LX_start {L : List LE} {a : Nat} {e : LE} (h : L[a]? = some e) : LX L a e [] = L := by
  have hl := (List.getElem?_eq_some_iff.mp h).1
  unfold LX
  rw [List.append_nil]
  apply List.ext_getElem?
  intro i
  by_cases hi : i = a
  · subst hi; rw [List.getElem?_set_self hl, h]
  · rw [List.getElem?_set_ne (Ne.symm hi)]
theorem LX_this {L : List LE} {a : Nat} {e : LE} {s : List LE} (h : a < L.length) : (LX L a e s)[a]? = some e := by
  unfold LX
  rw [List.getElem?_append_left (by simpa using h), List.getElem?_set_self h]
theorem LX_at {L : List LE} {a j n : Nat} {e x : LE} {s : List LE} (hn : L.length = n) (h : s[j]? = some x) : (LX L a e s)[n + j]? = some x := by
  unfold LX
  rw [List.getElem?_append_right (by simp; omega)]
  rw [show n + j - (L.set a e).length = j by simp; omega]
  exact h
theorem LX_push {L : List LE} {a : Nat} {e x : LE} {s : List LE} : LX L a e s ++ [x] = LX L a e (s ++ [x]) := by simp [LX]
theorem LX_put {L : List LE} {a : Nat} {e e' : LE} {s : List LE} (h : a < L.length) : (LX L a e s).set a e' = LX L a e' s := by
  unfold LX
  rw [List.set_append_left _ _ (by simpa using h), List.set_set]
theorem LX_set {L : List LE} {a j n : Nat} {e x : LE} {s : List LE} (hn : L.length = n) : (LX L a e s).set (n + j) x = LX L a e (s.set j x) := by
  unfold LX
  rw [List.set_append_right _ _ (by simp; omega)]
  rw [show n + j - (L.set a e).length = j by simp; omega]
theorem LX_LX {L : List LE} {a j n : Nat} {e x : LE} {s t : List LE} (hn : L.length = n) : LX (LX L a e s) (n + j) x t = LX L a e (s.set j x ++ t) := by
  show (LX L a e s).set (n + j) x ++ t = _
  rw [LX_set hn]
  simp [LX, List.append_assoc]
def fresh (L : List LE) (M : MM) : Prop := ∀ a, L.length ≤ a → ∀ k, M a k = 0
theorem okL_push {L : List LE} {x : LE} (h : okL L) (hx : ∀ k b, x.2.2.getD k none = some b → b < L.length) : okL (L ++ [x]) := by
  intro e he k b hb
  rw [List.length_append, List.length_singleton]
  rcases List.mem_append.mp he with h1 | h1
  · have := h e h1 k b hb; omega
  · rw [List.mem_singleton] at h1; subst h1
    have := hx k b hb; omega
theorem okL_set {L : List LE} {a : Nat} {x : LE} (h : okL L) (hx : ∀ k b, x.2.2.getD k none = some b → b < L.length) : okL (L.set a x) := by
  intro e he k b hb
  rw [List.length_set]
  rcases List.mem_or_eq_of_mem_set he with h1 | h1
  · exact h e h1 k b hb
  · subst h1; exact hx k b hb
theorem okL_rep {L : List LE} {q n m : Nat} (h : okL L) : okL (L ++ [(q, n, List.replicate m none)]) := okL_push h (fun k b hb => by rw [show ((q, n, List.replicate m none) : LE).2.2 = List.replicate m none from rfl, getD_rep] at hb; cases hb)
theorem okL_nil {L : List LE} {q n : Nat} (h : okL L) : okL (L ++ [(q, n, [])]) := okL_push h (fun k b hb => by simp at hb)
theorem getD_set {rs : List (Option Nat)} {k j : Nat} {v : Option Nat} (h : k < rs.length) : (rs.set k v).getD j none = if j = k then v else rs.getD j none := by
  rw [List.getD_eq_getElem?_getD, List.getD_eq_getElem?_getD]
  by_cases hj : j = k
  · subst hj; rw [if_pos rfl, List.getElem?_set_self h]; rfl
  · rw [if_neg hj, List.getElem?_set_ne (Ne.symm hj)]
theorem okL_ref {L : List LE} {a q n k b : Nat} {rs : List (Option Nat)} (h : okL L) (ha : L[a]? = some (q, n, rs)) (hk : k < rs.length) (hb : b < L.length) : okL (L.set a (q, n, rs.set k (some b))) := okL_set h (fun j c hc => by
  rw [show ((q, n, rs.set k (some b)) : LE).2.2 = rs.set k (some b) from rfl, getD_set hk] at hc
  by_cases hj : j = k
  · rw [if_pos hj] at hc; cases hc; exact hb
  · rw [if_neg hj] at hc; exact h _ (List.mem_of_getElem? ha) j c hc)
theorem fresh_push {L : List LE} {M : MM} {x : LE} (h : fresh L M) : fresh (L ++ [x]) M := fun a ha k => h a (by rw [List.length_append] at ha; omega) k
theorem fresh_set {L : List LE} {M : MM} {x : LE} {i : Nat} (h : fresh L M) : fresh (L.set i x) M := fun a ha k => h a (by rw [List.length_set] at ha; exact ha) k
theorem fresh_mU {L : List LE} {M : MM} {a k : Nat} {x : Int} (h : fresh L M) (ha : a < L.length) : fresh L (mU M a k x) := fun b hb j => by rw [mU_ne M x (Or.inl (by omega))]; exact h b hb j
theorem r_putG {G : GG} {γ : Nat → Nat} {X : XX} {Z : ZZ} {L : List LE} {M : MM} {ce sl pc : Nat} {lv : List (Nat × Value)} {st : List Value} {a ci k index : Nat} {t : FieldType} {rs rs' : List (Option Nat)} {v : Value} {M' : MM} (hf : FG (xy X).cls index ci k t true) (hi : (xy X).name = "<init>") (ho : L[a]? = some (0, ci, rs)) (hv : fV γ (M' a) ci rs' k = v) (hj : ∀ j, j ≠ k → fV γ (M' a) ci rs' j = fV γ (M a) ci rs j) (hb : ∀ b, b ≠ a → M' b = M b) (hn : narrow t v = v) (hfit : fits t v = true) (hown : ∀ C T, CF ci C T → (T k).1 = (xy X).cls) (hd : decode (xc X) pc = .ok (.putfield index, 3)) (kk : VV (gS G γ) X Z (L.set a (0, ci, rs')) M' ce sl (pc + 3) lv st) : VV (gS G γ) X Z L M ce sl pc lv (v :: .ref (γ a) :: st) := by
  obtain ⟨C, T, hcf, hk, hlink, hdecl, ht, hfin⟩ := hf
  have hown := hown C T hcf
  obtain ⟨hcl, hin, hty, hnm⟩ := hcf
  intro p e R s m args below meth c hc he H locs ls hP hD hS hl
  refine va_putF (ci := ci) (C := C) (T := T) (N := clN ci) (ref := C) (ty := t) (v := v) hc.1 hc.2.1 hc.2.2.2.2.2.1 hin (clT ci) hty hnm hc.2.2.2.2.1 hc.2.2.2.2.2.2.2.1 hP hD hS a (wsO_at ho) hcl k hk (hT_of hc hlink) (by rw [hdecl]; exact fun _ h => h) hfin (hc.2.2.2.2.2.2.2.2.2.1.trans hi) hown (by rw [hty k hk, ht]) hn hfit (by simpa using hk) hd (fun H locs hP1 hD1 hS1 => ?_)
  have hset : ((List.range (clN ci)).map (fV γ (M a) ci rs)).set k v = (List.range (clN ci)).map (fV γ (M' a) ci rs') := by
    apply List.ext_getElem?
    intro i
    by_cases h : i < clN ci
    · by_cases hik : i = k
      · subst hik
        rw [List.getElem?_set_self (by simpa using h), fs_at h, hv]
      · rw [List.getElem?_set_ne (Ne.symm hik), fs_at h, fs_at h, hj i hik]
    · rw [List.getElem?_eq_none (by simpa using h), List.getElem?_eq_none (by simpa using h)]
  have hal : a < L.length := (List.getElem?_eq_some_iff.mp ho).1
  have hE : (wsO (gS G γ) L M).set a (gA (gS G γ) a, .inr (ci, ((List.range (clN ci)).map (fV γ (M a) ci rs)).set k v)) = wsO (gS G γ) (L.set a (0, ci, rs')) M' := by
    refine wsO_set (by simp) ?_ (fun b hba => ?_)
    · rw [List.getD_eq_getElem?_getD, List.getElem?_set_self hal, hset]; rfl
    · rw [List.getD_eq_getElem?_getD, List.getD_eq_getElem?_getD, List.getElem?_set_ne (Ne.symm hba), hb b hba]
  have hP1 : va_P (gD (gS G γ)) vwCl ((wsO (gS G γ) L M).set a (gA (gS G γ) a, .inr (ci, ((List.range (clN ci)).map (fV γ (M a) ci rs)).set k v))) H := hP1
  have hD1 : va_D (AG (gS G γ)) ((wsO (gS G γ) L M).set a (gA (gS G γ) a, .inr (ci, ((List.range (clN ci)).map (fV γ (M a) ci rs)).set k v))) := hD1
  rw [hE] at hP1 hD1
  exact kk p e R s m args below meth c hc he H locs ls hP1 hD1 hS1 hl
theorem r_putRF {G : GG} {γ : Nat → Nat} {X : XX} {Z : ZZ} {L : List LE} {M : MM} {ce sl pc : Nat} {lv : List (Nat × Value)} {st : List Value} {a b ci k index : Nat} {t : FieldType} {rs : List (Option Nat)} (hf : FG (xy X).cls index ci k t true) (ht2 : kd t = 2) (hi : (xy X).name = "<init>") (ho : L[a]? = some (0, ci, rs)) (hl : k < rs.length) (hown : ∀ C T, CF ci C T → (T k).1 = (xy X).cls) (hd : decode (xc X) pc = .ok (.putfield index, 3)) (kk : VV (gS G γ) X Z (L.set a (0, ci, rs.set k (some b))) M ce sl (pc + 3) lv st) : VV (gS G γ) X Z L M ce sl pc lv (.ref (γ b) :: .ref (γ a) :: st) := by
  have hk2 : kd (clT ci k) = 2 := by obtain ⟨C, T, -, -, -, -, h, -⟩ := hf; rw [h]; exact ht2
  refine r_putG (rs' := rs.set k (some b)) (M' := M) (v := .ref (γ b)) hf hi ho ((fV_R hk2).trans (by rw [getD_set hl, if_pos rfl]; rfl)) (fun j hj => ?_) (fun _ _ => rfl) ?_ ?_ hown hd kk
  · unfold fV
    rw [getD_set hl, if_neg hj]
  · cases t <;> first | rfl | (exfalso; revert ht2; simp [kd])
  · cases t <;> first | rfl | (exfalso; revert ht2; simp [kd])
theorem r_putIF {G : GG} {γ : Nat → Nat} {X : XX} {Z : ZZ} {L : List LE} {M : MM} {ce sl pc : Nat} {lv : List (Nat × Value)} {st : List Value} {a ci k index : Nat} {rs : List (Option Nat)} {x : Int} (hf : FG (xy X).cls index ci k .int true) (hi : (xy X).name = "<init>") (ho : L[a]? = some (0, ci, rs)) (hown : ∀ C T, CF ci C T → (T k).1 = (xy X).cls) (hd : decode (xc X) pc = .ok (.putfield index, 3)) (kk : VV (gS G γ) X Z L (mU M a k x) ce sl (pc + 3) lv st) : VV (gS G γ) X Z L M ce sl pc lv (.int (eI x) :: .ref (γ a) :: st) := by
  have hk0 : kd (clT ci k) = 0 := by obtain ⟨C, T, -, -, -, -, h, -⟩ := hf; rw [h]; rfl
  have hE : L.set a (0, ci, rs) = L := by
    have := LX_start ho
    unfold LX at this
    rw [List.append_nil] at this
    exact this
  refine r_putG (rs' := rs) (M' := mU M a k x) (v := .int (eI x)) hf hi ho ((fV_I hk0).trans (by rw [mU_eq])) (fun j hj => ?_) (fun b hb => mU_row M x hb) rfl rfl hown hd (by rw [hE]; exact kk)
  unfold fV
  rw [mU_ne M x (Or.inr hj)]
theorem r_vretI {G : GG} {γ : Nat → Nat} {X : XX} {L : List LE} {M : MM} {n ce sl pc : Nat} {lv : List (Nat × Value)} (hg : ∀ a, a < n → γ a = gA G a) (hr : xr X = none) (h1 : ce ≤ xmc X) (h2 : sl ≤ xms X) (hd : decode (xc X) pc = .ok (.return_, 1)) : VV (gS G γ) X (ZI G X n L M) L M ce sl pc lv [] := by
  intro p e R s m args below meth c hc he H locs ls hP hD hS hl
  refine W.widen (k := xmc X) (n := xms X) h1 h2 ?_
  exact W.vret hc.1 hc.2.1 (hc.2.2.1.trans hr) (fun t ht hW => ⟨⟨rfl, γ, hg, by rw [ht]; exact hP, hD⟩, hS.F ht⟩) hS.2.2 hd (hlocks := hc.2.2.2.2.2.2.1)
def CKI (X : XX) (idx : Nat) (Y : XX) (n : Nat) : Prop := Cond.initialized (xy Y).cls ∈ lw_good ∧ Cond.code (xy Y) (xc Y) (xn Y) none ∈ lw_good ∧ ((xy Y).cls ≠ "java/lang/invoke/MethodHandle" ∧ (xy Y).cls ≠ "java/lang/invoke/VarHandle" ∧ (parseMethodDescriptor (xy Y).desc).map (fun d => d.parameters.length) = some n) ∧ xf Y + 1 ≤ xf X ∧ 8 + (xn Y + 11) + xl Y ≤ xl X ∧ (xy Y).name = "<init>" ∧ Cond.instanceMethod (xy Y) ∈ lw_good ∧ xr Y = none ∧ (Cond.methodLink (xy X).cls idx (xy Y) ∈ lw_good ∨ ∃ h, Cond.methodLinkNest (xy X).cls idx (xy Y) h ∈ lw_nst)
theorem RI_blind {G : GG} {L : List LE} {M : MM} {av : List Value} : FrameBlind (va_Pc av (RI G L M)) := fun a U g mk q => by
  obtain ⟨q0, ⟨qB, qP, qD, qK, qT⟩, qO⟩ := q
  exact ⟨q0, ⟨qB, qP, qD, va_K.moved (u := U) (U := U.calling g mk a) (Vm.Alike.refl U.vm) qK, ST_call qT⟩, qO.moved (u := U) (U := U.calling g mk a) (Vm.Alike.refl U.vm)⟩
/-- a constructor is called: more cells, more addresses -/
theorem r_callI {G : GG} {γ : Nat → Nat} {X : XX} {Z : ZZ} {L : List LE} {M : MM} {ce sl pc : Nat} {lvf : (Nat → Nat) → List (Nat × Value)} {stf : (Nat → Nat) → List Value} {Y : XX} {b index n : Nat} {As : List Value} {L' : List LE} {M' : MM} (hAO : ∀ (p : Program) (e : Env) (R : Room) (s : State) (m : MethodId) (args : Array Value) (below : List Frame) (meth : Method) (c : Code), Z.1 p e R s m args below meth c → AOs s) (hk : CKI X index Y n) (hC : CI (gS G γ) Y (.ref (γ b) :: As) L M L' M') (hlv : ∀ g, (∀ a, a < L.length → g a = γ a) → lvf g = lvf γ ∧ stf g = stf γ) (hn : As.length = n) (hcat : ((stf γ).map fun v => v.category).sum ≤ 8) (hf : ce + xmc Y ≤ xmc X ∧ sl + xms Y ≤ xms X) (hd : decode (xc X) pc = .ok (.invokespecial index, 3)) (kk : ∀ g, (∀ a, a < L.length → g a = γ a) → VV (gS G g) X Z L' M' (ce + xmc Y) (sl + xms Y) (pc + 3) (lvf g) (stf g)) : VV (gS G γ) X Z L M ce sl pc (lvf γ) (As.reverse ++ .ref (γ b) :: stf γ) := by
  intro p e R s m args below meth c hc he H locs ls hP hD hS hl
  obtain ⟨k2, k3, k4, k5, k6, k7, k8, k9, k1⟩ := hk
  obtain ⟨f1, f2, f3, f4⟩ := hc.2.2.2.2.2.2.2.2.2.2.2
  have hG : GoodIn lw_good (wsT Y) := GoodIn_T (by rw [k9]; exact k3)
  have hw : wsT Y = Cond.code (xy Y) (xc Y) (xn Y) none :: lw_good := by unfold wsT; rw [k9]
  have hPS : PreS s H (va_Pc (.ref (γ b) :: As) (RI (gS G γ) L M)) (.ref (γ b) :: As) := ⟨RI_blind, fun U hU hW => ⟨rfl, RS_at hc.2.2.2.2.2.2.2.2.2.2.1 hc.2.2.2.2.2.2.2.1 hc.2.2.2.2.2.2.2.2.1 hP hD hS hU hW, (hAO _ _ _ _ _ _ _ _ _ he).moved hW.alike⟩⟩
  have hrun : va_Run p (gl G) e R s m args below meth c H locs ce sl (xmc Y) (xms Y) (F0 m pc ls (As.reverse ++ .ref (γ b) :: stf γ)) (stf γ) (QI (gS G γ) L.length L' M' (Value.ref (γ b) :: As).toArray) (AG (gS G γ)) := by
    rcases k1 with k1 | ⟨host, k1⟩
    · exact va_runI (As := As) (rest := stf γ) (bytes := xc Y) (maxL := xn Y) ⟨hc.1, hc.2.1, hc.2.2.2.1, hc.2.2.2.2.1, hc.2.2.2.2.2.1⟩ hC ⟨callB_of n hc.2.2.2.2.2.1 hG hw rfl rfl (hT_of hc k2) (hT_of hc k1) k4 ⟨Nat.le_trans k5 f1, Nat.le_trans k6 f2⟩, k7, hT_of hc k8⟩ hPS rfl hn hl.1 rfl (lv_room hcat) hd ⟨Nat.le_trans hf.1 f3, Nat.le_trans hf.2 f4⟩
    · exact va_runIN (As := As) (rest := stf γ) (bytes := xc Y) (maxL := xn Y) ⟨hc.1, hc.2.1, hc.2.2.2.1, hc.2.2.2.2.1, hc.2.2.2.2.2.1⟩ hC ⟨va_cnB n hc.2.2.2.2.2.1 hG hw rfl rfl (hc.2.2.2.2.2.2.2.2.1.2.2.2.2.1 _ k1) (hT_of hc k2) k4 ⟨Nat.le_trans k5 f1, Nat.le_trans k6 f2⟩, k7, hT_of hc k8⟩ hPS rfl hn hl.1 rfl (lv_room hcat) hd ⟨Nat.le_trans hf.1 f3, Nat.le_trans hf.2 f4⟩
  intro T hT X0
  obtain ⟨v0, st₀, t, T', L0', h0, X', hL, e1, e2, ⟨⟨hv, g, hg, hP1, hD1⟩, hz, hq⟩, st1⟩ := hrun T hT X0
  cases hv
  rw [h0] at hz hq
  have hS1 : va_S (AG G) s.heap T'.heap (locs ++ L0') := ⟨Nat.le_trans hS.1 (by rw [e1]; exact hz), fun q h1 h2 => by rw [e1, hq q (Nat.lt_of_lt_of_le h1 hS.1) h2]; exact hS.2.1 q h1 h2, fun q hq => by
      rcases List.mem_append.mp hq with h | h
      · exact hS.2.2 q h
      · exact hL q h⟩
  obtain ⟨e3, e4⟩ := hlv g hg
  obtain ⟨t2, a1, b1⟩ := kk g hg p e R s m args below meth c hc he T'.heap (locs ++ L0') ls (by rw [e1]; exact hP1) hD1 hS1 (by rw [e3]; exact hl) T' rfl X'
  refine ⟨t2, st1 t2 ?_, b1⟩
  rw [e4] at a1
  exact a1
theorem r_aast5 {G : GG} {γ : Nat → Nat} {X : XX} {Z : ZZ} {L : List LE} {M : MM} {ce sl pc : Nat} {lv : List (Nat × Value)} {st : List Value} {a b N j : Nat} {rs rb : List (Option Nat)} {i i' : Int} (ha : L[a]? = some (5, N, rs)) (hb : L[b]? = some (0, 1, rb)) (hi : wI i = i') (hin : 0 ≤ i' ∧ i' < (N : Int)) (hj : i'.toNat = j) (hl2 : j < rs.length) (hd : decode (xc X) pc = .ok (.aastore, 1)) (kk : VV (gS G γ) X Z (L.set a (5, N, rs.set j (some b))) M ce sl (pc + 1) lv st) : VV (gS G γ) X Z L M ce sl pc lv (.ref (γ b) :: .int (eI i) :: .ref (γ a) :: st) := by
  subst hi hj
  intro p e R s m args below meth c hc he H locs ls hP hD hS hl
  refine va_astq (r := (RX1, TX1, clN 1)) (ci := 1) hc.1 hc.2.1 hc.2.2.2.2.2.2.2.1 hP hD hS a 4 b (wsO_at ha) rfl (wsO_at hb) rfl (eI_in hin) hd (fun H locs hP1 hD1 hS1 => ?_)
  rw [eI_clamp] at hP1 hD1
  have hal : a < L.length := (List.getElem?_eq_some_iff.mp ha).1
  have hrow : (fun z => ((rs.set (wI i).toNat (some b)).getD z none).map γ) = va_up (fun z => (rs.getD z none).map γ) (wI i).toNat (some (γ b)) := by
    funext z
    rw [getD_set hl2]
    by_cases hz : z = (wI i).toNat
    · rw [if_pos hz, hz, va_up_self]; rfl
    · rw [if_neg hz, va_up_ne _ _ hz]
  have hE : (wsO (gS G γ) L M).set a (gA (gS G γ) a, .inl (gcy G 5, N, .inr (.inr (.inr (.inr (va_up (fun z => (rs.getD z none).map γ) (wI i).toNat (some (γ b)))))))) = wsO (gS G γ) (L.set a (5, N, rs.set (wI i).toNat (some b))) M := by
    refine wsO_set (by simp) ?_ (fun z hz => ?_)
    · rw [List.getD_eq_getElem?_getD, List.getElem?_set_self hal, ← hrow]; rfl
    · rw [List.getD_eq_getElem?_getD, List.getD_eq_getElem?_getD, List.getElem?_set_ne (Ne.symm hz)]
  have hP1 : va_P (gD (gS G γ)) vwCl ((wsO (gS G γ) L M).set a (gA (gS G γ) a, .inl (gcy G 5, N, .inr (.inr (.inr (.inr (va_up (fun z => (rs.getD z none).map γ) (wI i).toNat (some (γ b))))))))) H := hP1
  have hD1 : va_D (AG (gS G γ)) ((wsO (gS G γ) L M).set a (gA (gS G γ) a, .inl (gcy G 5, N, .inr (.inr (.inr (.inr (va_up (fun z => (rs.getD z none).map γ) (wI i).toNat (some (γ b))))))))) := hD1
  rw [hE] at hP1 hD1
  exact kk p e R s m args below meth c hc he H locs ls hP1 hD1 hS1 hl
theorem r_aast6 {G : GG} {γ : Nat → Nat} {X : XX} {Z : ZZ} {L : List LE} {M : MM} {ce sl pc : Nat} {lv : List (Nat × Value)} {st : List Value} {a b N j : Nat} {rs rb : List (Option Nat)} {i i' : Int} (ha : L[a]? = some (6, N, rs)) (hb : L[b]? = some (0, 3, rb)) (hi : wI i = i') (hin : 0 ≤ i' ∧ i' < (N : Int)) (hj : i'.toNat = j) (hl2 : j < rs.length) (hd : decode (xc X) pc = .ok (.aastore, 1)) (kk : VV (gS G γ) X Z (L.set a (6, N, rs.set j (some b))) M ce sl (pc + 1) lv st) : VV (gS G γ) X Z L M ce sl pc lv (.ref (γ b) :: .int (eI i) :: .ref (γ a) :: st) := by
  subst hi hj
  intro p e R s m args below meth c hc he H locs ls hP hD hS hl
  refine va_astq (r := (RX3, TX3, clN 3)) (ci := 3) hc.1 hc.2.1 hc.2.2.2.2.2.2.2.1 hP hD hS a 5 b (wsO_at ha) rfl (wsO_at hb) rfl (eI_in hin) hd (fun H locs hP1 hD1 hS1 => ?_)
  rw [eI_clamp] at hP1 hD1
  have hal : a < L.length := (List.getElem?_eq_some_iff.mp ha).1
  have hrow : (fun z => ((rs.set (wI i).toNat (some b)).getD z none).map γ) = va_up (fun z => (rs.getD z none).map γ) (wI i).toNat (some (γ b)) := by
    funext z
    rw [getD_set hl2]
    by_cases hz : z = (wI i).toNat
    · rw [if_pos hz, hz, va_up_self]; rfl
    · rw [if_neg hz, va_up_ne _ _ hz]
  have hE : (wsO (gS G γ) L M).set a (gA (gS G γ) a, .inl (gcy G 6, N, .inr (.inr (.inr (.inr (va_up (fun z => (rs.getD z none).map γ) (wI i).toNat (some (γ b)))))))) = wsO (gS G γ) (L.set a (6, N, rs.set (wI i).toNat (some b))) M := by
    refine wsO_set (by simp) ?_ (fun z hz => ?_)
    · rw [List.getD_eq_getElem?_getD, List.getElem?_set_self hal, ← hrow]; rfl
    · rw [List.getD_eq_getElem?_getD, List.getD_eq_getElem?_getD, List.getElem?_set_ne (Ne.symm hz)]
  have hP1 : va_P (gD (gS G γ)) vwCl ((wsO (gS G γ) L M).set a (gA (gS G γ) a, .inl (gcy G 6, N, .inr (.inr (.inr (.inr (va_up (fun z => (rs.getD z none).map γ) (wI i).toNat (some (γ b))))))))) H := hP1
  have hD1 : va_D (AG (gS G γ)) ((wsO (gS G γ) L M).set a (gA (gS G γ) a, .inl (gcy G 6, N, .inr (.inr (.inr (.inr (va_up (fun z => (rs.getD z none).map γ) (wI i).toNat (some (γ b))))))))) := hD1
  rw [hE] at hP1 hD1
  exact kk p e R s m args below meth c hc he H locs ls hP1 hD1 hS1 hl
theorem r_aast7 {G : GG} {γ : Nat → Nat} {X : XX} {Z : ZZ} {L : List LE} {M : MM} {ce sl pc : Nat} {lv : List (Nat × Value)} {st : List Value} {a b N j : Nat} {rs rb : List (Option Nat)} {i i' : Int} (ha : L[a]? = some (7, N, rs)) (hb : L[b]? = some (0, 5, rb)) (hi : wI i = i') (hin : 0 ≤ i' ∧ i' < (N : Int)) (hj : i'.toNat = j) (hl2 : j < rs.length) (hd : decode (xc X) pc = .ok (.aastore, 1)) (kk : VV (gS G γ) X Z (L.set a (7, N, rs.set j (some b))) M ce sl (pc + 1) lv st) : VV (gS G γ) X Z L M ce sl pc lv (.ref (γ b) :: .int (eI i) :: .ref (γ a) :: st) := by
  subst hi hj
  intro p e R s m args below meth c hc he H locs ls hP hD hS hl
  refine va_astq (r := (RX5, TX5, clN 5)) (ci := 5) hc.1 hc.2.1 hc.2.2.2.2.2.2.2.1 hP hD hS a 6 b (wsO_at ha) rfl (wsO_at hb) rfl (eI_in hin) hd (fun H locs hP1 hD1 hS1 => ?_)
  rw [eI_clamp] at hP1 hD1
  have hal : a < L.length := (List.getElem?_eq_some_iff.mp ha).1
  have hrow : (fun z => ((rs.set (wI i).toNat (some b)).getD z none).map γ) = va_up (fun z => (rs.getD z none).map γ) (wI i).toNat (some (γ b)) := by
    funext z
    rw [getD_set hl2]
    by_cases hz : z = (wI i).toNat
    · rw [if_pos hz, hz, va_up_self]; rfl
    · rw [if_neg hz, va_up_ne _ _ hz]
  have hE : (wsO (gS G γ) L M).set a (gA (gS G γ) a, .inl (gcy G 7, N, .inr (.inr (.inr (.inr (va_up (fun z => (rs.getD z none).map γ) (wI i).toNat (some (γ b)))))))) = wsO (gS G γ) (L.set a (7, N, rs.set (wI i).toNat (some b))) M := by
    refine wsO_set (by simp) ?_ (fun z hz => ?_)
    · rw [List.getD_eq_getElem?_getD, List.getElem?_set_self hal, ← hrow]; rfl
    · rw [List.getD_eq_getElem?_getD, List.getD_eq_getElem?_getD, List.getElem?_set_ne (Ne.symm hz)]
  have hP1 : va_P (gD (gS G γ)) vwCl ((wsO (gS G γ) L M).set a (gA (gS G γ) a, .inl (gcy G 7, N, .inr (.inr (.inr (.inr (va_up (fun z => (rs.getD z none).map γ) (wI i).toNat (some (γ b))))))))) H := hP1
  have hD1 : va_D (AG (gS G γ)) ((wsO (gS G γ) L M).set a (gA (gS G γ) a, .inl (gcy G 7, N, .inr (.inr (.inr (.inr (va_up (fun z => (rs.getD z none).map γ) (wI i).toNat (some (γ b))))))))) := hD1
  rw [hE] at hP1 hD1
  exact kk p e R s m args below meth c hc he H locs ls hP1 hD1 hS1 hl
theorem r_aast8 {G : GG} {γ : Nat → Nat} {X : XX} {Z : ZZ} {L : List LE} {M : MM} {ce sl pc : Nat} {lv : List (Nat × Value)} {st : List Value} {a b N j : Nat} {rs rb : List (Option Nat)} {i i' : Int} (ha : L[a]? = some (8, N, rs)) (hb : L[b]? = some (0, 8, rb)) (hi : wI i = i') (hin : 0 ≤ i' ∧ i' < (N : Int)) (hj : i'.toNat = j) (hl2 : j < rs.length) (hd : decode (xc X) pc = .ok (.aastore, 1)) (kk : VV (gS G γ) X Z (L.set a (8, N, rs.set j (some b))) M ce sl (pc + 1) lv st) : VV (gS G γ) X Z L M ce sl pc lv (.ref (γ b) :: .int (eI i) :: .ref (γ a) :: st) := by
  subst hi hj
  intro p e R s m args below meth c hc he H locs ls hP hD hS hl
  refine va_astq (r := (RX8, TX8, clN 8)) (ci := 8) hc.1 hc.2.1 hc.2.2.2.2.2.2.2.1 hP hD hS a 7 b (wsO_at ha) rfl (wsO_at hb) rfl (eI_in hin) hd (fun H locs hP1 hD1 hS1 => ?_)
  rw [eI_clamp] at hP1 hD1
  have hal : a < L.length := (List.getElem?_eq_some_iff.mp ha).1
  have hrow : (fun z => ((rs.set (wI i).toNat (some b)).getD z none).map γ) = va_up (fun z => (rs.getD z none).map γ) (wI i).toNat (some (γ b)) := by
    funext z
    rw [getD_set hl2]
    by_cases hz : z = (wI i).toNat
    · rw [if_pos hz, hz, va_up_self]; rfl
    · rw [if_neg hz, va_up_ne _ _ hz]
  have hE : (wsO (gS G γ) L M).set a (gA (gS G γ) a, .inl (gcy G 8, N, .inr (.inr (.inr (.inr (va_up (fun z => (rs.getD z none).map γ) (wI i).toNat (some (γ b)))))))) = wsO (gS G γ) (L.set a (8, N, rs.set (wI i).toNat (some b))) M := by
    refine wsO_set (by simp) ?_ (fun z hz => ?_)
    · rw [List.getD_eq_getElem?_getD, List.getElem?_set_self hal, ← hrow]; rfl
    · rw [List.getD_eq_getElem?_getD, List.getD_eq_getElem?_getD, List.getElem?_set_ne (Ne.symm hz)]
  have hP1 : va_P (gD (gS G γ)) vwCl ((wsO (gS G γ) L M).set a (gA (gS G γ) a, .inl (gcy G 8, N, .inr (.inr (.inr (.inr (va_up (fun z => (rs.getD z none).map γ) (wI i).toNat (some (γ b))))))))) H := hP1
  have hD1 : va_D (AG (gS G γ)) ((wsO (gS G γ) L M).set a (gA (gS G γ) a, .inl (gcy G 8, N, .inr (.inr (.inr (.inr (va_up (fun z => (rs.getD z none).map γ) (wI i).toNat (some (γ b))))))))) := hD1
  rw [hE] at hP1 hD1
  exact kk p e R s m args below meth c hc he H locs ls hP1 hD1 hS1 hl
theorem r_aast9 {G : GG} {γ : Nat → Nat} {X : XX} {Z : ZZ} {L : List LE} {M : MM} {ce sl pc : Nat} {lv : List (Nat × Value)} {st : List Value} {a b N j : Nat} {rs rb : List (Option Nat)} {i i' : Int} (ha : L[a]? = some (9, N, rs)) (hb : L[b]? = some (0, 9, rb)) (hi : wI i = i') (hin : 0 ≤ i' ∧ i' < (N : Int)) (hj : i'.toNat = j) (hl2 : j < rs.length) (hd : decode (xc X) pc = .ok (.aastore, 1)) (kk : VV (gS G γ) X Z (L.set a (9, N, rs.set j (some b))) M ce sl (pc + 1) lv st) : VV (gS G γ) X Z L M ce sl pc lv (.ref (γ b) :: .int (eI i) :: .ref (γ a) :: st) := by
  subst hi hj
  intro p e R s m args below meth c hc he H locs ls hP hD hS hl
  refine va_astq (r := (RX9, TX9, clN 9)) (ci := 9) hc.1 hc.2.1 hc.2.2.2.2.2.2.2.1 hP hD hS a 8 b (wsO_at ha) rfl (wsO_at hb) rfl (eI_in hin) hd (fun H locs hP1 hD1 hS1 => ?_)
  rw [eI_clamp] at hP1 hD1
  have hal : a < L.length := (List.getElem?_eq_some_iff.mp ha).1
  have hrow : (fun z => ((rs.set (wI i).toNat (some b)).getD z none).map γ) = va_up (fun z => (rs.getD z none).map γ) (wI i).toNat (some (γ b)) := by
    funext z
    rw [getD_set hl2]
    by_cases hz : z = (wI i).toNat
    · rw [if_pos hz, hz, va_up_self]; rfl
    · rw [if_neg hz, va_up_ne _ _ hz]
  have hE : (wsO (gS G γ) L M).set a (gA (gS G γ) a, .inl (gcy G 9, N, .inr (.inr (.inr (.inr (va_up (fun z => (rs.getD z none).map γ) (wI i).toNat (some (γ b)))))))) = wsO (gS G γ) (L.set a (9, N, rs.set (wI i).toNat (some b))) M := by
    refine wsO_set (by simp) ?_ (fun z hz => ?_)
    · rw [List.getD_eq_getElem?_getD, List.getElem?_set_self hal, ← hrow]; rfl
    · rw [List.getD_eq_getElem?_getD, List.getD_eq_getElem?_getD, List.getElem?_set_ne (Ne.symm hz)]
  have hP1 : va_P (gD (gS G γ)) vwCl ((wsO (gS G γ) L M).set a (gA (gS G γ) a, .inl (gcy G 9, N, .inr (.inr (.inr (.inr (va_up (fun z => (rs.getD z none).map γ) (wI i).toNat (some (γ b))))))))) H := hP1
  have hD1 : va_D (AG (gS G γ)) ((wsO (gS G γ) L M).set a (gA (gS G γ) a, .inl (gcy G 9, N, .inr (.inr (.inr (.inr (va_up (fun z => (rs.getD z none).map γ) (wI i).toNat (some (γ b))))))))) := hD1
  rw [hE] at hP1 hD1
  exact kk p e R s m args below meth c hc he H locs ls hP1 hD1 hS1 hl
