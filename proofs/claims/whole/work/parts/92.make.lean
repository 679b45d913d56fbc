def gS (G : GG) (γ : Nat → Nat) : GG := (G.1, G.2.1, G.2.2.1, G.2.2.2.1, G.2.2.2.2.1, G.2.2.2.2.2.1, G.2.2.2.2.2.2.1, γ)
def AOs (U : State) : Prop := ∀ C, C ∈ [RX1, RX3, RX5, RX8, RX9] → va_AO C U
theorem AOs.moved {u U : State} (hvm : u.vm.Alike U.vm) (h : AOs u) : AOs U := fun C hC => (h C hC).moved hvm
def QI (G : GG) (n : Nat) (L : List LE) (M : MM) : Array Value → State → Outcome → State → Prop := fun _ st o t => (o = .returned none ∧ ∃ γ, (∀ a, a < n → γ a = gA G a) ∧ va_P (gD G) vwCl (wsO (gS G γ) L M) t.heap ∧ va_D (AG G) (wsO (gS G γ) L M)) ∧ va_F (AG G) st t
def RI (G : GG) (L : List LE) (M : MM) (U : State) : Prop := RS G L M U ∧ AOs U
/-- a constructor's contract -/
def CI (G : GG) (X : XX) (av : List Value) (L : List LE) (M : MM) (L' : List LE) (M' : MM) : Prop := Met (gl G) (xy X) (wsT X) (rmO X) (va_Pc av (RI G L M)) (QI G L.length L' M') (xmc X) (xms X) (AG G)
def ZI (G : GG) (X : XX) (n : Nat) (L : List LE) (M : MM) : ZZ := (fun _ _ _ s _ _ _ _ _ => AOs s, fun _ _ _ s _ args below _ _ => MQ below (QI G n L M) args s (xmc X) (xms X) (AG G))
theorem gS_self (G : GG) : gS G (gA G) = G := rfl
theorem CI_of {G : GG} {X : XX} {av : List Value} {L L' : List LE} {M M' : MM} (hy : plainName (xy X).cls = true) (hlen : (lg_sl av).length ≤ xn X) (k : VV G X (ZI G X L.length L' M') L M 0 0 0 (lv_args 0 av) []) : CI G X av L M L' M' := by
  refine Met.ofW (cc := xc X) (maxL := xn X) (ret := xr X) hy rfl ?_
  intro p e s m args below meth c s₁ B hml hv
  obtain ⟨rfl, ⟨hz, hP, hD, hK, hT⟩, hO⟩ := hv
  have hts := atoms_spec (ws := wsT X) B.pre
  have hl := lv_entry av (n := xn X) hlen
  rw [lg_entry_eq]
  generalize (lg_sl av ++ List.replicate (xn X - (lg_sl av).length) Slot.unset).toArray = ls at hl ⊢
  exact k p e _ s m _ below meth c ⟨B.exec, B.bytes, B.returns, hml, findClass_of_methodNamed B.named, fun w hw => hts w (List.mem_cons_of_mem _ hw), B.notSynchronized, hK, hT, (name_of_methodNamed B.named B.method).1, hz, Nat.le_refl _, Nat.le_refl _, Nat.le_refl _, Nat.le_refl _⟩ hO s.heap [] ls hP hD va_S.rf hl
/-- every reference of a layout is of a cell of it -/
def okL (L : List LE) : Prop := ∀ e, e ∈ L → ∀ k b, e.2.2.getD k none = some b → b < L.length
theorem getD_rep {n j : Nat} : (List.replicate n (none : Option Nat)).getD j none = none := by
  rw [List.getD_eq_getElem?_getD, List.getElem?_replicate]
  split <;> rfl
theorem cE_up {G : GG} {γ γ' : Nat → Nat} {M : Nat → Int} {e : LE} (h : ∀ k b, e.2.2.getD k none = some b → γ' b = γ b) : cE (gS G γ') M e = cE (gS G γ) M e := by
  have h1 : ∀ k, (e.2.2.getD k none).map γ' = (e.2.2.getD k none).map γ := by
    intro k
    cases hk : e.2.2.getD k none with
    | none => rfl
    | some b => show some (γ' b) = some (γ b); rw [h k b hk]
  have h2 : ∀ k, fV γ' M e.2.1 e.2.2 k = fV γ M e.2.1 e.2.2 k := by
    intro k
    unfold fV rV
    rw [h1 k]
  have h3 : (List.range (clN e.2.1)).map (fV γ' M e.2.1 e.2.2) = (List.range (clN e.2.1)).map (fV γ M e.2.1 e.2.2) := List.map_congr_left (fun k _ => h2 k)
  unfold cE
  split
  · exact congrArg (fun z => Sum.inr (e.2.1, z)) h3
  · rfl
  · rfl
  · rfl
  · rfl
  · have h4 : (fun j => (e.2.2.getD j none).map γ') = (fun j => (e.2.2.getD j none).map γ) := funext h1
    exact congrArg (fun z => Sum.inl (gcy G _, e.2.1, Sum.inr (Sum.inr (Sum.inr (Sum.inr z))))) h4
theorem wsO_up {G : GG} {γ γ' : Nat → Nat} {L : List LE} {M : MM} (hL : okL L) (h : ∀ a, a < L.length → γ' a = γ a) : wsO (gS G γ') L M = wsO (gS G γ) L M := by
  unfold wsO
  apply List.map_congr_left
  intro a ha
  have ha' : a < L.length := List.mem_range.mp ha
  have h1 : L.getD a (0, 0, []) ∈ L := by
    rw [List.getD_eq_getElem?_getD, List.getElem?_eq_getElem ha']
    exact List.getElem_mem ha'
  have h2 := cE_up (G := G) (γ := γ) (γ' := γ') (M := M a) (fun k b hk => h b (hL _ h1 k b hk))
  show (γ' a, _) = (γ a, _)
  rw [h a ha', h2]
theorem wsO_push {G : GG} {γ : Nat → Nat} {L : List LE} {M : MM} {e : LE} : wsO (gS G γ) (L ++ [e]) M = wsO (gS G γ) L M ++ [(γ L.length, cE (gS G γ) (M L.length) e)] := by
  unfold wsO
  rw [List.length_append, List.length_singleton, List.range_succ, List.map_append]
  congr 1
  · apply List.map_congr_left
    intro a ha
    have ha' : a < L.length := List.mem_range.mp ha
    rw [List.getD_eq_getElem?_getD, List.getD_eq_getElem?_getD, List.getElem?_append_left ha']
  · show [(γ L.length, cE (gS G γ) (M L.length) ((L ++ [e]).getD L.length (0, 0, [])))] = _
    rw [List.getD_eq_getElem?_getD, List.getElem?_append_right (Nat.le_refl _), Nat.sub_self]
    rfl
theorem r_objI {G : GG} {γ : Nat → Nat} {X : XX} {Z : ZZ} {L : List LE} {M : MM} {ce sl pc : Nat} {lv : List (Nat × Value)} {st : List Value} {a idx : Nat} (h1 : Cond.methodLink (xy X).cls idx Lib.objectInit ∈ lw_good) (h2 : Cond.instanceMethod Lib.objectInit ∈ lw_good) (h3 : Cond.code Lib.objectInit ⟨#[0xb1]⟩ 1 none ∈ lw_good) (hR : 1 ≤ xf X ∧ (st.map fun v => v.category).sum + 12 ≤ xl X) (hd : decode (xc X) pc = .ok (.invokespecial idx, 3)) (kk : VV G X Z L M ce sl (pc + 3) lv st) : VV G X Z L M ce sl pc lv (.ref a :: st) := by
  intro p e R s m args below meth c hc he H locs ls hP hD hS hl
  obtain ⟨f1, f2, f3, f4⟩ := hc.2.2.2.2.2.2.2.2.2.2.2
  refine W.objInit hc.1 hc.2.1 hc.2.2.2.2.1 (hT_of hc h1) (hT_of hc h2) (hT_of hc h3) rfl (hl.1.trans hc.2.2.2.1.symm) rfl hd (Nat.le_trans hR.1 f1) (Nat.le_trans (by show 2 * 0 + _ + 12 ≤ _; omega) (Nat.le_trans hR.2 f2)) (kk p e R s m args below meth c hc he H locs ls hP hD hS hl)
/-- a new object: the next cell -/
theorem r_newO {G : GG} {γ : Nat → Nat} {X : XX} {Z : ZZ} {L : List LE} {M : MM} {ce sl pc : Nat} {lvf : (Nat → Nat) → List (Nat × Value)} {stf : (Nat → Nat) → List Value} {C : String} {T : u_T} {ci index n : Nat} (hf : CF ci C T) (h1 : Cond.classLink (xy X).cls index C ∈ lw_good) (h2 : Cond.instantiable C (clN ci) ∈ lw_good) (h3 : Cond.initialized C ∈ lw_good) (hn : L.length = n) (hL : okL L) (hM : ∀ k, M n k = 0) (hfl : ∀ j, j < clN ci → clT ci j ≠ .float ∧ clT ci j ≠ .double) (hlv : ∀ g, (∀ a, a < n → g a = γ a) → lvf g = lvf γ ∧ stf g = stf γ) (hcap : ce + 1 ≤ xmc X ∧ sl + clN ci ≤ xms X) (hd : decode (xc X) pc = .ok (.new index, 3)) (kk : ∀ g, (∀ a, a < n → g a = γ a) → VV (gS G g) X Z (L ++ [(0, ci, List.replicate (clN ci) none)]) M (ce + 1) (sl + clN ci) (pc + 3) (lvf g) (.ref (g n) :: stf g)) : VV (gS G γ) X Z L M ce sl pc (lvf γ) (stf γ) := by
  subst hn
  intro p e R s m args below meth c hc he H locs ls hP hD hS hl
  obtain ⟨q1, q2, q3, q4⟩ := hf
  obtain ⟨f1, f2, f3, f4⟩ := hc.2.2.2.2.2.2.2.2.2.2.2
  have hfs : ∀ j, j < clN ci → defaultValue (clT ci j) = vp_V ((List.range (clN ci)).map (fV γ (M L.length) ci (List.replicate (clN ci) none))) j := by
    intro j hj
    unfold vp_V
    rw [List.getD_eq_getElem?_getD, fs_at hj]
    show _ = fV γ (M L.length) ci (List.replicate (clN ci) none) j
    unfold fV
    rw [hM j, getD_rep]
    have h9 := hfl j hj
    cases hk : clT ci j <;> first | rfl | (rw [hk] at h9; simp at h9)
  refine va_new (ci := ci) (C := C) (T := T) (N := clN ci) (fs := (List.range (clN ci)).map (fV γ (M L.length) ci (List.replicate (clN ci) none))) hc.1 hc.2.1 hc.2.2.2.2.2.1 q2 (clT ci) q3 hc.2.2.2.2.1 (hT_of hc h1) (hT_of hc h2) (hT_of hc h3) hc.2.2.2.2.2.2.2.1 hP hD hS (fun q hq => Nat.le_trans hc.2.2.2.2.2.2.2.2.2.2.1 hq) q1 hfs (Nat.le_trans hcap.1 f3) (Nat.le_trans hcap.2 f4) hd (fun q H hP1 hD1 hS1 => ?_)
  have hg : ∀ a, a < L.length → va_up γ L.length q a = γ a := fun a ha => va_up_ne γ q (by omega)
  have hE : wsO (gS G (va_up γ L.length q)) (L ++ [(0, ci, List.replicate (clN ci) none)]) M = wsO (gS G γ) L M ++ [(q, .inr (ci, (List.range (clN ci)).map (fV γ (M L.length) ci (List.replicate (clN ci) none))))] := by
    rw [wsO_push, wsO_up hL hg, va_up_self]
    rw [cE_up (γ := γ) (fun k b hk => by rw [getD_rep] at hk; cases hk)]
    rfl
  rw [← hE] at hP1 hD1
  obtain ⟨e1, e2⟩ := hlv _ hg
  have K := kk (va_up γ L.length q) hg p e R s m args below meth c hc he H locs ls hP1 hD1 hS1 (by rw [e1]; exact hl)
  rw [va_up_self, e2] at K
  exact K
theorem ws_cy {s : State} {G : GG} {cA : ClassId} {ty : FieldType} {t0 : Nat} {q : Nat} (hK : va_K (gD G) vwCl (tysO G) s) (ht : (tysO G)[t0]? = some (gcy G q, ty)) (hA : ArrOfT s cA ty ∧ va_RA s cA ty) : cA = gcy G q := by
  have h2 := (hK.2 t0 _ ht).2
  cases ty with
  | object C =>
    obtain ⟨kA, comp, -, -, -, a4⟩ := hA.2
    obtain ⟨kB, comp2, -, -, -, b4⟩ := h2
    exact Option.some.inj (a4.symm.trans b4)
  | _ => exact Option.some.inj ((show s.vm.findClass _ = some cA from hA.2).symm.trans h2)
theorem r_newA1 {G : GG} {γ : Nat → Nat} {X : XX} {Z : ZZ} {L : List LE} {M : MM} {ce sl pc : Nat} {lvf : (Nat → Nat) → List (Nat × Value)} {stf : (Nat → Nat) → List Value} {n N : Nat} {x x' : Int} (h1 : Cond.arrayClass .int ∈ lw_good) (hx : wI x = x') (hN : x' = (N : Int)) (hb : N ≤ 60000) (hn : L.length = n) (hL : okL L) (hM : ∀ k, M n k = 0) (hlv : ∀ g, (∀ a, a < n → g a = γ a) → lvf g = lvf γ ∧ stf g = stf γ) (hcap : ce + 1 ≤ xmc X ∧ sl + N ≤ xms X) (hd : decode (xc X) pc = .ok (.newarray .int, 2)) (kk : ∀ g, (∀ a, a < n → g a = γ a) → VV (gS G g) X Z (L ++ [(1, N, [])]) M (ce + 1) (sl + N) (pc + 2) (lvf g) (.ref (g n) :: stf g)) : VV (gS G γ) X Z L M ce sl pc (lvf γ) (.int (eI x) :: stf γ) := by
  subst hn hx
  intro p e R s m args below meth c hc he H locs ls hP hD hS hl
  obtain ⟨f1, f2, f3, f4⟩ := hc.2.2.2.2.2.2.2.2.2.2.2
  refine va_newa (atype := .int) (ty := .int) (N' := N) (a0 := (N, .inl (fun j => eI (M L.length j)))) hc.1 hc.2.1 (hT_of hc h1) rfl hc.2.2.2.2.2.2.2.1 hP hD hS (fun q hq => Nat.le_trans hc.2.2.2.2.2.2.2.2.2.2.1 hq) (fun cA => ?_) (eI_nlt0 (by omega)) (by rw [eI_clamp]; omega) (by show N * _ ≤ _; simp only [componentBytes]; omega) (Nat.le_trans hcap.1 f3) (Nat.le_trans hcap.2 f4) hd (fun q cA H hK1 hP1 hD1 hS1 => ?_)
  · rw [vp_cell_i]
    congr 1
    funext j
    rw [hM j]
    rfl
  have hcA : cA = gcy G 1 := ws_cy (t0 := 0) (q := 1) hc.2.2.2.2.2.2.2.1 rfl (hK1.2 9 (cA, .int) rfl)
  subst hcA
  have hg : ∀ a, a < L.length → va_up γ L.length q a = γ a := fun a ha => va_up_ne γ q (by omega)
  have hE : wsO (gS G (va_up γ L.length q)) (L ++ [(1, N, [])]) M = wsO (gS G γ) L M ++ [(q, .inl (gcy G 1, (N, .inl (fun j => eI (M L.length j)))))] := by
    rw [wsO_push, wsO_up hL hg, va_up_self]
    rfl
  rw [← hE] at hP1 hD1
  obtain ⟨e1, e2⟩ := hlv _ hg
  have K := kk (va_up γ L.length q) hg p e R s m args below meth c hc he H locs ls hP1 hD1 hS1 (by rw [e1]; exact hl)
  rw [va_up_self, e2] at K
  exact K
theorem r_newA2 {G : GG} {γ : Nat → Nat} {X : XX} {Z : ZZ} {L : List LE} {M : MM} {ce sl pc : Nat} {lvf : (Nat → Nat) → List (Nat × Value)} {stf : (Nat → Nat) → List Value} {n N : Nat} {x x' : Int} (h1 : Cond.arrayClass .long ∈ lw_good) (hx : wI x = x') (hN : x' = (N : Int)) (hb : N ≤ 60000) (hn : L.length = n) (hL : okL L) (hM : ∀ k, M n k = 0) (hlv : ∀ g, (∀ a, a < n → g a = γ a) → lvf g = lvf γ ∧ stf g = stf γ) (hcap : ce + 1 ≤ xmc X ∧ sl + N ≤ xms X) (hd : decode (xc X) pc = .ok (.newarray .long, 2)) (kk : ∀ g, (∀ a, a < n → g a = γ a) → VV (gS G g) X Z (L ++ [(2, N, [])]) M (ce + 1) (sl + N) (pc + 2) (lvf g) (.ref (g n) :: stf g)) : VV (gS G γ) X Z L M ce sl pc (lvf γ) (.int (eI x) :: stf γ) := by
  subst hn hx
  intro p e R s m args below meth c hc he H locs ls hP hD hS hl
  obtain ⟨f1, f2, f3, f4⟩ := hc.2.2.2.2.2.2.2.2.2.2.2
  refine va_newa (atype := .long) (ty := .long) (N' := N) (a0 := (N, .inr (.inl (fun j => eJ (M L.length j))))) hc.1 hc.2.1 (hT_of hc h1) rfl hc.2.2.2.2.2.2.2.1 hP hD hS (fun q hq => Nat.le_trans hc.2.2.2.2.2.2.2.2.2.2.1 hq) (fun cA => ?_) (eI_nlt0 (by omega)) (by rw [eI_clamp]; omega) (by show N * _ ≤ _; simp only [componentBytes]; omega) (Nat.le_trans hcap.1 f3) (Nat.le_trans hcap.2 f4) hd (fun q cA H hK1 hP1 hD1 hS1 => ?_)
  · rw [vp_cell_l]
    congr 1
    funext j
    rw [hM j]
    rfl
  have hcA : cA = gcy G 2 := ws_cy (t0 := 1) (q := 2) hc.2.2.2.2.2.2.2.1 rfl (hK1.2 9 (cA, .long) rfl)
  subst hcA
  have hg : ∀ a, a < L.length → va_up γ L.length q a = γ a := fun a ha => va_up_ne γ q (by omega)
  have hE : wsO (gS G (va_up γ L.length q)) (L ++ [(2, N, [])]) M = wsO (gS G γ) L M ++ [(q, .inl (gcy G 2, (N, .inr (.inl (fun j => eJ (M L.length j))))))] := by
    rw [wsO_push, wsO_up hL hg, va_up_self]
    rfl
  rw [← hE] at hP1 hD1
  obtain ⟨e1, e2⟩ := hlv _ hg
  have K := kk (va_up γ L.length q) hg p e R s m args below meth c hc he H locs ls hP1 hD1 hS1 (by rw [e1]; exact hl)
  rw [va_up_self, e2] at K
  exact K
theorem r_newA3 {G : GG} {γ : Nat → Nat} {X : XX} {Z : ZZ} {L : List LE} {M : MM} {ce sl pc : Nat} {lvf : (Nat → Nat) → List (Nat × Value)} {stf : (Nat → Nat) → List Value} {n N : Nat} {x x' : Int} (h1 : Cond.arrayClass .byte ∈ lw_good) (hx : wI x = x') (hN : x' = (N : Int)) (hb : N ≤ 60000) (hn : L.length = n) (hL : okL L) (hM : ∀ k, M n k = 0) (hlv : ∀ g, (∀ a, a < n → g a = γ a) → lvf g = lvf γ ∧ stf g = stf γ) (hcap : ce + 1 ≤ xmc X ∧ sl + N ≤ xms X) (hd : decode (xc X) pc = .ok (.newarray .byte, 2)) (kk : ∀ g, (∀ a, a < n → g a = γ a) → VV (gS G g) X Z (L ++ [(3, N, [])]) M (ce + 1) (sl + N) (pc + 2) (lvf g) (.ref (g n) :: stf g)) : VV (gS G γ) X Z L M ce sl pc (lvf γ) (.int (eI x) :: stf γ) := by
  subst hn hx
  intro p e R s m args below meth c hc he H locs ls hP hD hS hl
  obtain ⟨f1, f2, f3, f4⟩ := hc.2.2.2.2.2.2.2.2.2.2.2
  refine va_newa (atype := .byte) (ty := .byte) (N' := N) (a0 := (N, .inl (fun j => eI (M L.length j)))) hc.1 hc.2.1 (hT_of hc h1) rfl hc.2.2.2.2.2.2.2.1 hP hD hS (fun q hq => Nat.le_trans hc.2.2.2.2.2.2.2.2.2.2.1 hq) (fun cA => ?_) (eI_nlt0 (by omega)) (by rw [eI_clamp]; omega) (by show N * _ ≤ _; simp only [componentBytes]; omega) (Nat.le_trans hcap.1 f3) (Nat.le_trans hcap.2 f4) hd (fun q cA H hK1 hP1 hD1 hS1 => ?_)
  · rw [vp_cell_i]
    congr 1
    funext j
    rw [hM j]
    rfl
  have hcA : cA = gcy G 3 := ws_cy (t0 := 2) (q := 3) hc.2.2.2.2.2.2.2.1 rfl (hK1.2 9 (cA, .byte) rfl)
  subst hcA
  have hg : ∀ a, a < L.length → va_up γ L.length q a = γ a := fun a ha => va_up_ne γ q (by omega)
  have hE : wsO (gS G (va_up γ L.length q)) (L ++ [(3, N, [])]) M = wsO (gS G γ) L M ++ [(q, .inl (gcy G 3, (N, .inl (fun j => eI (M L.length j)))))] := by
    rw [wsO_push, wsO_up hL hg, va_up_self]
    rfl
  rw [← hE] at hP1 hD1
  obtain ⟨e1, e2⟩ := hlv _ hg
  have K := kk (va_up γ L.length q) hg p e R s m args below meth c hc he H locs ls hP1 hD1 hS1 (by rw [e1]; exact hl)
  rw [va_up_self, e2] at K
  exact K
theorem r_newA4 {G : GG} {γ : Nat → Nat} {X : XX} {Z : ZZ} {L : List LE} {M : MM} {ce sl pc : Nat} {lvf : (Nat → Nat) → List (Nat × Value)} {stf : (Nat → Nat) → List Value} {n N : Nat} {x x' : Int} (h1 : Cond.arrayClass .boolean ∈ lw_good) (hx : wI x = x') (hN : x' = (N : Int)) (hb : N ≤ 60000) (hn : L.length = n) (hL : okL L) (hM : ∀ k, M n k = 0) (hlv : ∀ g, (∀ a, a < n → g a = γ a) → lvf g = lvf γ ∧ stf g = stf γ) (hcap : ce + 1 ≤ xmc X ∧ sl + N ≤ xms X) (hd : decode (xc X) pc = .ok (.newarray .boolean, 2)) (kk : ∀ g, (∀ a, a < n → g a = γ a) → VV (gS G g) X Z (L ++ [(4, N, [])]) M (ce + 1) (sl + N) (pc + 2) (lvf g) (.ref (g n) :: stf g)) : VV (gS G γ) X Z L M ce sl pc (lvf γ) (.int (eI x) :: stf γ) := by
  subst hn hx
  intro p e R s m args below meth c hc he H locs ls hP hD hS hl
  obtain ⟨f1, f2, f3, f4⟩ := hc.2.2.2.2.2.2.2.2.2.2.2
  refine va_newa (atype := .boolean) (ty := .boolean) (N' := N) (a0 := (N, .inl (fun j => eI (M L.length j)))) hc.1 hc.2.1 (hT_of hc h1) rfl hc.2.2.2.2.2.2.2.1 hP hD hS (fun q hq => Nat.le_trans hc.2.2.2.2.2.2.2.2.2.2.1 hq) (fun cA => ?_) (eI_nlt0 (by omega)) (by rw [eI_clamp]; omega) (by show N * _ ≤ _; simp only [componentBytes]; omega) (Nat.le_trans hcap.1 f3) (Nat.le_trans hcap.2 f4) hd (fun q cA H hK1 hP1 hD1 hS1 => ?_)
  · rw [vp_cell_i]
    congr 1
    funext j
    rw [hM j]
    rfl
  have hcA : cA = gcy G 4 := ws_cy (t0 := 3) (q := 4) hc.2.2.2.2.2.2.2.1 rfl (hK1.2 9 (cA, .boolean) rfl)
  subst hcA
  have hg : ∀ a, a < L.length → va_up γ L.length q a = γ a := fun a ha => va_up_ne γ q (by omega)
  have hE : wsO (gS G (va_up γ L.length q)) (L ++ [(4, N, [])]) M = wsO (gS G γ) L M ++ [(q, .inl (gcy G 4, (N, .inl (fun j => eI (M L.length j)))))] := by
    rw [wsO_push, wsO_up hL hg, va_up_self]
    rfl
  rw [← hE] at hP1 hD1
  obtain ⟨e1, e2⟩ := hlv _ hg
  have K := kk (va_up γ L.length q) hg p e R s m args below meth c hc he H locs ls hP1 hD1 hS1 (by rw [e1]; exact hl)
  rw [va_up_self, e2] at K
  exact K
theorem r_newQ5 {G0 G : GG} {γ : Nat → Nat} {X : XX} {Z : ZZ} {L : List LE} {M : MM} {ce sl pc : Nat} {lvf : (Nat → Nat) → List (Nat × Value)} {stf : (Nat → Nat) → List Value} {n n0 N index : Nat} {x x' : Int} {L1 : List LE} {M1 : MM} (h1 : Cond.classLink (xy X).cls index RX1 ∈ lw_good) (hZ : Z = ZI G0 X n0 L1 M1) (hx : wI x = x') (hN : x' = (N : Int)) (hb : N ≤ 60000) (hn : L.length = n) (hL : okL L) (hlv : ∀ g, (∀ a, a < n → g a = γ a) → lvf g = lvf γ ∧ stf g = stf γ) (hcap : ce + 1 ≤ xmc X ∧ sl + N ≤ xms X) (hd : decode (xc X) pc = .ok (.anewarray index, 3)) (kk : ∀ g, (∀ a, a < n → g a = γ a) → VV (gS G g) X Z (L ++ [(5, N, List.replicate N none)]) M (ce + 1) (sl + N) (pc + 3) (lvf g) (.ref (g n) :: stf g)) : VV (gS G γ) X Z L M ce sl pc (lvf γ) (.int (eI x) :: stf γ) := by
  subst hn hx
  intro p e R s m args below meth c hc he H locs ls hP hD hS hl
  have hO : AOs s := by rw [hZ] at he; exact he
  obtain ⟨f1, f2, f3, f4⟩ := hc.2.2.2.2.2.2.2.2.2.2.2
  refine va_newq (C := RX1) (N' := N) hc.1 hc.2.1 hc.2.2.2.2.1 (hT_of hc h1) (hO _ (by decide)) hc.2.2.2.2.2.2.2.1 hP hD hS (fun q hq => Nat.le_trans hc.2.2.2.2.2.2.2.2.2.2.1 hq) (eI_nlt0 (by omega)) (by rw [eI_clamp]; omega) (by omega) (Nat.le_trans hcap.1 f3) (Nat.le_trans hcap.2 f4) hd (fun q cA H hK1 hP1 hD1 hS1 => ?_)
  have hcA : cA = gcy G 5 := ws_cy (t0 := 4) (q := 5) hc.2.2.2.2.2.2.2.1 rfl (hK1.2 9 (cA, .object RX1) rfl)
  subst hcA
  have hg : ∀ a, a < L.length → va_up γ L.length q a = γ a := fun a ha => va_up_ne γ q (by omega)
  have hE : wsO (gS G (va_up γ L.length q)) (L ++ [(5, N, List.replicate N none)]) M = wsO (gS G γ) L M ++ [(q, .inl (gcy G 5, N, .inr (.inr (.inr (.inr (fun _ => none))))))] := by
    rw [wsO_push, wsO_up hL hg, va_up_self]
    show _ ++ [(q, Sum.inl (gcy G 5, N, Sum.inr (Sum.inr (Sum.inr (Sum.inr (fun j => ((List.replicate N none : List (Option Nat)).getD j none).map (va_up γ L.length q)))))))] = _
    simp only [getD_rep]
    rfl
  rw [← hE] at hP1 hD1
  obtain ⟨e1, e2⟩ := hlv _ hg
  have K := kk (va_up γ L.length q) hg p e R s m args below meth c hc he H locs ls hP1 hD1 hS1 (by rw [e1]; exact hl)
  rw [va_up_self, e2] at K
  exact K
theorem r_newQ6 {G0 G : GG} {γ : Nat → Nat} {X : XX} {Z : ZZ} {L : List LE} {M : MM} {ce sl pc : Nat} {lvf : (Nat → Nat) → List (Nat × Value)} {stf : (Nat → Nat) → List Value} {n n0 N index : Nat} {x x' : Int} {L1 : List LE} {M1 : MM} (h1 : Cond.classLink (xy X).cls index RX3 ∈ lw_good) (hZ : Z = ZI G0 X n0 L1 M1) (hx : wI x = x') (hN : x' = (N : Int)) (hb : N ≤ 60000) (hn : L.length = n) (hL : okL L) (hlv : ∀ g, (∀ a, a < n → g a = γ a) → lvf g = lvf γ ∧ stf g = stf γ) (hcap : ce + 1 ≤ xmc X ∧ sl + N ≤ xms X) (hd : decode (xc X) pc = .ok (.anewarray index, 3)) (kk : ∀ g, (∀ a, a < n → g a = γ a) → VV (gS G g) X Z (L ++ [(6, N, List.replicate N none)]) M (ce + 1) (sl + N) (pc + 3) (lvf g) (.ref (g n) :: stf g)) : VV (gS G γ) X Z L M ce sl pc (lvf γ) (.int (eI x) :: stf γ) := by
  subst hn hx
  intro p e R s m args below meth c hc he H locs ls hP hD hS hl
  have hO : AOs s := by rw [hZ] at he; exact he
  obtain ⟨f1, f2, f3, f4⟩ := hc.2.2.2.2.2.2.2.2.2.2.2
  refine va_newq (C := RX3) (N' := N) hc.1 hc.2.1 hc.2.2.2.2.1 (hT_of hc h1) (hO _ (by decide)) hc.2.2.2.2.2.2.2.1 hP hD hS (fun q hq => Nat.le_trans hc.2.2.2.2.2.2.2.2.2.2.1 hq) (eI_nlt0 (by omega)) (by rw [eI_clamp]; omega) (by omega) (Nat.le_trans hcap.1 f3) (Nat.le_trans hcap.2 f4) hd (fun q cA H hK1 hP1 hD1 hS1 => ?_)
  have hcA : cA = gcy G 6 := ws_cy (t0 := 5) (q := 6) hc.2.2.2.2.2.2.2.1 rfl (hK1.2 9 (cA, .object RX3) rfl)
  subst hcA
  have hg : ∀ a, a < L.length → va_up γ L.length q a = γ a := fun a ha => va_up_ne γ q (by omega)
  have hE : wsO (gS G (va_up γ L.length q)) (L ++ [(6, N, List.replicate N none)]) M = wsO (gS G γ) L M ++ [(q, .inl (gcy G 6, N, .inr (.inr (.inr (.inr (fun _ => none))))))] := by
    rw [wsO_push, wsO_up hL hg, va_up_self]
    show _ ++ [(q, Sum.inl (gcy G 6, N, Sum.inr (Sum.inr (Sum.inr (Sum.inr (fun j => ((List.replicate N none : List (Option Nat)).getD j none).map (va_up γ L.length q)))))))] = _
    simp only [getD_rep]
    rfl
  rw [← hE] at hP1 hD1
  obtain ⟨e1, e2⟩ := hlv _ hg
  have K := kk (va_up γ L.length q) hg p e R s m args below meth c hc he H locs ls hP1 hD1 hS1 (by rw [e1]; exact hl)
  rw [va_up_self, e2] at K
  exact K
theorem r_newQ7 {G0 G : GG} {γ : Nat → Nat} {X : XX} {Z : ZZ} {L : List LE} {M : MM} {ce sl pc : Nat} {lvf : (Nat → Nat) → List (Nat × Value)} {stf : (Nat → Nat) → List Value} {n n0 N index : Nat} {x x' : Int} {L1 : List LE} {M1 : MM} (h1 : Cond.classLink (xy X).cls index RX5 ∈ lw_good) (hZ : Z = ZI G0 X n0 L1 M1) (hx : wI x = x') (hN : x' = (N : Int)) (hb : N ≤ 60000) (hn : L.length = n) (hL : okL L) (hlv : ∀ g, (∀ a, a < n → g a = γ a) → lvf g = lvf γ ∧ stf g = stf γ) (hcap : ce + 1 ≤ xmc X ∧ sl + N ≤ xms X) (hd : decode (xc X) pc = .ok (.anewarray index, 3)) (kk : ∀ g, (∀ a, a < n → g a = γ a) → VV (gS G g) X Z (L ++ [(7, N, List.replicate N none)]) M (ce + 1) (sl + N) (pc + 3) (lvf g) (.ref (g n) :: stf g)) : VV (gS G γ) X Z L M ce sl pc (lvf γ) (.int (eI x) :: stf γ) := by
  subst hn hx
  intro p e R s m args below meth c hc he H locs ls hP hD hS hl
  have hO : AOs s := by rw [hZ] at he; exact he
  obtain ⟨f1, f2, f3, f4⟩ := hc.2.2.2.2.2.2.2.2.2.2.2
  refine va_newq (C := RX5) (N' := N) hc.1 hc.2.1 hc.2.2.2.2.1 (hT_of hc h1) (hO _ (by decide)) hc.2.2.2.2.2.2.2.1 hP hD hS (fun q hq => Nat.le_trans hc.2.2.2.2.2.2.2.2.2.2.1 hq) (eI_nlt0 (by omega)) (by rw [eI_clamp]; omega) (by omega) (Nat.le_trans hcap.1 f3) (Nat.le_trans hcap.2 f4) hd (fun q cA H hK1 hP1 hD1 hS1 => ?_)
  have hcA : cA = gcy G 7 := ws_cy (t0 := 6) (q := 7) hc.2.2.2.2.2.2.2.1 rfl (hK1.2 9 (cA, .object RX5) rfl)
  subst hcA
  have hg : ∀ a, a < L.length → va_up γ L.length q a = γ a := fun a ha => va_up_ne γ q (by omega)
  have hE : wsO (gS G (va_up γ L.length q)) (L ++ [(7, N, List.replicate N none)]) M = wsO (gS G γ) L M ++ [(q, .inl (gcy G 7, N, .inr (.inr (.inr (.inr (fun _ => none))))))] := by
    rw [wsO_push, wsO_up hL hg, va_up_self]
    show _ ++ [(q, Sum.inl (gcy G 7, N, Sum.inr (Sum.inr (Sum.inr (Sum.inr (fun j => ((List.replicate N none : List (Option Nat)).getD j none).map (va_up γ L.length q)))))))] = _
    simp only [getD_rep]
    rfl
  rw [← hE] at hP1 hD1
  obtain ⟨e1, e2⟩ := hlv _ hg
  have K := kk (va_up γ L.length q) hg p e R s m args below meth c hc he H locs ls hP1 hD1 hS1 (by rw [e1]; exact hl)
  rw [va_up_self, e2] at K
  exact K
theorem r_newQ8 {G0 G : GG} {γ : Nat → Nat} {X : XX} {Z : ZZ} {L : List LE} {M : MM} {ce sl pc : Nat} {lvf : (Nat → Nat) → List (Nat × Value)} {stf : (Nat → Nat) → List Value} {n n0 N index : Nat} {x x' : Int} {L1 : List LE} {M1 : MM} (h1 : Cond.classLink (xy X).cls index RX8 ∈ lw_good) (hZ : Z = ZI G0 X n0 L1 M1) (hx : wI x = x') (hN : x' = (N : Int)) (hb : N ≤ 60000) (hn : L.length = n) (hL : okL L) (hlv : ∀ g, (∀ a, a < n → g a = γ a) → lvf g = lvf γ ∧ stf g = stf γ) (hcap : ce + 1 ≤ xmc X ∧ sl + N ≤ xms X) (hd : decode (xc X) pc = .ok (.anewarray index, 3)) (kk : ∀ g, (∀ a, a < n → g a = γ a) → VV (gS G g) X Z (L ++ [(8, N, List.replicate N none)]) M (ce + 1) (sl + N) (pc + 3) (lvf g) (.ref (g n) :: stf g)) : VV (gS G γ) X Z L M ce sl pc (lvf γ) (.int (eI x) :: stf γ) := by
  subst hn hx
  intro p e R s m args below meth c hc he H locs ls hP hD hS hl
  have hO : AOs s := by rw [hZ] at he; exact he
  obtain ⟨f1, f2, f3, f4⟩ := hc.2.2.2.2.2.2.2.2.2.2.2
  refine va_newq (C := RX8) (N' := N) hc.1 hc.2.1 hc.2.2.2.2.1 (hT_of hc h1) (hO _ (by decide)) hc.2.2.2.2.2.2.2.1 hP hD hS (fun q hq => Nat.le_trans hc.2.2.2.2.2.2.2.2.2.2.1 hq) (eI_nlt0 (by omega)) (by rw [eI_clamp]; omega) (by omega) (Nat.le_trans hcap.1 f3) (Nat.le_trans hcap.2 f4) hd (fun q cA H hK1 hP1 hD1 hS1 => ?_)
  have hcA : cA = gcy G 8 := ws_cy (t0 := 7) (q := 8) hc.2.2.2.2.2.2.2.1 rfl (hK1.2 9 (cA, .object RX8) rfl)
  subst hcA
  have hg : ∀ a, a < L.length → va_up γ L.length q a = γ a := fun a ha => va_up_ne γ q (by omega)
  have hE : wsO (gS G (va_up γ L.length q)) (L ++ [(8, N, List.replicate N none)]) M = wsO (gS G γ) L M ++ [(q, .inl (gcy G 8, N, .inr (.inr (.inr (.inr (fun _ => none))))))] := by
    rw [wsO_push, wsO_up hL hg, va_up_self]
    show _ ++ [(q, Sum.inl (gcy G 8, N, Sum.inr (Sum.inr (Sum.inr (Sum.inr (fun j => ((List.replicate N none : List (Option Nat)).getD j none).map (va_up γ L.length q)))))))] = _
    simp only [getD_rep]
    rfl
  rw [← hE] at hP1 hD1
  obtain ⟨e1, e2⟩ := hlv _ hg
  have K := kk (va_up γ L.length q) hg p e R s m args below meth c hc he H locs ls hP1 hD1 hS1 (by rw [e1]; exact hl)
  rw [va_up_self, e2] at K
  exact K
theorem r_newQ9 {G0 G : GG} {γ : Nat → Nat} {X : XX} {Z : ZZ} {L : List LE} {M : MM} {ce sl pc : Nat} {lvf : (Nat → Nat) → List (Nat × Value)} {stf : (Nat → Nat) → List Value} {n n0 N index : Nat} {x x' : Int} {L1 : List LE} {M1 : MM} (h1 : Cond.classLink (xy X).cls index RX9 ∈ lw_good) (hZ : Z = ZI G0 X n0 L1 M1) (hx : wI x = x') (hN : x' = (N : Int)) (hb : N ≤ 60000) (hn : L.length = n) (hL : okL L) (hlv : ∀ g, (∀ a, a < n → g a = γ a) → lvf g = lvf γ ∧ stf g = stf γ) (hcap : ce + 1 ≤ xmc X ∧ sl + N ≤ xms X) (hd : decode (xc X) pc = .ok (.anewarray index, 3)) (kk : ∀ g, (∀ a, a < n → g a = γ a) → VV (gS G g) X Z (L ++ [(9, N, List.replicate N none)]) M (ce + 1) (sl + N) (pc + 3) (lvf g) (.ref (g n) :: stf g)) : VV (gS G γ) X Z L M ce sl pc (lvf γ) (.int (eI x) :: stf γ) := by
  subst hn hx
  intro p e R s m args below meth c hc he H locs ls hP hD hS hl
  have hO : AOs s := by rw [hZ] at he; exact he
  obtain ⟨f1, f2, f3, f4⟩ := hc.2.2.2.2.2.2.2.2.2.2.2
  refine va_newq (C := RX9) (N' := N) hc.1 hc.2.1 hc.2.2.2.2.1 (hT_of hc h1) (hO _ (by decide)) hc.2.2.2.2.2.2.2.1 hP hD hS (fun q hq => Nat.le_trans hc.2.2.2.2.2.2.2.2.2.2.1 hq) (eI_nlt0 (by omega)) (by rw [eI_clamp]; omega) (by omega) (Nat.le_trans hcap.1 f3) (Nat.le_trans hcap.2 f4) hd (fun q cA H hK1 hP1 hD1 hS1 => ?_)
  have hcA : cA = gcy G 9 := ws_cy (t0 := 8) (q := 9) hc.2.2.2.2.2.2.2.1 rfl (hK1.2 9 (cA, .object RX9) rfl)
  subst hcA
  have hg : ∀ a, a < L.length → va_up γ L.length q a = γ a := fun a ha => va_up_ne γ q (by omega)
  have hE : wsO (gS G (va_up γ L.length q)) (L ++ [(9, N, List.replicate N none)]) M = wsO (gS G γ) L M ++ [(q, .inl (gcy G 9, N, .inr (.inr (.inr (.inr (fun _ => none))))))] := by
    rw [wsO_push, wsO_up hL hg, va_up_self]
    show _ ++ [(q, Sum.inl (gcy G 9, N, Sum.inr (Sum.inr (Sum.inr (Sum.inr (fun j => ((List.replicate N none : List (Option Nat)).getD j none).map (va_up γ L.length q)))))))] = _
    simp only [getD_rep]
    rfl
  rw [← hE] at hP1 hD1
  obtain ⟨e1, e2⟩ := hlv _ hg
  have K := kk (va_up γ L.length q) hg p e R s m args below meth c hc he H locs ls hP1 hD1 hS1 (by rw [e1]; exact hl)
  rw [va_up_self, e2] at K
  exact K
