abbrev XX : Type := MethodName × ByteArray × Nat × Option FieldType × Nat × Nat × Nat × Nat
abbrev xy (X : XX) : MethodName := X.1
abbrev xc (X : XX) : ByteArray := X.2.1
abbrev xn (X : XX) : Nat := X.2.2.1
abbrev xr (X : XX) : Option FieldType := X.2.2.2.1
abbrev xf (X : XX) : Nat := X.2.2.2.2.1
abbrev xl (X : XX) : Nat := X.2.2.2.2.2.1
abbrev xmc (X : XX) : Nat := X.2.2.2.2.2.2.1
abbrev xms (X : XX) : Nat := X.2.2.2.2.2.2.2
abbrev rmO (X : XX) : Room := { frames := xf X, cells := xmc X, slots := xms X, locals := xl X }
def isNest : Cond → Bool
  | .methodLinkNest _ _ _ _ => true
  | .fieldLinkNest _ _ _ _ _ _ => true
  | _ => false
def lw_good : List Cond := lw_tbl.filter goodWord
def lw_nst : List Cond := lw_tbl.filter isNest
theorem nst_warm {s U : State} {w : Cond} (hw : isNest w = true) (hW : s.WarmedH U.vm) (h : va_Nw w s) : va_Nw w U := by
  cases w <;> first | exact va_Nw.warmM hW h | exact va_Nw.warmF hW h | (exfalso; revert hw; simp [isNest])
theorem nst_tab {w : Cond} (hw : isNest w = true) : w.onTables = true := by
  cases w <;> first | rfl | (exfalso; revert hw; simp [isNest])
theorem nst_is {w : Cond} (h : w ∈ lw_nst) : isNest w = true := (List.mem_filter.mp h).2
theorem tb_i {w : Cond} (i : Nat) (h : lw_tbl[i]? = some w) (hg : goodWord w = true) : w ∈ lw_good := List.mem_filter.mpr ⟨List.mem_of_getElem? h, hg⟩
theorem tn_i {w : Cond} (i : Nat) (h : lw_tbl[i]? = some w) (hg : isNest w = true) : w ∈ lw_nst := List.mem_filter.mpr ⟨List.mem_of_getElem? h, hg⟩
theorem good_tbl : ∀ w ∈ lw_good, goodWord w = true := fun _ h => (List.mem_filter.mp h).2
def wsT (X : XX) : List Cond := Cond.code (xy X) (xc X) (xn X) (xr X) :: lw_good
def tysO (G : GG) : List (ClassId × FieldType) := [(gcy G 1, .int), (gcy G 2, .long), (gcy G 3, .byte), (gcy G 4, .boolean), (gcy G 5, .object RX1), (gcy G 6, .object RX3), (gcy G 7, .object RX5), (gcy G 8, .object RX8), (gcy G 9, .object RX9)]
def sN : Nat → String
  | 0 => "FIRST_KIND" | 1 => "NUMBERS" | 2 => "LEAST" | 3 => "MOST" | _ => "TENS"
def sD : Nat → String
  | 4 => "[J" | _ => "[I"
def sY : Nat → FieldType
  | 4 => .long | _ => .int
def sT : Nat → List Int
  | 0 => [0, 12, 18, 23, 24, 28]
  | 1 => [2, 4, 2, 2, 2, 2, 2, 1, 1, 1, 1, 1, 1, 1, 2, 1, 1, 0, 2, 1, 1, 1, 2, 2, 1, 1, 0, 0]
  | 2 => [0, 1, 0, 0, 3, 1, 0, 0, 0, 0, 0, 0, 0, 0, 0, 0, 0, 0, 0, 0, 0, 0, 0, 0, 0, 0, 0, 0, 1, 0, 0, 0, 3, 0, 0, 0, 0, 0, 0, 0, 0, 0, 0, 0, 0, 0, 0, 0, 0, 0, 0, 0, 0, 0, 0, 0, 0, 0, 0, 0, 1, 0, 0, 0, 1, 0, 0, 0, 0, 0, 0, 0, 0, 0, 0, 0, 0, 0, 0, 0, 0, 0, 0, 0, 0, 0, 0, 0, 0, 0, 0, 0, 0, 1, 0, 0, 0, 0, 0, 0, 0, 0, 0, 0, 0, 0, 0, 0, 0, 0, 0, 0]
  | 3 => [9, 30, 0, 0, 15, 9, 10, 9, 7, 24, 0, 0, 7, 7, 0, 0, 7, 7, 0, 0, 7, 9, 0, 0, 2, 9, 0, 0, 5, 0, 0, 0, 16, 0, 0, 0, 60, 0, 0, 0, 9, 0, 0, 0, 3, 0, 0, 0, 7, 0, 0, 0, 7, 0, 0, 0, 7, 9, 0, 0, 9, 0, 0, 0, 9, 0, 0, 0, 0, 0, 0, 0, 7, 7, 0, 0, 7, 0, 0, 0, 7, 0, 0, 0, 7, 0, 0, 0, 7, 10, 0, 0, 24, 9, 0, 0, 7, 0, 0, 0, 7, 0, 0, 0, 0, 0, 0, 0, 0, 0, 0, 0]
  | _ => [1, 10, 100, 1000, 10000, 100000, 1000000, 10000000, 100000000, 1000000000, 10000000000, 100000000000, 1000000000000, 10000000000000, 100000000000000, 1000000000000000]
def sF (j k : Nat) : Value := if j = 4 then .long (eJ ((sT j).getD k 0)) else .int (eI ((sT j).getD k 0))
def kTx : List String := ["part", "child", "cell", "friend", "foe", "turned", "ring", "blows", "lift", "sweets", "bandage", "stick", "go", "face", "strike", "up", "down", "cut", "says", "air", "graze", "square", "truth", "fell", "true", "false", "hit", "miss"]
def kIx : List Nat := [389, 391, 393, 395, 397, 399, 401, 403, 404, 406, 408, 410, 411, 413, 415, 417, 419, 421, 423, 425, 427, 429, 431, 432, 434, 436, 438, 440]
def kCh (i : Nat) : List Int := ((kTx.getD i "").toList).map (fun ch => (ch.toNat : Int))
def kLen : List Nat := (List.range 28).map (fun i => (kCh i).length)
def kByt : List (List Int32) := (List.range 28).map (fun i => (kCh i).map eI)
/-- what the machine holds from the start and nobody writes -/
def ST (G : GG) (U : State) : Prop := (∀ j, j < 5 → va_Z RX11 (sN j) (sD j) (.ref (gzs G j)) (AG G) U U.heap ∧ va_T (sY j) (gzs G j) (sT j).length (sF j) (AG G) U U.heap) ∧ va_Z "java/lang/String" "COMPACT_STRINGS" "Z" (.int 1) (AG G) U U.heap ∧ vk_S 28 kLen kByt (gK G) (gV G) (AG G) U U.heap ∧ (∀ i, i < 28 → vk_R RX11 (kIx.getD i 0) (kTx.getD i "") (gK G i) U) ∧ (∀ w, w ∈ lw_nst → va_Nw w U) ∧ va_Zq "jdk/internal/util/Preconditions" "SIOOBE_FORMATTER" "Ljava/util/function/BiFunction;" (AG G) U U.heap
theorem ST_at {G : GG} {s U : State} {H : Heap} {locs : List Loc} (h : ST G s) (hW : s.WarmedH U.vm) (hU : U.heap = H) (hS : va_S (AG G) s.heap H locs) : ST G U := by
  obtain ⟨h1, h2, h3, h4, h5, h6⟩ := h
  subst hU
  exact ⟨fun j hj => ⟨((h1 j hj).1.moved hW.alike).kept hS.2.1, ((h1 j hj).2.moved hW.alike).kept hS.2.1⟩, (h2.moved hW.alike).kept hS.2.1, (h3.moved hW.alike).kept hS.2.1, fun i hi => (h4 i hi).warm hW, fun w hw => nst_warm (nst_is hw) hW (h5 w hw), (h6.moved hW.alike).kept hS.2.1⟩
theorem ST_call {G : GG} {U : State} {g : JFrame} {mk : MethodId} {a : Array Value} (h : ST G U) : ST G (U.calling g mk a) := by
  obtain ⟨h1, h2, h3, h4, h5, h6⟩ := h
  exact ⟨fun j hj => ⟨(h1 j hj).1.moved (U := U.calling g mk a) (Vm.Alike.refl U.vm), (h1 j hj).2.moved (U := U.calling g mk a) (Vm.Alike.refl U.vm)⟩, h2.moved (U := U.calling g mk a) (Vm.Alike.refl U.vm), h3.moved (U := U.calling g mk a) (Vm.Alike.refl U.vm), fun i hi => (h4 i hi).same rfl, fun w hw => va_Nw.same (nst_tab (nst_is hw)) (u := U) rfl (h5 w hw), h6.moved (U := U.calling g mk a) (Vm.Alike.refl U.vm)⟩
def RS (G : GG) (L : List LE) (M : MM) (U : State) : Prop := gB G ≤ U.heap.size ∧ va_P (gD G) vwCl (wsO G L M) U.heap ∧ va_D (AG G) (wsO G L M) ∧ va_K (gD G) vwCl (tysO G) U ∧ ST G U
def QO (G : GG) (v : Option Value) (L : List LE) (M : MM) : Array Value → State → Outcome → State → Prop := fun _ st o t => (o = .returned v ∧ va_P (gD G) vwCl (wsO G L M) t.heap ∧ va_D (AG G) (wsO G L M)) ∧ va_F (AG G) st t
/-- a method's contract: from this memory it returns v and leaves that memory -/
def CO (G : GG) (X : XX) (av : List Value) (L : List LE) (M : MM) (v : Option Value) (L' : List LE) (M' : MM) : Prop := Met (gl G) (xy X) (wsT X) (rmO X) (va_Pc av (RS G L M)) (QO G v L' M') (xmc X) (xms X) (AG G)
def CX (G : GG) (X : XX) (p : Program) (R : Room) (s : State) (m : MethodId) (args : Array Value) (meth : Method) (c : Code) : Prop :=
  p.tables.exec = Jvm.exec ∧ c.code = xc X ∧ meth.sig.returnType = xr X ∧ c.maxLocals = xn X ∧ s.vm.findClass (xy X).cls = some m.cls ∧ (∀ w ∈ lw_good, w.before args s = true) ∧ meth.locks = false ∧ va_K (gD G) vwCl (tysO G) s ∧ ST G s ∧ meth.name = (xy X).name ∧ gB G ≤ s.heap.size ∧ xf X ≤ R.frames ∧ xl X ≤ R.locals ∧ xmc X ≤ R.cells ∧ xms X ≤ R.slots
abbrev ZZ : Type := (Program → Env → Room → State → MethodId → Array Value → List Frame → Method → Code → Prop) × (Program → Env → Room → State → MethodId → Array Value → List Frame → Method → Code → State → Prop)
/-- from here, with this memory, these locals and this stack, the method comes to its end -/
def VV (G : GG) (X : XX) (Z : ZZ) (L : List LE) (M : MM) (ce sl pc : Nat) (lv : List (Nat × Value)) (st : List Value) : Prop :=
  ∀ (p : Program) (e : Env) (R : Room) (s : State) (m : MethodId) (args : Array Value) (below : List Frame) (meth : Method) (c : Code), CX G X p R s m args meth c → Z.1 p e R s m args below meth c → ∀ (H : Heap) (locs : List Loc) (ls : Array Slot), va_P (gD G) vwCl (wsO G L M) H → va_D (AG G) (wsO G L M) → va_S (AG G) s.heap H locs → lv_has ls (xn X) lv → W p (gl G) e R s m args below meth c H locs ce sl (Z.2 p e R s m args below meth c) (F0 m pc ls st)
def ZM (G : GG) (X : XX) (v : Option Value) (L : List LE) (M : MM) : ZZ := (fun _ _ _ _ _ _ _ _ _ => True, fun _ _ _ s _ args below _ _ => MQ below (QO G v L M) args s (xmc X) (xms X) (AG G))
/-- a method's contract from the walk of its body -/
theorem CO_of {G : GG} {X : XX} {av : List Value} {L L' : List LE} {M M' : MM} {v : Option Value} (hy : plainName (xy X).cls = true) (hlen : (lg_sl av).length ≤ xn X) (k : VV G X (ZM G X v L' M') L M 0 0 0 (lv_args 0 av) []) : CO G X av L M v L' M' := by
  refine Met.ofW (cc := xc X) (maxL := xn X) (ret := xr X) hy rfl ?_
  intro p e s m args below meth c s₁ B hml hv
  obtain ⟨rfl, hz, hP, hD, hK, hT⟩ := hv
  have hts := atoms_spec (ws := wsT X) B.pre
  have hl := lv_entry av (n := xn X) hlen
  rw [lg_entry_eq]
  generalize (lg_sl av ++ List.replicate (xn X - (lg_sl av).length) Slot.unset).toArray = ls at hl ⊢
  exact k p e _ s m _ below meth c ⟨B.exec, B.bytes, B.returns, hml, findClass_of_methodNamed B.named, fun w hw => hts w (List.mem_cons_of_mem _ hw), B.notSynchronized, hK, hT, (name_of_methodNamed B.named B.method).1, hz, Nat.le_refl _, Nat.le_refl _, Nat.le_refl _, Nat.le_refl _⟩ trivial s.heap [] ls hP hD va_S.rf hl
theorem r_iconst {G : GG} {X : XX} {Z : ZZ} {L : List LE} {M : MM} {ce sl pc : Nat} {lv : List (Nat × Value)} {st : List Value} {n v : Int} (hd : decode (xc X) pc = .ok (.iconst n, 1)) (hv : Int32.ofInt n = eI v) (k : VV G X Z L M ce sl (pc + 1) lv (.int (eI v) :: st)) : VV G X Z L M ce sl pc lv (st) := by
  intro p e R s m args below meth c hc he H locs ls hP hD hS hl
  exact lv_iconst hc.1 hc.2.1 hd hv (k p e R s m args below meth c hc he H locs ls hP hD hS hl)
theorem r_bipush {G : GG} {X : XX} {Z : ZZ} {L : List LE} {M : MM} {ce sl pc : Nat} {lv : List (Nat × Value)} {st : List Value} {n v : Int} (hd : decode (xc X) pc = .ok (.bipush n, 2)) (hv : (Int8.ofInt n).toInt32 = eI v) (k : VV G X Z L M ce sl (pc + 2) lv (.int (eI v) :: st)) : VV G X Z L M ce sl pc lv (st) := by
  intro p e R s m args below meth c hc he H locs ls hP hD hS hl
  exact lv_bipush hc.1 hc.2.1 hd hv (k p e R s m args below meth c hc he H locs ls hP hD hS hl)
theorem r_sipush {G : GG} {X : XX} {Z : ZZ} {L : List LE} {M : MM} {ce sl pc : Nat} {lv : List (Nat × Value)} {st : List Value} {n v : Int} (hd : decode (xc X) pc = .ok (.sipush n, 3)) (hv : (Int16.ofInt n).toInt32 = eI v) (k : VV G X Z L M ce sl (pc + 3) lv (.int (eI v) :: st)) : VV G X Z L M ce sl pc lv (st) := by
  intro p e R s m args below meth c hc he H locs ls hP hD hS hl
  exact lv_sipush hc.1 hc.2.1 hd hv (k p e R s m args below meth c hc he H locs ls hP hD hS hl)
theorem r_lconst {G : GG} {X : XX} {Z : ZZ} {L : List LE} {M : MM} {ce sl pc : Nat} {lv : List (Nat × Value)} {st : List Value} {n : Fin 2} {v : Int} (hd : decode (xc X) pc = .ok (.lconst n, 1)) (hv : Int64.ofNat (n : Nat) = eJ v) (k : VV G X Z L M ce sl (pc + 1) lv (.long (eJ v) :: st)) : VV G X Z L M ce sl pc lv (st) := by
  intro p e R s m args below meth c hc he H locs ls hP hD hS hl
  exact lv_lconst hc.1 hc.2.1 hd hv (k p e R s m args below meth c hc he H locs ls hP hD hS hl)
theorem r_iload_n {G : GG} {X : XX} {Z : ZZ} {L : List LE} {M : MM} {ce sl pc : Nat} {lv : List (Nat × Value)} {st : List Value} {q : Fin 4} {i : Nat} {x : Int} (hd : decode (xc X) pc = .ok (.iload_n q, 1)) (hi : (q : Nat) = i) (j : Nat) (hj : lv[j]? = some (i, Value.int (eI x))) (k : VV G X Z L M ce sl (pc + 1) lv (.int (eI x) :: st)) : VV G X Z L M ce sl pc lv (st) := by
  intro p e R s m args below meth c hc he H locs ls hP hD hS hl
  exact lv_iload_n hc.1 hc.2.1 hd hi (lv_at hl j hj) (k p e R s m args below meth c hc he H locs ls hP hD hS hl)
theorem r_iload {G : GG} {X : XX} {Z : ZZ} {L : List LE} {M : MM} {ce sl pc : Nat} {lv : List (Nat × Value)} {st : List Value} {i : Nat} {x : Int} (hd : decode (xc X) pc = .ok (.iload i, 2)) (j : Nat) (hj : lv[j]? = some (i, Value.int (eI x))) (k : VV G X Z L M ce sl (pc + 2) lv (.int (eI x) :: st)) : VV G X Z L M ce sl pc lv (st) := by
  intro p e R s m args below meth c hc he H locs ls hP hD hS hl
  exact lv_iload hc.1 hc.2.1 hd (lv_at hl j hj) (k p e R s m args below meth c hc he H locs ls hP hD hS hl)
theorem r_istore_n {G : GG} {X : XX} {Z : ZZ} {L : List LE} {M : MM} {ce sl pc : Nat} {lv : List (Nat × Value)} {st : List Value} {q : Fin 4} {i : Nat} {x : Int} {lv' : List (Nat × Value)} (hd : decode (xc X) pc = .ok (.istore_n q, 1)) (hi : (q : Nat) = i) (hn : i < xn X) (hl' : (i, Value.int (eI x)) :: lv.filter (fun q => !(q.1 == i) && !(q.1 + 1 == i && q.2.category == 2)) = lv') (k : VV G X Z L M ce sl (pc + 1) lv' (st)) : VV G X Z L M ce sl pc lv (.int (eI x) :: st) := by
  intro p e R s m args below meth c hc he H locs ls hP hD hS hl
  exact lv_istore_n hc.1 hc.2.1 hd hi hl hn hl' (fun ls hl => k p e R s m args below meth c hc he H locs ls hP hD hS hl)
theorem r_istore {G : GG} {X : XX} {Z : ZZ} {L : List LE} {M : MM} {ce sl pc : Nat} {lv : List (Nat × Value)} {st : List Value} {i : Nat} {x : Int} {lv' : List (Nat × Value)} (hd : decode (xc X) pc = .ok (.istore i, 2)) (hn : i < xn X) (hl' : (i, Value.int (eI x)) :: lv.filter (fun q => !(q.1 == i) && !(q.1 + 1 == i && q.2.category == 2)) = lv') (k : VV G X Z L M ce sl (pc + 2) lv' (st)) : VV G X Z L M ce sl pc lv (.int (eI x) :: st) := by
  intro p e R s m args below meth c hc he H locs ls hP hD hS hl
  exact lv_istore hc.1 hc.2.1 hd hl hn hl' (fun ls hl => k p e R s m args below meth c hc he H locs ls hP hD hS hl)
theorem r_lload_n {G : GG} {X : XX} {Z : ZZ} {L : List LE} {M : MM} {ce sl pc : Nat} {lv : List (Nat × Value)} {st : List Value} {q : Fin 4} {i : Nat} {x : Int} (hd : decode (xc X) pc = .ok (.lload_n q, 1)) (hi : (q : Nat) = i) (j : Nat) (hj : lv[j]? = some (i, Value.long (eJ x))) (k : VV G X Z L M ce sl (pc + 1) lv (.long (eJ x) :: st)) : VV G X Z L M ce sl pc lv (st) := by
  intro p e R s m args below meth c hc he H locs ls hP hD hS hl
  exact lv_lload_n hc.1 hc.2.1 hd hi (lv_at hl j hj) (k p e R s m args below meth c hc he H locs ls hP hD hS hl)
theorem r_lload {G : GG} {X : XX} {Z : ZZ} {L : List LE} {M : MM} {ce sl pc : Nat} {lv : List (Nat × Value)} {st : List Value} {i : Nat} {x : Int} (hd : decode (xc X) pc = .ok (.lload i, 2)) (j : Nat) (hj : lv[j]? = some (i, Value.long (eJ x))) (k : VV G X Z L M ce sl (pc + 2) lv (.long (eJ x) :: st)) : VV G X Z L M ce sl pc lv (st) := by
  intro p e R s m args below meth c hc he H locs ls hP hD hS hl
  exact lv_lload hc.1 hc.2.1 hd (lv_at hl j hj) (k p e R s m args below meth c hc he H locs ls hP hD hS hl)
theorem r_lstore_n {G : GG} {X : XX} {Z : ZZ} {L : List LE} {M : MM} {ce sl pc : Nat} {lv : List (Nat × Value)} {st : List Value} {q : Fin 4} {i : Nat} {x : Int} {lv' : List (Nat × Value)} (hd : decode (xc X) pc = .ok (.lstore_n q, 1)) (hi : (q : Nat) = i) (hn : i + 1 < xn X) (hl' : (i, Value.long (eJ x)) :: lv.filter (fun q => !(q.1 == i) && (!(q.1 == i + 1) && !(q.1 + 1 == i && q.2.category == 2))) = lv') (k : VV G X Z L M ce sl (pc + 1) lv' (st)) : VV G X Z L M ce sl pc lv (.long (eJ x) :: st) := by
  intro p e R s m args below meth c hc he H locs ls hP hD hS hl
  exact lv_lstore_n hc.1 hc.2.1 hd hi hl hn hl' (fun ls hl => k p e R s m args below meth c hc he H locs ls hP hD hS hl)
theorem r_lstore {G : GG} {X : XX} {Z : ZZ} {L : List LE} {M : MM} {ce sl pc : Nat} {lv : List (Nat × Value)} {st : List Value} {i : Nat} {x : Int} {lv' : List (Nat × Value)} (hd : decode (xc X) pc = .ok (.lstore i, 2)) (hn : i + 1 < xn X) (hl' : (i, Value.long (eJ x)) :: lv.filter (fun q => !(q.1 == i) && (!(q.1 == i + 1) && !(q.1 + 1 == i && q.2.category == 2))) = lv') (k : VV G X Z L M ce sl (pc + 2) lv' (st)) : VV G X Z L M ce sl pc lv (.long (eJ x) :: st) := by
  intro p e R s m args below meth c hc he H locs ls hP hD hS hl
  exact lv_lstore hc.1 hc.2.1 hd hl hn hl' (fun ls hl => k p e R s m args below meth c hc he H locs ls hP hD hS hl)
theorem r_aload_n {G : GG} {X : XX} {Z : ZZ} {L : List LE} {M : MM} {ce sl pc : Nat} {lv : List (Nat × Value)} {st : List Value} {q : Fin 4} {i : Nat} {x : Nat} (hd : decode (xc X) pc = .ok (.aload_n q, 1)) (hi : (q : Nat) = i) (j : Nat) (hj : lv[j]? = some (i, Value.ref x)) (k : VV G X Z L M ce sl (pc + 1) lv (.ref x :: st)) : VV G X Z L M ce sl pc lv (st) := by
  intro p e R s m args below meth c hc he H locs ls hP hD hS hl
  exact lv_aload_n hc.1 hc.2.1 hd hi (lv_at hl j hj) (k p e R s m args below meth c hc he H locs ls hP hD hS hl)
theorem r_aload {G : GG} {X : XX} {Z : ZZ} {L : List LE} {M : MM} {ce sl pc : Nat} {lv : List (Nat × Value)} {st : List Value} {i : Nat} {x : Nat} (hd : decode (xc X) pc = .ok (.aload i, 2)) (j : Nat) (hj : lv[j]? = some (i, Value.ref x)) (k : VV G X Z L M ce sl (pc + 2) lv (.ref x :: st)) : VV G X Z L M ce sl pc lv (st) := by
  intro p e R s m args below meth c hc he H locs ls hP hD hS hl
  exact lv_aload hc.1 hc.2.1 hd (lv_at hl j hj) (k p e R s m args below meth c hc he H locs ls hP hD hS hl)
theorem r_astore_n {G : GG} {X : XX} {Z : ZZ} {L : List LE} {M : MM} {ce sl pc : Nat} {lv : List (Nat × Value)} {st : List Value} {q : Fin 4} {i : Nat} {x : Nat} {lv' : List (Nat × Value)} (hd : decode (xc X) pc = .ok (.astore_n q, 1)) (hi : (q : Nat) = i) (hn : i < xn X) (hl' : (i, Value.ref x) :: lv.filter (fun q => !(q.1 == i) && !(q.1 + 1 == i && q.2.category == 2)) = lv') (k : VV G X Z L M ce sl (pc + 1) lv' (st)) : VV G X Z L M ce sl pc lv (.ref x :: st) := by
  intro p e R s m args below meth c hc he H locs ls hP hD hS hl
  exact lv_astore_n hc.1 hc.2.1 hd hi hl hn hl' (fun ls hl => k p e R s m args below meth c hc he H locs ls hP hD hS hl)
theorem r_astore {G : GG} {X : XX} {Z : ZZ} {L : List LE} {M : MM} {ce sl pc : Nat} {lv : List (Nat × Value)} {st : List Value} {i : Nat} {x : Nat} {lv' : List (Nat × Value)} (hd : decode (xc X) pc = .ok (.astore i, 2)) (hn : i < xn X) (hl' : (i, Value.ref x) :: lv.filter (fun q => !(q.1 == i) && !(q.1 + 1 == i && q.2.category == 2)) = lv') (k : VV G X Z L M ce sl (pc + 2) lv' (st)) : VV G X Z L M ce sl pc lv (.ref x :: st) := by
  intro p e R s m args below meth c hc he H locs ls hP hD hS hl
  exact lv_astore hc.1 hc.2.1 hd hl hn hl' (fun ls hl => k p e R s m args below meth c hc he H locs ls hP hD hS hl)
theorem r_iinc {G : GG} {X : XX} {Z : ZZ} {L : List LE} {M : MM} {ce sl pc : Nat} {lv : List (Nat × Value)} {st : List Value} {i : Nat} {n x y : Int} {lv' : List (Nat × Value)} (hd : decode (xc X) pc = .ok (.iinc i n, 3)) (j : Nat) (hj : lv[j]? = some (i, Value.int (eI x))) (hy : x + n = y) (hn : i < xn X) (hl' : (i, Value.int (eI y)) :: lv.filter (fun q => !(q.1 == i) && !(q.1 + 1 == i && q.2.category == 2)) = lv') (k : VV G X Z L M ce sl (pc + 3) lv' (st)) : VV G X Z L M ce sl pc lv (st) := by
  intro p e R s m args below meth c hc he H locs ls hP hD hS hl
  exact lv_iinc hc.1 hc.2.1 hd hl hj (by rw [← hy]; exact (Int32.ofInt_add x n).symm) hn hl' (fun ls hl => k p e R s m args below meth c hc he H locs ls hP hD hS hl)
theorem r_sub {G : GG} {X : XX} {Z : ZZ} {L : List LE} {M : MM} {ce sl pc : Nat} {lv : List (Nat × Value)} {st : List Value} {lv' : List (Nat × Value)} (ks : List Nat) (hk : lv_pick lv ks = lv') (k : VV G X Z L M ce sl pc lv' (st)) : VV G X Z L M ce sl pc lv (st) := by
  intro p e R s m args below meth c hc he H locs ls hP hD hS hl
  exact k p e R s m args below meth c hc he H locs ls hP hD hS (lv_sub hl ks hk)
theorem r_nmI {G : GG} {X : XX} {Z : ZZ} {L : List LE} {M : MM} {ce sl pc : Nat} {lv : List (Nat × Value)} {st : List Value} {x y : Int} (hx : some x = some y) (k : VV G X Z L M ce sl pc lv (.int (eI y) :: st)) : VV G X Z L M ce sl pc lv (.int (eI x) :: st) := by cases hx; exact k
theorem r_nmJ {G : GG} {X : XX} {Z : ZZ} {L : List LE} {M : MM} {ce sl pc : Nat} {lv : List (Nat × Value)} {st : List Value} {x y : Int} (hx : some x = some y) (k : VV G X Z L M ce sl pc lv (.long (eJ y) :: st)) : VV G X Z L M ce sl pc lv (.long (eJ x) :: st) := by cases hx; exact k
theorem r_iadd {G : GG} {X : XX} {Z : ZZ} {L : List LE} {M : MM} {ce sl pc : Nat} {lv : List (Nat × Value)} {st : List Value} {x y : Int} (hd : decode (xc X) pc = .ok (.iadd, 1)) (k : VV G X Z L M ce sl (pc + 1) lv (.int (eI (x + y)) :: st)) : VV G X Z L M ce sl pc lv (.int (eI y) :: .int (eI x) :: st) := by
  intro p e R s m args below meth c hc he H locs ls hP hD hS hl
  refine lv_iadd hc.1 hc.2.1 hd ?_
  rw [show eI x + eI y = eI (x + y) from (Int32.ofInt_add x y).symm]
  exact k p e R s m args below meth c hc he H locs ls hP hD hS hl
theorem r_ladd {G : GG} {X : XX} {Z : ZZ} {L : List LE} {M : MM} {ce sl pc : Nat} {lv : List (Nat × Value)} {st : List Value} {x y : Int} (hd : decode (xc X) pc = .ok (.ladd, 1)) (k : VV G X Z L M ce sl (pc + 1) lv (.long (eJ (x + y)) :: st)) : VV G X Z L M ce sl pc lv (.long (eJ y) :: .long (eJ x) :: st) := by
  intro p e R s m args below meth c hc he H locs ls hP hD hS hl
  refine lv_ladd hc.1 hc.2.1 hd ?_
  rw [show eJ x + eJ y = eJ (x + y) from (Int64.ofInt_add x y).symm]
  exact k p e R s m args below meth c hc he H locs ls hP hD hS hl
theorem r_isub {G : GG} {X : XX} {Z : ZZ} {L : List LE} {M : MM} {ce sl pc : Nat} {lv : List (Nat × Value)} {st : List Value} {x y : Int} (hd : decode (xc X) pc = .ok (.isub, 1)) (k : VV G X Z L M ce sl (pc + 1) lv (.int (eI (x - y)) :: st)) : VV G X Z L M ce sl pc lv (.int (eI y) :: .int (eI x) :: st) := by
  intro p e R s m args below meth c hc he H locs ls hP hD hS hl
  refine lv_isub hc.1 hc.2.1 hd ?_
  rw [show eI x - eI y = eI (x - y) from (Int32.ofInt_sub x y).symm]
  exact k p e R s m args below meth c hc he H locs ls hP hD hS hl
theorem r_lsub {G : GG} {X : XX} {Z : ZZ} {L : List LE} {M : MM} {ce sl pc : Nat} {lv : List (Nat × Value)} {st : List Value} {x y : Int} (hd : decode (xc X) pc = .ok (.lsub, 1)) (k : VV G X Z L M ce sl (pc + 1) lv (.long (eJ (x - y)) :: st)) : VV G X Z L M ce sl pc lv (.long (eJ y) :: .long (eJ x) :: st) := by
  intro p e R s m args below meth c hc he H locs ls hP hD hS hl
  refine lv_lsub hc.1 hc.2.1 hd ?_
  rw [show eJ x - eJ y = eJ (x - y) from (Int64.ofInt_sub x y).symm]
  exact k p e R s m args below meth c hc he H locs ls hP hD hS hl
theorem r_imul {G : GG} {X : XX} {Z : ZZ} {L : List LE} {M : MM} {ce sl pc : Nat} {lv : List (Nat × Value)} {st : List Value} {x y : Int} (hd : decode (xc X) pc = .ok (.imul, 1)) (k : VV G X Z L M ce sl (pc + 1) lv (.int (eI (x * y)) :: st)) : VV G X Z L M ce sl pc lv (.int (eI y) :: .int (eI x) :: st) := by
  intro p e R s m args below meth c hc he H locs ls hP hD hS hl
  refine lv_imul hc.1 hc.2.1 hd ?_
  rw [show eI x * eI y = eI (x * y) from (Int32.ofInt_mul x y).symm]
  exact k p e R s m args below meth c hc he H locs ls hP hD hS hl
theorem r_lmul {G : GG} {X : XX} {Z : ZZ} {L : List LE} {M : MM} {ce sl pc : Nat} {lv : List (Nat × Value)} {st : List Value} {x y : Int} (hd : decode (xc X) pc = .ok (.lmul, 1)) (k : VV G X Z L M ce sl (pc + 1) lv (.long (eJ (x * y)) :: st)) : VV G X Z L M ce sl pc lv (.long (eJ y) :: .long (eJ x) :: st) := by
  intro p e R s m args below meth c hc he H locs ls hP hD hS hl
  refine lv_lmul hc.1 hc.2.1 hd ?_
  rw [show eJ x * eJ y = eJ (x * y) from (Int64.ofInt_mul x y).symm]
  exact k p e R s m args below meth c hc he H locs ls hP hD hS hl
theorem r_ineg {G : GG} {X : XX} {Z : ZZ} {L : List LE} {M : MM} {ce sl pc : Nat} {lv : List (Nat × Value)} {st : List Value} {x : Int} (hd : decode (xc X) pc = .ok (.ineg, 1)) (k : VV G X Z L M ce sl (pc + 1) lv (.int (eI (-x)) :: st)) : VV G X Z L M ce sl pc lv (.int (eI x) :: st) := by
  intro p e R s m args below meth c hc he H locs ls hP hD hS hl
  refine lv_ineg hc.1 hc.2.1 hd ?_
  rw [show - eI x = eI (-x) from (Int32.ofInt_neg x).symm]
  exact k p e R s m args below meth c hc he H locs ls hP hD hS hl
theorem eI_div (x y : Int) : eI x / eI y = eI ((wI x).tdiv (wI y)) := by
  rw [← Int32.toInt_inj, Int32.toInt_div, eI_toInt, eI_toInt, eI_toInt]; rfl
theorem eJ_div (x y : Int) : eJ x / eJ y = eJ ((wJ x).tdiv (wJ y)) := by
  rw [← Int64.toInt_inj, Int64.toInt_div, eJ_toInt, eJ_toInt, eJ_toInt]; rfl
theorem eI_rem (x y : Int) : eI x - eI x / eI y * eI y = eI ((wI x).tmod (wI y)) := by
  rw [eI_div]
  rw [show eI x = eI (wI x) from (eI_w x).symm, show eI y = eI (wI y) from (eI_w y).symm]
  unfold eI
  rw [← Int32.ofInt_mul, ← Int32.ofInt_sub]
  congr 1
  have h1 := Int.tmod_add_mul_tdiv (wI x) (wI y)
  have h2 : (wI x).tdiv (wI y) * wI y = wI y * (wI x).tdiv (wI y) := Int.mul_comm _ _
  omega
theorem eJ_rem (x y : Int) : eJ x - eJ x / eJ y * eJ y = eJ ((wJ x).tmod (wJ y)) := by
  rw [eJ_div]
  rw [show eJ x = eJ (wJ x) from (eJ_w x).symm, show eJ y = eJ (wJ y) from (eJ_w y).symm]
  unfold eJ
  rw [← Int64.ofInt_mul, ← Int64.ofInt_sub]
  congr 1
  have h1 := Int.tmod_add_mul_tdiv (wJ x) (wJ y)
  have h2 : (wJ x).tdiv (wJ y) * wJ y = wJ y * (wJ x).tdiv (wJ y) := Int.mul_comm _ _
  omega
theorem eI_n0 {y : Int} (h : wI y ≠ 0) : ¬ eI y = 0 := by
  rw [← eI_0, eI_eqi, wI_0]; exact h
theorem eJ_n0 {y : Int} (h : wJ y ≠ 0) : ¬ eJ y = 0 := by
  rw [show (0 : Int64) = eJ 0 from rfl, eJ_eqi]; exact fun q => h (by rw [q]; decide +kernel)
theorem r_idiv {G : GG} {X : XX} {Z : ZZ} {L : List LE} {M : MM} {ce sl pc : Nat} {lv : List (Nat × Value)} {st : List Value} {x y x' y' : Int} (hd : decode (xc X) pc = .ok (.idiv, 1)) (hx : wI x = x') (hy : wI y = y') (h0 : y' ≠ 0) (k : VV G X Z L M ce sl (pc + 1) lv (.int (eI (x'.tdiv y')) :: st)) : VV G X Z L M ce sl pc lv (.int (eI y) :: .int (eI x) :: st) := by
  intro p e R s m args below meth c hc he H locs ls hP hD hS hl
  subst hx hy
  refine lv_idiv hc.1 hc.2.1 hd (eI_n0 h0) ?_
  rw [eI_div]
  exact k p e R s m args below meth c hc he H locs ls hP hD hS hl
theorem r_irem {G : GG} {X : XX} {Z : ZZ} {L : List LE} {M : MM} {ce sl pc : Nat} {lv : List (Nat × Value)} {st : List Value} {x y x' y' : Int} (hd : decode (xc X) pc = .ok (.irem, 1)) (hx : wI x = x') (hy : wI y = y') (h0 : y' ≠ 0) (k : VV G X Z L M ce sl (pc + 1) lv (.int (eI (x'.tmod y')) :: st)) : VV G X Z L M ce sl pc lv (.int (eI y) :: .int (eI x) :: st) := by
  intro p e R s m args below meth c hc he H locs ls hP hD hS hl
  subst hx hy
  refine lv_irem hc.1 hc.2.1 hd (eI_n0 h0) ?_
  rw [eI_rem]
  exact k p e R s m args below meth c hc he H locs ls hP hD hS hl
theorem r_ldiv {G : GG} {X : XX} {Z : ZZ} {L : List LE} {M : MM} {ce sl pc : Nat} {lv : List (Nat × Value)} {st : List Value} {x y x' y' : Int} (hd : decode (xc X) pc = .ok (.ldiv, 1)) (hx : wJ x = x') (hy : wJ y = y') (h0 : y' ≠ 0) (k : VV G X Z L M ce sl (pc + 1) lv (.long (eJ (x'.tdiv y')) :: st)) : VV G X Z L M ce sl pc lv (.long (eJ y) :: .long (eJ x) :: st) := by
  intro p e R s m args below meth c hc he H locs ls hP hD hS hl
  subst hx hy
  refine lv_ldiv hc.1 hc.2.1 hd (eJ_n0 h0) ?_
  rw [eJ_div]
  exact k p e R s m args below meth c hc he H locs ls hP hD hS hl
theorem r_lrem {G : GG} {X : XX} {Z : ZZ} {L : List LE} {M : MM} {ce sl pc : Nat} {lv : List (Nat × Value)} {st : List Value} {x y x' y' : Int} (hd : decode (xc X) pc = .ok (.lrem, 1)) (hx : wJ x = x') (hy : wJ y = y') (h0 : y' ≠ 0) (k : VV G X Z L M ce sl (pc + 1) lv (.long (eJ (x'.tmod y')) :: st)) : VV G X Z L M ce sl pc lv (.long (eJ y) :: .long (eJ x) :: st) := by
  intro p e R s m args below meth c hc he H locs ls hP hD hS hl
  subst hx hy
  refine lv_lrem hc.1 hc.2.1 hd (eJ_n0 h0) ?_
  rw [eJ_rem]
  exact k p e R s m args below meth c hc he H locs ls hP hD hS hl
theorem eI_eq0 {x : Int} : eI x = 0 ↔ wI x = 0 := by rw [show (0 : Int32) = eI 0 from rfl, eI_eqi, wI_0]
theorem eI_lt0 {x : Int} : eI x < 0 ↔ wI x < 0 := by rw [show (0 : Int32) = eI 0 from rfl, eI_lti, wI_0]
theorem eI_le0 {x : Int} : eI x ≤ 0 ↔ wI x ≤ 0 := by rw [show (0 : Int32) = eI 0 from rfl, eI_lei, wI_0]
theorem eI_gt0 {x : Int} : 0 < eI x ↔ 0 < wI x := by rw [show (0 : Int32) = eI 0 from rfl, eI_lti, wI_0]
theorem eI_ge0 {x : Int} : 0 ≤ eI x ↔ 0 ≤ wI x := by rw [show (0 : Int32) = eI 0 from rfl, eI_lei, wI_0]
theorem r_icmp_eq {G : GG} {X : XX} {Z : ZZ} {L : List LE} {M : MM} {ce sl pc : Nat} {lv : List (Nat × Value)} {st : List Value} {x y x' y' off : Int} {tgt : Nat} (hd : decode (xc X) pc = .ok (.if_icmp .eq off, 3)) (ht : (pc : Int) + off = (tgt : Int)) (hx : wI x = x') (hy : wI y = y') (kt : x' = y' → VV G X Z L M ce sl tgt lv (st)) (kf : ¬ x' = y' → VV G X Z L M ce sl (pc + 3) lv (st)) : VV G X Z L M ce sl pc lv (.int (eI y) :: .int (eI x) :: st) := by
  intro p e R s m args below meth c hc he H locs ls hP hD hS hl
  subst hx hy
  exact lv_icmp_eq hc.1 hc.2.1 hd ht (fun q => kt (eI_eqi.mp q) p e R s m args below meth c hc he H locs ls hP hD hS hl) (fun q => kf (fun z => q (eI_eqi.mpr z)) p e R s m args below meth c hc he H locs ls hP hD hS hl)
theorem r_if_eq {G : GG} {X : XX} {Z : ZZ} {L : List LE} {M : MM} {ce sl pc : Nat} {lv : List (Nat × Value)} {st : List Value} {x x' off : Int} {tgt : Nat} (hd : decode (xc X) pc = .ok (.ifCond .eq off, 3)) (ht : (pc : Int) + off = (tgt : Int)) (hx : wI x = x') (kt : x' = 0 → VV G X Z L M ce sl tgt lv (st)) (kf : ¬ x' = 0 → VV G X Z L M ce sl (pc + 3) lv (st)) : VV G X Z L M ce sl pc lv (.int (eI x) :: st) := by
  intro p e R s m args below meth c hc he H locs ls hP hD hS hl
  subst hx
  exact lv_if_eq hc.1 hc.2.1 hd ht (fun q => kt (eI_eq0.mp q) p e R s m args below meth c hc he H locs ls hP hD hS hl) (fun q => kf (fun z => q (eI_eq0.mpr z)) p e R s m args below meth c hc he H locs ls hP hD hS hl)
theorem r_icmp_ne {G : GG} {X : XX} {Z : ZZ} {L : List LE} {M : MM} {ce sl pc : Nat} {lv : List (Nat × Value)} {st : List Value} {x y x' y' off : Int} {tgt : Nat} (hd : decode (xc X) pc = .ok (.if_icmp .ne off, 3)) (ht : (pc : Int) + off = (tgt : Int)) (hx : wI x = x') (hy : wI y = y') (kt : ¬ x' = y' → VV G X Z L M ce sl tgt lv (st)) (kf : x' = y' → VV G X Z L M ce sl (pc + 3) lv (st)) : VV G X Z L M ce sl pc lv (.int (eI y) :: .int (eI x) :: st) := by
  intro p e R s m args below meth c hc he H locs ls hP hD hS hl
  subst hx hy
  exact lv_icmp_ne hc.1 hc.2.1 hd ht (fun q => kt (fun z => q (eI_eqi.mpr z)) p e R s m args below meth c hc he H locs ls hP hD hS hl) (fun q => kf (eI_eqi.mp q) p e R s m args below meth c hc he H locs ls hP hD hS hl)
theorem r_if_ne {G : GG} {X : XX} {Z : ZZ} {L : List LE} {M : MM} {ce sl pc : Nat} {lv : List (Nat × Value)} {st : List Value} {x x' off : Int} {tgt : Nat} (hd : decode (xc X) pc = .ok (.ifCond .ne off, 3)) (ht : (pc : Int) + off = (tgt : Int)) (hx : wI x = x') (kt : ¬ x' = 0 → VV G X Z L M ce sl tgt lv (st)) (kf : x' = 0 → VV G X Z L M ce sl (pc + 3) lv (st)) : VV G X Z L M ce sl pc lv (.int (eI x) :: st) := by
  intro p e R s m args below meth c hc he H locs ls hP hD hS hl
  subst hx
  exact lv_if_ne hc.1 hc.2.1 hd ht (fun q => kt (fun z => q (eI_eq0.mpr z)) p e R s m args below meth c hc he H locs ls hP hD hS hl) (fun q => kf (eI_eq0.mp q) p e R s m args below meth c hc he H locs ls hP hD hS hl)
theorem r_icmp_lt {G : GG} {X : XX} {Z : ZZ} {L : List LE} {M : MM} {ce sl pc : Nat} {lv : List (Nat × Value)} {st : List Value} {x y x' y' off : Int} {tgt : Nat} (hd : decode (xc X) pc = .ok (.if_icmp .lt off, 3)) (ht : (pc : Int) + off = (tgt : Int)) (hx : wI x = x') (hy : wI y = y') (kt : x' < y' → VV G X Z L M ce sl tgt lv (st)) (kf : ¬ x' < y' → VV G X Z L M ce sl (pc + 3) lv (st)) : VV G X Z L M ce sl pc lv (.int (eI y) :: .int (eI x) :: st) := by
  intro p e R s m args below meth c hc he H locs ls hP hD hS hl
  subst hx hy
  exact lv_icmp_lt hc.1 hc.2.1 hd ht (fun q => kt (eI_lti.mp q) p e R s m args below meth c hc he H locs ls hP hD hS hl) (fun q => kf (fun z => q (eI_lti.mpr z)) p e R s m args below meth c hc he H locs ls hP hD hS hl)
theorem r_if_lt {G : GG} {X : XX} {Z : ZZ} {L : List LE} {M : MM} {ce sl pc : Nat} {lv : List (Nat × Value)} {st : List Value} {x x' off : Int} {tgt : Nat} (hd : decode (xc X) pc = .ok (.ifCond .lt off, 3)) (ht : (pc : Int) + off = (tgt : Int)) (hx : wI x = x') (kt : x' < 0 → VV G X Z L M ce sl tgt lv (st)) (kf : ¬ x' < 0 → VV G X Z L M ce sl (pc + 3) lv (st)) : VV G X Z L M ce sl pc lv (.int (eI x) :: st) := by
  intro p e R s m args below meth c hc he H locs ls hP hD hS hl
  subst hx
  exact lv_if_lt hc.1 hc.2.1 hd ht (fun q => kt (eI_lt0.mp q) p e R s m args below meth c hc he H locs ls hP hD hS hl) (fun q => kf (fun z => q (eI_lt0.mpr z)) p e R s m args below meth c hc he H locs ls hP hD hS hl)
theorem r_icmp_ge {G : GG} {X : XX} {Z : ZZ} {L : List LE} {M : MM} {ce sl pc : Nat} {lv : List (Nat × Value)} {st : List Value} {x y x' y' off : Int} {tgt : Nat} (hd : decode (xc X) pc = .ok (.if_icmp .ge off, 3)) (ht : (pc : Int) + off = (tgt : Int)) (hx : wI x = x') (hy : wI y = y') (kt : y' ≤ x' → VV G X Z L M ce sl tgt lv (st)) (kf : ¬ y' ≤ x' → VV G X Z L M ce sl (pc + 3) lv (st)) : VV G X Z L M ce sl pc lv (.int (eI y) :: .int (eI x) :: st) := by
  intro p e R s m args below meth c hc he H locs ls hP hD hS hl
  subst hx hy
  exact lv_icmp_ge hc.1 hc.2.1 hd ht (fun q => kt (eI_lei.mp q) p e R s m args below meth c hc he H locs ls hP hD hS hl) (fun q => kf (fun z => q (eI_lei.mpr z)) p e R s m args below meth c hc he H locs ls hP hD hS hl)
theorem r_if_ge {G : GG} {X : XX} {Z : ZZ} {L : List LE} {M : MM} {ce sl pc : Nat} {lv : List (Nat × Value)} {st : List Value} {x x' off : Int} {tgt : Nat} (hd : decode (xc X) pc = .ok (.ifCond .ge off, 3)) (ht : (pc : Int) + off = (tgt : Int)) (hx : wI x = x') (kt : 0 ≤ x' → VV G X Z L M ce sl tgt lv (st)) (kf : ¬ 0 ≤ x' → VV G X Z L M ce sl (pc + 3) lv (st)) : VV G X Z L M ce sl pc lv (.int (eI x) :: st) := by
  intro p e R s m args below meth c hc he H locs ls hP hD hS hl
  subst hx
  exact lv_if_ge hc.1 hc.2.1 hd ht (fun q => kt (eI_ge0.mp q) p e R s m args below meth c hc he H locs ls hP hD hS hl) (fun q => kf (fun z => q (eI_ge0.mpr z)) p e R s m args below meth c hc he H locs ls hP hD hS hl)
theorem r_icmp_gt {G : GG} {X : XX} {Z : ZZ} {L : List LE} {M : MM} {ce sl pc : Nat} {lv : List (Nat × Value)} {st : List Value} {x y x' y' off : Int} {tgt : Nat} (hd : decode (xc X) pc = .ok (.if_icmp .gt off, 3)) (ht : (pc : Int) + off = (tgt : Int)) (hx : wI x = x') (hy : wI y = y') (kt : y' < x' → VV G X Z L M ce sl tgt lv (st)) (kf : ¬ y' < x' → VV G X Z L M ce sl (pc + 3) lv (st)) : VV G X Z L M ce sl pc lv (.int (eI y) :: .int (eI x) :: st) := by
  intro p e R s m args below meth c hc he H locs ls hP hD hS hl
  subst hx hy
  exact lv_icmp_gt hc.1 hc.2.1 hd ht (fun q => kt (eI_lti.mp q) p e R s m args below meth c hc he H locs ls hP hD hS hl) (fun q => kf (fun z => q (eI_lti.mpr z)) p e R s m args below meth c hc he H locs ls hP hD hS hl)
theorem r_if_gt {G : GG} {X : XX} {Z : ZZ} {L : List LE} {M : MM} {ce sl pc : Nat} {lv : List (Nat × Value)} {st : List Value} {x x' off : Int} {tgt : Nat} (hd : decode (xc X) pc = .ok (.ifCond .gt off, 3)) (ht : (pc : Int) + off = (tgt : Int)) (hx : wI x = x') (kt : 0 < x' → VV G X Z L M ce sl tgt lv (st)) (kf : ¬ 0 < x' → VV G X Z L M ce sl (pc + 3) lv (st)) : VV G X Z L M ce sl pc lv (.int (eI x) :: st) := by
  intro p e R s m args below meth c hc he H locs ls hP hD hS hl
  subst hx
  exact lv_if_gt hc.1 hc.2.1 hd ht (fun q => kt (eI_gt0.mp q) p e R s m args below meth c hc he H locs ls hP hD hS hl) (fun q => kf (fun z => q (eI_gt0.mpr z)) p e R s m args below meth c hc he H locs ls hP hD hS hl)
theorem r_icmp_le {G : GG} {X : XX} {Z : ZZ} {L : List LE} {M : MM} {ce sl pc : Nat} {lv : List (Nat × Value)} {st : List Value} {x y x' y' off : Int} {tgt : Nat} (hd : decode (xc X) pc = .ok (.if_icmp .le off, 3)) (ht : (pc : Int) + off = (tgt : Int)) (hx : wI x = x') (hy : wI y = y') (kt : x' ≤ y' → VV G X Z L M ce sl tgt lv (st)) (kf : ¬ x' ≤ y' → VV G X Z L M ce sl (pc + 3) lv (st)) : VV G X Z L M ce sl pc lv (.int (eI y) :: .int (eI x) :: st) := by
  intro p e R s m args below meth c hc he H locs ls hP hD hS hl
  subst hx hy
  exact lv_icmp_le hc.1 hc.2.1 hd ht (fun q => kt (eI_lei.mp q) p e R s m args below meth c hc he H locs ls hP hD hS hl) (fun q => kf (fun z => q (eI_lei.mpr z)) p e R s m args below meth c hc he H locs ls hP hD hS hl)
theorem r_if_le {G : GG} {X : XX} {Z : ZZ} {L : List LE} {M : MM} {ce sl pc : Nat} {lv : List (Nat × Value)} {st : List Value} {x x' off : Int} {tgt : Nat} (hd : decode (xc X) pc = .ok (.ifCond .le off, 3)) (ht : (pc : Int) + off = (tgt : Int)) (hx : wI x = x') (kt : x' ≤ 0 → VV G X Z L M ce sl tgt lv (st)) (kf : ¬ x' ≤ 0 → VV G X Z L M ce sl (pc + 3) lv (st)) : VV G X Z L M ce sl pc lv (.int (eI x) :: st) := by
  intro p e R s m args below meth c hc he H locs ls hP hD hS hl
  subst hx
  exact lv_if_le hc.1 hc.2.1 hd ht (fun q => kt (eI_le0.mp q) p e R s m args below meth c hc he H locs ls hP hD hS hl) (fun q => kf (fun z => q (eI_le0.mpr z)) p e R s m args below meth c hc he H locs ls hP hD hS hl)
theorem r_goto {G : GG} {X : XX} {Z : ZZ} {L : List LE} {M : MM} {ce sl pc : Nat} {lv : List (Nat × Value)} {st : List Value} {off : Int} {tgt : Nat} (hd : decode (xc X) pc = .ok (.goto off, 3)) (ht : (pc : Int) + off = (tgt : Int)) (k : VV G X Z L M ce sl tgt lv (st)) : VV G X Z L M ce sl pc lv (st) := by
  intro p e R s m args below meth c hc he H locs ls hP hD hS hl
  exact lv_goto hc.1 hc.2.1 hd ht (k p e R s m args below meth c hc he H locs ls hP hD hS hl)
theorem r_dup {G : GG} {X : XX} {Z : ZZ} {L : List LE} {M : MM} {ce sl pc : Nat} {lv : List (Nat × Value)} {st : List Value} {v : Value} (hd : decode (xc X) pc = .ok (.dup, 1)) (hv : v.category = 1) (k : VV G X Z L M ce sl (pc + 1) lv (v :: v :: st)) : VV G X Z L M ce sl pc lv (v :: st) := by
  intro p e R s m args below meth c hc he H locs ls hP hD hS hl
  exact lv_dup hc.1 hc.2.1 hd hv (k p e R s m args below meth c hc he H locs ls hP hD hS hl)
theorem r_pop {G : GG} {X : XX} {Z : ZZ} {L : List LE} {M : MM} {ce sl pc : Nat} {lv : List (Nat × Value)} {st : List Value} {v : Value} (hd : decode (xc X) pc = .ok (.pop, 1)) (hv : v.category = 1) (k : VV G X Z L M ce sl (pc + 1) lv (st)) : VV G X Z L M ce sl pc lv (v :: st) := by
  intro p e R s m args below meth c hc he H locs ls hP hD hS hl
  exact lv_pop hc.1 hc.2.1 hd hv (k p e R s m args below meth c hc he H locs ls hP hD hS hl)
theorem r_dup2 {G : GG} {X : XX} {Z : ZZ} {L : List LE} {M : MM} {ce sl pc : Nat} {lv : List (Nat × Value)} {st : List Value} {v u : Value} (hd : decode (xc X) pc = .ok (.dup2, 1)) (hv : v.category = 1) (hu : u.category = 1) (k : VV G X Z L M ce sl (pc + 1) lv (v :: u :: v :: u :: st)) : VV G X Z L M ce sl pc lv (v :: u :: st) := by
  intro p e R s m args below meth c hc he H locs ls hP hD hS hl
  exact lv_dup2_11 hc.1 hc.2.1 hd hv hu (k p e R s m args below meth c hc he H locs ls hP hD hS hl)
