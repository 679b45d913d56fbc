/-! THE CLAIM OUT OF ONE WALK OF THE LAW'S BODY. Your part is whole_start (and what it stands on); all else here is the same for every law, but numbers. -/
def R_law : String := "PaperDonkeyLaw"
def lw_P (b : Addr) (xs : List Int32) (args : Array Value) (s : State) : Prop := args = #[.ref b] ∧ s.IntsAt b xs ∧ xs.length ≤ 3072 ∧ (Jvm.Cond.and given_1 narrow_1).before args s = true
def lw_Q (_ : Array Value) (s : State) (o : Outcome) (t : State) : Prop := o = .returned (some (.int 1)) ∧ Framed s o t [] 600000 7302250
def lw_Z (below : List Frame) (a : Array Value) (s : State) : State → Prop := fun t => ∃ o, t.status = .running ∧ Ended t below o ∧ lw_Q a s o t
/-- the law's own end, with 1 on the stack, nothing written that was there before, its room as the claim has it -/
theorem lw_ret {p : Program} {l : Launch} {e : Env} {s : State} {m : MethodId} {below : List Frame} {meth : Method} {c : Code} {b : Nat} (hx : p.tables.exec = Jvm.exec) (hb : c.code = code) (hr : meth.sig.returnType = ret) (hlocks : meth.locks = false) {pc : Nat} {H : Heap} {ls : Array Slot} (hdg : decode code pc = .ok (.ireturn, 1)) : W p l e room_1 s m #[Value.ref b] below meth c H [] 600000 7302250 (lw_Z below #[Value.ref b] s) (F0 m pc ls [.int 1]) := by
  intro T hT X
  obtain ⟨fs, hret, hrun, hended, hW, hframe⟩ := X.leave (v := some (.int 1)) (hlocks := hlocks) (fun h => by rw [hr] at h; cases h)
  have hmeth' : T.vm.method? m = some meth := X.method'
  refine ⟨T.setFrames fs, ?_, .returned (some (.int 1)), hrun, hended, rfl, ⟨_, rfl⟩, hW, hframe⟩
  jvm_step X.here [X.here.top, hx, hb, hdg, hmeth', hr, ret, narrow_b1]
  (try refine ⟨rfl, ?_⟩); (try refine ⟨rfl, ?_⟩)
  first | (intro acts; rw [hret _ acts rfl rfl rfl]) | rw [hret _ _ rfl rfl rfl]
  exact Steps.refl _
/-- what holds at the law's entry: the machine, the code, the tables' words (any of lw_tbl by 'hts w (by decide +kernel)'), the script of L ints xs at the cell b, what the Statement gives of the start (any of its parts by flat_of_before) -/
def lw_At (p : Program) (s : State) (m : MethodId) (meth : Method) (c : Code) (b L : Nat) (xs : Nat → Int32) : Prop :=
  p.tables.exec = Jvm.exec ∧ c.code = code ∧ meth.sig.returnType = ret ∧ c.maxLocals = 4 ∧ s.vm.findClass R_law = some m.cls ∧ (∀ w ∈ lw_tbl, w.before #[Value.ref b] s = true) ∧ va_X b L xs s s.heap ∧ b < s.heap.size ∧ meth.locks = false ∧ (Jvm.Cond.and given_1 narrow_1).before #[Value.ref b] s = true

def ZL (G : GG) (b lx : Nat) (xs : Nat → Int) : ZZ := (fun _ _ R s _ args _ _ _ => R = room_1 ∧ args = #[Value.ref b] ∧ gB G = s.heap.size ∧ b < s.heap.size ∧ va_X b lx (fun j => eI (xs j)) s s.heap, fun _ _ _ s _ args below _ _ => lw_Z below args s)
theorem r_xlen {G : GG} {X : XX} {L : List LE} {M : MM} {ce sl pc b lx : Nat} {xs : Nat → Int} {lv : List (Nat × Value)} {st : List Value} (hd : decode (xc X) pc = .ok (.arraylength, 1)) (kk : VV G X (ZL G b lx xs) L M ce sl (pc + 1) lv (.int (eI (lx : Int)) :: st)) : VV G X (ZL G b lx xs) L M ce sl pc lv (.ref b :: st) := by
  intro p e R s m args below meth c hc he H locs ls hP hD hS hl
  obtain ⟨h1, h2, h3, h4, h5⟩ := id he
  exact va_slen hc.1 hc.2.1 h5 h4 (by show ¬ gB G ≤ b; omega) hS hd (kk p e R s m args below meth c hc he H locs ls hP hD hS hl)
theorem r_xald {G : GG} {X : XX} {L : List LE} {M : MM} {ce sl pc b lx j : Nat} {xs : Nat → Int} {lv : List (Nat × Value)} {st : List Value} {i i' : Int} (hi : wI i = i') (hin : 0 ≤ i' ∧ i' < (lx : Int)) (hj : i'.toNat = j) (hd : decode (xc X) pc = .ok (.iaload, 1)) (kk : VV G X (ZL G b lx xs) L M ce sl (pc + 1) lv (.int (eI (xs j)) :: st)) : VV G X (ZL G b lx xs) L M ce sl pc lv (.int (eI i) :: .ref b :: st) := by
  subst hi hj
  intro p e R s m args below meth c hc he H locs ls hP hD hS hl
  obtain ⟨h1, h2, h3, h4, h5⟩ := id he
  refine va_sld hc.1 hc.2.1 h5 h4 (by show ¬ gB G ≤ b; omega) hS (eI_in hin) hd ?_
  rw [eI_clamp]
  exact kk p e R s m args below meth c hc he H locs ls hP hD hS hl
theorem r_cVg {G : GG} {X : XX} {Z : ZZ} {L : List LE} {M : MM} {ce sl pc : Nat} {lv : List (Nat × Value)} {st : List Value} {Y : XX} {a ci index n : Nat} {C : vw_C} {As rest st1 : List Value} {v : Option Value} {L' : List LE} {M' : MM} (hk : CKV X index Y n) (hC : CO G Y (.ref (gA G a) :: As) L M v L' M') (ho : OB L a ci) (hci : vwCl[ci]? = some C) (hcn : C.1 = (xy Y).cls) (hst : st = As.reverse ++ .ref (gA G a) :: rest) (hn : As.length = n) (hcat : (rest.map fun v => v.category).sum ≤ 8) (hz : xmc Y = 0 ∧ xms Y = 0) (hce : ce ≤ xmc X ∧ sl ≤ xms X) (hs : v.toList ++ rest = st1) (hd : decode (xc X) pc = .ok (.invokevirtual index, 3)) (kk : VV G X Z L' M' ce sl (pc + 3) lv st1) : VV G X Z L M ce sl pc lv st := by
  refine r_callV hk hC ho hci hcn hst hn hcat ⟨by rw [hz.1]; exact hce.1, by rw [hz.2]; exact hce.2⟩ hd ?_
  rw [hz.1, hz.2, hs]
  exact kk
theorem r_lawret {G : GG} {X : XX} {L : List LE} {M : MM} {ce sl pc b lx : Nat} {xs : Nat → Int} {lv : List (Nat × Value)} (hce : ce ≤ 600000 ∧ sl ≤ 7302250) (hb : xc X = code) (hr : xr X = ret) (hd : decode (xc X) pc = .ok (.ireturn, 1)) : VV G X (ZL G b lx xs) L M ce sl pc lv ([.int (eI 1)]) := by
  intro p e R s m args below meth c hc he H locs ls hP hD hS hl
  obtain ⟨h1, h2, h3, h4, h5⟩ := id he
  subst h1 h2
  refine va_forget (fun q hq => by rw [← h3]; exact hS.2.2 q hq) ?_
  refine W.widen (k := 600000) (n := 7302250) hce.1 hce.2 ?_
  exact lw_ret hc.1 (hc.2.1.trans hb) (hc.2.2.1.trans hr) hc.2.2.2.2.2.2.1 (by rw [← hb]; exact hd)
