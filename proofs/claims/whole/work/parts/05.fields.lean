theorem hT_of {G : GG} {X : XX} {p : Program} {R : Room} {s : State} {m : MethodId} {args : Array Value} {meth : Method} {c : Code} (hc : CX G X p R s m args meth c) {w : Cond} (h : w ∈ lw_good) : w.before args s = true := hc.2.2.2.2.2.1 w h
def OB (L : List LE) (a ci : Nat) : Prop := ∃ rs, L[a]? = some (0, ci, rs)
def AR (L : List LE) (a q n : Nat) : Prop := ∃ rs, L[a]? = some (q, n, rs)
def RF (L : List LE) (a k b : Nat) : Prop := ∃ e, L[a]? = some e ∧ e.2.2.getD k none = some b
def CF (ci : Nat) (C : String) (T : u_T) : Prop := vwCl[ci]? = some (C, T, clN ci) ∧ (∀ w ∈ u_ws C T (clN ci), w ∈ lw_good) ∧ (∀ k, k < clN ci → parseFieldDescriptor (T k).2.2.1 = some (clT ci k)) ∧ ∀ a, a < clN ci → ∀ b, b < clN ci → a ≠ b → (T a).2.1 ≠ (T b).2.1
def FG (own : String) (idx ci k : Nat) (t : FieldType) (fin : Bool) : Prop := ∃ (C : String) (T : u_T), CF ci C T ∧ k < clN ci ∧ Cond.fieldLink own idx C (T k).2.1 (T k).2.2.1 ∈ lw_good ∧ (T k).1 = C ∧ clT ci k = t ∧ (T k).2.2.2 = fin
theorem fs_at {ci : Nat} {f : Nat → Value} {k : Nat} (hk : k < clN ci) : ((List.range (clN ci)).map f)[k]? = some (f k) := by simp [hk]
theorem fV_I {B : Nat → Nat} {M : Nat → Int} {ci : Nat} {rs : List (Option Nat)} {k : Nat} (h : kd (clT ci k) = 0) : fV B M ci rs k = .int (eI (M k)) := by simp [fV, h]
theorem fV_J {B : Nat → Nat} {M : Nat → Int} {ci : Nat} {rs : List (Option Nat)} {k : Nat} (h : kd (clT ci k) = 1) : fV B M ci rs k = .long (eJ (M k)) := by simp [fV, h]
theorem fV_R {B : Nat → Nat} {M : Nat → Int} {ci : Nat} {rs : List (Option Nat)} {k : Nat} (h : kd (clT ci k) = 2) : fV B M ci rs k = rV B (rs.getD k none) := by simp [fV, h]
theorem r_get {G : GG} {X : XX} {Z : ZZ} {L : List LE} {M : MM} {ce sl pc : Nat} {lv : List (Nat × Value)} {st : List Value} {a ci k index : Nat} {t : FieldType} {fin : Bool} {rs : List (Option Nat)} (hf : FG (xy X).cls index ci k t fin) (ho : L[a]? = some (0, ci, rs)) {v : Value} (hv : fV (gA G) (M a) ci rs k = v) (hd : decode (xc X) pc = .ok (.getfield index, 3)) (kk : VV G X Z L M ce sl (pc + 3) lv (v :: st)) : VV G X Z L M ce sl pc lv (.ref (gA G a) :: st) := by
  obtain ⟨C, T, ⟨hcl, hin, -, -⟩, hk, hlink, hdecl, -, -⟩ := hf
  intro p e R s m args below meth c hc he H locs ls hP hD hS hl
  exact va_get (ci := ci) (C := C) (T := T) (N := clN ci) (ref := C) hc.1 hc.2.1 hc.2.2.2.2.2.1 hin hc.2.2.2.2.1 hc.2.2.2.2.2.2.2.1 hP a (wsO_at ho) hcl k hk (hT_of hc hlink) (by rw [hdecl]; exact fun _ h => h) (by rw [fs_at hk, hv]) hd (kk p e R s m args below meth c hc he H locs ls hP hD hS hl)
theorem r_getI {G : GG} {X : XX} {Z : ZZ} {L : List LE} {M : MM} {ce sl pc : Nat} {lv : List (Nat × Value)} {st : List Value} {a ci k index : Nat} {t : FieldType} {fin : Bool} (hf : FG (xy X).cls index ci k t fin) (ht : kd t = 0) (ho : OB L a ci) (hd : decode (xc X) pc = .ok (.getfield index, 3)) (kk : VV G X Z L M ce sl (pc + 3) lv (.int (eI (M a k)) :: st)) : VV G X Z L M ce sl pc lv (.ref (gA G a) :: st) := by
  obtain ⟨rs, ho⟩ := ho
  exact r_get hf ho (fV_I (by obtain ⟨C, T, -, -, -, -, h, -⟩ := hf; rw [h]; exact ht)) hd kk
theorem r_getJ {G : GG} {X : XX} {Z : ZZ} {L : List LE} {M : MM} {ce sl pc : Nat} {lv : List (Nat × Value)} {st : List Value} {a ci k index : Nat} {t : FieldType} {fin : Bool} (hf : FG (xy X).cls index ci k t fin) (ht : kd t = 1) (ho : OB L a ci) (hd : decode (xc X) pc = .ok (.getfield index, 3)) (kk : VV G X Z L M ce sl (pc + 3) lv (.long (eJ (M a k)) :: st)) : VV G X Z L M ce sl pc lv (.ref (gA G a) :: st) := by
  obtain ⟨rs, ho⟩ := ho
  exact r_get hf ho (fV_J (by obtain ⟨C, T, -, -, -, -, h, -⟩ := hf; rw [h]; exact ht)) hd kk
theorem r_getR {G : GG} {X : XX} {Z : ZZ} {L : List LE} {M : MM} {ce sl pc : Nat} {lv : List (Nat × Value)} {st : List Value} {a b ci k index : Nat} {t : FieldType} {fin : Bool} (hf : FG (xy X).cls index ci k t fin) (ht : kd t = 2) (ho : OB L a ci) (hr : RF L a k b) (hd : decode (xc X) pc = .ok (.getfield index, 3)) (kk : VV G X Z L M ce sl (pc + 3) lv (.ref (gA G b) :: st)) : VV G X Z L M ce sl pc lv (.ref (gA G a) :: st) := by
  obtain ⟨rs, ho⟩ := ho
  obtain ⟨e, h1, h2⟩ := hr
  cases ho.symm.trans h1
  exact r_get hf ho ((fV_R (by obtain ⟨C, T, -, -, -, -, h, -⟩ := hf; rw [h]; exact ht)).trans (by rw [h2]; rfl)) hd kk
theorem fs_set {B : Nat → Nat} {ci k : Nat} {M M' : Nat → Int} {rs : List (Option Nat)} {v : Value} (hk : k < clN ci) (hv : fV B M' ci rs k = v) (ho : ∀ j, j ≠ k → M' j = M j) : ((List.range (clN ci)).map (fV B M ci rs)).set k v = (List.range (clN ci)).map (fV B M' ci rs) := by
  apply List.ext_getElem?
  intro i
  by_cases h : i < clN ci
  · by_cases hi : i = k
    · subst hi
      rw [List.getElem?_set_self (by simpa using h), fs_at h, hv]
    · rw [List.getElem?_set_ne (Ne.symm hi), fs_at h, fs_at h]
      simp [fV, ho i hi]
  · rw [List.getElem?_eq_none (by simpa using h), List.getElem?_eq_none (by simpa using h)]
theorem r_put {G : GG} {X : XX} {Z : ZZ} {L : List LE} {M : MM} {ce sl pc : Nat} {lv : List (Nat × Value)} {st : List Value} {a ci k index : Nat} {t : FieldType} {x : Int} {v : Value} {M' : MM} (hf : FG (xy X).cls index ci k t false) (ho : OB L a ci) (hM : some (mU M a k x) = some M') (hv : ∀ rs, fV (gA G) (mU M a k x a) ci rs k = v) (hn : narrow t v = v) (hfit : fits t v = true) (hd : decode (xc X) pc = .ok (.putfield index, 3)) (kk : VV G X Z L M' ce sl (pc + 3) lv (st)) : VV G X Z L M ce sl pc lv (v :: .ref (gA G a) :: st) := by
  obtain ⟨C, T, ⟨hcl, hin, hty, hnm⟩, hk, hlink, hdecl, ht, hfin⟩ := hf
  obtain ⟨rs, ho⟩ := ho
  cases hM
  intro p e R s m args below meth c hc he H locs ls hP hD hS hl
  refine va_put (ci := ci) (C := C) (T := T) (N := clN ci) (ref := C) (ty := t) (v := v) hc.1 hc.2.1 hc.2.2.2.2.2.1 hin (clT ci) hty hnm hc.2.2.2.2.1 hc.2.2.2.2.2.2.2.1 hP hD hS a (wsO_at ho) hcl k hk (hT_of hc hlink) (by rw [hdecl]; exact fun _ h => h) hfin (by rw [hty k hk, ht]) hn hfit (by simpa using hk) hd (fun H locs hP1 hD1 hS1 => ?_)
  have hE : (wsO G L M).set a (gA G a, .inr (ci, ((List.range (clN ci)).map (fV (gA G) (M a) ci rs)).set k v)) = wsO G L (mU M a k x) := wsO_put ho (by rw [fs_set hk (hv rs) (fun j hj => mU_ne M x (Or.inr hj))]; rfl)
  rw [hE] at hP1 hD1
  exact kk p e R s m args below meth c hc he H locs ls hP1 hD1 hS1 hl
