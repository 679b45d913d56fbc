theorem eI_bits (x : Int) : (eI x).toBitVec = BitVec.ofInt 32 x := rfl
theorem eI_nat (x : Int) : (((eI x).toBitVec.toNat : Nat) : Int) = x % 4294967296 := by
  rw [eI_bits, BitVec.toNat_ofInt]
  have := Int.emod_nonneg x (show (4294967296 : Int) ≠ 0 by decide)
  simp only [Nat.reducePow]
  omega
theorem eI_congr {x y : Int} (h : x % 4294967296 = y % 4294967296) : eI x = eI y := by
  apply Int32.toBitVec_inj.mp
  apply BitVec.eq_of_toNat_eq
  have h1 := eI_nat x
  have h2 := eI_nat y
  omega
theorem eI_of_nat {z : Int32} {y : Int} (h : ((z.toBitVec.toNat : Nat) : Int) = y % 4294967296) : z = eI y := by
  apply Int32.toBitVec_inj.mp
  apply BitVec.eq_of_toNat_eq
  have h2 := eI_nat y
  omega
theorem eI_small {y : Int} {n : Nat} (P : Int32 → Nat → Prop) (hP : ∀ k : Nat, k < n → P (eI (k : Int)) k) (h : 0 ≤ wI y ∧ wI y < (n : Int)) : P (eI y) (wI y).toNat := by
  have h1 : eI y = eI ((wI y).toNat : Int) := by
    rw [show (((wI y).toNat : Nat) : Int) = wI y by omega]
    exact (eI_w y).symm
  have h2 := hP (wI y).toNat (by omega)
  rw [← h1] at h2
  exact h2
theorem eI_sh {y : Int} (h : 0 ≤ wI y ∧ wI y < 32) : ((eI y).toBitVec.smod 32).toNat = (wI y).toNat := eI_small (n := 32) (fun a k => (a.toBitVec.smod 32).toNat = k) (by decide +kernel) h
theorem eI_ush {y : Int} (h : 0 ≤ wI y ∧ wI y < 32) : (((eI y).toUInt32 &&& Int32.toUInt32 31).toBitVec % 32).toNat = (wI y).toNat := eI_small (n := 32) (fun a k => ((a.toUInt32 &&& Int32.toUInt32 31).toBitVec % 32).toNat = k) (by decide +kernel) h
theorem eI_m31 {y : Int} (h : 0 ≤ wI y ∧ wI y < 32) : eI y &&& 31 = eI y := eI_small (n := 32) (fun a _ => a &&& 31 = a) (by decide +kernel) h
theorem eI_shl {x y : Int} (h : 0 ≤ wI y ∧ wI y < 32) : eI x <<< eI y = eI (x * 2 ^ (wI y).toNat) := by
  apply eI_of_nat
  rw [pk_shl (eI x) (eI y) (wI y).toNat (eI_sh h)]
  have e : (((eI x).toBitVec.toNat * 2 ^ (wI y).toNat % 2 ^ 32 : Nat) : Int) = (((eI x).toBitVec.toNat : Nat) : Int) * 2 ^ (wI y).toNat % 4294967296 := by
    rw [Int.natCast_emod, Int.natCast_mul, Int.natCast_pow]; rfl
  rw [e, eI_nat, Int.mul_emod, Int.emod_emod_of_dvd _ (Int.dvd_refl _), ← Int.mul_emod]
theorem eI_shr {x y : Int} (h : 0 ≤ wI y ∧ wI y < 32) : eI x >>> eI y = eI (wI x / 2 ^ (wI y).toNat) := by
  apply Int32.toInt_inj.mp
  rw [pk_shr (eI x) (eI y) (wI y).toNat (eI_sh h), eI_toInt, eI_toInt, Int.shiftRight_eq_div_pow]
  have h2 : (0 : Int) < 2 ^ (wI y).toNat := Int.pow_pos (by decide)
  have hx := wI_ge x
  have hx2 := wI_le x
  push_cast
  generalize (2 : Int) ^ (wI y).toNat = d at h2
  have a1 : -2147483648 ≤ wI x / d := (Int.le_ediv_iff_mul_le h2).mpr (by have : -2147483648 * d ≤ -2147483648 * 1 := Int.mul_le_mul_of_nonpos_left (by omega) (by omega); omega)
  have a2 : wI x / d ≤ 2147483647 := by
    have : wI x / d < 2147483648 := (Int.ediv_lt_iff_lt_mul h2).mpr (by have : 2147483648 * 1 ≤ 2147483648 * d := Int.mul_le_mul_of_nonneg_left (by omega) (by omega); omega)
    omega
  exact (wI_of a1 a2).symm
theorem eI_ushr {x y : Int} (h : 0 ≤ wI y ∧ wI y < 32) : ((eI x).toUInt32 >>> ((eI y).toUInt32 &&& Int32.toUInt32 31)).toInt32 = eI (x % 4294967296 / 2 ^ (wI y).toNat) := by
  apply eI_of_nat
  rw [pk_ushr (eI x) (eI y) (wI y).toNat (eI_ush h)]
  push_cast
  rw [eI_nat]
  have h2 : (0 : Int) < 2 ^ (wI y).toNat := Int.pow_pos (by decide)
  have h3 := Int.emod_nonneg x (show (4294967296 : Int) ≠ 0 by decide)
  have h4 := Int.emod_lt_of_pos x (show (0 : Int) < 4294967296 by decide)
  generalize (2 : Int) ^ (wI y).toNat = d at h2
  have a1 : 0 ≤ x % 4294967296 / d := Int.ediv_nonneg h3 (by omega)
  have a2 : x % 4294967296 / d < 4294967296 := (Int.ediv_lt_iff_lt_mul h2).mpr (by have : 4294967296 * 1 ≤ 4294967296 * d := Int.mul_le_mul_of_nonneg_left (by omega) (by omega); omega)
  omega
theorem eI_and {x y : Int} (k : Nat) (hk : k ≤ 31) (hm : wI y = 2 ^ k - 1) : eI x &&& eI y = eI (x % 2 ^ k) := by
  have hp : (2 : Nat) ^ k ≤ 2 ^ 31 := Nat.pow_le_pow_right (by decide) hk
  have hq : 0 < (2 : Nat) ^ k := Nat.pow_pos (by decide)
  have hc : ((2 ^ k : Nat) : Int) = 2 ^ k := by push_cast; rfl
  have e1 : (eI y).toBitVec.toNat = 2 ^ k - 1 := by
    have h1 := eI_nat y
    rw [show y % 4294967296 = wI y % 4294967296 from by
      have := eI_nat (wI y); rw [eI_w] at this; omega] at h1
    rw [hm, ← hc] at h1
    simp only [Nat.reducePow] at hp
    omega
  rw [pk_and (eI x) k e1]
  have e2 : (((eI x).toBitVec.toNat % 2 ^ k : Nat) : Int) = x % 2 ^ k := by
    push_cast
    rw [eI_nat]
    have hd : ((2 : Int) ^ k) ∣ 4294967296 := by
      refine ⟨2 ^ (32 - k), ?_⟩
      rw [← Int.pow_add]
      rw [show k + (32 - k) = 32 by omega]
      rfl
    exact Int.emod_emod_of_dvd x hd
  rw [← e2]
  rfl
def oI (x y : Int) : Int := (eI x ||| eI y).toInt
def oJ (x y : Int) : Int := (eJ x ||| eJ y).toInt
theorem r_ishl {G : GG} {X : XX} {Z : ZZ} {L : List LE} {M : MM} {ce sl pc : Nat} {lv : List (Nat × Value)} {st : List Value} {x y y' : Int} (hy : wI y = y') (h : 0 ≤ y' ∧ y' < 32) (hd : decode (xc X) pc = .ok (.ishl, 1)) (kk : VV G X Z L M ce sl (pc + 1) lv (.int (eI (x * 2 ^ y'.toNat)) :: st)) : VV G X Z L M ce sl pc lv (.int (eI y) :: .int (eI x) :: st) := by
  subst hy
  intro p e R s m args below meth c hc he H locs ls hP hD hS hl
  refine lv_ishl hc.1 hc.2.1 hd ?_
  rw [eI_m31 h, eI_shl h]
  exact kk p e R s m args below meth c hc he H locs ls hP hD hS hl
theorem r_ishr {G : GG} {X : XX} {Z : ZZ} {L : List LE} {M : MM} {ce sl pc : Nat} {lv : List (Nat × Value)} {st : List Value} {x y x' y' : Int} (hx : wI x = x') (hy : wI y = y') (h : 0 ≤ y' ∧ y' < 32) (hd : decode (xc X) pc = .ok (.ishr, 1)) (kk : VV G X Z L M ce sl (pc + 1) lv (.int (eI (x' / 2 ^ y'.toNat)) :: st)) : VV G X Z L M ce sl pc lv (.int (eI y) :: .int (eI x) :: st) := by
  subst hx hy
  intro p e R s m args below meth c hc he H locs ls hP hD hS hl
  refine lv_ishr hc.1 hc.2.1 hd ?_
  rw [eI_m31 h, eI_shr h]
  exact kk p e R s m args below meth c hc he H locs ls hP hD hS hl
theorem r_iushr {G : GG} {X : XX} {Z : ZZ} {L : List LE} {M : MM} {ce sl pc : Nat} {lv : List (Nat × Value)} {st : List Value} {x y y' : Int} (hy : wI y = y') (h : 0 ≤ y' ∧ y' < 32) (hd : decode (xc X) pc = .ok (.iushr, 1)) (kk : VV G X Z L M ce sl (pc + 1) lv (.int (eI (x % 4294967296 / 2 ^ y'.toNat)) :: st)) : VV G X Z L M ce sl pc lv (.int (eI y) :: .int (eI x) :: st) := by
  subst hy
  intro p e R s m args below meth c hc he H locs ls hP hD hS hl
  exact lv_iushr hc.1 hc.2.1 hd (eI_ushr h) (kk p e R s m args below meth c hc he H locs ls hP hD hS hl)
theorem r_iand {G : GG} {X : XX} {Z : ZZ} {L : List LE} {M : MM} {ce sl pc : Nat} {lv : List (Nat × Value)} {st : List Value} {x y m' : Int} (k : Nat) (hk : k ≤ 31) (hm : wI y = 2 ^ k - 1) (hm' : 2 ^ k = m') (hd : decode (xc X) pc = .ok (.iand, 1)) (kk : VV G X Z L M ce sl (pc + 1) lv (.int (eI (x % m')) :: st)) : VV G X Z L M ce sl pc lv (.int (eI y) :: .int (eI x) :: st) := by
  subst hm'
  intro p e R s m args below meth c hc he H locs ls hP hD hS hl
  refine lv_iand hc.1 hc.2.1 hd ?_
  rw [eI_and k hk hm]
  exact kk p e R s m args below meth c hc he H locs ls hP hD hS hl
theorem r_ior {G : GG} {X : XX} {Z : ZZ} {L : List LE} {M : MM} {ce sl pc : Nat} {lv : List (Nat × Value)} {st : List Value} {x y : Int} (hd : decode (xc X) pc = .ok (.ior, 1)) (kk : VV G X Z L M ce sl (pc + 1) lv (.int (eI (oI x y)) :: st)) : VV G X Z L M ce sl pc lv (.int (eI y) :: .int (eI x) :: st) := by
  intro p e R s m args below meth c hc he H locs ls hP hD hS hl
  refine lv_ior hc.1 hc.2.1 hd ?_
  rw [show eI x ||| eI y = eI (oI x y) from (eI_of _).symm]
  exact kk p e R s m args below meth c hc he H locs ls hP hD hS hl
theorem r_lor {G : GG} {X : XX} {Z : ZZ} {L : List LE} {M : MM} {ce sl pc : Nat} {lv : List (Nat × Value)} {st : List Value} {x y : Int} (hd : decode (xc X) pc = .ok (.lor, 1)) (kk : VV G X Z L M ce sl (pc + 1) lv (.long (eJ (oJ x y)) :: st)) : VV G X Z L M ce sl pc lv (.long (eJ y) :: .long (eJ x) :: st) := by
  intro p e R s m args below meth c hc he H locs ls hP hD hS hl
  refine lv_lor hc.1 hc.2.1 hd ?_
  rw [show eJ x ||| eJ y = eJ (oJ x y) from (eJ_of _).symm]
  exact kk p e R s m args below meth c hc he H locs ls hP hD hS hl
theorem eJ_shl8 (x : Int) : eJ x <<< ((eI 8).toInt64 &&& 63) = eJ (x * 256) := by
  rw [show (eI 8).toInt64 &&& 63 = (8 : Int64) from by decide +kernel]
  apply Int64.toBitVec_inj.mp
  show (BitVec.ofInt 64 x) <<< ((8 : Int64).toBitVec.smod 64) = BitVec.ofInt 64 (x * 256)
  rw [show ((8 : Int64).toBitVec.smod 64) = 8#64 from by decide +kernel]
  apply BitVec.eq_of_toNat_eq
  rw [BitVec.shiftLeft_eq', BitVec.toNat_shiftLeft, Nat.shiftLeft_eq, BitVec.toNat_ofInt, BitVec.toNat_ofInt]
  simp only [BitVec.toNat_ofNat, Nat.reducePow, Nat.reduceMod]
  omega
theorem r_lshl8 {G : GG} {X : XX} {Z : ZZ} {L : List LE} {M : MM} {ce sl pc : Nat} {lv : List (Nat × Value)} {st : List Value} {x : Int} (hd : decode (xc X) pc = .ok (.lshl, 1)) (kk : VV G X Z L M ce sl (pc + 1) lv (.long (eJ (x * 256)) :: st)) : VV G X Z L M ce sl pc lv (.int (eI 8) :: .long (eJ x) :: st) := by
  intro p e R s m args below meth c hc he H locs ls hP hD hS hl
  exact lv_lshl hc.1 hc.2.1 hd (eJ_shl8 x) (kk p e R s m args below meth c hc he H locs ls hP hD hS hl)
def ML (own : String) (idx : Nat) (y : MethodName) (cd : ByteArray) (n : Nat) (t : FieldType) : Prop := Cond.methodLink own idx y ∈ lw_good ∧ Cond.static y ∈ lw_good ∧ Cond.initialized "java/lang/Math" ∈ lw_good ∧ Cond.code y cd n (some t) ∈ lw_good
theorem r_mmax {G : GG} {X : XX} {Z : ZZ} {L : List LE} {M : MM} {ce sl pc : Nat} {lv : List (Nat × Value)} {st : List Value} {x y x' y' : Int} {index : Nat} (hw : ML (xy X).cls index Lib.Math.max.name Lib.Math.max.code 2 .int) (hR : 1 ≤ xf X ∧ (st.map fun v => v.category).sum + 13 ≤ xl X ∧ ce ≤ xmc X ∧ sl ≤ xms X) (hx : wI x = x') (hy : wI y = y') (hd : decode (xc X) pc = .ok (.invokestatic index, 3)) (kk : VV G X Z L M ce sl (pc + 3) lv (.int (eI (max x' y')) :: st)) : VV G X Z L M ce sl pc lv (.int (eI y) :: .int (eI x) :: st) := by
  subst hx hy
  intro p e R s m args below meth c hc he H locs ls hP hD hS hl
  obtain ⟨w1, w2, w3, w4⟩ := hw
  obtain ⟨r1, r2, r3, r4⟩ := hR
  obtain ⟨f1, f2, f3, f4⟩ := hc.2.2.2.2.2.2.2.2.2.2.2
  refine va_mmax hc.1 hc.2.1 (hc.2.2.2.1.trans hl.1.symm) hc.2.2.2.2.1 (hT_of hc w1) (hT_of hc w2) (hT_of hc w3) (hT_of hc w4) (Nat.le_trans r1 f1) (Nat.le_trans r2 f2) (Nat.le_trans r3 f3) (Nat.le_trans r4 f4) hd ?_
  have hE : (if eI x < eI y then eI y else eI x) = eI (max (wI x) (wI y)) := by
    by_cases h : wI x < wI y
    · rw [if_pos (eI_lti.mpr h), Int.max_eq_right (by omega), eI_w]
    · rw [if_neg (fun q => h (eI_lti.mp q)), Int.max_eq_left (by omega), eI_w]
  rw [hE]
  exact kk p e R s m args below meth c hc he H locs ls hP hD hS hl
theorem r_mmin {G : GG} {X : XX} {Z : ZZ} {L : List LE} {M : MM} {ce sl pc : Nat} {lv : List (Nat × Value)} {st : List Value} {x y x' y' : Int} {index : Nat} (hw : ML (xy X).cls index Lib.Math.min.name Lib.Math.min.code 2 .int) (hR : 1 ≤ xf X ∧ (st.map fun v => v.category).sum + 13 ≤ xl X ∧ ce ≤ xmc X ∧ sl ≤ xms X) (hx : wI x = x') (hy : wI y = y') (hd : decode (xc X) pc = .ok (.invokestatic index, 3)) (kk : VV G X Z L M ce sl (pc + 3) lv (.int (eI (min x' y')) :: st)) : VV G X Z L M ce sl pc lv (.int (eI y) :: .int (eI x) :: st) := by
  subst hx hy
  intro p e R s m args below meth c hc he H locs ls hP hD hS hl
  obtain ⟨w1, w2, w3, w4⟩ := hw
  obtain ⟨r1, r2, r3, r4⟩ := hR
  obtain ⟨f1, f2, f3, f4⟩ := hc.2.2.2.2.2.2.2.2.2.2.2
  refine va_mmin hc.1 hc.2.1 (hc.2.2.2.1.trans hl.1.symm) hc.2.2.2.2.1 (hT_of hc w1) (hT_of hc w2) (hT_of hc w3) (hT_of hc w4) (Nat.le_trans r1 f1) (Nat.le_trans r2 f2) (Nat.le_trans r3 f3) (Nat.le_trans r4 f4) hd ?_
  have hE : (if eI y < eI x then eI y else eI x) = eI (min (wI x) (wI y)) := by
    by_cases h : wI y < wI x
    · rw [if_pos (eI_lti.mpr h), Int.min_eq_right (by omega), eI_w]
    · rw [if_neg (fun q => h (eI_lti.mp q)), Int.min_eq_left (by omega), eI_w]
  rw [hE]
  exact kk p e R s m args below meth c hc he H locs ls hP hD hS hl
theorem r_mabs {G : GG} {X : XX} {Z : ZZ} {L : List LE} {M : MM} {ce sl pc : Nat} {lv : List (Nat × Value)} {st : List Value} {x x' : Int} {index : Nat} (hw : ML (xy X).cls index Lib.Math.abs.name Lib.Math.abs.code 1 .int) (hR : 1 ≤ xf X ∧ (st.map fun v => v.category).sum + 13 ≤ xl X ∧ ce ≤ xmc X ∧ sl ≤ xms X) (hx : wI x = x') (hd : decode (xc X) pc = .ok (.invokestatic index, 3)) (kk : VV G X Z L M ce sl (pc + 3) lv (.int (eI (if 0 ≤ x' then x' else -x')) :: st)) : VV G X Z L M ce sl pc lv (.int (eI x) :: st) := by
  subst hx
  intro p e R s m args below meth c hc he H locs ls hP hD hS hl
  obtain ⟨w1, w2, w3, w4⟩ := hw
  obtain ⟨r1, r2, r3, r4⟩ := hR
  obtain ⟨f1, f2, f3, f4⟩ := hc.2.2.2.2.2.2.2.2.2.2.2
  refine va_mabs hc.1 hc.2.1 (hc.2.2.2.1.trans hl.1.symm) hc.2.2.2.2.1 (hT_of hc w1) (hT_of hc w2) (hT_of hc w3) (hT_of hc w4) (Nat.le_trans r1 f1) (Nat.le_trans r2 f2) (Nat.le_trans r3 f3) (Nat.le_trans r4 f4) hd ?_
  have hE : (if 0 ≤ eI x then eI x else 0 - eI x) = eI (if 0 ≤ wI x then wI x else - wI x) := by
    by_cases h : 0 ≤ wI x
    · rw [if_pos (eI_ge0.mpr h), if_pos h, eI_w]
    · rw [if_neg (fun q => h (eI_ge0.mp q)), if_neg h, show eI (- wI x) = - eI (wI x) from Int32.ofInt_neg _, eI_w]
      simp
  rw [hE]
  exact kk p e R s m args below meth c hc he H locs ls hP hD hS hl
theorem QO_of {G : GG} {v : Option Value} {L : List LE} {M : MM} {s t : State} {H : Heap} {locs : List Loc} {args : Array Value} (hP : va_P (gD G) vwCl (wsO G L M) H) (hD : va_D (AG G) (wsO G L M)) (hS : va_S (AG G) s.heap H locs) (ht : t.heap = H) : QO G v L M args s (.returned v) t := ⟨⟨rfl, by rw [ht]; exact hP, hD⟩, hS.F ht⟩
theorem r_iret {G : GG} {X : XX} {L : List LE} {M : MM} {ce sl pc : Nat} {lv : List (Nat × Value)} {x : Int} {t : FieldType} (hr : xr X = some t) (hn : narrow t (.int (eI x)) = .int (eI x)) (h1 : ce ≤ xmc X) (h2 : sl ≤ xms X) (hd : decode (xc X) pc = .ok (.ireturn, 1)) : VV G X (ZM G X (some (.int (eI x))) L M) L M ce sl pc lv [.int (eI x)] := by
  intro p e R s m args below meth c hc he H locs ls hP hD hS hl
  refine W.widen (k := xmc X) (n := xms X) h1 h2 ?_
  exact W.zret hc.1 hc.2.1 (hc.2.2.1.trans hr) hn (fun t ht hW => QO_of hP hD hS ht) hS.2.2 hd (hlocks := hc.2.2.2.2.2.2.1)
theorem r_lret {G : GG} {X : XX} {L : List LE} {M : MM} {ce sl pc : Nat} {lv : List (Nat × Value)} {x : Int} (hr : xr X = some .long) (h1 : ce ≤ xmc X) (h2 : sl ≤ xms X) (hd : decode (xc X) pc = .ok (.lreturn, 1)) : VV G X (ZM G X (some (.long (eJ x))) L M) L M ce sl pc lv [.long (eJ x)] := by
  intro p e R s m args below meth c hc he H locs ls hP hD hS hl
  refine W.widen (k := xmc X) (n := xms X) h1 h2 ?_
  exact W.lret hc.1 hc.2.1 (hc.2.2.1.trans hr) (fun t ht hW => QO_of hP hD hS ht) hS.2.2 hd (hlocks := hc.2.2.2.2.2.2.1)
theorem r_vret {G : GG} {X : XX} {L : List LE} {M : MM} {ce sl pc : Nat} {lv : List (Nat × Value)} (hr : xr X = none) (h1 : ce ≤ xmc X) (h2 : sl ≤ xms X) (hd : decode (xc X) pc = .ok (.return_, 1)) : VV G X (ZM G X none L M) L M ce sl pc lv [] := by
  intro p e R s m args below meth c hc he H locs ls hP hD hS hl
  refine W.widen (k := xmc X) (n := xms X) h1 h2 ?_
  exact W.vret hc.1 hc.2.1 (hc.2.2.1.trans hr) (fun t ht hW => QO_of hP hD hS ht) hS.2.2 hd (hlocks := hc.2.2.2.2.2.2.1)
theorem r_aret {G : GG} {X : XX} {L : List LE} {M : MM} {ce sl pc : Nat} {lv : List (Nat × Value)} {v : Value} {n : String} (hr : xr X = some (.object n)) (hv : v = .null ∨ ∃ a, v = .ref a) (h1 : ce ≤ xmc X) (h2 : sl ≤ xms X) (hd : decode (xc X) pc = .ok (.areturn, 1)) : VV G X (ZM G X (some v) L M) L M ce sl pc lv [v] := by
  intro p e R s m args below meth c hc he H locs ls hP hD hS hl
  refine W.widen (k := xmc X) (n := xms X) h1 h2 ?_
  exact W.aret hc.1 hc.2.1 (hc.2.2.1.trans hr) (Or.inl ⟨n, rfl⟩) hv (fun t ht hW => QO_of hP hD hS ht) hS.2.2 hd (hlocks := hc.2.2.2.2.2.2.1)
theorem GoodIn_T {X : XX} (h : Cond.code (xy X) (xc X) (xn X) (xr X) ∈ lw_good) : GoodIn lw_good (wsT X) := by
  intro w hw
  have hm : w ∈ lw_good := by
    rcases List.mem_cons.mp hw with rfl | hw
    · exact h
    · exact hw
  exact ⟨hm, good_of_word (good_tbl w hm)⟩
theorem RS_at {G : GG} {L : List LE} {M : MM} {s U : State} {H : Heap} {locs : List Loc} (hB : gB G ≤ s.heap.size) (hK : va_K (gD G) vwCl (tysO G) s) (hT : ST G s) (hP : va_P (gD G) vwCl (wsO G L M) H) (hD : va_D (AG G) (wsO G L M)) (hS : va_S (AG G) s.heap H locs) (hU : U.heap = H) (hW : s.WarmedH U.vm) : RS G L M U := ⟨by rw [hU]; exact Nat.le_trans hB hS.1, by rw [hU]; exact hP, hD, va_K.moved hW.alike hK, ST_at hT hW hU hS⟩
theorem RS_blind {G : GG} {L : List LE} {M : MM} {av : List Value} : FrameBlind (va_Pc av (RS G L M)) := fun a U g mk q => by
  obtain ⟨q0, qB, qP, qD, qK, qT⟩ := q
  exact ⟨q0, qB, qP, qD, va_K.moved (u := U) (U := U.calling g mk a) (Vm.Alike.refl U.vm) qK, ST_call qT⟩
/-- a call's static facts: the link, the method, its room -/
def CK (X : XX) (idx : Nat) (Y : XX) (n : Nat) : Prop := Cond.methodLink (xy X).cls idx (xy Y) ∈ lw_good ∧ Cond.initialized (xy Y).cls ∈ lw_good ∧ Cond.code (xy Y) (xc Y) (xn Y) (xr Y) ∈ lw_good ∧ ((xy Y).cls ≠ "java/lang/invoke/MethodHandle" ∧ (xy Y).cls ≠ "java/lang/invoke/VarHandle" ∧ (parseMethodDescriptor (xy Y).desc).map (fun d => d.parameters.length) = some n) ∧ xf Y + 1 ≤ xf X ∧ 8 + (xn Y + 11) + xl Y ≤ xl X
def CKV (X : XX) (idx : Nat) (Y : XX) (n : Nat) : Prop := CK X idx Y n ∧ Cond.instanceMethod (xy Y) ∈ lw_good ∧ Cond.selects (xy Y).cls (xy Y) (xy Y) ∈ lw_good
def CKS (X : XX) (idx : Nat) (Y : XX) (n : Nat) : Prop := CK X idx Y n ∧ Cond.static (xy Y) ∈ lw_good
def CKN (X : XX) (idx : Nat) (Y : XX) (n : Nat) (host : String) : Prop := Cond.methodLinkNest (xy X).cls idx (xy Y) host ∈ lw_nst ∧ Cond.initialized (xy Y).cls ∈ lw_good ∧ Cond.code (xy Y) (xc Y) (xn Y) (xr Y) ∈ lw_good ∧ ((xy Y).cls ≠ "java/lang/invoke/MethodHandle" ∧ (xy Y).cls ≠ "java/lang/invoke/VarHandle" ∧ (parseMethodDescriptor (xy Y).desc).map (fun d => d.parameters.length) = some n) ∧ xf Y + 1 ≤ xf X ∧ 8 + (xn Y + 11) + xl Y ≤ xl X ∧ Cond.static (xy Y) ∈ lw_good
theorem VV_run {G : GG} {X : XX} {Z : ZZ} {L : List LE} {M : MM} {ce sl pc : Nat} {lv : List (Nat × Value)} {st : List Value} {Y : XX} {v : Option Value} {L' : List LE} {M' : MM} {av : Array Value} {rest : List Value} (hr : ∀ (p : Program) (e : Env) (R : Room) (s : State) (m : MethodId) (args : Array Value) (below : List Frame) (meth : Method) (c : Code) (H : Heap) (locs : List Loc) (ls : Array Slot), CX G X p R s m args meth c → va_P (gD G) vwCl (wsO G L M) H → va_D (AG G) (wsO G L M) → va_S (AG G) s.heap H locs → ls.size = xn X → va_Run p (gl G) e R s m args below meth c H locs ce sl (xmc Y) (xms Y) (F0 m pc ls st) rest (QO G v L' M' av) (AG G)) (kk : VV G X Z L' M' (ce + xmc Y) (sl + xms Y) (pc + 3) lv (v.toList ++ rest)) : VV G X Z L M ce sl pc lv (st) := by
  intro p e R s m args below meth c hc he H locs ls hP hD hS hl
  intro T hT X0
  obtain ⟨v0, st₀, t, T', L0, h0, X', hL, e1, e2, ⟨⟨hv, hP1, hD1⟩, hz, hk⟩, st1⟩ := hr p e R s m args below meth c H locs ls hc hP hD hS hl.1 T hT X0
  cases hv
  rw [h0] at hz hk
  have hS1 : va_S (AG G) s.heap T'.heap (locs ++ L0) := ⟨Nat.le_trans hS.1 (by rw [e1]; exact hz), fun q h1 h2 => by rw [e1, hk q (Nat.lt_of_lt_of_le h1 hS.1) h2]; exact hS.2.1 q h1 h2, fun q hq => by
      rcases List.mem_append.mp hq with h | h
      · exact hS.2.2 q h
      · exact hL q h⟩
  obtain ⟨t2, a1, b1⟩ := kk p e R s m args below meth c hc he T'.heap (locs ++ L0) ls (by rw [e1]; exact hP1) hD1 hS1 hl T' rfl X'
  exact ⟨t2, st1 t2 a1, b1⟩
theorem r_callV {G : GG} {X : XX} {Z : ZZ} {L : List LE} {M : MM} {ce sl pc : Nat} {lv : List (Nat × Value)} {st : List Value} {Y : XX} {a ci index n : Nat} {C : vw_C} {As rest : List Value} {v : Option Value} {L' : List LE} {M' : MM} (hk : CKV X index Y n) (hC : CO G Y (.ref (gA G a) :: As) L M v L' M') (ho : OB L a ci) (hci : vwCl[ci]? = some C) (hcn : C.1 = (xy Y).cls) (hst : st = As.reverse ++ .ref (gA G a) :: rest) (hn : As.length = n) (hcat : (rest.map fun v => v.category).sum ≤ 8) (hf : ce + xmc Y ≤ xmc X ∧ sl + xms Y ≤ xms X) (hd : decode (xc X) pc = .ok (.invokevirtual index, 3)) (kk : VV G X Z L' M' (ce + xmc Y) (sl + xms Y) (pc + 3) lv (v.toList ++ rest)) : VV G X Z L M ce sl pc lv (st) := by
  refine VV_run (av := (Value.ref (gA G a) :: As).toArray) (Y := Y) (rest := rest) (fun p e R s m args below meth c H locs ls hc hP hD hS hl => ?_) kk
  obtain ⟨⟨k1, k2, k3, k4, k5, k6⟩, k7, k8⟩ := hk
  obtain ⟨f1, f2, f3, f4⟩ := hc.2.2.2.2.2.2.2.2.2.2.2
  obtain ⟨rs, ho⟩ := ho
  have hG := GoodIn_T k3
  refine va_runV (As := As) (rest := rest) (C := (xy Y).cls) (bytes := xc Y) (maxL := xn Y) (ret := xr Y) ⟨hc.1, hc.2.1, hc.2.2.2.1, hc.2.2.2.2.1, hc.2.2.2.2.2.1⟩ hC ⟨callB_of n hc.2.2.2.2.2.1 hG rfl rfl rfl (hT_of hc k2) (hT_of hc k1) k4 ⟨Nat.le_trans k5 f1, Nat.le_trans k6 f2⟩, hT_of hc k7, hT_of hc k8⟩ ⟨RS_blind, ?_, fun U hU hW => ⟨rfl, RS_at hc.2.2.2.2.2.2.2.2.2.2.1 hc.2.2.2.2.2.2.2.1 hc.2.2.2.2.2.2.2.2.1 hP hD hS hU hW⟩⟩ rfl hn hl hst (lv_room hcat) hd ⟨Nat.le_trans hf.1 f3, Nat.le_trans hf.2 f4⟩
  rw [← hcn]
  exact va_recv hc.2.2.2.2.2.2.2.1 hP hci (wsO_at ho)
theorem r_callS {G : GG} {X : XX} {Z : ZZ} {L : List LE} {M : MM} {ce sl pc : Nat} {lv : List (Nat × Value)} {st : List Value} {Y : XX} {index n : Nat} {As rest : List Value} {v : Option Value} {L' : List LE} {M' : MM} (hk : CKS X index Y n) (hC : CO G Y As L M v L' M') (hst : st = As.reverse ++ rest) (hn : As.length = n) (hcat : (rest.map fun v => v.category).sum ≤ 8) (hf : ce + xmc Y ≤ xmc X ∧ sl + xms Y ≤ xms X) (hd : decode (xc X) pc = .ok (.invokestatic index, 3)) (kk : VV G X Z L' M' (ce + xmc Y) (sl + xms Y) (pc + 3) lv (v.toList ++ rest)) : VV G X Z L M ce sl pc lv (st) := by
  refine VV_run (av := As.toArray) (Y := Y) (rest := rest) (fun p e R s m args below meth c H locs ls hc hP hD hS hl => ?_) kk
  obtain ⟨⟨k1, k2, k3, k4, k5, k6⟩, k7⟩ := hk
  obtain ⟨f1, f2, f3, f4⟩ := hc.2.2.2.2.2.2.2.2.2.2.2
  exact va_runS (As := As) (rest := rest) (bytes := xc Y) (maxL := xn Y) (ret := xr Y) ⟨hc.1, hc.2.1, hc.2.2.2.1, hc.2.2.2.2.1, hc.2.2.2.2.2.1⟩ hC ⟨callB_of n hc.2.2.2.2.2.1 (GoodIn_T k3) rfl rfl rfl (hT_of hc k2) (hT_of hc k1) k4 ⟨Nat.le_trans k5 f1, Nat.le_trans k6 f2⟩, hT_of hc k7⟩ ⟨RS_blind, fun U hU hW => ⟨rfl, RS_at hc.2.2.2.2.2.2.2.2.2.2.1 hc.2.2.2.2.2.2.2.1 hc.2.2.2.2.2.2.2.2.1 hP hD hS hU hW⟩⟩ rfl hn hl hst (lv_room hcat) hd ⟨Nat.le_trans hf.1 f3, Nat.le_trans hf.2 f4⟩
theorem r_callN {G : GG} {X : XX} {Z : ZZ} {L : List LE} {M : MM} {ce sl pc : Nat} {lv : List (Nat × Value)} {st : List Value} {Y : XX} {index n : Nat} {host : String} {As rest : List Value} {v : Option Value} {L' : List LE} {M' : MM} (hk : CKN X index Y n host) (hC : CO G Y As L M v L' M') (hst : st = As.reverse ++ rest) (hn : As.length = n) (hcat : (rest.map fun v => v.category).sum ≤ 8) (hf : ce + xmc Y ≤ xmc X ∧ sl + xms Y ≤ xms X) (hd : decode (xc X) pc = .ok (.invokestatic index, 3)) (kk : VV G X Z L' M' (ce + xmc Y) (sl + xms Y) (pc + 3) lv (v.toList ++ rest)) : VV G X Z L M ce sl pc lv (st) := by
  refine VV_run (av := As.toArray) (Y := Y) (rest := rest) (fun p e R s m args below meth c H locs ls hc hP hD hS hl => ?_) kk
  obtain ⟨k1, k2, k3, k4, k5, k6, k7⟩ := hk
  obtain ⟨f1, f2, f3, f4⟩ := hc.2.2.2.2.2.2.2.2.2.2.2
  exact va_runSN (As := As) (rest := rest) (bytes := xc Y) (maxL := xn Y) (ret := xr Y) ⟨hc.1, hc.2.1, hc.2.2.2.1, hc.2.2.2.2.1, hc.2.2.2.2.2.1⟩ hC ⟨va_cnB n hc.2.2.2.2.2.1 (GoodIn_T k3) rfl rfl rfl (hc.2.2.2.2.2.2.2.2.1.2.2.2.2.1 _ k1) (hT_of hc k2) k4 ⟨Nat.le_trans k5 f1, Nat.le_trans k6 f2⟩, hT_of hc k7, trivial⟩ ⟨RS_blind, fun U hU hW => ⟨rfl, RS_at hc.2.2.2.2.2.2.2.2.2.2.1 hc.2.2.2.2.2.2.2.1 hc.2.2.2.2.2.2.2.2.1 hP hD hS hU hW⟩⟩ rfl hn hl hst (lv_room hcat) hd ⟨Nat.le_trans hf.1 f3, Nat.le_trans hf.2 f4⟩
