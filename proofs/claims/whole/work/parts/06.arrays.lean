theorem r_iald {G : GG} {X : XX} {Z : ZZ} {L : List LE} {M : MM} {ce sl pc : Nat} {lv : List (Nat × Value)} {st : List Value} {a n j : Nat} {i i' : Int} (ha : AR L a 1 n) (hi : wI i = i') (hin : 0 ≤ i' ∧ i' < (n : Int)) (hj : i'.toNat = j) (hd : decode (xc X) pc = .ok (.iaload, 1)) (kk : VV G X Z L M ce sl (pc + 1) lv (.int (eI (M a j)) :: st)) : VV G X Z L M ce sl pc lv (.int (eI i) :: .ref (gA G a) :: st) := by
  subst hi hj
  obtain ⟨rs, ha⟩ := ha
  intro p e R s m args below meth c hc he H locs ls hP hD hS hl
  refine va_iald hc.1 hc.2.1 hc.2.2.2.2.2.2.2.1 hP a 0 (wsO_at ha) rfl (eI_in hin) hd ?_
  rw [eI_clamp]
  exact kk p e R s m args below meth c hc he H locs ls hP hD hS hl
theorem r_lald {G : GG} {X : XX} {Z : ZZ} {L : List LE} {M : MM} {ce sl pc : Nat} {lv : List (Nat × Value)} {st : List Value} {a n j : Nat} {i i' : Int} (ha : AR L a 2 n) (hi : wI i = i') (hin : 0 ≤ i' ∧ i' < (n : Int)) (hj : i'.toNat = j) (hd : decode (xc X) pc = .ok (.laload, 1)) (kk : VV G X Z L M ce sl (pc + 1) lv (.long (eJ (M a j)) :: st)) : VV G X Z L M ce sl pc lv (.int (eI i) :: .ref (gA G a) :: st) := by
  subst hi hj
  obtain ⟨rs, ha⟩ := ha
  intro p e R s m args below meth c hc he H locs ls hP hD hS hl
  refine va_lald hc.1 hc.2.1 hc.2.2.2.2.2.2.2.1 hP a 1 (wsO_at ha) rfl (eI_in hin) hd ?_
  rw [eI_clamp]
  exact kk p e R s m args below meth c hc he H locs ls hP hD hS hl
theorem r_bald {G : GG} {X : XX} {Z : ZZ} {L : List LE} {M : MM} {ce sl pc : Nat} {lv : List (Nat × Value)} {st : List Value} {a n j : Nat} {i i' : Int} (ha : AR L a 3 n) (hi : wI i = i') (hin : 0 ≤ i' ∧ i' < (n : Int)) (hj : i'.toNat = j) (hd : decode (xc X) pc = .ok (.baload, 1)) (kk : VV G X Z L M ce sl (pc + 1) lv (.int (eI (M a j)) :: st)) : VV G X Z L M ce sl pc lv (.int (eI i) :: .ref (gA G a) :: st) := by
  subst hi hj
  obtain ⟨rs, ha⟩ := ha
  intro p e R s m args below meth c hc he H locs ls hP hD hS hl
  refine va_bald hc.1 hc.2.1 hc.2.2.2.2.2.2.2.1 hP a 2 (wsO_at ha) rfl (eI_in hin) hd ?_
  rw [eI_clamp]
  exact kk p e R s m args below meth c hc he H locs ls hP hD hS hl
theorem r_zald {G : GG} {X : XX} {Z : ZZ} {L : List LE} {M : MM} {ce sl pc : Nat} {lv : List (Nat × Value)} {st : List Value} {a n j : Nat} {i i' : Int} (ha : AR L a 4 n) (hi : wI i = i') (hin : 0 ≤ i' ∧ i' < (n : Int)) (hj : i'.toNat = j) (hd : decode (xc X) pc = .ok (.baload, 1)) (kk : VV G X Z L M ce sl (pc + 1) lv (.int (eI (M a j)) :: st)) : VV G X Z L M ce sl pc lv (.int (eI i) :: .ref (gA G a) :: st) := by
  subst hi hj
  obtain ⟨rs, ha⟩ := ha
  intro p e R s m args below meth c hc he H locs ls hP hD hS hl
  refine va_zald hc.1 hc.2.1 hc.2.2.2.2.2.2.2.1 hP a 3 (wsO_at ha) rfl (eI_in hin) hd ?_
  rw [eI_clamp]
  exact kk p e R s m args below meth c hc he H locs ls hP hD hS hl
theorem r_iast {G : GG} {X : XX} {Z : ZZ} {L : List LE} {M : MM} {ce sl pc : Nat} {lv : List (Nat × Value)} {st : List Value} {a n j : Nat} {i i' x : Int} {M' : MM} (ha : AR L a 1 n) (hi : wI i = i') (hin : 0 ≤ i' ∧ i' < (n : Int)) (hj : i'.toNat = j) (hM : some (mU M a j x) = some M') (hd : decode (xc X) pc = .ok (.iastore, 1)) (kk : VV G X Z L M' ce sl (pc + 1) lv (st)) : VV G X Z L M ce sl pc lv (.int (eI x) :: .int (eI i) :: .ref (gA G a) :: st) := by
  subst hi hj
  obtain ⟨rs, ha⟩ := ha
  cases hM
  intro p e R s m args below meth c hc he H locs ls hP hD hS hl
  refine va_iast hc.1 hc.2.1 hc.2.2.2.2.2.2.2.1 hP hD hS a 0 (wsO_at ha) rfl (eI_in hin) hd (fun H locs hP1 hD1 hS1 => ?_)
  rw [eI_clamp] at hP1 hD1
  have hE := wsO_put (G := G) (M := M) (a := a) (k := (wI i).toNat) (x := x) ha rfl
  have hrow : (fun j => eI (mU M a (wI i).toNat x a j)) = upd (fun j => eI (M a j)) (wI i).toNat (eI x) := by
    funext z
    by_cases hz : z = (wI i).toNat
    · subst hz; simp [upd, mU]
    · simp [upd, mU, hz]
  have hF : cE G (mU M a (wI i).toNat x a) (1, n, rs) = .inl (gcy G 1, n, .inl (upd (fun j => eI (M a j)) (wI i).toNat (eI x))) := by
    rw [← hrow]; rfl
  rw [hF] at hE
  rw [hE] at hP1 hD1
  exact kk p e R s m args below meth c hc he H locs ls hP1 hD1 hS1 hl
theorem r_last {G : GG} {X : XX} {Z : ZZ} {L : List LE} {M : MM} {ce sl pc : Nat} {lv : List (Nat × Value)} {st : List Value} {a n j : Nat} {i i' x : Int} {M' : MM} (ha : AR L a 2 n) (hi : wI i = i') (hin : 0 ≤ i' ∧ i' < (n : Int)) (hj : i'.toNat = j) (hM : some (mU M a j x) = some M') (hd : decode (xc X) pc = .ok (.lastore, 1)) (kk : VV G X Z L M' ce sl (pc + 1) lv (st)) : VV G X Z L M ce sl pc lv (.long (eJ x) :: .int (eI i) :: .ref (gA G a) :: st) := by
  subst hi hj
  obtain ⟨rs, ha⟩ := ha
  cases hM
  intro p e R s m args below meth c hc he H locs ls hP hD hS hl
  refine va_last hc.1 hc.2.1 hc.2.2.2.2.2.2.2.1 hP hD hS a 1 (wsO_at ha) rfl (eI_in hin) hd (fun H locs hP1 hD1 hS1 => ?_)
  rw [eI_clamp] at hP1 hD1
  have hE := wsO_put (G := G) (M := M) (a := a) (k := (wI i).toNat) (x := x) ha rfl
  have hrow : (fun j => eJ (mU M a (wI i).toNat x a j)) = vp_updL (fun j => eJ (M a j)) (wI i).toNat (eJ x) := by
    funext z
    by_cases hz : z = (wI i).toNat
    · subst hz; simp [vp_updL, mU]
    · simp [vp_updL, mU, hz]
  have hF : cE G (mU M a (wI i).toNat x a) (2, n, rs) = .inl (gcy G 2, n, .inr (.inl (vp_updL (fun j => eJ (M a j)) (wI i).toNat (eJ x)))) := by
    rw [← hrow]; rfl
  rw [hF] at hE
  rw [hE] at hP1 hD1
  exact kk p e R s m args below meth c hc he H locs ls hP1 hD1 hS1 hl
theorem r_bast {G : GG} {X : XX} {Z : ZZ} {L : List LE} {M : MM} {ce sl pc : Nat} {lv : List (Nat × Value)} {st : List Value} {a n j : Nat} {i i' x : Int} {M' : MM} (ha : AR L a 3 n) (hi : wI i = i') (hin : 0 ≤ i' ∧ i' < (n : Int)) (hj : i'.toNat = j) (hM : some (mU M a j x) = some M') (hn : vp_nar .byte (eI x) = eI x) (hd : decode (xc X) pc = .ok (.bastore, 1)) (kk : VV G X Z L M' ce sl (pc + 1) lv (st)) : VV G X Z L M ce sl pc lv (.int (eI x) :: .int (eI i) :: .ref (gA G a) :: st) := by
  subst hi hj
  obtain ⟨rs, ha⟩ := ha
  cases hM
  intro p e R s m args below meth c hc he H locs ls hP hD hS hl
  refine va_bast hc.1 hc.2.1 hc.2.2.2.2.2.2.2.1 hP hD hS a 2 (wsO_at ha) rfl (eI_in hin) hd (fun H locs hP1 hD1 hS1 => ?_)
  rw [hn] at hP1 hD1
  rw [eI_clamp] at hP1 hD1
  have hE := wsO_put (G := G) (M := M) (a := a) (k := (wI i).toNat) (x := x) ha rfl
  have hrow : (fun j => eI (mU M a (wI i).toNat x a j)) = upd (fun j => eI (M a j)) (wI i).toNat (eI x) := by
    funext z
    by_cases hz : z = (wI i).toNat
    · subst hz; simp [upd, mU]
    · simp [upd, mU, hz]
  have hF : cE G (mU M a (wI i).toNat x a) (3, n, rs) = .inl (gcy G 3, n, .inl (upd (fun j => eI (M a j)) (wI i).toNat (eI x))) := by
    rw [← hrow]; rfl
  rw [hF] at hE
  rw [hE] at hP1 hD1
  exact kk p e R s m args below meth c hc he H locs ls hP1 hD1 hS1 hl
theorem r_zast {G : GG} {X : XX} {Z : ZZ} {L : List LE} {M : MM} {ce sl pc : Nat} {lv : List (Nat × Value)} {st : List Value} {a n j : Nat} {i i' x : Int} {M' : MM} (ha : AR L a 4 n) (hi : wI i = i') (hin : 0 ≤ i' ∧ i' < (n : Int)) (hj : i'.toNat = j) (hM : some (mU M a j x) = some M') (hn : vp_nar .boolean (eI x) = eI x) (hd : decode (xc X) pc = .ok (.bastore, 1)) (kk : VV G X Z L M' ce sl (pc + 1) lv (st)) : VV G X Z L M ce sl pc lv (.int (eI x) :: .int (eI i) :: .ref (gA G a) :: st) := by
  subst hi hj
  obtain ⟨rs, ha⟩ := ha
  cases hM
  intro p e R s m args below meth c hc he H locs ls hP hD hS hl
  refine va_zast hc.1 hc.2.1 hc.2.2.2.2.2.2.2.1 hP hD hS a 3 (wsO_at ha) rfl (eI_in hin) hd (fun H locs hP1 hD1 hS1 => ?_)
  rw [hn] at hP1 hD1
  rw [eI_clamp] at hP1 hD1
  have hE := wsO_put (G := G) (M := M) (a := a) (k := (wI i).toNat) (x := x) ha rfl
  have hrow : (fun j => eI (mU M a (wI i).toNat x a j)) = upd (fun j => eI (M a j)) (wI i).toNat (eI x) := by
    funext z
    by_cases hz : z = (wI i).toNat
    · subst hz; simp [upd, mU]
    · simp [upd, mU, hz]
  have hF : cE G (mU M a (wI i).toNat x a) (4, n, rs) = .inl (gcy G 4, n, .inl (upd (fun j => eI (M a j)) (wI i).toNat (eI x))) := by
    rw [← hrow]; rfl
  rw [hF] at hE
  rw [hE] at hP1 hD1
  exact kk p e R s m args below meth c hc he H locs ls hP1 hD1 hS1 hl
theorem r_alen {G : GG} {X : XX} {Z : ZZ} {L : List LE} {M : MM} {ce sl pc : Nat} {lv : List (Nat × Value)} {st : List Value} {a q n : Nat} (hq : q = 1 ∨ q = 2 ∨ q = 3 ∨ q = 4) (ha : AR L a q n) (hd : decode (xc X) pc = .ok (.arraylength, 1)) (kk : VV G X Z L M ce sl (pc + 1) lv (.int (eI (n : Int)) :: st)) : VV G X Z L M ce sl pc lv (.ref (gA G a) :: st) := by
  obtain ⟨rs, ha⟩ := ha
  intro p e R s m args below meth c hc he H locs ls hP hD hS hl
  rcases hq with rfl | rfl | rfl | rfl
  · exact va_alen hc.1 hc.2.1 hc.2.2.2.2.2.2.2.1 hP a 0 (wsO_at ha) rfl (by rfl) hd (kk p e R s m args below meth c hc he H locs ls hP hD hS hl)
  · exact va_alen hc.1 hc.2.1 hc.2.2.2.2.2.2.2.1 hP a 1 (wsO_at ha) rfl (by rfl) hd (kk p e R s m args below meth c hc he H locs ls hP hD hS hl)
  · exact va_alen hc.1 hc.2.1 hc.2.2.2.2.2.2.2.1 hP a 2 (wsO_at ha) rfl (by rfl) hd (kk p e R s m args below meth c hc he H locs ls hP hD hS hl)
  · exact va_alen hc.1 hc.2.1 hc.2.2.2.2.2.2.2.1 hP a 3 (wsO_at ha) rfl (by rfl) hd (kk p e R s m args below meth c hc he H locs ls hP hD hS hl)
theorem r_aald5 {G : GG} {X : XX} {Z : ZZ} {L : List LE} {M : MM} {ce sl pc : Nat} {lv : List (Nat × Value)} {st : List Value} {a b n j : Nat} {i i' : Int} (ha : AR L a 5 n) (hi : wI i = i') (hin : 0 ≤ i' ∧ i' < (n : Int)) (hj : i'.toNat = j) (hb : RF L a j b) (hd : decode (xc X) pc = .ok (.aaload, 1)) (kk : VV G X Z L M ce sl (pc + 1) lv (.ref (gA G b) :: st)) : VV G X Z L M ce sl pc lv (.int (eI i) :: .ref (gA G a) :: st) := by
  subst hi hj
  obtain ⟨rs, ha⟩ := ha
  obtain ⟨e', h1, h2⟩ := hb
  cases ha.symm.trans h1
  intro p e R s m args below meth c hc he H locs ls hP hD hS hl
  refine va_aldq (C := RX1) hc.1 hc.2.1 hc.2.2.2.2.2.2.2.1 hP a 4 (wsO_at ha) rfl (eI_in hin) hd ?_
  rw [eI_clamp]
  dsimp only at h2 ⊢
  rw [h2]
  exact kk p e R s m args below meth c hc he H locs ls hP hD hS hl
theorem r_aald6 {G : GG} {X : XX} {Z : ZZ} {L : List LE} {M : MM} {ce sl pc : Nat} {lv : List (Nat × Value)} {st : List Value} {a b n j : Nat} {i i' : Int} (ha : AR L a 6 n) (hi : wI i = i') (hin : 0 ≤ i' ∧ i' < (n : Int)) (hj : i'.toNat = j) (hb : RF L a j b) (hd : decode (xc X) pc = .ok (.aaload, 1)) (kk : VV G X Z L M ce sl (pc + 1) lv (.ref (gA G b) :: st)) : VV G X Z L M ce sl pc lv (.int (eI i) :: .ref (gA G a) :: st) := by
  subst hi hj
  obtain ⟨rs, ha⟩ := ha
  obtain ⟨e', h1, h2⟩ := hb
  cases ha.symm.trans h1
  intro p e R s m args below meth c hc he H locs ls hP hD hS hl
  refine va_aldq (C := RX3) hc.1 hc.2.1 hc.2.2.2.2.2.2.2.1 hP a 5 (wsO_at ha) rfl (eI_in hin) hd ?_
  rw [eI_clamp]
  dsimp only at h2 ⊢
  rw [h2]
  exact kk p e R s m args below meth c hc he H locs ls hP hD hS hl
theorem r_aald7 {G : GG} {X : XX} {Z : ZZ} {L : List LE} {M : MM} {ce sl pc : Nat} {lv : List (Nat × Value)} {st : List Value} {a b n j : Nat} {i i' : Int} (ha : AR L a 7 n) (hi : wI i = i') (hin : 0 ≤ i' ∧ i' < (n : Int)) (hj : i'.toNat = j) (hb : RF L a j b) (hd : decode (xc X) pc = .ok (.aaload, 1)) (kk : VV G X Z L M ce sl (pc + 1) lv (.ref (gA G b) :: st)) : VV G X Z L M ce sl pc lv (.int (eI i) :: .ref (gA G a) :: st) := by
  subst hi hj
  obtain ⟨rs, ha⟩ := ha
  obtain ⟨e', h1, h2⟩ := hb
  cases ha.symm.trans h1
  intro p e R s m args below meth c hc he H locs ls hP hD hS hl
  refine va_aldq (C := RX5) hc.1 hc.2.1 hc.2.2.2.2.2.2.2.1 hP a 6 (wsO_at ha) rfl (eI_in hin) hd ?_
  rw [eI_clamp]
  dsimp only at h2 ⊢
  rw [h2]
  exact kk p e R s m args below meth c hc he H locs ls hP hD hS hl
theorem r_aald8 {G : GG} {X : XX} {Z : ZZ} {L : List LE} {M : MM} {ce sl pc : Nat} {lv : List (Nat × Value)} {st : List Value} {a b n j : Nat} {i i' : Int} (ha : AR L a 8 n) (hi : wI i = i') (hin : 0 ≤ i' ∧ i' < (n : Int)) (hj : i'.toNat = j) (hb : RF L a j b) (hd : decode (xc X) pc = .ok (.aaload, 1)) (kk : VV G X Z L M ce sl (pc + 1) lv (.ref (gA G b) :: st)) : VV G X Z L M ce sl pc lv (.int (eI i) :: .ref (gA G a) :: st) := by
  subst hi hj
  obtain ⟨rs, ha⟩ := ha
  obtain ⟨e', h1, h2⟩ := hb
  cases ha.symm.trans h1
  intro p e R s m args below meth c hc he H locs ls hP hD hS hl
  refine va_aldq (C := RX8) hc.1 hc.2.1 hc.2.2.2.2.2.2.2.1 hP a 7 (wsO_at ha) rfl (eI_in hin) hd ?_
  rw [eI_clamp]
  dsimp only at h2 ⊢
  rw [h2]
  exact kk p e R s m args below meth c hc he H locs ls hP hD hS hl
theorem r_aald9 {G : GG} {X : XX} {Z : ZZ} {L : List LE} {M : MM} {ce sl pc : Nat} {lv : List (Nat × Value)} {st : List Value} {a b n j : Nat} {i i' : Int} (ha : AR L a 9 n) (hi : wI i = i') (hin : 0 ≤ i' ∧ i' < (n : Int)) (hj : i'.toNat = j) (hb : RF L a j b) (hd : decode (xc X) pc = .ok (.aaload, 1)) (kk : VV G X Z L M ce sl (pc + 1) lv (.ref (gA G b) :: st)) : VV G X Z L M ce sl pc lv (.int (eI i) :: .ref (gA G a) :: st) := by
  subst hi hj
  obtain ⟨rs, ha⟩ := ha
  obtain ⟨e', h1, h2⟩ := hb
  cases ha.symm.trans h1
  intro p e R s m args below meth c hc he H locs ls hP hD hS hl
  refine va_aldq (C := RX9) hc.1 hc.2.1 hc.2.2.2.2.2.2.2.1 hP a 8 (wsO_at ha) rfl (eI_in hin) hd ?_
  rw [eI_clamp]
  dsimp only at h2 ⊢
  rw [h2]
  exact kk p e R s m args below meth c hc he H locs ls hP hD hS hl
theorem sY_int {j : Nat} (h : j < 4) : sY j = .int := by
  have h4 : j = 0 ∨ j = 1 ∨ j = 2 ∨ j = 3 := by omega
  rcases h4 with rfl | rfl | rfl | rfl <;> rfl
theorem sF_int {j k : Nat} (h : j < 4) : sF j k = .int (eI ((sT j).getD k 0)) := by
  unfold sF; rw [if_neg (by omega)]
def SG (own : String) (idx j : Nat) : Prop := j < 5 ∧ (Cond.fieldLink own idx RX11 (sN j) (sD j) ∈ lw_good ∨ ∃ h, Cond.fieldLinkNest own idx RX11 (sN j) (sD j) h ∈ lw_nst)
theorem r_gets {G : GG} {X : XX} {Z : ZZ} {L : List LE} {M : MM} {ce sl pc : Nat} {lv : List (Nat × Value)} {st : List Value} {j index : Nat} (hf : SG (xy X).cls index j) (hd : decode (xc X) pc = .ok (.getstatic index, 3)) (kk : VV G X Z L M ce sl (pc + 3) lv (.ref (gzs G j) :: st)) : VV G X Z L M ce sl pc lv (st) := by
  obtain ⟨hj, h⟩ := hf
  intro p e R s m args below meth c hc he H locs ls hP hD hS hl
  have hZ := (hc.2.2.2.2.2.2.2.2.1.1 j hj).1
  rcases h with h | ⟨host, h⟩
  · exact va_gets hc.1 hc.2.1 hZ hS hc.2.2.2.2.1 (hT_of hc h) (fun _ h => h) hd (kk p e R s m args below meth c hc he H locs ls hP hD hS hl)
  · exact va_getsN hc.1 hc.2.1 hZ hS hc.2.2.2.2.1 (va_Nw.use rfl (hc.2.2.2.2.2.2.2.2.1.2.2.2.2.1 _ h)) (fun _ h => h) hd (kk p e R s m args below meth c hc he H locs ls hP hD hS hl)
theorem r_tald {G : GG} {X : XX} {Z : ZZ} {L : List LE} {M : MM} {ce sl pc : Nat} {lv : List (Nat × Value)} {st : List Value} {j q n : Nat} {i i' : Int} (hj : j < 4) (hn : (sT j).length = n) (hi : wI i = i') (hin : 0 ≤ i' ∧ i' < (n : Int)) (hq : i'.toNat = q) (hd : decode (xc X) pc = .ok (.iaload, 1)) (kk : VV G X Z L M ce sl (pc + 1) lv (.int (eI ((sT j).getD q 0)) :: st)) : VV G X Z L M ce sl pc lv (.int (eI i) :: .ref (gzs G j) :: st) := by
  subst hi hq hn
  intro p e R s m args below meth c hc he H locs ls hP hD hS hl
  have hT := (hc.2.2.2.2.2.2.2.2.1.1 j (by omega)).2
  rw [sY_int hj] at hT
  refine va_ti hc.1 hc.2.1 hT hS (eI_in hin) (v := .int (eI ((sT j).getD (wI i).toNat 0))) ?_ hd (kk p e R s m args below meth c hc he H locs ls hP hD hS hl)
  rw [eI_clamp]; exact sF_int hj
theorem r_taldl {G : GG} {X : XX} {Z : ZZ} {L : List LE} {M : MM} {ce sl pc : Nat} {lv : List (Nat × Value)} {st : List Value} {q : Nat} {i i' : Int} (hi : wI i = i') (hin : 0 ≤ i' ∧ i' < 16) (hq : i'.toNat = q) (hd : decode (xc X) pc = .ok (.laload, 1)) (kk : VV G X Z L M ce sl (pc + 1) lv (.long (eJ ((sT 4).getD q 0)) :: st)) : VV G X Z L M ce sl pc lv (.int (eI i) :: .ref (gzs G 4) :: st) := by
  subst hi hq
  intro p e R s m args below meth c hc he H locs ls hP hD hS hl
  have hT := (hc.2.2.2.2.2.2.2.2.1.1 4 (by omega)).2
  refine va_tl hc.1 hc.2.1 hT hS (eI_in (n := 16) hin) (v := .long (eJ ((sT 4).getD (wI i).toNat 0))) ?_ hd (kk p e R s m args below meth c hc he H locs ls hP hD hS hl)
  rw [eI_clamp]; rfl
theorem r_tlen {G : GG} {X : XX} {Z : ZZ} {L : List LE} {M : MM} {ce sl pc : Nat} {lv : List (Nat × Value)} {st : List Value} {j n : Nat} (hj : j < 5) (hn : (sT j).length = n) (hd : decode (xc X) pc = .ok (.arraylength, 1)) (kk : VV G X Z L M ce sl (pc + 1) lv (.int (eI (n : Int)) :: st)) : VV G X Z L M ce sl pc lv (.ref (gzs G j) :: st) := by
  subst hn
  intro p e R s m args below meth c hc he H locs ls hP hD hS hl
  exact va_tlen hc.1 hc.2.1 (hc.2.2.2.2.2.2.2.2.1.1 j hj).2 hS (by rfl) hd (kk p e R s m args below meth c hc he H locs ls hP hD hS hl)
theorem r_ldc {G : GG} {X : XX} {Z : ZZ} {L : List LE} {M : MM} {ce sl pc : Nat} {lv : List (Nat × Value)} {st : List Value} {index : Nat} {v : Int} (hw : Cond.constant (xy X).cls index (eI v) ∈ lw_good) (hd : decode (xc X) pc = .ok (.ldc index, 2)) (kk : VV G X Z L M ce sl (pc + 2) lv (.int (eI v) :: st)) : VV G X Z L M ce sl pc lv (st) := by
  intro p e R s m args below meth c hc he H locs ls hP hD hS hl
  exact lv_ldc hc.1 hc.2.1 hc.2.2.2.2.1 (hT_of hc hw) hd (kk p e R s m args below meth c hc he H locs ls hP hD hS hl)
theorem r_ldcw {G : GG} {X : XX} {Z : ZZ} {L : List LE} {M : MM} {ce sl pc : Nat} {lv : List (Nat × Value)} {st : List Value} {index : Nat} {v : Int} (hw : Cond.constant (xy X).cls index (eI v) ∈ lw_good) (hd : decode (xc X) pc = .ok (.ldc_w index, 3)) (kk : VV G X Z L M ce sl (pc + 3) lv (.int (eI v) :: st)) : VV G X Z L M ce sl pc lv (st) := by
  intro p e R s m args below meth c hc he H locs ls hP hD hS hl
  exact lv_ldcw hc.1 hc.2.1 hc.2.2.2.2.1 (hT_of hc hw) hd (kk p e R s m args below meth c hc he H locs ls hP hD hS hl)
theorem r_ldc2 {G : GG} {X : XX} {Z : ZZ} {L : List LE} {M : MM} {ce sl pc : Nat} {lv : List (Nat × Value)} {st : List Value} {index : Nat} {v : Int} (hw : Cond.constantLong (xy X).cls index (eJ v) ∈ lw_good) (hd : decode (xc X) pc = .ok (.ldc2_w index, 3)) (kk : VV G X Z L M ce sl (pc + 3) lv (.long (eJ v) :: st)) : VV G X Z L M ce sl pc lv (st) := by
  intro p e R s m args below meth c hc he H locs ls hP hD hS hl
  exact lv_ldc2 hc.1 hc.2.1 hc.2.2.2.2.1 (hT_of hc hw) hd (kk p e R s m args below meth c hc he H locs ls hP hD hS hl)
theorem r_i2l {G : GG} {X : XX} {Z : ZZ} {L : List LE} {M : MM} {ce sl pc : Nat} {lv : List (Nat × Value)} {st : List Value} {x x' : Int} (hx : wI x = x') (hd : decode (xc X) pc = .ok (.i2l, 1)) (kk : VV G X Z L M ce sl (pc + 1) lv (.long (eJ x') :: st)) : VV G X Z L M ce sl pc lv (.int (eI x) :: st) := by
  subst hx
  intro p e R s m args below meth c hc he H locs ls hP hD hS hl
  refine lv_i2l hc.1 hc.2.1 hd ?_ (kk p e R s m args below meth c hc he H locs ls hP hD hS hl)
  rw [← Int64.toInt_inj, Int32.toInt_toInt64, eI_toInt, eJ_toInt, wJ_of (by have := wI_ge x; omega) (by have := wI_le x; omega)]
theorem r_l2i {G : GG} {X : XX} {Z : ZZ} {L : List LE} {M : MM} {ce sl pc : Nat} {lv : List (Nat × Value)} {st : List Value} {x : Int} (hd : decode (xc X) pc = .ok (.l2i, 1)) (kk : VV G X Z L M ce sl (pc + 1) lv (.int (eI x) :: st)) : VV G X Z L M ce sl pc lv (.long (eJ x) :: st) := by
  intro p e R s m args below meth c hc he H locs ls hP hD hS hl
  exact lv_l2i hc.1 hc.2.1 hd Int64.toInt32_ofInt (kk p e R s m args below meth c hc he H locs ls hP hD hS hl)
theorem r_i2b {G : GG} {X : XX} {Z : ZZ} {L : List LE} {M : MM} {ce sl pc : Nat} {lv : List (Nat × Value)} {st : List Value} {x : Int} (hd : decode (xc X) pc = .ok (.i2b, 1)) (kk : VV G X Z L M ce sl (pc + 1) lv (.int (eI (x.bmod 256)) :: st)) : VV G X Z L M ce sl pc lv (.int (eI x) :: st) := by
  intro p e R s m args below meth c hc he H locs ls hP hD hS hl
  refine lv_i2b hc.1 hc.2.1 hd ?_ (kk p e R s m args below meth c hc he H locs ls hP hD hS hl)
  rw [← Int32.toInt_inj, Int8.toInt_toInt32, eI_toInt, show (eI x).toInt8 = Int8.ofInt x from Int32.toInt8_ofInt, Int8.toInt_ofInt, wI_of (by rw [Int.bmod_def]; split <;> omega) (by rw [Int.bmod_def]; split <;> omega)]
  try rfl
theorem lg_val (x y : Int) : wI (lg_cmp (eJ x) (eJ y)).toInt = if wJ y < wJ x then 1 else if wJ x = wJ y then 0 else -1 := by
  unfold lg_cmp
  simp only [gt_iff_lt, eJ_lti, eJ_eqi]
  split
  · decide +kernel
  · split <;> decide +kernel
theorem lg_lt {x y : Int} : wI (lg_cmp (eJ x) (eJ y)).toInt < 0 ↔ wJ x < wJ y := by
  rw [lg_val]
  split
  · omega
  · split <;> omega
theorem lg_gt {x y : Int} : 0 < wI (lg_cmp (eJ x) (eJ y)).toInt ↔ wJ y < wJ x := by
  rw [lg_val]
  split
  · omega
  · split <;> omega
theorem wI_tri (z : Int) : wI z < 0 ∨ wI z = 0 ∨ 0 < wI z := by omega
theorem r_lcmp_lt {G : GG} {X : XX} {Z : ZZ} {L : List LE} {M : MM} {ce sl pc : Nat} {lv : List (Nat × Value)} {st : List Value} {x y x' y' off : Int} {tgt : Nat} (hd1 : decode (xc X) pc = .ok (.lcmp, 1)) (hd : decode (xc X) (pc + 1) = .ok (.ifCond .lt off, 3)) (ht : ((pc + 1 : Nat) : Int) + off = (tgt : Int)) (hx : wJ x = x') (hy : wJ y = y') (kt : x' < y' → VV G X Z L M ce sl tgt lv (st)) (kf : ¬ x' < y' → VV G X Z L M ce sl (pc + 4) lv (st)) : VV G X Z L M ce sl pc lv (.long (eJ y) :: .long (eJ x) :: st) := by
  subst hx hy
  have e1 : eI (lg_cmp (eJ x) (eJ y)).toInt = lg_cmp (eJ x) (eJ y) := eI_of _
  have h1 := @lg_lt x y
  have h2 := @lg_gt x y
  have h3 := wI_tri (lg_cmp (eJ x) (eJ y)).toInt
  have K : VV G X Z L M ce sl (pc + 1) lv (.int (eI (lg_cmp (eJ x) (eJ y)).toInt) :: st) := r_if_lt hd ht rfl (fun q => kt (by omega)) (fun q => kf (by omega))
  rw [e1] at K
  intro p e R s m args below meth c hc he H locs ls hP hD hS hl
  exact W.lcmp hc.1 hc.2.1 hd1 (K p e R s m args below meth c hc he H locs ls hP hD hS hl)
theorem r_lcmp_ge {G : GG} {X : XX} {Z : ZZ} {L : List LE} {M : MM} {ce sl pc : Nat} {lv : List (Nat × Value)} {st : List Value} {x y x' y' off : Int} {tgt : Nat} (hd1 : decode (xc X) pc = .ok (.lcmp, 1)) (hd : decode (xc X) (pc + 1) = .ok (.ifCond .ge off, 3)) (ht : ((pc + 1 : Nat) : Int) + off = (tgt : Int)) (hx : wJ x = x') (hy : wJ y = y') (kt : y' ≤ x' → VV G X Z L M ce sl tgt lv (st)) (kf : ¬ y' ≤ x' → VV G X Z L M ce sl (pc + 4) lv (st)) : VV G X Z L M ce sl pc lv (.long (eJ y) :: .long (eJ x) :: st) := by
  subst hx hy
  have e1 : eI (lg_cmp (eJ x) (eJ y)).toInt = lg_cmp (eJ x) (eJ y) := eI_of _
  have h1 := @lg_lt x y
  have h2 := @lg_gt x y
  have h3 := wI_tri (lg_cmp (eJ x) (eJ y)).toInt
  have K : VV G X Z L M ce sl (pc + 1) lv (.int (eI (lg_cmp (eJ x) (eJ y)).toInt) :: st) := r_if_ge hd ht rfl (fun q => kt (by omega)) (fun q => kf (by omega))
  rw [e1] at K
  intro p e R s m args below meth c hc he H locs ls hP hD hS hl
  exact W.lcmp hc.1 hc.2.1 hd1 (K p e R s m args below meth c hc he H locs ls hP hD hS hl)
theorem r_lcmp_gt {G : GG} {X : XX} {Z : ZZ} {L : List LE} {M : MM} {ce sl pc : Nat} {lv : List (Nat × Value)} {st : List Value} {x y x' y' off : Int} {tgt : Nat} (hd1 : decode (xc X) pc = .ok (.lcmp, 1)) (hd : decode (xc X) (pc + 1) = .ok (.ifCond .gt off, 3)) (ht : ((pc + 1 : Nat) : Int) + off = (tgt : Int)) (hx : wJ x = x') (hy : wJ y = y') (kt : y' < x' → VV G X Z L M ce sl tgt lv (st)) (kf : ¬ y' < x' → VV G X Z L M ce sl (pc + 4) lv (st)) : VV G X Z L M ce sl pc lv (.long (eJ y) :: .long (eJ x) :: st) := by
  subst hx hy
  have e1 : eI (lg_cmp (eJ x) (eJ y)).toInt = lg_cmp (eJ x) (eJ y) := eI_of _
  have h1 := @lg_lt x y
  have h2 := @lg_gt x y
  have h3 := wI_tri (lg_cmp (eJ x) (eJ y)).toInt
  have K : VV G X Z L M ce sl (pc + 1) lv (.int (eI (lg_cmp (eJ x) (eJ y)).toInt) :: st) := r_if_gt hd ht rfl (fun q => kt (by omega)) (fun q => kf (by omega))
  rw [e1] at K
  intro p e R s m args below meth c hc he H locs ls hP hD hS hl
  exact W.lcmp hc.1 hc.2.1 hd1 (K p e R s m args below meth c hc he H locs ls hP hD hS hl)
theorem r_lcmp_le {G : GG} {X : XX} {Z : ZZ} {L : List LE} {M : MM} {ce sl pc : Nat} {lv : List (Nat × Value)} {st : List Value} {x y x' y' off : Int} {tgt : Nat} (hd1 : decode (xc X) pc = .ok (.lcmp, 1)) (hd : decode (xc X) (pc + 1) = .ok (.ifCond .le off, 3)) (ht : ((pc + 1 : Nat) : Int) + off = (tgt : Int)) (hx : wJ x = x') (hy : wJ y = y') (kt : x' ≤ y' → VV G X Z L M ce sl tgt lv (st)) (kf : ¬ x' ≤ y' → VV G X Z L M ce sl (pc + 4) lv (st)) : VV G X Z L M ce sl pc lv (.long (eJ y) :: .long (eJ x) :: st) := by
  subst hx hy
  have e1 : eI (lg_cmp (eJ x) (eJ y)).toInt = lg_cmp (eJ x) (eJ y) := eI_of _
  have h1 := @lg_lt x y
  have h2 := @lg_gt x y
  have h3 := wI_tri (lg_cmp (eJ x) (eJ y)).toInt
  have K : VV G X Z L M ce sl (pc + 1) lv (.int (eI (lg_cmp (eJ x) (eJ y)).toInt) :: st) := r_if_le hd ht rfl (fun q => kt (by omega)) (fun q => kf (by omega))
  rw [e1] at K
  intro p e R s m args below meth c hc he H locs ls hP hD hS hl
  exact W.lcmp hc.1 hc.2.1 hd1 (K p e R s m args below meth c hc he H locs ls hP hD hS hl)
theorem r_lcmp_eq {G : GG} {X : XX} {Z : ZZ} {L : List LE} {M : MM} {ce sl pc : Nat} {lv : List (Nat × Value)} {st : List Value} {x y x' y' off : Int} {tgt : Nat} (hd1 : decode (xc X) pc = .ok (.lcmp, 1)) (hd : decode (xc X) (pc + 1) = .ok (.ifCond .eq off, 3)) (ht : ((pc + 1 : Nat) : Int) + off = (tgt : Int)) (hx : wJ x = x') (hy : wJ y = y') (kt : x' = y' → VV G X Z L M ce sl tgt lv (st)) (kf : ¬ x' = y' → VV G X Z L M ce sl (pc + 4) lv (st)) : VV G X Z L M ce sl pc lv (.long (eJ y) :: .long (eJ x) :: st) := by
  subst hx hy
  have e1 : eI (lg_cmp (eJ x) (eJ y)).toInt = lg_cmp (eJ x) (eJ y) := eI_of _
  have h1 := @lg_lt x y
  have h2 := @lg_gt x y
  have h3 := wI_tri (lg_cmp (eJ x) (eJ y)).toInt
  have K : VV G X Z L M ce sl (pc + 1) lv (.int (eI (lg_cmp (eJ x) (eJ y)).toInt) :: st) := r_if_eq hd ht rfl (fun q => kt (by omega)) (fun q => kf (by omega))
  rw [e1] at K
  intro p e R s m args below meth c hc he H locs ls hP hD hS hl
  exact W.lcmp hc.1 hc.2.1 hd1 (K p e R s m args below meth c hc he H locs ls hP hD hS hl)
theorem r_lcmp_ne {G : GG} {X : XX} {Z : ZZ} {L : List LE} {M : MM} {ce sl pc : Nat} {lv : List (Nat × Value)} {st : List Value} {x y x' y' off : Int} {tgt : Nat} (hd1 : decode (xc X) pc = .ok (.lcmp, 1)) (hd : decode (xc X) (pc + 1) = .ok (.ifCond .ne off, 3)) (ht : ((pc + 1 : Nat) : Int) + off = (tgt : Int)) (hx : wJ x = x') (hy : wJ y = y') (kt : ¬ x' = y' → VV G X Z L M ce sl tgt lv (st)) (kf : x' = y' → VV G X Z L M ce sl (pc + 4) lv (st)) : VV G X Z L M ce sl pc lv (.long (eJ y) :: .long (eJ x) :: st) := by
  subst hx hy
  have e1 : eI (lg_cmp (eJ x) (eJ y)).toInt = lg_cmp (eJ x) (eJ y) := eI_of _
  have h1 := @lg_lt x y
  have h2 := @lg_gt x y
  have h3 := wI_tri (lg_cmp (eJ x) (eJ y)).toInt
  have K : VV G X Z L M ce sl (pc + 1) lv (.int (eI (lg_cmp (eJ x) (eJ y)).toInt) :: st) := r_if_ne hd ht rfl (fun q => kt (by omega)) (fun q => kf (by omega))
  rw [e1] at K
  intro p e R s m args below meth c hc he H locs ls hP hD hS hl
  exact W.lcmp hc.1 hc.2.1 hd1 (K p e R s m args below meth c hc he H locs ls hP hD hS hl)
