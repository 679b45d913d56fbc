theorem turA (C : MM) : ∃ S, sX5_turnedOfAll 80 C = some S ∧ ((∀ w, w < 8 → 0 ≤ C 89 w ∧ C 89 w ≤ 9) → (0 ≤ S ∧ S ≤ 72) ∧ (S = 0 ↔ ∀ w, w < 8 → C 89 w = 0)) := by
  unfold sX5_turnedOfAll sX5_turnedOfAll_b0
  refine loopC (fun f y x => sX5_turnedOfAll_b4 80 C f x y) 8 (fun k x => (∀ w, w < 8 → 0 ≤ C 89 w ∧ C 89 w ≤ 9) → (0 ≤ x ∧ x ≤ 9 * k) ∧ (x = 0 ↔ ∀ w, w < k → C 89 w = 0)) (fun r => ∃ S, r = some S ∧ ((∀ w, w < 8 → 0 ≤ C 89 w ∧ C 89 w ≤ 9) → (0 ≤ S ∧ S ≤ 72) ∧ (S = 0 ↔ ∀ w, w < 8 → C 89 w = 0))) ?_ ?_ FU 0 (0 : Int) (by omega) (fun _ => ⟨by omega, fun _ w hw => by omega, fun _ => rfl⟩) (by unfold FU; omega)
  · intro f x hI
    refine ⟨x, ?_, fun hb => ?_⟩
    · show sX5_turnedOfAll_b4 80 C (f + 1) x ((8 : Nat) : Int) = _
      rw [sX5_turnedOfAll_b4, if_pos (by decide +kernel)]
    · have := hI hb
      exact ⟨by omega, this.2⟩
  · intro f k x hk hI
    right
    have d2 : ¬ (8 : Int) ≤ (k : Int) := by omega
    have d3 : (0 : Int) ≤ (k : Int) ∧ (k : Int) < 8 := ⟨by omega, by omega⟩
    refine ⟨x + C 89 k, ?_, fun hb => ?_⟩
    · show sX5_turnedOfAll_b4 80 C (f + 1) x (k : Int) = _
      rw [sX5_turnedOfAll_b4, wI_of (x := (k : Int)) (by omega) (by omega), if_neg d2, if_pos d3, ob_s, ob_s, show gR 80 10 = 89 from PG_80.2.2.2.2.2.2.2.2.1, tN]
    · obtain ⟨h1, h2⟩ := hI hb
      have h3 := hb k hk
      refine ⟨⟨by omega, by omega⟩, fun z w hw => ?_, fun z => ?_⟩
      · by_cases hwk : w = k
        · rw [hwk]; omega
        · exact h2.mp (by omega) w (by omega)
      · have e1 := h2.mpr (fun w hw => z w (by omega))
        have e2 := z k (by omega)
        omega
theorem stiB {R : MM} (hb : ∀ w, w < 8 → 0 ≤ R 370 (7 + w) ∧ R 370 (7 + w) ≤ 9) : (sX12_isStill 359 R = some 1 ∧ ∀ w, w < 8 → R 370 (7 + w) = 0) ∨ (sX12_isStill 359 R = some 0 ∧ ∃ w, w < 8 ∧ 0 < R 370 (7 + w)) := by
  unfold sX12_isStill sX12_isStill_b0
  refine loopC (fun f y (_ : Unit) => sX12_isStill_b2 359 R f y) 8 (fun k _ => ∀ w, w < k → R 370 (7 + w) = 0) (fun r => (r = some 1 ∧ ∀ w, w < 8 → R 370 (7 + w) = 0) ∨ (r = some 0 ∧ ∃ w, w < 8 ∧ 0 < R 370 (7 + w))) ?_ ?_ FU 0 () (by omega) (fun w hw => by omega) (by unfold FU; omega)
  · intro f _ hI
    left
    refine ⟨?_, hI⟩
    show sX12_isStill_b2 359 R (f + 1) ((8 : Nat) : Int) = _
    rw [sX12_isStill_b2, if_pos (by decide +kernel)]
  · intro f k _ hk hI
    have h1 := hb k hk
    have d2 : ¬ (8 : Int) ≤ (k : Int) := by omega
    have d3 : (0 : Int) ≤ ((7 + k : Nat) : Int) ∧ ((7 + k : Nat) : Int) < 132 := ⟨by omega, by omega⟩
    have d4 : Unit → wI (7 + (k : Int)) = ((7 + k : Nat) : Int) := fun _ => by rw [wI_of (by omega) (by omega)]; omega
    have d5 : Unit → wI (R 370 (7 + k)) = R 370 (7 + k) := fun _ => wI_of (by omega) (by omega)
    have e : sX12_isStill_b2 359 R (f + 1) (k : Int) = if R 370 (7 + k) ≤ 0 then sX12_isStill_b2 359 R f ((k : Int) + 1) else some 0 := by
      rw [sX12_isStill_b2, wI_of (x := (k : Int)) (by omega) (by omega), if_neg d2, d4 (), if_pos d3, tN, g359_20, d5 (), ob_s]
    by_cases z : R 370 (7 + k) ≤ 0
    · right
      refine ⟨(), ?_, fun w hw => ?_⟩
      · show sX12_isStill_b2 359 R (f + 1) (k : Int) = _
        rw [e, if_pos z]
      · by_cases hwk : w = k
        · rw [hwk]; omega
        · exact hI w (by omega)
    · left; right
      refine ⟨?_, k, hk, by omega⟩
      show sX12_isStill_b2 359 R (f + 1) (k : Int) = _
      rw [e, if_neg z]
/-- a text read: both say the same, and what the drafts are without a fault -/
def RD (s : Nat) (v : Int) (C' R' : MM) : Prop := C' 79 5 = R' 362 0 ∧ C' 79 6 = R' 363 0 ∧ (v = 0 ∨ v = 1) ∧ (v = 1 → DR s C' R' ∧ (s = 0 → PV (R' 370)))
def XC (R R' : MM) : Prop := (∀ a, a ≠ 359 → a ≠ 362 → a ≠ 363 → a ≠ 370 → a ≠ 371 → R' a = R a) ∧ ∀ j, j ≠ 0 → R' 362 j = R 362 j ∧ R' 363 j = R 363 j
theorem b136_ {s v x : Int} {R : MM} (hf : R 362 0 = x) (hx : x = 0 ∧ v = 1 ∨ (x = 1 ∨ x = 2 ∨ x = 3 ∨ x = 4) ∧ v = 0) (y : Int) : sX12_readText_b136 359 s 363 0 y R = some (v, mU R 363 0 y) := by
  unfold sX12_readText_b136
  rw [wI_0, if_pos (by omega), ob_s, g359_3, show (0 : Int).toNat = 0 from rfl, mU_row _ _ (by omega), hf]
  rcases hx with ⟨rfl, rfl⟩ | ⟨h, rfl⟩
  · rw [i00]
  · rcases h with rfl | rfl | rfl | rfl
    all_goals rw [if_neg (by decide +kernel)]
theorem b87_1 {s x y : Int} {R : MM} (h18 : R 359 18 = x) (h19 : x ≠ 0 → R 359 19 = y) (hx : x = 0 ∧ y = -1 ∨ x = 2 ∨ x = 3 ∨ x = 4) : sX12_readText_b87 359 s 1 R = some ((if x = 0 then 1 else 0), mU (mU R 362 0 x) 363 0 y) := by
  unfold sX12_readText_b87 sX12_readText_b104
  rw [i10, wI_0, if_pos (by omega), ob_s, i10, g359_3, g359_4, show (0 : Int).toNat = 0 from rfl, mU_row (b := 359) _ _ (by omega), h18]
  rcases hx with ⟨rfl, rfl⟩ | h
  · rw [if_pos (by decide +kernel), b136_ (mU_eq _ _ _ _) (Or.inl ⟨rfl, rfl⟩)]; rfl
  · have hx0 : x ≠ 0 := by omega
    rw [h19 hx0]
    rcases h with rfl | rfl | rfl
    all_goals rw [if_neg (by decide +kernel), b136_ (mU_eq _ _ _ _) (Or.inr ⟨by omega, rfl⟩)]; rfl
theorem XC_2 {R R' : MM} {x y : Int} (h : XB R R') : XC R (mU (mU R' 362 0 x) 363 0 y) := ⟨fun a h1 h2 h3 h4 h5 => by rw [mU_row _ _ h3, mU_row _ _ h2]; exact h a h1 h4 h5, fun j hj => ⟨by rw [mU_row _ _ (by omega), mU_ne _ _ (by omega), h 362 (by omega) (by omega) (by omega)], by rw [mU_ne _ _ (by omega), mU_row _ _ (by omega), h 363 (by omega) (by omega) (by omega)]⟩⟩
theorem fin_n {C : MM} {s : Int} {x : Int} (h : C 79 5 = x) (hx : x = 0 ∨ x = 2 ∨ x = 3 ∨ x = 4) : sX7_reads_b108 79 1 s C = some ((if x = 0 then 1 else 0), C) := by
  unfold sX7_reads_b108
  rw [h]
  rcases hx with rfl | rfl | rfl | rfl <;> rfl
theorem rd_n {T : Nat → Int} {L s f t : Nat} {C R : MM} (hs : s < 5) (h : BL T L s f t 0 C R) : ∃ v C' R', sX7_reads_b70 79 1 (s : Int) C = some (v, C') ∧ (if (s : Int) = 0 then (if wI (R 359 18) = 0 then (if wI (R 370 1) ≤ wI (R 359 22) then sX12_readText_b78 359 (s : Int) 1 R else (if wI (R 370 0) = 0 then sX12_readText_b78 359 (s : Int) 1 R else (if wI (R 370 1) = 0 then sX12_readText_b78 359 (s : Int) 1 R else ((sX12_isStill 359 R).bind fun q_15 => (if wI q_15 = 0 then sX12_readText_b87 359 (s : Int) 1 R else sX12_readText_b78 359 (s : Int) 1 R))))) else sX12_readText_b87 359 (s : Int) 1 R) else sX12_readText_b87 359 (s : Int) 1 R) = some (v, R') ∧ RD s v C' R' ∧ XA C C' ∧ XC R R' ∧ HM C' := by
  obtain ⟨hE, hT, hF, hB, hH, hD⟩ := h
  obtain ⟨⟨t1, t2, t3⟩, ⟨u1, u2, u3⟩, t4, t5, t6, t7, t8, t9⟩ := hT
  have hfL := t9 rfl
  have hL := hE.2.2.1
  have hlen := hE.2.2.2.1
  obtain ⟨F, eF⟩ : ∃ F, C 79 5 = F := ⟨_, rfl⟩
  have hF1 : R 359 18 = F := by rw [← hF.1]; exact eF
  have hFx : F = 0 ∨ F = 2 ∨ F = 3 := by
    rcases hF.2 with ⟨q, _⟩ | ⟨q, _⟩
    · left; rw [← eF]; exact q
    · right; rw [← eF]; exact q
  obtain ⟨Y, eY⟩ : ∃ Y, C 79 6 = Y := ⟨_, rfl⟩
  have hY : F = 0 ∧ Y = -1 ∨ (F = 2 ∨ F = 3) ∧ R 359 19 = Y := by
    rcases hF.2 with ⟨q, q'⟩ | ⟨q, q', q''⟩
    · left; exact ⟨by rw [← eF]; exact q, by rw [← eY]; exact q'⟩
    · right; exact ⟨by rw [← eF]; exact q, by rw [← q']; exact eY⟩
  -- nothing more is blamed
  have plain : (F = 0 → DR s C R ∧ (s = 0 → PV (R 370))) → sX7_reads_b108 79 1 (s : Int) C = some ((if F = 0 then 1 else 0), C) ∧ sX12_readText_b87 359 (s : Int) 1 R = some ((if F = 0 then 1 else 0), mU (mU R 362 0 F) 363 0 Y) ∧ RD s (if F = 0 then 1 else 0) C (mU (mU R 362 0 F) 363 0 Y) := by
    intro hd
    refine ⟨fin_n eF (by omega), b87_1 hF1 (fun z => ?_) ?_, ?_, ?_, ?_, fun z => ?_⟩
    · rcases hY with ⟨a, b⟩ | ⟨a, b⟩
      · exact absurd a z
      · exact b
    · rcases hY with ⟨a, b⟩ | ⟨a, b⟩
      · exact Or.inl ⟨a, b⟩
      · right; omega
    · rw [mU_row _ _ (by omega), mU_eq]; exact eF
    · rw [mU_eq]; exact eY
    · by_cases z : F = 0
      · rw [if_pos z]; exact Or.inr rfl
      · rw [if_neg z]; exact Or.inl rfl
    · by_cases z' : F = 0
      · obtain ⟨d1, d2⟩ := hd z'
        have e370 : mU (mU R 362 0 F) 363 0 Y 370 = R 370 := by rw [mU_row _ _ (by omega), mU_row _ _ (by omega)]
        exact ⟨DR_c d1 (fun _ _ _ => rfl) rfl e370 (by rw [mU_row _ _ (by omega), mU_row _ _ (by omega)]), fun hs0 => by rw [e370]; exact d2 hs0⟩
      · rw [if_neg z'] at z; exact absurd z (by decide)
  by_cases h0 : s = 0
  · subst h0
    have ws : wI ((0 : Nat) : Int) = 0 := rfl
    unfold sX7_reads_b70
    rw [ws, if_pos rfl, if_pos (show ((0 : Nat) : Int) = 0 from rfl), g79_0]
    obtain ⟨S, hS, hS'⟩ := turA C
    have hw0 : wI (C 80 0) = C 80 0 := wI_of (by have := hH.2.1; omega) (by have := hH.2.1; omega)
    have hw3 : wI (C 80 3) = C 80 3 := wI_of (by have := hH.2.2.1; omega) (by have := hH.2.2.1; omega)
    have h80 := hH.2.1
    have h83 := hH.2.2.1
    -- whole or not
    have iw : ∃ b, sX5_isWhole 80 C = some b ∧ (b = 0 ∨ b = 1) ∧ (b = 1 ↔ 0 < C 80 0 ∧ 0 < C 80 3 ∧ 0 < wI S) := by
      unfold sX5_isWhole sX5_isWhole_b0
      rw [hw0, hw3, hS, ob_s]
      by_cases z0 : C 80 0 ≤ 0
      · rw [if_pos z0]; exact ⟨0, rfl, Or.inl rfl, ⟨fun z => absurd z (by decide), fun z => by omega⟩⟩
      · rw [if_neg z0]
        by_cases z1 : C 80 3 ≤ 0
        · rw [if_pos z1]; exact ⟨0, rfl, Or.inl rfl, ⟨fun z => absurd z (by decide), fun z => by omega⟩⟩
        · rw [if_neg z1]
          by_cases z2 : wI S ≤ 0
          · rw [if_pos z2]; exact ⟨0, rfl, Or.inl rfl, ⟨fun z => absurd z (by decide), fun z => by omega⟩⟩
          · rw [if_neg z2]; exact ⟨1, rfl, Or.inr rfl, ⟨fun _ => ⟨by omega, by omega, by omega⟩, fun _ => rfl⟩⟩
    obtain ⟨b, b1, b2, b3⟩ := iw
    rw [b1, ob_s]
    have hin : (0 : Int) ≤ C 80 3 ∧ C 80 3 < 32 := ⟨by omega, by omega⟩
    -- what blames: the class
    by_cases hF0 : F = 0
    · -- no fault so far
      have hd : (PC C 80 (R 370) ∧ PVd (R 370)) ∧ NR (C 79 12) (R 359 22) := hD (by rw [eF]; exact hF0)
      obtain ⟨⟨hp, hv⟩, hn⟩ := hd
      have p0 : C 80 0 = R 370 0 := hp.1.1
      have p1 : C 80 3 = R 370 1 := hp.1.2.1
      have hv1 := hv.1
      have ht : ∀ w, w < 8 → C 89 w = R 370 (7 + w) := fun w hw => hp.2.1 w hw
      have htb : ∀ w, w < 8 → 0 ≤ R 370 (7 + w) ∧ R 370 (7 + w) ≤ 9 := hv.2.1
      obtain ⟨⟨S0, S1⟩, S2⟩ := hS' (fun w hw => by rw [ht w hw]; exact htb w hw)
      have wS : wI S = S := wI_of (by omega) (by omega)
      have w1 : wI (R 370 1) = R 370 1 := wI_of (by omega) (by omega)
      have w0 : wI (R 370 0) = R 370 0 := wI_of (by omega) (by omega)
      have wf : wI (R 359 22) = R 359 22 := wI_of (by have := hB.2.2.2.2; omega) (by have := hB.2.2.2.2; omega)
      rw [wS] at b3
      obtain ⟨c, hc⟩ := Int.eq_ofNat_of_zero_le (show 0 ≤ R 370 1 by omega)
      obtain ⟨x, hx⟩ := Int.eq_ofNat_of_zero_le hn.1.1
      have ts := (tp_s x (by have := hn.1.2; omega) c (by omega))
      rw [← hx, ← hn.2, ← hc] at ts
      have ht0 : 0 ≤ C 79 12 % 4294967296 / 2 ^ c := Int.ediv_nonneg (by omega) (Int.pow_nonneg (by omega))
      have wts : wI (C 79 12 % 4294967296 / 2 ^ c) = C 79 12 % 4294967296 / 2 ^ c := wI_of (by omega) (by omega)
      have toNc : (C 80 3).toNat = c := by rw [p1, hc, tN]
      -- both blame the party
      have blame : ∃ v C' R', sX7_reads_b99 79 1 ((0 : Nat) : Int) C = some (v, C') ∧ sX12_readText_b78 359 ((0 : Nat) : Int) 1 R = some (v, R') ∧ RD 0 v C' R' ∧ XA C C' ∧ XC R R' ∧ HM C' := by
        refine ⟨0, mU (mU C 79 5 4) 79 6 (L : Int), mU (mU (mU (mU R 359 18 4) 359 19 (L : Int)) 362 0 4) 363 0 (L : Int), ?_, ?_, ⟨?_, ?_, Or.inl rfl, fun z => absurd z (by decide)⟩, fun a ha => ?_, XC_2 (XB_u (XB_u XB_r)), HM_c hH (fun a ha hb => ?_)⟩
        · unfold sX7_reads_b99 sX7_blame sX7_blame_b0
          rw [eF, hF0, i00, ob_s, ob_s, ob_s, hlen, fin_n (x := 4) (by rw [mU_ne _ _ (by omega), mU_eq]) (by omega)]; rfl
        · unfold sX12_readText_b78 sX12_later sX12_later_b0 sX12_later_b31
          rw [hF1, hF0, i00, ob_s, ob_s, ob_s, u1, hfL, b87_1 (x := 4) (y := (L : Int)) (by rw [mU_ne _ _ (by omega), mU_eq]) (fun _ => mU_eq _ _ _ _) (by omega)]; rfl
        · rw [mU_ne _ _ (by omega), mU_eq, mU_row _ _ (by omega), mU_eq]
        · rw [mU_eq, mU_eq]
        · rw [mU_row _ _ (by omega), mU_row _ _ (by omega)]
        · rw [mU_row _ _ (by omega), mU_row _ _ (by omega)]
      have hwhole : b = 1 ∧ R 359 22 < R 370 1 ↔ ¬ (R 370 1 ≤ R 359 22) ∧ R 370 0 ≠ 0 ∧ R 370 1 ≠ 0 ∧ ∃ w, w < 8 ∧ 0 < R 370 (7 + w) := by
        have hx' : 0 < S ↔ ∃ w, w < 8 ∧ 0 < R 370 (7 + w) := by
          constructor
          · intro z
            refine Classical.byContradiction fun y => ?_
            have : S = 0 := S2.mpr (fun w hw => by
              have := htb w hw
              rw [ht w hw]
              refine Classical.byContradiction fun u => y ⟨w, hw, by omega⟩)
            omega
          · rintro ⟨w, hw, z⟩
            refine Classical.byContradiction fun y => ?_
            have := S2.mp (by omega) w hw
            rw [ht w hw] at this; omega
        rw [b3, hx', p0, p1]
        constructor
        · rintro ⟨⟨z1, z2, z3⟩, z4⟩; exact ⟨by omega, by omega, by omega, z3⟩
        · rintro ⟨z1, z2, z3, z4⟩; exact ⟨⟨by omega, by omega, z4⟩, by omega⟩
      have rI : (if wI (R 359 18) = 0 then (if wI (R 370 1) ≤ wI (R 359 22) then sX12_readText_b78 359 ((0 : Nat) : Int) 1 R else (if wI (R 370 0) = 0 then sX12_readText_b78 359 ((0 : Nat) : Int) 1 R else (if wI (R 370 1) = 0 then sX12_readText_b78 359 ((0 : Nat) : Int) 1 R else ((sX12_isStill 359 R).bind fun q_15 => (if wI q_15 = 0 then sX12_readText_b87 359 ((0 : Nat) : Int) 1 R else sX12_readText_b78 359 ((0 : Nat) : Int) 1 R))))) else sX12_readText_b87 359 ((0 : Nat) : Int) 1 R) = if b = 1 ∧ R 359 22 < R 370 1 then sX12_readText_b87 359 ((0 : Nat) : Int) 1 R else sX12_readText_b78 359 ((0 : Nat) : Int) 1 R := by
        rw [hF1, hF0, i00, w1, w0, wf]
        by_cases z1 : R 370 1 ≤ R 359 22
        · rw [if_pos z1, if_neg (fun q => (hwhole.mp q).1 z1)]
        · rw [if_neg z1]
          by_cases z2 : R 370 0 = 0
          · rw [if_pos z2, if_neg (fun q => (hwhole.mp q).2.1 z2)]
          · rw [if_neg z2]
            by_cases z3 : R 370 1 = 0
            · rw [if_pos z3, if_neg (fun q => (hwhole.mp q).2.2.1 z3)]
            · rw [if_neg z3]
              rcases stiB htb with ⟨q1, q2⟩ | ⟨q1, q2⟩
              · rw [q1, ob_s, i10, if_neg (fun q => by obtain ⟨w, hw, hz⟩ := (hwhole.mp q).2.2.2; rw [q2 w hw] at hz; exact absurd hz (by decide))]
              · rw [q1, ob_s, i00, if_pos (hwhole.mpr ⟨z1, z2, z3, q2⟩)]
      have cI : (if wI b = 0 then sX7_reads_b99 79 1 ((0 : Nat) : Int) C else (if 0 ≤ wI (C 80 3) ∧ wI (C 80 3) < 32 then (if wI (C 79 12 % 4294967296 / 2 ^ (wI (C 80 3)).toNat) = 0 then sX7_reads_b108 79 1 ((0 : Nat) : Int) C else sX7_reads_b99 79 1 ((0 : Nat) : Int) C) else none)) = if b = 1 ∧ R 359 22 < R 370 1 then sX7_reads_b108 79 1 ((0 : Nat) : Int) C else sX7_reads_b99 79 1 ((0 : Nat) : Int) C := by
        rcases b2 with rfl | rfl
        · rw [i00, if_neg (fun q => absurd q.1 (by decide))]
        · rw [i10, hw3, if_pos hin, toNc, wts]
          by_cases z : R 359 22 < R 370 1
          · rw [if_pos (ts.1.mpr z), if_pos ⟨rfl, z⟩]
          · rw [if_neg (fun q => z (ts.1.mp q)), if_neg (fun q => z q.2)]
      rw [cI, rI]
      by_cases hw : b = 1 ∧ R 359 22 < R 370 1
      · rw [if_pos hw, if_pos hw]
        obtain ⟨z1, z2, z3, z4⟩ := hwhole.mp hw
        obtain ⟨r1, r2, r3⟩ := plain (fun _ => ⟨hD (by rw [eF]; exact hF0), fun _ => ⟨⟨by omega, by omega, by omega, by omega, by omega, by omega, by omega, by omega, by omega, by omega, by omega, by omega, by omega, by omega⟩, hv.2.1, hv.2.2.1, z4, hv.2.2.2.1, hv.2.2.2.2.1, hv.2.2.2.2.2.1, hv.2.2.2.2.2.2⟩⟩)
        exact ⟨_, _, _, r1, r2, r3, XA_r, XC_2 XB_r, hH⟩
      · rw [if_neg hw, if_neg hw]; exact blame
    · -- a fault already
      obtain ⟨r1, r2, r3⟩ := plain (fun z => absurd z hF0)
      have wF : wI F = F := wI_of (by omega) (by omega)
      have e99 : sX7_reads_b99 79 1 ((0 : Nat) : Int) C = sX7_reads_b108 79 1 ((0 : Nat) : Int) C := by
        unfold sX7_reads_b99 sX7_blame sX7_blame_b0
        rw [eF, wF, if_neg hF0, ob_s]
      refine ⟨_, _, _, ?_, ?_, r3, XA_r, XC_2 XB_r, hH⟩
      · rw [hw3, if_pos hin, e99, ← r1]
        split
        · rfl
        · split <;> rfl
      · rw [hF1, wF, if_neg hF0]; exact r2
  · have hs0 : ¬ (s : Int) = 0 := by omega
    have ws : wI (s : Int) = (s : Int) := wI_of (by omega) (by omega)
    obtain ⟨r1, r2, r3⟩ := plain (fun z => ⟨hD (by rw [eF]; exact z), fun q => absurd q h0⟩)
    unfold sX7_reads_b70
    rw [ws, if_neg hs0, if_neg hs0]
    exact ⟨_, _, _, r1, r2, r3, XA_r, XC_2 XB_r, hH⟩
