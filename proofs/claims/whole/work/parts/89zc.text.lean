/-- what the reference does first in text -/
def pre (M : MM) : MM := mU (mU (mU (mU (mU M 359 0 0) 359 12 (M 361 0)) 361 0 0) 362 0 0) 363 0 (-1)
theorem pre_r {M : MM} {a : Nat} (h : a ≠ 359) (h1 : a < 361 ∨ 363 < a) : pre M a = M a := by
  unfold pre
  rw [mU_row _ _ (by omega), mU_row _ _ (by omega), mU_row _ _ (by omega), mU_row _ _ (by omega), mU_row _ _ (by omega)]
theorem pre_i {M : MM} {i : Nat} (h : i ≠ 0) : pre M 361 i = M 361 i ∧ pre M 362 i = M 362 i ∧ pre M 363 i = M 363 i := by
  unfold pre
  refine ⟨?_, ?_, ?_⟩
  all_goals rw [mU_ne _ _ (by omega), mU_ne _ _ (by omega), mU_ne _ _ (by omega), mU_ne _ _ (by omega), mU_ne _ _ (by omega)]
theorem pre_0 {M : MM} : pre M 361 0 = 0 ∧ pre M 362 0 = 0 ∧ pre M 363 0 = -1 ∧ pre M 359 12 = M 361 0 := by
  unfold pre
  refine ⟨?_, ?_, ?_, ?_⟩
  · rw [mU_ne _ _ (by omega), mU_ne _ _ (by omega), mU_eq]
  · rw [mU_ne _ _ (by omega), mU_eq]
  · rw [mU_eq]
  · rw [mU_ne _ _ (by omega), mU_ne _ _ (by omega), mU_ne _ _ (by omega), mU_eq]
theorem pre_e {M : MM} {x1 x2 : Int} : sX12_text 359 x1 x2 M = (if wI (sX12_in x1 0 4) = 0 then (some (((-2), pre M))) else (if wI x2 = (-1) then (if 0 ≤ wI x1 ∧ wI x1 < 20 then (if wI (pre M 364 (wI x1).toNat) = 2 then (some (((-2), pre M))) else (sX12_text_b75 359 x1 x2 (pre M))) else none) else ((sX12_is 359 x1 x2 (pre M)).bind fun q_12 => (if wI q_12 = 0 then (some (((-2), pre M))) else (sX12_text_b75 359 x1 x2 (pre M)))))) := by
  unfold sX12_text sX12_text_b0 pre
  rw [ob_s, ob_s, ob_s, ob_s, ob_s, g359_2, g359_3, g359_4, g359_5, mU_row (b := 361) _ _ (by omega)]
/-- the class after a text, before its draft is stored -/
def aft (C : MM) : MM := mU (mU (mU C 1 2 (C 79 5)) 1 3 (C 79 6)) 1 1 0
theorem aft_r {C : MM} {a : Nat} (h : a ≠ 1) : aft C a = C a := by
  unfold aft
  rw [mU_row _ _ h, mU_row _ _ h, mU_row _ _ h]
theorem aft_1 {C : MM} : aft C 1 1 = 0 ∧ aft C 1 2 = C 79 5 ∧ aft C 1 3 = C 79 6 := by
  unfold aft
  refine ⟨mU_eq _ _ _ _, ?_, ?_⟩
  · rw [mU_ne _ _ (by omega), mU_ne _ _ (by omega), mU_eq]
  · rw [mU_ne _ _ (by omega), mU_eq]
theorem pla {M : MM} (h : INV M) {x1 x2 : Int} (r1 : R32 x1) (r2 : R32 x2) : (sX11_placeFor 0 x1 x2 M = some (-1) ∧ ∀ N : MM, N 364 = M 364 → sX12_text 359 x1 x2 N = some (-2, pre N)) ∨ (∃ s p : Nat, x1 = (s : Int) ∧ s < 5 ∧ p < 2 ∧ (p : Int) ≤ M 364 s ∧ sX11_placeFor 0 x1 x2 M = some (p : Int) ∧ ((x2 = -1 ∧ (p : Int) = M 364 s) ∨ (x2 = (p : Int) ∧ (p : Int) < M 364 s)) ∧ ∀ N : MM, N 364 = M 364 → sX12_text 359 x1 x2 N = sX12_text_b75 359 x1 x2 (pre N)) := by
  have w2 : wI x2 = x2 := wI_of r2.1 r2.2
  have w1 : wI x1 = x1 := wI_of r1.1 r1.2
  have epr : ∀ N : MM, N 364 = M 364 → pre N 364 = M 364 := fun N hN => (pre_r (by omega) (by omega)).trans hN
  by_cases hx : 0 ≤ x1 ∧ x1 ≤ 4
  · obtain ⟨s, rfl⟩ := Int.eq_ofNat_of_zero_le hx.1
    have hs : s < 5 := by omega
    obtain ⟨z1, z2, z3⟩ := i_size h hs
    have wz : wI (M 364 s) = M 364 s := wI_of (by omega) (by omega)
    have d0 : ¬ (s : Int) < 0 := by omega
    have d1 : (s : Int) < 5 := by omega
    have d2 : (0 : Int) ≤ (s : Int) ∧ (s : Int) < 5 := ⟨by omega, by omega⟩
    have d3 : (0 : Int) ≤ (s : Int) ∧ (s : Int) < 20 := ⟨by omega, by omega⟩
    have ep : sX11_placeFor 0 (s : Int) x2 M = (if x2 = -1 then (if 2 ≤ M 364 s then some (-1) else some (M 364 s)) else (if x2 < 0 then some (-1) else (if M 364 s ≤ x2 then some (-1) else some x2))) := by
      unfold sX11_placeFor sX11_placeFor_b0
      rw [w1, if_neg d0, if_pos d1, if_pos d2, ob_s, g0_0, g1_4, tN, z1, w2, wz]
    have en : ∀ N : MM, N 364 = M 364 → sX12_text 359 (s : Int) x2 N = (if x2 = -1 then (if M 364 s = 2 then some (-2, pre N) else sX12_text_b75 359 (s : Int) x2 (pre N)) else ((sX12_is 359 (s : Int) x2 (pre N)).bind fun q_12 => (if wI q_12 = 0 then (some (((-2), pre N))) else (sX12_text_b75 359 (s : Int) x2 (pre N))))) := by
      intro N hN
      rw [pre_e, in_t r1 ⟨by omega, by omega⟩ ⟨by omega, by omega⟩ hx, i10, w1, w2, if_pos d3, tN, epr N hN, wz]
    by_cases y : x2 = -1
    · by_cases y2 : M 364 s = 2
      · left
        refine ⟨by rw [ep, if_pos y, if_pos (by omega)], fun N hN => by rw [en N hN, if_pos y, if_pos y2]⟩
      · right
        obtain ⟨p, hp⟩ := Int.eq_ofNat_of_zero_le z2
        refine ⟨s, p, rfl, hs, by omega, by omega, ?_, Or.inl ⟨y, by omega⟩, fun N hN => by rw [en N hN, if_pos y, if_neg y2]⟩
        rw [ep, if_pos y, if_neg (by omega), hp]
    · have e364 : ∀ N : MM, N 364 = M 364 → 0 ≤ pre N 364 s ∧ pre N 364 s ≤ 2 := fun N hN => by rw [epr N hN]; exact ⟨z2, z3⟩
      by_cases y2 : 0 ≤ x2 ∧ x2 < M 364 s
      · right
        obtain ⟨p, rfl⟩ := Int.eq_ofNat_of_zero_le y2.1
        refine ⟨s, p, rfl, hs, by omega, by omega, ?_, Or.inr ⟨rfl, y2.2⟩, fun N hN => ?_⟩
        · rw [ep, if_neg y, if_neg (by omega), if_neg (by omega)]
        · rw [en N hN, if_neg y, is_t hs r2 (e364 N hN) (by rw [epr N hN]; exact y2), ob_s, i10]
      · left
        refine ⟨?_, fun N hN => ?_⟩
        · rw [ep, if_neg y]
          by_cases y3 : x2 < 0
          · rw [if_pos y3]
          · rw [if_neg y3, if_pos (by omega)]
        · rw [en N hN, if_neg y, is_f hs r2 (e364 N hN) (by rw [epr N hN]; exact y2), ob_s, i00]
  · left
    refine ⟨?_, fun N hN => ?_⟩
    · unfold sX11_placeFor sX11_placeFor_b0
      rw [w1]
      by_cases y : x1 < 0
      · rw [if_pos y]
      · rw [if_neg y, if_neg (by omega)]
    · rw [pre_e, in_f r1 ⟨by omega, by omega⟩ ⟨by omega, by omega⟩ hx, i00]
theorem kd_t {C : MM} {s p : Nat} (hs : s < 5) (hp : p < 2) (h3 : 0 ≤ C 3 s ∧ C 3 s ≤ 2) : ∃ C5, sX11_keepDraft_b139 0 (s : Int) (p : Int) C = some C5 ∧ (∀ a, a ≠ 3 → C5 a = C a) ∧ (∀ j, j ≠ s → C5 3 j = C 3 j) ∧ C5 3 s = if (p : Int) = C 3 s then C 3 s + 1 else C 3 s := by
  have d2 : (0 : Int) ≤ (s : Int) ∧ (s : Int) < 5 := ⟨by omega, by omega⟩
  unfold sX11_keepDraft_b139
  rw [wI_of (x := (s : Int)) (by omega) (by omega), if_pos d2, wI_of (x := (p : Int)) (by omega) (by omega), g0_0, g1_4, tN, wI_of (x := C 3 s) (by omega) (by omega)]
  by_cases z : (p : Int) = C 3 s
  · rw [if_pos z, if_pos d2, if_pos d2, ob_s]
    refine ⟨_, rfl, fun a ha => mU_row _ _ ha, fun j hj => mU_ne _ _ (by omega), ?_⟩
    rw [mU_eq, if_pos z]
  · rw [if_neg z]
    exact ⟨C, rfl, fun _ _ => rfl, fun _ _ => rfl, by rw [if_neg z]⟩
theorem tf_0 {M C' : MM} {p : Nat} {x2 : Int} (h : INV M) (hp : p < 2) (hps : (p : Int) ≤ M 364 0) (hx : (x2 = -1 ∧ (p : Int) = M 364 0) ∨ (x2 = (p : Int) ∧ (p : Int) < M 364 0)) (xA : XA M C') (hH : HM C') : ∃ C5, sX11_keepDraft 0 ((0 : Nat) : Int) (p : Int) (aft C') = some C5 ∧ (∀ a, 114 < a → a < 131 ∨ 358 < a → C5 a = M a) ∧ ∀ R', XC (pre C5) R' → RD 0 1 C' R' → ∃ M2, (if wI x2 = (-1) then (if 0 ≤ wI ((0 : Nat) : Int) ∧ wI ((0 : Nat) : Int) < 20 then (sX12_text_b100 359 ((0 : Nat) : Int) x2 (R' 364 (wI ((0 : Nat) : Int)).toNat) R') else none) else (sX12_text_b100 359 ((0 : Nat) : Int) x2 x2 R')) = some ((p : Int), M2) ∧ INV M2 := by
  have hz := i_size h (s := 0) (by omega)
  obtain ⟨hh1, hh2, hh3, hh4, hh5⟩ := hH.1
  have af : ∀ a, a ≠ 1 → a < 79 ∨ 114 < a → aft C' a = M a := fun a h1 h2 => (aft_r h1).trans (xA a h2)
  have afd : ∀ a, a ≠ 1 → aft C' a = C' a := fun a h1 => aft_r h1
  have hm := h.1.1 0 (by omega) p hp
  rw [tB_0] at hm
  have hpw : Unit → wI (p : Int) = (p : Int) := fun _ => wI_of (by omega) (by omega)
  have hp2 : (0 : Int) ≤ (p : Int) ∧ (p : Int) < 2 := ⟨by omega, by omega⟩
  have P0 := PG_t 0 (by omega) p hp
  rw [tB_0, show 1 + 8 + 34 * p = 9 + 34 * p by omega] at P0
  obtain ⟨N, x1, y1, z1⟩ := pcopy (M := aft C') P0 PG_80 (by omega)
  have frame : ∀ a, a < 9 + 34 * p ∨ 19 + 34 * p < a → N a = aft C' a := fun a ha => y1 a (by omega)
  have n3 : N 3 = M 3 := (frame 3 (by omega)).trans (af 3 (by omega) (by omega))
  obtain ⟨C5, k1, k2, k3, k4⟩ := kd_t (C := N) (s := 0) (p := p) (by omega) hp (by rw [n3, hz.1]; exact hz.2)
  rw [n3, hz.1] at k4
  have kd : sX11_keepDraft 0 ((0 : Nat) : Int) (p : Int) (aft C') = some C5 := by
    have hg := (gB_k 0 (by omega) p hp).1
    rw [tB_0, show 1 + 3 = 4 from rfl, show 1 + 8 + 34 * p = 9 + 34 * p from by rw [show 1 + 8 = 9 from rfl]] at hg
    unfold sX11_keepDraft sX11_keepDraft_b0
    rw [if_pos (by decide +kernel), hpw (), if_pos hp2, g0_0, g0_3, g1_5, g79_0, tN, hg, x1, ob_s, k1]
  refine ⟨C5, kd, fun a h1 h2 => by rw [k2 a (by omega), frame a (by omega)]; exact af a (by omega) (by omega), fun R' xR hR => ?_⟩
  have cR : ∀ a, a < 359 → R' a = C5 a := fun a ha => (xR.1 a (by omega) (by omega) (by omega) (by omega) (by omega)).trans (pre_r (by omega) (by omega))
  have c5M : ∀ a, a < 79 ∨ 114 < a → a ≠ 1 → a ≠ 3 → a < 9 + 34 * p ∨ 19 + 34 * p < a → C5 a = M a := fun a h1 h2 h3 h4 => by rw [k2 a h3, frame a h4]; exact af a h2 h1
  have rR : ∀ a, a = 360 ∨ (363 < a ∧ a < 370) ∨ a = 387 → R' a = M a := fun a ha => by
    rw [xR.1 a (by omega) (by omega) (by omega) (by omega) (by omega), pre_r (by omega) (by omega)]
    exact c5M a (by omega) (by omega) (by omega) (by omega)
  obtain ⟨n, en⟩ : ∃ n : Int, n = R' 364 0 + (if x2 = -1 then 1 else 0) := ⟨_, rfl⟩
  have r364 : R' 364 = M 364 := rR 364 (by omega)
  rw [r364] at en
  have hst : sX12_storeAll 359 ((0 : Nat) : Int) (p : Int) (mU R' 364 0 n) = some (mT (mU R' 364 0 n) 365 (132 * p) 132) := by
    have hb := stB (R := mU R' 364 0 n) (b := 365) (w := 132) (p := p) (q := 132 * p) (by omega) (by omega) (by omega) (by rw [l365_]; omega) (by omega)
    unfold sX12_storeAll sX12_storeAll_b0
    rw [if_pos (by decide +kernel), g359_6, show sX12_store 359 365 132 (p : Int) _ = _ from hb, ob_s]
  refine ⟨mT (mU R' 364 0 n) 365 (132 * p) 132, ?_, ?_⟩
  · unfold sX12_text_b100 sX12_text_b118
    have w2 : wI x2 = x2 := by
      rcases hx with ⟨e, _⟩ | ⟨e, _⟩
      · rw [e]; exact wI_m1
      · rw [e]; exact hpw ()
    have d20 : (0 : Int) ≤ wI ((0 : Nat) : Int) ∧ wI ((0 : Nat) : Int) < 20 := by decide +kernel
    rw [w2, g359_5, show (wI ((0 : Nat) : Int)).toNat = 0 from rfl]
    simp only [if_pos d20]
    rcases hx with ⟨e1, e2⟩ | ⟨e1, e2⟩
    · rw [if_pos e1, if_pos e1, ob_s, r364, ← e2]
      rw [e1, if_pos rfl, ← e2] at en
      rw [← en, hst, ob_s]
    · have e3 : ¬ x2 = -1 := by omega
      rw [if_neg e3, if_neg e3, ob_s, r364]
      rw [if_neg e3] at en
      rw [← en, e1, hst, ob_s]
  · obtain ⟨g1, g2, g3, g4⟩ := hR
    have hDR := (g4 rfl).1
    have m2r : ∀ a, a ≠ 364 → a ≠ 365 → mT (mU R' 364 0 n) 365 (132 * p) 132 a = R' a := fun a h1 h2 => by rw [mT_r h2, mU_row _ _ h1]
    have nn : (n = (p : Int) + 1 ∧ (p : Int) = M 364 0) ∨ (n = M 364 0 ∧ (p : Int) < M 364 0) := by
      rcases hx with ⟨e1, e2⟩ | ⟨e1, e2⟩
      · left; rw [e1, if_pos rfl] at en; omega
      · right; rw [if_neg (by omega)] at en; omega
    have m2n : mT (mU R' 364 0 n) 365 (132 * p) 132 364 0 = n := by rw [mT_r (by omega), mU_eq]
    have m370 : ∀ j, mU R' 364 0 n 370 j = R' 370 j := fun j => by rw [mU_row _ _ (by omega)]
    have a1 : C5 1 = aft C' 1 := (k2 1 (by omega)).trans (frame 1 (by omega))
    refine tx_0 (C := C5) (D := R' 370) h hp hps (fun a ha => by rw [m2r a (by omega) (by omega)]; exact cR a ha) (fun a h1 h2 h3 h4 h5 => c5M a h1 h3 h4 h5) (fun _ => ?_) (fun _ => by rw [a1]; exact aft_1.1) (fun _ => ?_) (fun _ => ?_) (fun _ => ?_) (fun i hi => ?_) (fun a ha => ?_) ?_ (fun j hj => ?_) (fun _ => ?_) (fun j hj => ?_) (fun _ => ?_) (fun j hj => ?_) (fun j hj => ?_) ?_
    · rw [k2 91 (by omega), k2 96 (by omega), k2 101 (by omega), k2 106 (by omega), k2 110 (by omega), frame 91 (by omega), frame 96 (by omega), frame 101 (by omega), frame 106 (by omega), frame 110 (by omega), afd 91 (by omega), afd 96 (by omega), afd 101 (by omega), afd 106 (by omega), afd 110 (by omega)]
      exact ⟨hh1, hh2, hh3, hh4, hh5⟩
    · rw [a1, aft_1.2.1, m2r 362 (by omega) (by omega)]; exact g1
    · rw [a1, aft_1.2.2, m2r 363 (by omega) (by omega)]; exact g2
    · rw [m2r 361 (by omega) (by omega), xR.1 361 (by omega) (by omega) (by omega) (by omega) (by omega)]; exact pre_0.1
    · obtain ⟨p1, p2, p3⟩ := pre_i (M := C5) hi
      rw [m2r 361 (by omega) (by omega), m2r 362 (by omega) (by omega), m2r 363 (by omega) (by omega), xR.1 361 (by omega) (by omega) (by omega) (by omega) (by omega), (xR.2 i hi).1, (xR.2 i hi).2, p1, p2, p3, c5M 361 (by omega) (by omega) (by omega) (by omega), c5M 362 (by omega) (by omega) (by omega) (by omega), c5M 363 (by omega) (by omega) (by omega) (by omega)]
      exact ⟨rfl, rfl, rfl⟩
    · rw [m2r a (by omega) (by omega)]; exact rR a (by omega)
    · rw [m2r 387 (by omega) (by omega)]; exact rR 387 (by omega)
    · rw [mT_r (by omega), mU_ne _ _ (by omega), r364]
    · rw [m2n]; exact nn
    · rw [k3 j hj, n3]
    · rw [m2n, k4]
      rcases nn with ⟨e1, e2⟩ | ⟨e1, e2⟩
      · rw [if_pos e2]; omega
      · rw [if_neg (by omega)]; exact e1.symm
    · rw [mT_i hj]; exact m370 j
    · rw [mT_o hj, mU_row _ _ (by omega), rR 365 (by omega)]
    · have hP : PC (aft C') 80 (R' 370) := PC_c (fun j hj => afd _ (by omega)) hDR.1.1
      exact ⟨PC_c (fun j hj => k2 _ (by omega)) (PC_m z1 ((g4 rfl).2 rfl) hP), (g4 rfl).2 rfl⟩
theorem tf_1 {M C' : MM} {p : Nat} {x2 : Int} (h : INV M) (hp : p < 2) (hps : (p : Int) ≤ M 364 1) (hx : (x2 = -1 ∧ (p : Int) = M 364 1) ∨ (x2 = (p : Int) ∧ (p : Int) < M 364 1)) (xA : XA M C') (hH : HM C') : ∃ C5, sX11_keepDraft 0 ((1 : Nat) : Int) (p : Int) (aft C') = some C5 ∧ (∀ a, 114 < a → a < 131 ∨ 358 < a → C5 a = M a) ∧ ∀ R', XC (pre C5) R' → RD 1 1 C' R' → ∃ M2, (if wI x2 = (-1) then (if 0 ≤ wI ((1 : Nat) : Int) ∧ wI ((1 : Nat) : Int) < 20 then (sX12_text_b100 359 ((1 : Nat) : Int) x2 (R' 364 (wI ((1 : Nat) : Int)).toNat) R') else none) else (sX12_text_b100 359 ((1 : Nat) : Int) x2 x2 R')) = some ((p : Int), M2) ∧ INV M2 := by
  have hz := i_size h (s := 1) (by omega)
  obtain ⟨hh1, hh2, hh3, hh4, hh5⟩ := hH.1
  have af : ∀ a, a ≠ 1 → a < 79 ∨ 114 < a → aft C' a = M a := fun a h1 h2 => (aft_r h1).trans (xA a h2)
  have afd : ∀ a, a ≠ 1 → aft C' a = C' a := fun a h1 => aft_r h1
  have hm := h.1.1 0 (by omega) p hp
  rw [tB_0] at hm
  have hpw : Unit → wI (p : Int) = (p : Int) := fun _ => wI_of (by omega) (by omega)
  have hp2 : (0 : Int) ≤ (p : Int) ∧ (p : Int) < 2 := ⟨by omega, by omega⟩
  have P0 := LG_b 0 (by omega) p hp
  rw [tB_0, show 1 + 19 + 34 * p = 20 + 34 * p by omega] at P0
  have hm0 := hm.1
  rw [show 1 + 19 + 34 * p = 20 + 34 * p by omega] at hm0
  obtain ⟨N, x1, y1, z1⟩ := lcopy (M := aft C') (m := 40) P0 LG_91 (by rw [af _ (by omega) (by omega)]; exact hm0) (by rw [afd _ (by omega)]; exact hh1) (by omega) (by omega)
  have frame : ∀ a, a < 20 + 34 * p ∨ 23 + 34 * p < a → N a = aft C' a := fun a ha => y1 a (by omega)
  have n3 : N 3 = M 3 := (frame 3 (by omega)).trans (af 3 (by omega) (by omega))
  obtain ⟨C5, k1, k2, k3, k4⟩ := kd_t (C := N) (s := 1) (p := p) (by omega) hp (by rw [n3, hz.1]; exact hz.2)
  rw [n3, hz.1] at k4
  have kd : sX11_keepDraft 0 ((1 : Nat) : Int) (p : Int) (aft C') = some C5 := by
    have hg := (gB_k 0 (by omega) p hp).2.1
    rw [tB_0, show 1 + 4 = 5 from rfl, show 1 + 19 + 34 * p = 20 + 34 * p from by rw [show 1 + 19 = 20 from rfl]] at hg
    unfold sX11_keepDraft sX11_keepDraft_b0
    rw [if_neg (by decide +kernel), if_pos (by decide +kernel), hpw (), if_pos hp2, g0_0, g0_3, g1_6, g79_1, tN, hg, x1, ob_s, k1]
  refine ⟨C5, kd, fun a h1 h2 => by rw [k2 a (by omega), frame a (by omega)]; exact af a (by omega) (by omega), fun R' xR hR => ?_⟩
  have cR : ∀ a, a < 359 → R' a = C5 a := fun a ha => (xR.1 a (by omega) (by omega) (by omega) (by omega) (by omega)).trans (pre_r (by omega) (by omega))
  have c5M : ∀ a, a < 79 ∨ 114 < a → a ≠ 1 → a ≠ 3 → a < 20 + 34 * p ∨ 23 + 34 * p < a → C5 a = M a := fun a h1 h2 h3 h4 => by rw [k2 a h3, frame a h4]; exact af a h2 h1
  have rR : ∀ a, a = 360 ∨ (363 < a ∧ a < 370) ∨ a = 387 → R' a = M a := fun a ha => by
    rw [xR.1 a (by omega) (by omega) (by omega) (by omega) (by omega), pre_r (by omega) (by omega)]
    exact c5M a (by omega) (by omega) (by omega) (by omega)
  obtain ⟨n, en⟩ : ∃ n : Int, n = R' 364 1 + (if x2 = -1 then 1 else 0) := ⟨_, rfl⟩
  have r364 : R' 364 = M 364 := rR 364 (by omega)
  rw [r364] at en
  have hst : sX12_storeAll 359 ((1 : Nat) : Int) (p : Int) (mU R' 364 1 n) = some (mT (mU R' 364 1 n) 366 (121 * p) 121) := by
    have hb := stB (R := mU R' 364 1 n) (b := 366) (w := 121) (p := p) (q := 121 * p) (by omega) (by omega) (by omega) (by rw [l366_]; omega) (by omega)
    unfold sX12_storeAll sX12_storeAll_b0
    rw [if_neg (by decide +kernel), if_pos (by decide +kernel), g359_7, show sX12_store 359 366 121 (p : Int) _ = _ from hb, ob_s]
  refine ⟨mT (mU R' 364 1 n) 366 (121 * p) 121, ?_, ?_⟩
  · unfold sX12_text_b100 sX12_text_b118
    have w2 : wI x2 = x2 := by
      rcases hx with ⟨e, _⟩ | ⟨e, _⟩
      · rw [e]; exact wI_m1
      · rw [e]; exact hpw ()
    have d20 : (0 : Int) ≤ wI ((1 : Nat) : Int) ∧ wI ((1 : Nat) : Int) < 20 := by decide +kernel
    rw [w2, g359_5, show (wI ((1 : Nat) : Int)).toNat = 1 from rfl]
    simp only [if_pos d20]
    rcases hx with ⟨e1, e2⟩ | ⟨e1, e2⟩
    · rw [if_pos e1, if_pos e1, ob_s, r364, ← e2]
      rw [e1, if_pos rfl, ← e2] at en
      rw [← en, hst, ob_s]
    · have e3 : ¬ x2 = -1 := by omega
      rw [if_neg e3, if_neg e3, ob_s, r364]
      rw [if_neg e3] at en
      rw [← en, e1, hst, ob_s]
  · obtain ⟨g1, g2, g3, g4⟩ := hR
    have hDR := (g4 rfl).1
    have m2r : ∀ a, a ≠ 364 → a ≠ 366 → mT (mU R' 364 1 n) 366 (121 * p) 121 a = R' a := fun a h1 h2 => by rw [mT_r h2, mU_row _ _ h1]
    have nn : (n = (p : Int) + 1 ∧ (p : Int) = M 364 1) ∨ (n = M 364 1 ∧ (p : Int) < M 364 1) := by
      rcases hx with ⟨e1, e2⟩ | ⟨e1, e2⟩
      · left; rw [e1, if_pos rfl] at en; omega
      · right; rw [if_neg (by omega)] at en; omega
    have m2n : mT (mU R' 364 1 n) 366 (121 * p) 121 364 1 = n := by rw [mT_r (by omega), mU_eq]
    have m370 : ∀ j, mU R' 364 1 n 370 j = R' 370 j := fun j => by rw [mU_row _ _ (by omega)]
    have a1 : C5 1 = aft C' 1 := (k2 1 (by omega)).trans (frame 1 (by omega))
    refine tx_1 (C := C5) (D := R' 370) h hp hps (fun a ha => by rw [m2r a (by omega) (by omega)]; exact cR a ha) (fun a h1 h2 h3 h4 h5 => c5M a h1 h3 h4 h5) (fun _ => ?_) ?_ (fun _ => by rw [a1]; exact aft_1.1) (fun _ => ?_) (fun _ => ?_) (fun _ => ?_) (fun i hi => ?_) (fun a ha => ?_) ?_ (fun j hj => ?_) (fun _ => ?_) (fun j hj => ?_) (fun _ => ?_) (fun j hj => ?_) (fun j hj => ?_) ?_
    · rw [k2 91 (by omega), k2 96 (by omega), k2 101 (by omega), k2 106 (by omega), k2 110 (by omega), frame 91 (by omega), frame 96 (by omega), frame 101 (by omega), frame 106 (by omega), frame 110 (by omega), afd 91 (by omega), afd 96 (by omega), afd 101 (by omega), afd 106 (by omega), afd 110 (by omega)]
      exact ⟨hh1, hh2, hh3, hh4, hh5⟩
    · rw [k2 _ (by omega), z1.2.1, af _ (by omega) (by omega)]; exact hm0
    · rw [a1, aft_1.2.1, m2r 362 (by omega) (by omega)]; exact g1
    · rw [a1, aft_1.2.2, m2r 363 (by omega) (by omega)]; exact g2
    · rw [m2r 361 (by omega) (by omega), xR.1 361 (by omega) (by omega) (by omega) (by omega) (by omega)]; exact pre_0.1
    · obtain ⟨p1, p2, p3⟩ := pre_i (M := C5) hi
      rw [m2r 361 (by omega) (by omega), m2r 362 (by omega) (by omega), m2r 363 (by omega) (by omega), xR.1 361 (by omega) (by omega) (by omega) (by omega) (by omega), (xR.2 i hi).1, (xR.2 i hi).2, p1, p2, p3, c5M 361 (by omega) (by omega) (by omega) (by omega), c5M 362 (by omega) (by omega) (by omega) (by omega), c5M 363 (by omega) (by omega) (by omega) (by omega)]
      exact ⟨rfl, rfl, rfl⟩
    · rw [m2r a (by omega) (by omega)]; exact rR a (by omega)
    · rw [m2r 387 (by omega) (by omega)]; exact rR 387 (by omega)
    · rw [mT_r (by omega), mU_ne _ _ (by omega), r364]
    · rw [m2n]; exact nn
    · rw [k3 j hj, n3]
    · rw [m2n, k4]
      rcases nn with ⟨e1, e2⟩ | ⟨e1, e2⟩
      · rw [if_pos e2]; omega
      · rw [if_neg (by omega)]; exact e1.symm
    · rw [mT_i hj]; exact m370 j
    · rw [mT_o hj, mU_row _ _ (by omega), rR 366 (by omega)]
    · have hP : BC (aft C') 91 (R' 370) := BC_c (fun j hj => afd _ (by omega)) hDR.1
      exact ⟨BC_c (fun j hj => k2 _ (by omega)) (BC_m z1 hDR.2 hP), hDR.2⟩
theorem tf_2 {M C' : MM} {p : Nat} {x2 : Int} (h : INV M) (hp : p < 2) (hps : (p : Int) ≤ M 364 2) (hx : (x2 = -1 ∧ (p : Int) = M 364 2) ∨ (x2 = (p : Int) ∧ (p : Int) < M 364 2)) (xA : XA M C') (hH : HM C') : ∃ C5, sX11_keepDraft 0 ((2 : Nat) : Int) (p : Int) (aft C') = some C5 ∧ (∀ a, 114 < a → a < 131 ∨ 358 < a → C5 a = M a) ∧ ∀ R', XC (pre C5) R' → RD 2 1 C' R' → ∃ M2, (if wI x2 = (-1) then (if 0 ≤ wI ((2 : Nat) : Int) ∧ wI ((2 : Nat) : Int) < 20 then (sX12_text_b100 359 ((2 : Nat) : Int) x2 (R' 364 (wI ((2 : Nat) : Int)).toNat) R') else none) else (sX12_text_b100 359 ((2 : Nat) : Int) x2 x2 R')) = some ((p : Int), M2) ∧ INV M2 := by
  have hz := i_size h (s := 2) (by omega)
  obtain ⟨hh1, hh2, hh3, hh4, hh5⟩ := hH.1
  have af : ∀ a, a ≠ 1 → a < 79 ∨ 114 < a → aft C' a = M a := fun a h1 h2 => (aft_r h1).trans (xA a h2)
  have afd : ∀ a, a ≠ 1 → aft C' a = C' a := fun a h1 => aft_r h1
  have hm := h.1.1 0 (by omega) p hp
  rw [tB_0] at hm
  have hpw : Unit → wI (p : Int) = (p : Int) := fun _ => wI_of (by omega) (by omega)
  have hp2 : (0 : Int) ≤ (p : Int) ∧ (p : Int) < 2 := ⟨by omega, by omega⟩
  have P0 := LG_c 0 (by omega) p hp
  have G0 := gC_2 0 (by omega) p hp
  rw [tB_0, show 1 + 24 + 34 * p = 24 + 34 * p + 1 by omega] at P0
  rw [tB_0, show 1 + 23 + 34 * p = 24 + 34 * p by omega] at G0
  have hm0 := hm.2.1
  rw [show 1 + 24 + 34 * p = 24 + 34 * p + 1 by omega] at hm0
  obtain ⟨N, x1, y1, z1, z2⟩ := ccopy (M := aft C') G0 ⟨g95_0, g95_1⟩ P0 LG_96 (by rw [af _ (by omega) (by omega)]; exact hm0) (by rw [afd _ (by omega)]; exact hh2) (by clear G0; omega)
  clear G0
  have frame : ∀ a, a < 24 + 34 * p ∨ 29 + 34 * p < a → N a = aft C' a := fun a ha => y1 a (by omega)
  have n3 : N 3 = M 3 := (frame 3 (by omega)).trans (af 3 (by omega) (by omega))
  obtain ⟨C5, k1, k2, k3, k4⟩ := kd_t (C := N) (s := 2) (p := p) (by omega) hp (by rw [n3, hz.1]; exact hz.2)
  rw [n3, hz.1] at k4
  have kd : sX11_keepDraft 0 ((2 : Nat) : Int) (p : Int) (aft C') = some C5 := by
    have hg := (gB_k 0 (by omega) p hp).2.2.1
    rw [tB_0, show 1 + 5 = 6 from rfl, show 1 + 23 + 34 * p = 24 + 34 * p from by rw [show 1 + 23 = 24 from rfl]] at hg
    unfold sX11_keepDraft sX11_keepDraft_b0
    rw [if_neg (by decide +kernel), if_neg (by decide +kernel), if_pos (by decide +kernel), hpw (), if_pos hp2, g0_0, g0_3, g1_7, g79_2, tN, hg, x1, ob_s, k1]
  refine ⟨C5, kd, fun a h1 h2 => by rw [k2 a (by omega), frame a (by omega)]; exact af a (by omega) (by omega), fun R' xR hR => ?_⟩
  have cR : ∀ a, a < 359 → R' a = C5 a := fun a ha => (xR.1 a (by omega) (by omega) (by omega) (by omega) (by omega)).trans (pre_r (by omega) (by omega))
  have c5M : ∀ a, a < 79 ∨ 114 < a → a ≠ 1 → a ≠ 3 → a < 24 + 34 * p ∨ 29 + 34 * p < a → C5 a = M a := fun a h1 h2 h3 h4 => by rw [k2 a h3, frame a h4]; exact af a h2 h1
  have rR : ∀ a, a = 360 ∨ (363 < a ∧ a < 370) ∨ a = 387 → R' a = M a := fun a ha => by
    rw [xR.1 a (by omega) (by omega) (by omega) (by omega) (by omega), pre_r (by omega) (by omega)]
    exact c5M a (by omega) (by omega) (by omega) (by omega)
  obtain ⟨n, en⟩ : ∃ n : Int, n = R' 364 2 + (if x2 = -1 then 1 else 0) := ⟨_, rfl⟩
  have r364 : R' 364 = M 364 := rR 364 (by omega)
  rw [r364] at en
  have hst : sX12_storeAll 359 ((2 : Nat) : Int) (p : Int) (mU R' 364 2 n) = some (mT (mU R' 364 2 n) 367 (33 * p) 33) := by
    have hb := stB (R := mU R' 364 2 n) (b := 367) (w := 33) (p := p) (q := 33 * p) (by omega) (by omega) (by omega) (by rw [l367_]; omega) (by omega)
    unfold sX12_storeAll sX12_storeAll_b0
    rw [if_neg (by decide +kernel), if_neg (by decide +kernel), if_pos (by decide +kernel), g359_8, show sX12_store 359 367 33 (p : Int) _ = _ from hb, ob_s]
  refine ⟨mT (mU R' 364 2 n) 367 (33 * p) 33, ?_, ?_⟩
  · unfold sX12_text_b100 sX12_text_b118
    have w2 : wI x2 = x2 := by
      rcases hx with ⟨e, _⟩ | ⟨e, _⟩
      · rw [e]; exact wI_m1
      · rw [e]; exact hpw ()
    have d20 : (0 : Int) ≤ wI ((2 : Nat) : Int) ∧ wI ((2 : Nat) : Int) < 20 := by decide +kernel
    rw [w2, g359_5, show (wI ((2 : Nat) : Int)).toNat = 2 from rfl]
    simp only [if_pos d20]
    rcases hx with ⟨e1, e2⟩ | ⟨e1, e2⟩
    · rw [if_pos e1, if_pos e1, ob_s, r364, ← e2]
      rw [e1, if_pos rfl, ← e2] at en
      rw [← en, hst, ob_s]
    · have e3 : ¬ x2 = -1 := by omega
      rw [if_neg e3, if_neg e3, ob_s, r364]
      rw [if_neg e3] at en
      rw [← en, e1, hst, ob_s]
  · obtain ⟨g1, g2, g3, g4⟩ := hR
    have hDR := (g4 rfl).1
    have m2r : ∀ a, a ≠ 364 → a ≠ 367 → mT (mU R' 364 2 n) 367 (33 * p) 33 a = R' a := fun a h1 h2 => by rw [mT_r h2, mU_row _ _ h1]
    have nn : (n = (p : Int) + 1 ∧ (p : Int) = M 364 2) ∨ (n = M 364 2 ∧ (p : Int) < M 364 2) := by
      rcases hx with ⟨e1, e2⟩ | ⟨e1, e2⟩
      · left; rw [e1, if_pos rfl] at en; omega
      · right; rw [if_neg (by omega)] at en; omega
    have m2n : mT (mU R' 364 2 n) 367 (33 * p) 33 364 2 = n := by rw [mT_r (by omega), mU_eq]
    have m370 : ∀ j, mU R' 364 2 n 370 j = R' 370 j := fun j => by rw [mU_row _ _ (by omega)]
    have a1 : C5 1 = aft C' 1 := (k2 1 (by omega)).trans (frame 1 (by omega))
    refine tx_2 (C := C5) (D := R' 370) h hp hps (fun a ha => by rw [m2r a (by omega) (by omega)]; exact cR a ha) (fun a h1 h2 h3 h4 h5 => c5M a h1 h3 h4 h5) (fun _ => ?_) ?_ (fun _ => by rw [a1]; exact aft_1.1) (fun _ => ?_) (fun _ => ?_) (fun _ => ?_) (fun i hi => ?_) (fun a ha => ?_) ?_ (fun j hj => ?_) (fun _ => ?_) (fun j hj => ?_) (fun _ => ?_) (fun j hj => ?_) (fun j hj => ?_) ?_
    · rw [k2 91 (by omega), k2 96 (by omega), k2 101 (by omega), k2 106 (by omega), k2 110 (by omega), frame 91 (by omega), frame 96 (by omega), frame 101 (by omega), frame 106 (by omega), frame 110 (by omega), afd 91 (by omega), afd 96 (by omega), afd 101 (by omega), afd 106 (by omega), afd 110 (by omega)]
      exact ⟨hh1, hh2, hh3, hh4, hh5⟩
    · rw [show 25 + 34 * p = 24 + 34 * p + 1 by omega, k2 _ (by omega), z1.2.1, af _ (by omega) (by omega)]; exact hm0
    · rw [a1, aft_1.2.1, m2r 362 (by omega) (by omega)]; exact g1
    · rw [a1, aft_1.2.2, m2r 363 (by omega) (by omega)]; exact g2
    · rw [m2r 361 (by omega) (by omega), xR.1 361 (by omega) (by omega) (by omega) (by omega) (by omega)]; exact pre_0.1
    · obtain ⟨p1, p2, p3⟩ := pre_i (M := C5) hi
      rw [m2r 361 (by omega) (by omega), m2r 362 (by omega) (by omega), m2r 363 (by omega) (by omega), xR.1 361 (by omega) (by omega) (by omega) (by omega) (by omega), (xR.2 i hi).1, (xR.2 i hi).2, p1, p2, p3, c5M 361 (by omega) (by omega) (by omega) (by omega), c5M 362 (by omega) (by omega) (by omega) (by omega), c5M 363 (by omega) (by omega) (by omega) (by omega)]
      exact ⟨rfl, rfl, rfl⟩
    · rw [m2r a (by omega) (by omega)]; exact rR a (by omega)
    · rw [m2r 387 (by omega) (by omega)]; exact rR 387 (by omega)
    · rw [mT_r (by omega), mU_ne _ _ (by omega), r364]
    · rw [m2n]; exact nn
    · rw [k3 j hj, n3]
    · rw [m2n, k4]
      rcases nn with ⟨e1, e2⟩ | ⟨e1, e2⟩
      · rw [if_pos e2]; omega
      · rw [if_neg (by omega)]; exact e1.symm
    · rw [mT_i hj]; exact m370 j
    · rw [mT_o hj, mU_row _ _ (by omega), rR 367 (by omega)]
    · have hP : CC (aft C') 95 (R' 370) := CC_c (fun j hj => afd _ (by omega)) hDR.1
      exact ⟨CC_c (fun j hj => k2 _ (by omega)) (CC_m z1 z2 hDR.2 hP), hDR.2⟩
theorem tf_3 {M C' : MM} {p : Nat} {x2 : Int} (h : INV M) (hp : p < 2) (hps : (p : Int) ≤ M 364 3) (hx : (x2 = -1 ∧ (p : Int) = M 364 3) ∨ (x2 = (p : Int) ∧ (p : Int) < M 364 3)) (xA : XA M C') (hH : HM C') : ∃ C5, sX11_keepDraft 0 ((3 : Nat) : Int) (p : Int) (aft C') = some C5 ∧ (∀ a, 114 < a → a < 131 ∨ 358 < a → C5 a = M a) ∧ ∀ R', XC (pre C5) R' → RD 3 1 C' R' → ∃ M2, (if wI x2 = (-1) then (if 0 ≤ wI ((3 : Nat) : Int) ∧ wI ((3 : Nat) : Int) < 20 then (sX12_text_b100 359 ((3 : Nat) : Int) x2 (R' 364 (wI ((3 : Nat) : Int)).toNat) R') else none) else (sX12_text_b100 359 ((3 : Nat) : Int) x2 x2 R')) = some ((p : Int), M2) ∧ INV M2 := by
  have hz := i_size h (s := 3) (by omega)
  obtain ⟨hh1, hh2, hh3, hh4, hh5⟩ := hH.1
  have af : ∀ a, a ≠ 1 → a < 79 ∨ 114 < a → aft C' a = M a := fun a h1 h2 => (aft_r h1).trans (xA a h2)
  have afd : ∀ a, a ≠ 1 → aft C' a = C' a := fun a h1 => aft_r h1
  have hm := h.1.1 0 (by omega) p hp
  rw [tB_0] at hm
  have hpw : Unit → wI (p : Int) = (p : Int) := fun _ => wI_of (by omega) (by omega)
  have hp2 : (0 : Int) ≤ (p : Int) ∧ (p : Int) < 2 := ⟨by omega, by omega⟩
  have P0 := LG_g 0 (by omega) p hp
  rw [tB_0, show 1 + 29 + 34 * p = 30 + 34 * p by omega] at P0
  have hm0 := hm.2.2.1
  rw [show 1 + 29 + 34 * p = 30 + 34 * p by omega] at hm0
  obtain ⟨N, x1, y1, z1⟩ := lcopy (M := aft C') (m := 25) P0 LG_101 (by rw [af _ (by omega) (by omega)]; exact hm0) (by rw [afd _ (by omega)]; exact hh3) (by omega) (by omega)
  have frame : ∀ a, a < 30 + 34 * p ∨ 33 + 34 * p < a → N a = aft C' a := fun a ha => y1 a (by omega)
  have n3 : N 3 = M 3 := (frame 3 (by omega)).trans (af 3 (by omega) (by omega))
  obtain ⟨C5, k1, k2, k3, k4⟩ := kd_t (C := N) (s := 3) (p := p) (by omega) hp (by rw [n3, hz.1]; exact hz.2)
  rw [n3, hz.1] at k4
  have kd : sX11_keepDraft 0 ((3 : Nat) : Int) (p : Int) (aft C') = some C5 := by
    have hg := (gB_k 0 (by omega) p hp).2.2.2.1
    rw [tB_0, show 1 + 6 = 7 from rfl, show 1 + 29 + 34 * p = 30 + 34 * p from by rw [show 1 + 29 = 30 from rfl]] at hg
    unfold sX11_keepDraft sX11_keepDraft_b0
    rw [if_neg (by decide +kernel), if_neg (by decide +kernel), if_neg (by decide +kernel), if_pos (by decide +kernel), hpw (), if_pos hp2, g0_0, g0_3, g1_8, g79_3, tN, hg, x1, ob_s, k1]
  refine ⟨C5, kd, fun a h1 h2 => by rw [k2 a (by omega), frame a (by omega)]; exact af a (by omega) (by omega), fun R' xR hR => ?_⟩
  have cR : ∀ a, a < 359 → R' a = C5 a := fun a ha => (xR.1 a (by omega) (by omega) (by omega) (by omega) (by omega)).trans (pre_r (by omega) (by omega))
  have c5M : ∀ a, a < 79 ∨ 114 < a → a ≠ 1 → a ≠ 3 → a < 30 + 34 * p ∨ 33 + 34 * p < a → C5 a = M a := fun a h1 h2 h3 h4 => by rw [k2 a h3, frame a h4]; exact af a h2 h1
  have rR : ∀ a, a = 360 ∨ (363 < a ∧ a < 370) ∨ a = 387 → R' a = M a := fun a ha => by
    rw [xR.1 a (by omega) (by omega) (by omega) (by omega) (by omega), pre_r (by omega) (by omega)]
    exact c5M a (by omega) (by omega) (by omega) (by omega)
  obtain ⟨n, en⟩ : ∃ n : Int, n = R' 364 3 + (if x2 = -1 then 1 else 0) := ⟨_, rfl⟩
  have r364 : R' 364 = M 364 := rR 364 (by omega)
  rw [r364] at en
  have hst : sX12_storeAll 359 ((3 : Nat) : Int) (p : Int) (mU R' 364 3 n) = some (mT (mU R' 364 3 n) 368 (51 * p) 51) := by
    have hb := stB (R := mU R' 364 3 n) (b := 368) (w := 51) (p := p) (q := 51 * p) (by omega) (by omega) (by omega) (by rw [l368_]; omega) (by omega)
    unfold sX12_storeAll sX12_storeAll_b0
    rw [if_neg (by decide +kernel), if_neg (by decide +kernel), if_neg (by decide +kernel), if_pos (by decide +kernel), g359_9, show sX12_store 359 368 51 (p : Int) _ = _ from hb, ob_s]
  refine ⟨mT (mU R' 364 3 n) 368 (51 * p) 51, ?_, ?_⟩
  · unfold sX12_text_b100 sX12_text_b118
    have w2 : wI x2 = x2 := by
      rcases hx with ⟨e, _⟩ | ⟨e, _⟩
      · rw [e]; exact wI_m1
      · rw [e]; exact hpw ()
    have d20 : (0 : Int) ≤ wI ((3 : Nat) : Int) ∧ wI ((3 : Nat) : Int) < 20 := by decide +kernel
    rw [w2, g359_5, show (wI ((3 : Nat) : Int)).toNat = 3 from rfl]
    simp only [if_pos d20]
    rcases hx with ⟨e1, e2⟩ | ⟨e1, e2⟩
    · rw [if_pos e1, if_pos e1, ob_s, r364, ← e2]
      rw [e1, if_pos rfl, ← e2] at en
      rw [← en, hst, ob_s]
    · have e3 : ¬ x2 = -1 := by omega
      rw [if_neg e3, if_neg e3, ob_s, r364]
      rw [if_neg e3] at en
      rw [← en, e1, hst, ob_s]
  · obtain ⟨g1, g2, g3, g4⟩ := hR
    have hDR := (g4 rfl).1
    have m2r : ∀ a, a ≠ 364 → a ≠ 368 → mT (mU R' 364 3 n) 368 (51 * p) 51 a = R' a := fun a h1 h2 => by rw [mT_r h2, mU_row _ _ h1]
    have nn : (n = (p : Int) + 1 ∧ (p : Int) = M 364 3) ∨ (n = M 364 3 ∧ (p : Int) < M 364 3) := by
      rcases hx with ⟨e1, e2⟩ | ⟨e1, e2⟩
      · left; rw [e1, if_pos rfl] at en; omega
      · right; rw [if_neg (by omega)] at en; omega
    have m2n : mT (mU R' 364 3 n) 368 (51 * p) 51 364 3 = n := by rw [mT_r (by omega), mU_eq]
    have m370 : ∀ j, mU R' 364 3 n 370 j = R' 370 j := fun j => by rw [mU_row _ _ (by omega)]
    have a1 : C5 1 = aft C' 1 := (k2 1 (by omega)).trans (frame 1 (by omega))
    refine tx_3 (C := C5) (D := R' 370) h hp hps (fun a ha => by rw [m2r a (by omega) (by omega)]; exact cR a ha) (fun a h1 h2 h3 h4 h5 => c5M a h1 h3 h4 h5) (fun _ => ?_) ?_ (fun _ => by rw [a1]; exact aft_1.1) (fun _ => ?_) (fun _ => ?_) (fun _ => ?_) (fun i hi => ?_) (fun a ha => ?_) ?_ (fun j hj => ?_) (fun _ => ?_) (fun j hj => ?_) (fun _ => ?_) (fun j hj => ?_) (fun j hj => ?_) ?_
    · rw [k2 91 (by omega), k2 96 (by omega), k2 101 (by omega), k2 106 (by omega), k2 110 (by omega), frame 91 (by omega), frame 96 (by omega), frame 101 (by omega), frame 106 (by omega), frame 110 (by omega), afd 91 (by omega), afd 96 (by omega), afd 101 (by omega), afd 106 (by omega), afd 110 (by omega)]
      exact ⟨hh1, hh2, hh3, hh4, hh5⟩
    · rw [k2 _ (by omega), z1.2.1, af _ (by omega) (by omega)]; exact hm0
    · rw [a1, aft_1.2.1, m2r 362 (by omega) (by omega)]; exact g1
    · rw [a1, aft_1.2.2, m2r 363 (by omega) (by omega)]; exact g2
    · rw [m2r 361 (by omega) (by omega), xR.1 361 (by omega) (by omega) (by omega) (by omega) (by omega)]; exact pre_0.1
    · obtain ⟨p1, p2, p3⟩ := pre_i (M := C5) hi
      rw [m2r 361 (by omega) (by omega), m2r 362 (by omega) (by omega), m2r 363 (by omega) (by omega), xR.1 361 (by omega) (by omega) (by omega) (by omega) (by omega), (xR.2 i hi).1, (xR.2 i hi).2, p1, p2, p3, c5M 361 (by omega) (by omega) (by omega) (by omega), c5M 362 (by omega) (by omega) (by omega) (by omega), c5M 363 (by omega) (by omega) (by omega) (by omega)]
      exact ⟨rfl, rfl, rfl⟩
    · rw [m2r a (by omega) (by omega)]; exact rR a (by omega)
    · rw [m2r 387 (by omega) (by omega)]; exact rR 387 (by omega)
    · rw [mT_r (by omega), mU_ne _ _ (by omega), r364]
    · rw [m2n]; exact nn
    · rw [k3 j hj, n3]
    · rw [m2n, k4]
      rcases nn with ⟨e1, e2⟩ | ⟨e1, e2⟩
      · rw [if_pos e2]; omega
      · rw [if_neg (by omega)]; exact e1.symm
    · rw [mT_i hj]; exact m370 j
    · rw [mT_o hj, mU_row _ _ (by omega), rR 368 (by omega)]
    · have hP : DC (aft C') 101 (R' 370) := DC_c (fun j hj => afd _ (by omega)) hDR.1
      exact ⟨DC_c (fun j hj => k2 _ (by omega)) (DC_m z1 hDR.2 hP), hDR.2⟩
theorem tf_4 {M C' : MM} {p : Nat} {x2 : Int} (h : INV M) (hp : p < 2) (hps : (p : Int) ≤ M 364 4) (hx : (x2 = -1 ∧ (p : Int) = M 364 4) ∨ (x2 = (p : Int) ∧ (p : Int) < M 364 4)) (xA : XA M C') (hH : HM C') : ∃ C5, sX11_keepDraft 0 ((4 : Nat) : Int) (p : Int) (aft C') = some C5 ∧ (∀ a, 114 < a → a < 131 ∨ 358 < a → C5 a = M a) ∧ ∀ R', XC (pre C5) R' → RD 4 1 C' R' → ∃ M2, (if wI x2 = (-1) then (if 0 ≤ wI ((4 : Nat) : Int) ∧ wI ((4 : Nat) : Int) < 20 then (sX12_text_b100 359 ((4 : Nat) : Int) x2 (R' 364 (wI ((4 : Nat) : Int)).toNat) R') else none) else (sX12_text_b100 359 ((4 : Nat) : Int) x2 x2 R')) = some ((p : Int), M2) ∧ INV M2 := by
  have hz := i_size h (s := 4) (by omega)
  obtain ⟨hh1, hh2, hh3, hh4, hh5⟩ := hH.1
  have af : ∀ a, a ≠ 1 → a < 79 ∨ 114 < a → aft C' a = M a := fun a h1 h2 => (aft_r h1).trans (xA a h2)
  have afd : ∀ a, a ≠ 1 → aft C' a = C' a := fun a h1 => aft_r h1
  have hm := h.1.1 0 (by omega) p hp
  rw [tB_0] at hm
  have hpw : Unit → wI (p : Int) = (p : Int) := fun _ => wI_of (by omega) (by omega)
  have hp2 : (0 : Int) ≤ (p : Int) ∧ (p : Int) < 2 := ⟨by omega, by omega⟩
  have P0 := LG_s 0 (by omega) p hp
  have P1 := LG_r 0 (by omega) p hp
  have G0 := gT_2 0 (by omega) p hp
  rw [tB_0, show 1 + 34 + 34 * p = 34 + 34 * p + 1 by omega] at P0
  rw [tB_0, show 1 + 38 + 34 * p = 34 + 34 * p + 5 by omega] at P1
  rw [tB_0, show 1 + 33 + 34 * p = 34 + 34 * p by omega] at G0
  have hm0 := hm.2.2.2.1
  have hm1 := hm.2.2.2.2
  rw [show 1 + 34 + 34 * p = 34 + 34 * p + 1 by omega] at hm0
  rw [show 1 + 38 + 34 * p = 34 + 34 * p + 5 by omega] at hm1
  obtain ⟨N, x1, y1, z1, z2⟩ := rcopy (M := aft C') G0 ⟨g105_0, g105_1⟩ P0 LG_106 P1 LG_110 (by rw [af _ (by clear G0; omega) (by clear G0; omega)]; exact hm0) (by rw [afd _ (by omega)]; exact hh4) (by rw [af _ (by clear G0; omega) (by clear G0; omega)]; exact hm1) (by rw [afd _ (by omega)]; exact hh5) (by clear G0; omega)
  clear G0
  have frame : ∀ a, a < 34 + 34 * p ∨ 42 + 34 * p < a → N a = aft C' a := fun a ha => y1 a (by omega)
  have n3 : N 3 = M 3 := (frame 3 (by omega)).trans (af 3 (by omega) (by omega))
  obtain ⟨C5, k1, k2, k3, k4⟩ := kd_t (C := N) (s := 4) (p := p) (by omega) hp (by rw [n3, hz.1]; exact hz.2)
  rw [n3, hz.1] at k4
  have kd : sX11_keepDraft 0 ((4 : Nat) : Int) (p : Int) (aft C') = some C5 := by
    have hg := (gB_k 0 (by omega) p hp).2.2.2.2
    rw [tB_0, show 1 + 7 = 8 from rfl, show 1 + 33 + 34 * p = 34 + 34 * p from by rw [show 1 + 33 = 34 from rfl]] at hg
    unfold sX11_keepDraft sX11_keepDraft_b0
    rw [if_neg (by decide +kernel), if_neg (by decide +kernel), if_neg (by decide +kernel), if_neg (by decide +kernel), hpw (), if_pos hp2, g0_0, g0_3, g1_9, g79_4, tN, hg, x1, ob_s, k1]
  refine ⟨C5, kd, fun a h1 h2 => by rw [k2 a (by omega), frame a (by omega)]; exact af a (by omega) (by omega), fun R' xR hR => ?_⟩
  have cR : ∀ a, a < 359 → R' a = C5 a := fun a ha => (xR.1 a (by omega) (by omega) (by omega) (by omega) (by omega)).trans (pre_r (by omega) (by omega))
  have c5M : ∀ a, a < 79 ∨ 114 < a → a ≠ 1 → a ≠ 3 → a < 34 + 34 * p ∨ 42 + 34 * p < a → C5 a = M a := fun a h1 h2 h3 h4 => by rw [k2 a h3, frame a h4]; exact af a h2 h1
  have rR : ∀ a, a = 360 ∨ (363 < a ∧ a < 370) ∨ a = 387 → R' a = M a := fun a ha => by
    rw [xR.1 a (by omega) (by omega) (by omega) (by omega) (by omega), pre_r (by omega) (by omega)]
    exact c5M a (by omega) (by omega) (by omega) (by omega)
  obtain ⟨n, en⟩ : ∃ n : Int, n = R' 364 4 + (if x2 = -1 then 1 else 0) := ⟨_, rfl⟩
  have r364 : R' 364 = M 364 := rR 364 (by omega)
  rw [r364] at en
  have hst : sX12_storeAll 359 ((4 : Nat) : Int) (p : Int) (mU R' 364 4 n) = some (mT (mU R' 364 4 n) 369 (97 * p) 97) := by
    have hb := stB (R := mU R' 364 4 n) (b := 369) (w := 97) (p := p) (q := 97 * p) (by omega) (by omega) (by omega) (by rw [l369_]; omega) (by omega)
    unfold sX12_storeAll sX12_storeAll_b0
    rw [if_neg (by decide +kernel), if_neg (by decide +kernel), if_neg (by decide +kernel), if_neg (by decide +kernel), g359_10, show sX12_store 359 369 97 (p : Int) _ = _ from hb, ob_s]
  refine ⟨mT (mU R' 364 4 n) 369 (97 * p) 97, ?_, ?_⟩
  · unfold sX12_text_b100 sX12_text_b118
    have w2 : wI x2 = x2 := by
      rcases hx with ⟨e, _⟩ | ⟨e, _⟩
      · rw [e]; exact wI_m1
      · rw [e]; exact hpw ()
    have d20 : (0 : Int) ≤ wI ((4 : Nat) : Int) ∧ wI ((4 : Nat) : Int) < 20 := by decide +kernel
    rw [w2, g359_5, show (wI ((4 : Nat) : Int)).toNat = 4 from rfl]
    simp only [if_pos d20]
    rcases hx with ⟨e1, e2⟩ | ⟨e1, e2⟩
    · rw [if_pos e1, if_pos e1, ob_s, r364, ← e2]
      rw [e1, if_pos rfl, ← e2] at en
      rw [← en, hst, ob_s]
    · have e3 : ¬ x2 = -1 := by omega
      rw [if_neg e3, if_neg e3, ob_s, r364]
      rw [if_neg e3] at en
      rw [← en, e1, hst, ob_s]
  · obtain ⟨g1, g2, g3, g4⟩ := hR
    have hDR := (g4 rfl).1
    have m2r : ∀ a, a ≠ 364 → a ≠ 369 → mT (mU R' 364 4 n) 369 (97 * p) 97 a = R' a := fun a h1 h2 => by rw [mT_r h2, mU_row _ _ h1]
    have nn : (n = (p : Int) + 1 ∧ (p : Int) = M 364 4) ∨ (n = M 364 4 ∧ (p : Int) < M 364 4) := by
      rcases hx with ⟨e1, e2⟩ | ⟨e1, e2⟩
      · left; rw [e1, if_pos rfl] at en; omega
      · right; rw [if_neg (by omega)] at en; omega
    have m2n : mT (mU R' 364 4 n) 369 (97 * p) 97 364 4 = n := by rw [mT_r (by omega), mU_eq]
    have m370 : ∀ j, mU R' 364 4 n 370 j = R' 370 j := fun j => by rw [mU_row _ _ (by omega)]
    have a1 : C5 1 = aft C' 1 := (k2 1 (by omega)).trans (frame 1 (by omega))
    refine tx_4 (C := C5) (D := R' 370) h hp hps (fun a ha => by rw [m2r a (by omega) (by omega)]; exact cR a ha) (fun a h1 h2 h3 h4 h5 => c5M a h1 h3 h4 h5) (fun _ => ?_) ?_ ?_ (fun _ => by rw [a1]; exact aft_1.1) (fun _ => ?_) (fun _ => ?_) (fun _ => ?_) (fun i hi => ?_) (fun a ha => ?_) ?_ (fun j hj => ?_) (fun _ => ?_) (fun j hj => ?_) (fun _ => ?_) (fun j hj => ?_) (fun j hj => ?_) ?_
    · rw [k2 91 (by omega), k2 96 (by omega), k2 101 (by omega), k2 106 (by omega), k2 110 (by omega), frame 91 (by omega), frame 96 (by omega), frame 101 (by omega), frame 106 (by omega), frame 110 (by omega), afd 91 (by omega), afd 96 (by omega), afd 101 (by omega), afd 106 (by omega), afd 110 (by omega)]
      exact ⟨hh1, hh2, hh3, hh4, hh5⟩
    · rw [show 35 + 34 * p = 34 + 34 * p + 1 by omega, k2 _ (by omega), z1.2.1, af _ (by omega) (by omega)]; exact hm0
    · rw [show 39 + 34 * p = 34 + 34 * p + 5 by omega, k2 _ (by omega), z2.2.1, af _ (by omega) (by omega)]; exact hm1
    · rw [a1, aft_1.2.1, m2r 362 (by omega) (by omega)]; exact g1
    · rw [a1, aft_1.2.2, m2r 363 (by omega) (by omega)]; exact g2
    · rw [m2r 361 (by omega) (by omega), xR.1 361 (by omega) (by omega) (by omega) (by omega) (by omega)]; exact pre_0.1
    · obtain ⟨p1, p2, p3⟩ := pre_i (M := C5) hi
      rw [m2r 361 (by omega) (by omega), m2r 362 (by omega) (by omega), m2r 363 (by omega) (by omega), xR.1 361 (by omega) (by omega) (by omega) (by omega) (by omega), (xR.2 i hi).1, (xR.2 i hi).2, p1, p2, p3, c5M 361 (by omega) (by omega) (by omega) (by omega), c5M 362 (by omega) (by omega) (by omega) (by omega), c5M 363 (by omega) (by omega) (by omega) (by omega)]
      exact ⟨rfl, rfl, rfl⟩
    · rw [m2r a (by omega) (by omega)]; exact rR a (by omega)
    · rw [m2r 387 (by omega) (by omega)]; exact rR 387 (by omega)
    · rw [mT_r (by omega), mU_ne _ _ (by omega), r364]
    · rw [m2n]; exact nn
    · rw [k3 j hj, n3]
    · rw [m2n, k4]
      rcases nn with ⟨e1, e2⟩ | ⟨e1, e2⟩
      · rw [if_pos e2]; omega
      · rw [if_neg (by omega)]; exact e1.symm
    · rw [mT_i hj]; exact m370 j
    · rw [mT_o hj, mU_row _ _ (by omega), rR 369 (by omega)]
    · have hP : RC (aft C') 105 (R' 370) := RC_c (fun j hj => afd _ (by omega)) hDR.1
      exact ⟨RC_c (fun j hj => k2 _ (by omega)) (RC_m z1 z2 hDR.2 hP), hDR.2⟩
