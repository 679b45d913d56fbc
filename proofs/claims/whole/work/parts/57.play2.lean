def stQ (P : Nat → Int) (s : PS) (la : Int × Int) : PS := if la.2 = -1 then (uF (uF (uF s.1 7 0) 8 (-1)) 1 (s.1 1 + 1), s.2.1, uF s.2.2 (4 * (s.1 0).toNat) (s.2.2 (4 * (s.1 0).toNat) + 1)) else (uF (uF (uF (uF (uF (uF s.1 7 la.1) 8 la.2) 1 (s.1 1 + 1)) 12 (if la.2 = 0 then s.1 12 + foP P s.1 la.1 else s.1 12)) 13 (if la.2 = 0 then foP P s.1 la.1 else s.1 13)) 4 (if la.2 = 0 ∧ s.2.1 0 ≤ foP P s.1 la.1 then s.1 0 else s.1 4), uF s.2.1 la.2.toNat (s.2.1 la.2.toNat - min (s.2.1 la.2.toNat) (foP P s.1 la.1)), uF (uF s.2.2 (4 * (s.1 0).toNat + la.1.toNat) (s.2.2 (4 * (s.1 0).toNat + la.1.toNat) + 1)) (4 * (s.1 0).toNat + 3) (s.2.2 (4 * (s.1 0).toNat + 3) + min (s.2.1 la.2.toNat) (foP P s.1 la.1)))
theorem stP_q (P : Nat → Int) (s : PS) (w h : Int) : stP P s w h = stQ P s (laP P s.1 s.2.1 w h) := rfl
/-- the class's play is in this state -/
def RCL (P : Nat → Int) (M : MM) (s : PS) : Prop := (∀ j, j ≤ 8 → M 115 j = s.1 j) ∧ (M 115 12 = s.1 12 ∧ M 115 13 = s.1 13) ∧ (∀ p : Nat, (p : Int) < P 0 → M 116 p = s.2.1 p) ∧ (∀ c, c < 8 → ∀ t, t < 3 → M 117 (8 * t + c) = s.2.2 (4 * c + t)) ∧ ∀ c, c < 8 → M 118 c = s.2.2 (4 * c + 3)
/-- rows 115 .. 118 alone -/
def F115 (M M' : MM) : Prop := ∀ a, a < 115 ∨ 118 < a → M' a = M a
theorem F115_u {M M' : MM} {b k : Nat} {x : Int} (h : F115 M M') (hb : 115 ≤ b ∧ b ≤ 118) : F115 M (mU M' b k x) := fun a ha => by rw [mU_row _ _ (show a ≠ b by omega)]; exact h a ha
theorem F115_PC {M M' : MM} {p : Nat} {P : Nat → Int} (h : F115 M M') (hp : p < 77) (hc : PC M p P) : PC M' p P := PC_c (fun j hj => h _ (by omega)) hc
theorem ap_sym : ∀ a, a < 8 → ∀ b, b < 8 → sX12_apart ((a : Nat) : Int) ((b : Nat) : Int) = sX12_apart (b : Int) (a : Int) := by decide +kernel
theorem apart_sym {a b : Int} (ha : 0 ≤ a ∧ a ≤ 7) (hb : 0 ≤ b ∧ b ≤ 7) : sX12_apart a b = sX12_apart b a := by
  obtain ⟨x, rfl⟩ := Int.eq_ofNat_of_zero_le ha.1
  obtain ⟨y, rfl⟩ := Int.eq_ofNat_of_zero_le hb.1
  exact ap_sym x (by omega) y (by omega)
theorem firstA {M : MM} {p : Nat} {P : Nat → Int} (hc : PC M p P) (hv : PV P) (hg : PG p) {f L : Nat → Int} (h2 : M 115 2 = f 2) (h3 : M 115 3 = f 3) (hL : ∀ i : Nat, (i : Int) < P 0 → M 116 i = L i) (f2 : 0 ≤ f 2 ∧ f 2 ≤ 7) (f3 : 0 ≤ f 3 ∧ f 3 ≤ 9) (bL : ∀ i : Nat, (i : Int) < P 0 → 0 ≤ L i ∧ L i ≤ 30) {w h off : Int} (hw : 0 ≤ w ∧ w ≤ 7) (hh : 0 ≤ h ∧ h ≤ 9) (ho : off = 0 ∨ off = 1) : sX6_firstPartOff 115 p w h off M = some (suN P f L w h off (P 0).toNat) := by
  have hv1 := hv.1
  obtain ⟨n, hn⟩ := Int.eq_ofNat_of_zero_le (show 0 ≤ P 0 by omega)
  unfold sX6_firstPartOff sX6_firstPartOff_b0
  rw [hn, tN]
  refine loopC (fun g y (_ : Unit) => sX6_firstPartOff_b3 115 p w h off M g y) n (fun i _ => suN P f L w h off i = -1) (fun o => o = some (suN P f L w h off n)) ?_ ?_ FU 0 () (by omega) rfl (by unfold FU; omega)
  · intro g _ hi
    show sX6_firstPartOff_b3 115 p w h off M (g + 1) (n : Int) = _
    rw [sX6_firstPartOff_b3, hc.1.1, hn, if_pos (Int.le_refl _), hi]
  · intro g i _ hi hsu
    have hpt := hv.2.2.2.2.1 i (by omega)
    have hci := (hc.2.2.2.1 i (by omega)).1
    have bi := bL i (by omega)
    have fe := fa_e f2 hw
    have z5 : 0 ≤ (i : Int) ∧ (i : Int) < 5 := ⟨by omega, by omega⟩
    have e : suN P f L w h off (i + 1) = suS P f L w h off i (suN P f L w h off i) := fo_s _ _ _
    rw [hsu] at e
    have keep : ∀ m, suN P f L w h off (i + 1) = (i : Int) → suN P f L w h off (i + 1 + m) = (i : Int) := by
      intro m hm
      induction m with
      | zero => exact hm
      | succ m ih =>
        have e2 : suN P f L w h off (i + 1 + m + 1) = suS P f L w h off (i + 1 + m) (suN P f L w h off (i + 1 + m)) := fo_s _ _ _
        show suN P f L w h off (i + 1 + m + 1) = _
        rw [e2, ih]
        exact if_neg (by omega)
    have ofe : ofP P f L w h i = (if 0 ≤ P (18 + 2 * i) + f 3 - h then P (18 + 2 * i) + f 3 - h else -(P (18 + 2 * i) + f 3 - h)) + sX12_apart (f 2) w := rfl
    have habs : 0 ≤ (if 0 ≤ P (18 + 2 * i) + f 3 - h then P (18 + 2 * i) + f 3 - h else -(P (18 + 2 * i) + f 3 - h)) ∧ (if 0 ≤ P (18 + 2 * i) + f 3 - h then P (18 + 2 * i) + f 3 - h else -(P (18 + 2 * i) + f 3 - h)) ≤ 18 := by split <;> omega
    show sX6_firstPartOff_b3 115 p w h off M (g + 1) (i : Int) = _ ∨ ∃ s' : Unit, sX6_firstPartOff_b3 115 p w h off M (g + 1) (i : Int) = sX6_firstPartOff_b3 115 p w h off M g ((i : Int) + 1) ∧ _
    rw [sX6_firstPartOff_b3, hc.1.1, hn, wI_of (x := (n : Int)) (by omega) (by omega), wI_of (x := (i : Int)) (by omega) (by omega), if_neg (show ¬ (n : Int) ≤ (i : Int) by omega), if_pos z5, ob_s, if_pos z5, hg.1, g115_9, tN, hci, hL i (by omega), h2, h3, fe.1, wI_of (x := P (18 + 2 * i) + f 3 - h) (by omega) (by omega)]
    generalize (if 0 ≤ P (18 + 2 * i) + f 3 - h then P (18 + 2 * i) + f 3 - h else -(P (18 + 2 * i) + f 3 - h)) = A at *
    rw [wI_of (x := L i) (by omega) (by omega), wI_of (x := sX12_apart (f 2) w + A) (by omega) (by omega), wI_of (x := off) (by omega) (by omega)]
    unfold sX6_firstPartOff_b60
    simp only [ob_s]
    unfold suS at e
    by_cases q : (-1 : Int) = -1 ∧ 0 < L i ∧ ofP P f L w h i = off
    · rw [if_pos q] at e
      left
      have := keep (n - (i + 1)) e
      rw [show i + 1 + (n - (i + 1)) = n by omega] at this
      rw [this, if_neg (by omega), if_pos (by rw [Int.add_comm, ← ofe]; exact q.2.2)]
    · rw [if_neg q] at e
      right
      refine ⟨(), ?_, e⟩
      by_cases q2 : L i ≤ 0
      · rw [if_pos q2]
      · rw [if_neg q2, if_neg (fun z => q ⟨rfl, by omega, by rw [ofe, Int.add_comm]; exact z⟩)]
theorem strA {M0 N : MM} {p : Nat} {P : Nat → Int} (hc : PC M0 p P) (hv : PV P) (hg : PG p) (hp : p < 66) {K : Nat} {s : PS} (hs : SV P K s) (hr : F115 M0 N) (h0 : ∀ j, j ≤ 8 → j ≠ 7 → j ≠ 8 → N 115 j = s.1 j) (h12 : N 115 12 = s.1 12 ∧ N 115 13 = s.1 13) {l pt : Int} (e7 : N 115 7 = l) (e8 : N 115 8 = pt) (hl : l = 1 ∨ l = 2) (hpt : pt = -1 ∨ (0 ≤ pt ∧ pt < P 0 ∧ 0 < s.2.1 pt.toNat)) (hL : ∀ i : Nat, (i : Int) < P 0 → N 116 i = s.2.1 i) (hD : ∀ c, c < 8 → ∀ t, t < 3 → N 117 (8 * t + c) = s.2.2 (4 * c + t)) (hT : ∀ c, c < 8 → N 118 c = s.2.2 (4 * c + 3)) (hwho : 0 ≤ s.1 0) (w h : Int) : ∃ N', sX6_strikes_b74 115 p w h N = some (1, N') ∧ F115 M0 N' ∧ RCL P N' (stQ P s (if pt = -1 then (0, -1) else (l, pt))) := by
  have hv1 := hv.1
  obtain ⟨f, L, D⟩ := s
  obtain ⟨s0, s1, s2, s3, s4, s5, s6, s7, s8, s9, s10, s11, s12⟩ := hs
  dsimp only at *
  obtain ⟨c, hcw⟩ := Int.eq_ofNat_of_zero_le hwho
  have hcn : (c : Int) < P 1 := by omega
  have z8 : 0 ≤ (c : Int) ∧ (c : Int) < 8 := ⟨by omega, by omega⟩
  have hcc := hc.2.2.2.2.1 c hcn
  have hch := hv.2.2.2.2.2.1 c hcn
  have n0 : N 115 0 = (c : Int) := (h0 0 (by omega) (by omega) (by omega)).trans hcw
  have n1 : N 115 1 = f 1 := h0 1 (by omega) (by omega) (by omega)
  -- the end: one blow more, written down
  have tail : ∀ (T : MM) (l' : Nat), l' < 3 → F115 M0 T → T 115 0 = (c : Int) → T 115 7 = (l' : Int) → T 117 (8 * l' + c) = D (4 * c + l') → ∃ T', sX6_strikes_b129 115 p w h T = some (1, T') ∧ T' = mU (mU T 115 1 (T 115 1 + 1)) 117 (8 * l' + c) (D (4 * c + l') + 1) := by
    intro T l' hl' hT0 t0 t7 t17
    have zz : 0 ≤ (l' : Int) * 8 + (c : Int) ∧ (l' : Int) * 8 + (c : Int) < 24 := ⟨by omega, by omega⟩
    unfold sX6_strikes_b129
    rw [ob_s, mU_ne _ _ (show (115 : Nat) ≠ 115 ∨ (7 : Nat) ≠ 1 by omega), mU_ne _ _ (show (115 : Nat) ≠ 115 ∨ (0 : Nat) ≠ 1 by omega), t0, t7, ob_s, wI_of (x := (l' : Int) * 8 + (c : Int)) (by omega) (by omega), if_pos zz, if_pos zz, ob_s, g115_10, show ((l' : Int) * 8 + (c : Int)).toNat = 8 * l' + c by omega, mU_row _ _ (show (117 : Nat) ≠ 115 by omega), t17]
    exact ⟨_, rfl, rfl⟩
  unfold sX6_strikes_b74
  rw [e8, e7]
  by_cases q : pt = -1
  · rw [wI_of (x := pt) (by omega) (by omega), if_pos q, ob_s, if_pos q]
    obtain ⟨T', e, eT⟩ := tail (mU N 115 7 0) 0 (by omega) (F115_u hr (by omega)) (by rw [mU_ne _ _ (by omega)]; exact n0) (mU_eq _ _ _ _) (by rw [mU_ne _ _ (by omega)]; exact hD c (by omega) 0 (by omega))
    refine ⟨T', e, by rw [eT]; exact F115_u (F115_u (F115_u hr (by omega)) (by omega)) (by omega), ?_⟩
    subst eT
    unfold stQ
    dsimp only
    rw [if_pos rfl, hcw, tN]
    refine ⟨fun j hj => ?_, ⟨?_, ?_⟩, fun i hi => ?_, fun c' hc' t ht => ?_, fun c' hc' => ?_⟩
    · rw [mU_row _ _ (show (115 : Nat) ≠ 117 by omega)]
      show _ = uF (uF (uF f 7 0) 8 (-1)) 1 (f 1 + 1) j
      by_cases j1 : j = 1
      · subst j1; rw [mU_eq, uF_e, mU_ne _ _ (by omega), n1]
      · rw [mU_ne _ _ (by omega), uF_n _ _ j1]
        by_cases j7 : j = 7
        · subst j7; rw [mU_eq, uF_n _ _ (by omega), uF_e]
        · rw [mU_ne _ _ (by omega)]
          by_cases j8 : j = 8
          · subst j8; rw [uF_e, e8, q]
          · rw [uF_n _ _ j8, uF_n _ _ j7]; exact h0 j hj j7 j8
    · rw [mU_ne _ _ (by omega), mU_ne _ _ (by omega), mU_ne _ _ (by omega)]; exact h12.1
    · rw [mU_ne _ _ (by omega), mU_ne _ _ (by omega), mU_ne _ _ (by omega)]; exact h12.2
    · rw [mU_row _ _ (by omega), mU_row _ _ (by omega), mU_row _ _ (by omega)]; exact hL i hi
    · show _ = uF D (4 * c) (D (4 * c) + 1) (4 * c' + t)
      by_cases e1 : c' = c ∧ t = 0
      · obtain ⟨rfl, rfl⟩ := e1; rw [mU_eq, Nat.add_zero, uF_e]
      · rw [mU_ne _ _ (by omega), mU_row _ _ (by omega), mU_row _ _ (by omega), uF_n _ _ (by omega)]; exact hD c' hc' t ht
    · show _ = uF D (4 * c) (D (4 * c) + 1) (4 * c' + 3)
      rw [mU_row _ _ (by omega), mU_row _ _ (by omega), mU_row _ _ (by omega), uF_n _ _ (by omega)]; exact hT c' hc'
  · rcases hpt with hpt | ⟨q1, q2, q3⟩
    · exact absurd hpt q
    obtain ⟨i, rfl⟩ := Int.eq_ofNat_of_zero_le q1
    rw [tN] at q3
    have hLi := s9 i q2
    have z5 : 0 ≤ (i : Int) ∧ (i : Int) < 5 := ⟨by omega, by omega⟩
    have hfo : N (gR p 5) (wI (N 115 0)).toNat = P (29 + 13 * c) := by rw [hg.2.2.2.1, n0, wI_of (by omega) (by omega), tN, hr (p + 4) (by omega), hcc.2.1]
    rw [wI_of (x := (i : Int)) (by omega) (by omega), if_neg (show ¬ (i : Int) = -1 by omega), if_neg (show ¬ (i : Int) = -1 by omega), hfo, n0, wI_of (x := (c : Int)) (by omega) (by omega), if_pos z8, if_pos z8, wI_of (x := l) (by omega) (by omega), wI_of (x := P (29 + 13 * c)) (by omega) (by omega)]
    have hF : foP P f l = if l = 2 then P (29 + 13 * c) else P (29 + 13 * c) / 2 := by unfold foP; rw [hcw, tN]
    have hFb : 0 ≤ foP P f l ∧ foP P f l ≤ 9 := by rw [hF]; split <;> omega
    have hb : (if l = 2 then sX6_strikes_b126 115 p w h 115 (i : Int) (P (29 + 13 * c)) N else sX6_strikes_b126 115 p w h 115 (i : Int) (Int.tdiv (P (29 + 13 * c)) 2) N) = sX6_strikes_b126 115 p w h 115 (i : Int) (foP P f l) N := by
      rw [hF]
      by_cases q2' : l = 2
      · rw [if_pos q2', if_pos q2']
      · rw [if_neg q2', if_neg q2', Int.tdiv_eq_ediv_of_nonneg (by omega)]
    rw [hb]
    -- the taking
    have take : ∃ T, sX6_takes 115 (i : Int) (foP P f l) N = some T ∧ F115 M0 T ∧ (∀ j, j ≤ 8 → j ≠ 4 → T 115 j = N 115 j) ∧ T 115 4 = (if i = 0 ∧ L 0 ≤ foP P f l then f 0 else f 4) ∧ T 115 12 = (if i = 0 then f 12 + foP P f l else f 12) ∧ T 115 13 = (if i = 0 then foP P f l else f 13) ∧ (∀ j : Nat, (j : Int) < P 0 → T 116 j = uF L i (L i - min (L i) (foP P f l)) j) ∧ T 117 = N 117 ∧ (∀ j, T 118 j = uF (N 118) c (N 118 c + min (L i) (foP P f l)) j) := by
      unfold sX6_takes sX6_takes_b0
      rw [wI_of (x := (i : Int)) (by omega) (by omega), if_neg (show ¬ (i : Int) < 0 by omega), if_neg (show ¬ 5 ≤ (i : Int) by omega), n0, wI_of (x := (c : Int)) (by omega) (by omega), if_neg (show ¬ (c : Int) < 0 by omega), if_pos (show (c : Int) < 8 by omega), if_pos z5, ob_s, if_pos z5, if_pos z5, ob_s, g115_9, tN, hL i q2, wI_of (x := L i) (by omega) (by omega), wI_of (x := foP P f l) (by omega) (by omega), mU_ne _ _ (show (115 : Nat) ≠ 116 ∨ (0 : Nat) ≠ i by omega), n0, wI_of (x := (c : Int)) (by omega) (by omega), if_pos z8, if_pos z8, ob_s, g115_11, tN, mU_row _ _ (show (118 : Nat) ≠ 116 by omega)]
      generalize foP P f l = F at *
      have mrow : ∀ j : Nat, (j : Int) < P 0 → mU N 116 i (L i - min (L i) F) 116 j = uF L i (L i - min (L i) F) j := fun j hj => by
        by_cases e : j = i
        · subst e; rw [mU_eq, uF_e]
        · rw [mU_ne _ _ (by omega), uF_n _ _ e]; exact hL j hj
      have trow : ∀ j, mU (mU N 116 i (L i - min (L i) F)) 118 c (N 118 c + min (L i) F) 118 j = uF (N 118) c (N 118 c + min (L i) F) j := fun j => by
        by_cases e : j = c
        · subst e; rw [mU_eq, uF_e]
        · rw [mU_ne _ _ (by omega), uF_n _ _ e, mU_row _ _ (by omega)]
      by_cases i0 : i = 0
      · subst i0
        rw [if_pos (show ((0 : Nat) : Int) = 0 from rfl), ob_s, ob_s]
        have hz : (mU (mU (mU (mU N 116 0 (L 0 - min (L 0) F)) 118 c (N 118 c + min (L 0) F)) 115 12 ((mU (mU N 116 0 (L 0 - min (L 0) F)) 118 c (N 118 c + min (L 0) F)) 115 12 + F)) 115 13 F) 116 0 = L 0 - min (L 0) F := by rw [mU_row _ _ (by omega), mU_row _ _ (by omega), mU_row _ _ (by omega), mU_eq]
        rw [hz, wI_of (x := L 0 - min (L 0) F) (by omega) (by omega)]
        by_cases qb : L 0 ≤ F
        · rw [if_pos (show L 0 - min (L 0) F = 0 by omega), ob_s]
          refine ⟨_, rfl, F115_u (F115_u (F115_u (F115_u (F115_u hr (by omega)) (by omega)) (by omega)) (by omega)) (by omega), fun j hj hj4 => ?_, ?_, ?_, ?_, fun j hj => ?_, ?_, fun j => ?_⟩
          · rw [mU_ne _ _ (by omega), mU_ne _ _ (by omega), mU_ne _ _ (by omega), mU_row _ _ (by omega), mU_row _ _ (by omega)]
          · rw [mU_eq, if_pos ⟨rfl, qb⟩, mU_ne _ _ (by omega), mU_ne _ _ (by omega), mU_row _ _ (by omega), mU_row _ _ (by omega), n0, hcw]
          · rw [mU_ne _ _ (by omega), mU_ne _ _ (by omega), mU_eq, if_pos rfl, mU_row _ _ (by omega), mU_row _ _ (by omega), h12.1]
          · rw [mU_ne _ _ (by omega), mU_eq, if_pos rfl]
          · rw [mU_row _ _ (by omega), mU_row _ _ (by omega), mU_row _ _ (by omega), mU_row _ _ (by omega)]; exact mrow j hj
          · rw [mU_row _ _ (by omega), mU_row _ _ (by omega), mU_row _ _ (by omega), mU_row _ _ (by omega), mU_row _ _ (by omega)]
          · rw [mU_row _ _ (by omega), mU_row _ _ (by omega), mU_row _ _ (by omega)]; exact trow j
        · rw [if_neg (show ¬ L 0 - min (L 0) F = 0 by omega)]
          refine ⟨_, rfl, F115_u (F115_u (F115_u (F115_u hr (by omega)) (by omega)) (by omega)) (by omega), fun j hj hj4 => ?_, ?_, ?_, ?_, fun j hj => ?_, ?_, fun j => ?_⟩
          · rw [mU_ne _ _ (by omega), mU_ne _ _ (by omega), mU_row _ _ (by omega), mU_row _ _ (by omega)]
          · rw [if_neg (fun z => qb z.2), mU_ne _ _ (by omega), mU_ne _ _ (by omega), mU_row _ _ (by omega), mU_row _ _ (by omega)]; exact h0 4 (by omega) (by omega) (by omega)
          · rw [mU_ne _ _ (by omega), mU_eq, if_pos rfl, mU_row _ _ (by omega), mU_row _ _ (by omega), h12.1]
          · rw [mU_eq, if_pos rfl]
          · rw [mU_row _ _ (by omega), mU_row _ _ (by omega), mU_row _ _ (by omega)]; exact mrow j hj
          · rw [mU_row _ _ (by omega), mU_row _ _ (by omega), mU_row _ _ (by omega), mU_row _ _ (by omega)]
          · rw [mU_row _ _ (by omega), mU_row _ _ (by omega)]; exact trow j
      · rw [if_neg (show ¬ (i : Int) = 0 by omega)]
        refine ⟨_, rfl, F115_u (F115_u hr (by omega)) (by omega), fun j hj hj4 => ?_, ?_, ?_, ?_, fun j hj => ?_, ?_, trow⟩
        · rw [mU_row _ _ (by omega), mU_row _ _ (by omega)]
        · rw [if_neg (fun z => i0 z.1), mU_row _ _ (by omega), mU_row _ _ (by omega)]; exact h0 4 (by omega) (by omega) (by omega)
        · rw [if_neg i0, mU_row _ _ (by omega), mU_row _ _ (by omega), h12.1]
        · rw [if_neg i0, mU_row _ _ (by omega), mU_row _ _ (by omega), h12.2]
        · rw [mU_row _ _ (by omega)]; exact mrow j hj
        · rw [mU_row _ _ (by omega), mU_row _ _ (by omega)]
    obtain ⟨T, t1, t2, t3, t4, t5, t6, t7, t8, t9⟩ := take
    obtain ⟨l', rfl⟩ := Int.eq_ofNat_of_zero_le (show 0 ≤ l by omega)
    obtain ⟨T', e, eT⟩ := tail T l' (by omega) t2 (by rw [t3 0 (by omega) (by omega)]; exact n0) (by rw [t3 7 (by omega) (by omega)]; exact e7) (by rw [t8]; exact hD c (by omega) l' (by omega))
    unfold sX6_strikes_b126
    rw [t1, ob_s]
    refine ⟨T', e, by rw [eT]; exact F115_u (F115_u t2 (by omega)) (by omega), ?_⟩
    subst eT
    unfold stQ
    dsimp only
    rw [if_neg (show ¬ (i : Int) = -1 by omega), hcw, tN, tN, tN]
    generalize foP P f (l' : Int) = F at *
    have i0e : ((i : Int) = 0) = (i = 0) := by apply propext; omega
    simp only [i0e]
    refine ⟨fun j hj => ?_, ⟨?_, ?_⟩, fun k hk => ?_, fun c' hc' t ht => ?_, fun c' hc' => ?_⟩
    · rw [mU_row _ _ (show (115 : Nat) ≠ 117 by omega)]
      dsimp only
      by_cases j4 : j = 4
      · subst j4; rw [mU_ne _ _ (by omega), uF_e, t4, hcw]
      · rw [uF_n _ _ j4, uF_n _ _ (show j ≠ 13 by omega), uF_n _ _ (show j ≠ 12 by omega)]
        by_cases j1 : j = 1
        · subst j1; rw [mU_eq, uF_e, t3 1 (by omega) (by omega), n1]
        · rw [mU_ne _ _ (by omega), uF_n _ _ j1, t3 j hj j4]
          by_cases j8 : j = 8
          · subst j8; rw [uF_e, e8]
          · rw [uF_n _ _ j8]
            by_cases j7 : j = 7
            · subst j7; rw [uF_e, e7]
            · rw [uF_n _ _ j7]; exact h0 j hj j7 j8
    · dsimp only
      rw [mU_ne _ _ (by omega), mU_ne _ _ (by omega), t5, uF_n _ _ (by omega), uF_n _ _ (by omega), uF_e]
    · dsimp only
      rw [mU_ne _ _ (by omega), mU_ne _ _ (by omega), t6, uF_n _ _ (by omega), uF_e]
    · rw [mU_row _ _ (by omega), mU_row _ _ (by omega)]; exact t7 k hk
    · dsimp only
      rw [uF_n _ _ (show 4 * c' + t ≠ 4 * c + 3 by omega)]
      by_cases e1 : c' = c ∧ t = l'
      · obtain ⟨rfl, rfl⟩ := e1; rw [mU_eq, uF_e]
      · rw [mU_ne _ _ (by omega), mU_row _ _ (by omega), t8, uF_n _ _ (by omega)]; exact hD c' hc' t ht
    · dsimp only
      rw [mU_row _ _ (by omega), mU_row _ _ (by omega), t9]
      by_cases e1 : c' = c
      · subst e1; rw [uF_e, uF_e, hT c' hc']
      · rw [uF_n _ _ e1, uF_n _ _ (by omega), uF_n _ _ (by omega)]; exact hT c' hc'
