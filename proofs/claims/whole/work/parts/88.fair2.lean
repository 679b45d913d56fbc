/-- the call fair -/
theorem rw_x {r n : Nat} {o o' : Nat → Nat} {N : MM} (h : RwR r n o N) (e : ∀ i, i < n → o i = o' i) : RwR r n o' N := ⟨fun i hi => by rw [← e i hi]; exact h.1 i hi, fun i hi => by rw [← e i hi]; exact h.2 i hi⟩
theorem nxt {r n : Nat} (hn : 1 ≤ n ∧ n ≤ 5) {k : Nat} (hk : k < (plP n).length) {N : MM} {q : Option (Int × MM)} (h : NXR r n (olP n k) N q) : (k + 1 = (plP n).length ∧ q = some (0, N)) ∨ (k + 1 < (plP n).length ∧ ∃ N', q = some (1, N') ∧ RwR r n (olP n (k + 1)) N' ∧ ∀ x, x ≠ r → N' x = N x) := by
  have s := pl_s n (by omega) hn.1 k (by have := pl_n n (by omega); omega) hk
  unfold NXR at h
  cases e : nxF n (olP n k) with
  | none =>
    rw [e] at s h
    exact Or.inl ⟨eq_of_beq s, h⟩
  | some o' =>
    rw [e] at s h
    have s' : (decide (k + 1 < (plP n).length) && eqN n o' (olP n (k + 1))) = true := s
    rw [Bool.and_eq_true] at s'
    obtain ⟨N', a1, a2, a3⟩ := h
    exact Or.inr ⟨of_decide_eq_true s'.1, N', a1, rw_x a2 (eqN_e s'.2), a3⟩
def odC (n k : Nat) : Int := fo (fun i s => s * 8 + (olP n k i : Int)) n (0 : Int)
theorem ordC {N : MM} {p n k : Nat} (hn : n ≤ 8) (hN : N p 3 = (n : Int)) (h : RwR 122 n (olP n k) N) : sX4_orderOfRow 121 p N = some (odC n k) := by
  unfold sX4_orderOfRow sX4_orderOfRow_b0
  refine loopC (fun f y (s : Int) => sX4_orderOfRow_b4 121 p N f s y) n (fun i s => s = fo (fun i s => s * 8 + (olP n k i : Int)) i 0) (fun r => r = some (odC n k)) ?_ ?_ FU 0 0 (by omega) rfl (by unfold FU; omega)
  · intro f s hs
    show sX4_orderOfRow_b4 121 p N (f + 1) s (n : Int) = _
    rw [sX4_orderOfRow_b4, hN, if_pos (Int.le_refl _), hs]; rfl
  · intro f i s hi hs
    right
    refine ⟨s * 8 + (olP n k i : Int), ?_, by rw [hs]; rfl⟩
    show sX4_orderOfRow_b4 121 p N (f + 1) s (i : Int) = _
    rw [sX4_orderOfRow_b4, hN, wI_of (x := (n : Int)) (by omega) (by omega), wI_of (x := (i : Int)) (by omega) (by omega), if_neg (show ¬ (n : Int) ≤ (i : Int) by omega), if_pos ⟨by omega, by omega⟩, ob_s, ob_s, g121_0, tN, h.1 i hi]
theorem ordD {N : MM} {n k : Nat} (hn : n ≤ 5) (hk : k < (plP n).length) (hN : N 359 26 = (n : Int)) (h : RwR 382 n (olP n k) N) : sX12_orderNow 359 N = some (odC n k) := by
  have c := pl_c n (by omega) k (by have := pl_n n (by omega); omega) hk
  unfold sX12_orderNow sX12_orderNow_b0
  unfold odC
  rw [← c]
  refine loopC (fun f y (s : Int) => sX12_orderNow_b4 359 N f s y) n (fun i s => s = fo (fun i s => oI (s * 2 ^ (Int.toNat 3)) (olP n k i : Int)) i 0) (fun r => r = some (fo (fun i s => oI (s * 2 ^ (Int.toNat 3)) (olP n k i : Int)) n 0)) ?_ ?_ FU 0 0 (by omega) rfl (by unfold FU; omega)
  · intro f s hs
    show sX12_orderNow_b4 359 N (f + 1) s (n : Int) = _
    rw [sX12_orderNow_b4, hN, if_pos (Int.le_refl _), hs]
  · intro f i s hi hs
    right
    refine ⟨oI (s * 2 ^ (Int.toNat 3)) (olP n k i : Int), ?_, by rw [hs]; rfl⟩
    show sX12_orderNow_b4 359 N (f + 1) s (i : Int) = _
    rw [sX12_orderNow_b4, hN, wI_of (x := (n : Int)) (by omega) (by omega), wI_of (x := (i : Int)) (by omega) (by omega), if_neg (show ¬ (n : Int) ≤ (i : Int) by omega), if_pos ⟨by omega, by omega⟩, ob_s, ob_s, g359_52, tN, h.1 i hi]
def bsP (gp od : Nat → Int) : Nat → Int × Int
  | 0 => (od 0, gp 0)
  | k + 1 => if (bsP gp od k).2 ≤ gp (k + 1) then bsP gp od k else (od (k + 1), gp (k + 1))
theorem bs_b {gp od : Nat → Int} {L : Nat} (h : ∀ k, k < L → (-1000000000000000 ≤ gp k ∧ gp k ≤ 1000000000000000) ∧ 0 ≤ od k ∧ od k < 32768) : ∀ k, k < L → (-1000000000000000 ≤ (bsP gp od k).2 ∧ (bsP gp od k).2 ≤ 1000000000000000) ∧ 0 ≤ (bsP gp od k).1 ∧ (bsP gp od k).1 < 32768 := by
  intro k
  induction k with
  | zero => intro hk; exact h 0 hk
  | succ k ih =>
    intro hk
    show (-1000000000000000 ≤ (if (bsP gp od k).2 ≤ gp (k + 1) then bsP gp od k else (od (k + 1), gp (k + 1))).2 ∧ (if (bsP gp od k).2 ≤ gp (k + 1) then bsP gp od k else (od (k + 1), gp (k + 1))).2 ≤ 1000000000000000) ∧ 0 ≤ (if (bsP gp od k).2 ≤ gp (k + 1) then bsP gp od k else (od (k + 1), gp (k + 1))).1 ∧ (if (bsP gp od k).2 ≤ gp (k + 1) then bsP gp od k else (od (k + 1), gp (k + 1))).1 < 32768
    split
    · exact ih (by omega)
    · exact h (k + 1) hk
theorem fairA {M : MM} {p : Nat} {P : Nat → Int} (hc : PC M p P) (hv : PV P) (hg : PG p) (hp : p < 66) {n b : Nat} (hT : TPP P n b) (hn5 : n ≤ 5) {B0 : Nat} (hB0 : P 19 = (B0 : Int)) (hb0 : 1 ≤ B0 ∧ B0 ≤ 30) (gb : ∀ k, k < (plP n).length → (-1000000000000000 ≤ gpP P b n (B0 * 1) (olP n k) ∧ gpP P b n (B0 * 1) (olP n k) ≤ 1000000000000000) ∧ 0 ≤ odC n k ∧ odC n k < 32768) : ∃ M1, sX4_fairest 121 p M = some ((bsP (fun k => gpP P b n (B0 * 1) (olP n k)) (odC n) ((plP n).length - 1)).1, M1) ∧ FC M M1 := by
  obtain ⟨t1, t2, t3, t4, t5, t6, t7, t8, t9⟩ := id hT
  have p32 : ∀ m, m < 6 → (2 : Int) ^ m ≤ 32 ∧ 1 ≤ (2 : Int) ^ m := by decide
  have pn := p32 n (by omega)
  obtain ⟨w, hw⟩ := Int.eq_ofNat_of_zero_le (show 0 ≤ (2 : Int) ^ n by omega)
  have l120 := pl_n n (by omega)
  have l1 := pl_0 n (by omega) t3
  have bb := bs_b (gp := fun k => gpP P b n (B0 * 1) (olP n k)) (od := odC n) gb
  unfold sX4_fairest sX4_fairest_b0
  -- the walk
  have walk : ∀ T : MM, FC M T → (∀ x : Nat, (x : Int) < 2 ^ n → T 125 x = hoP P n b B0 1 (btS (x : Int))) → RwR 122 n (olP n 0) T → ∃ M1, sX4_fairest_b62 121 p FU (bsP (fun k => gpP P b n (B0 * 1) (olP n k)) (odC n) 0).1 (bsP (fun k => gpP P b n (B0 * 1) (olP n k)) (odC n) 0).2 1 T = some ((bsP (fun k => gpP P b n (B0 * 1) (olP n k)) (odC n) ((plP n).length - 1)).1, M1) ∧ FC M M1 := by
    intro T h1 h2 h3
    have main : ∀ m k : Nat, k + 1 + m = (plP n).length → ∀ f, m < f → ∀ S : MM, FC M S → (∀ x : Nat, (x : Int) < 2 ^ n → S 125 x = hoP P n b B0 1 (btS (x : Int))) → RwR 122 n (olP n k) S → ∃ M1, sX4_fairest_b62 121 p f (bsP (fun k => gpP P b n (B0 * 1) (olP n k)) (odC n) k).1 (bsP (fun k => gpP P b n (B0 * 1) (olP n k)) (odC n) k).2 ((k : Int) + 1) S = some ((bsP (fun k => gpP P b n (B0 * 1) (olP n k)) (odC n) ((plP n).length - 1)).1, M1) ∧ FC M M1 := by
      intro m
      induction m with
      | zero =>
        intro k hk f hf S s1 s2 s3
        obtain ⟨f, rfl⟩ : ∃ g, f = g + 1 := ⟨f - 1, by omega⟩
        have sn : S p 3 = (n : Int) := by rw [s1 p (by omega), hc.1.2.1]; exact t1
        rw [sX4_fairest_b62, wI_of (x := (k : Int) + 1) (by omega) (by omega)]
        unfold sX4_fairest_b106
        by_cases q : 120 ≤ (k : Int) + 1
        · rw [if_pos q, show (plP n).length - 1 = k by omega]; exact ⟨S, rfl, s1⟩
        · rcases nxt ⟨t3, hn5⟩ (k := k) (by omega) (nxA ⟨t3, t4⟩ (p := p) (by omega) sn s3) with ⟨_, e⟩ | ⟨e, _⟩
          · rw [if_neg q, e, ob_s]
            dsimp only
            rw [i00, show (plP n).length - 1 = k by omega]; exact ⟨S, rfl, s1⟩
          · omega
      | succ m ih =>
        intro k hk f hf S s1 s2 s3
        obtain ⟨f, rfl⟩ : ∃ g, f = g + 1 := ⟨f - 1, by omega⟩
        have sn : S p 3 = (n : Int) := by rw [s1 p (by omega), hc.1.2.1]; exact t1
        rw [sX4_fairest_b62, wI_of (x := (k : Int) + 1) (by omega) (by omega), if_neg (show ¬ 120 ≤ (k : Int) + 1 by omega)]
        rcases nxt ⟨t3, hn5⟩ (k := k) (by omega) (nxA ⟨t3, t4⟩ (p := p) (by omega) sn s3) with ⟨e, _⟩ | ⟨e, S', e1, e2, e3⟩
        · omega
        · have fS : FC M S' := fun a ha => by rw [e3 a (by omega)]; exact s1 a ha
          have s2' : ∀ x : Nat, (x : Int) < 2 ^ n → S' 125 x = hoP P n b B0 1 (btS (x : Int)) := fun x hx => by rw [e3 125 (by omega)]; exact s2 x hx
          have sn' : S' p 3 = (n : Int) := by rw [e3 p (by omega)]; exact sn
          have g := gapA hc hT hn5 (fS p (by omega)) (pl_ord (by omega) e) e2 (fun i hi => pl_f n (by omega) (k + 1) (by omega) e i (by omega) hi) hb0.1 s2'
          have b1 := bb k (by omega)
          have b2 := gb (k + 1) e
          have ih' := ih (k + 1) (by omega) f (by omega) S' fS s2' e2
          have bs1 : bsP (fun k => gpP P b n (B0 * 1) (olP n k)) (odC n) (k + 1) = if (bsP (fun k => gpP P b n (B0 * 1) (olP n k)) (odC n) k).2 ≤ gpP P b n (B0 * 1) (olP n (k + 1)) then bsP (fun k => gpP P b n (B0 * 1) (olP n k)) (odC n) k else (odC n (k + 1), gpP P b n (B0 * 1) (olP n (k + 1))) := rfl
          rw [e1, ob_s]
          dsimp only
          unfold sX4_fairest_b100
          rw [i10, g, ob_s, ordC t4 sn' e2, ob_s, ob_s, ob_s]
          rw [bs1, show ((k + 1 : Nat) : Int) + 1 = (k : Int) + 1 + 1 by omega] at ih'
          generalize bsP (fun k => gpP P b n (B0 * 1) (olP n k)) (odC n) k = s at *
          generalize gpP P b n (B0 * 1) (olP n (k + 1)) = g1 at *
          rw [wJ_of (x := s.2) (by omega) (by omega), wJ_of (x := g1) (by omega) (by omega)]
          by_cases y : s.2 ≤ g1
          · rw [if_pos y] at ih' ⊢; exact ih'
          · rw [if_neg y] at ih' ⊢; exact ih'
    exact main ((plP n).length - 1) 0 (by omega) FU (by unfold FU; omega) T h1 h2 h3
  refine loopC (fun f y (t : MM) => sX4_fairest_b2 121 p f y t) w (fun k t => FC M t ∧ ∀ x : Nat, x < k → t 125 x = hoP P n b B0 1 (btS (x : Int))) (fun r => ∃ M1, r = some ((bsP (fun k => gpP P b n (B0 * 1) (olP n k)) (odC n) ((plP n).length - 1)).1, M1) ∧ FC M M1) ?_ ?_ FU 0 M (by omega) ⟨fun _ _ => rfl, fun x hx => by omega⟩ (by unfold FU; omega)
  · intro f t ⟨h1, h2⟩
    show ∃ M1, sX4_fairest_b2 121 p (f + 1) (w : Int) t = some (_, M1) ∧ FC M M1
    have tn : t p 3 = (n : Int) := by rw [h1 p (by omega), hc.1.2.1]; exact t1
    have hct : PC t p P := PC_c (fun j hj => h1 _ (by omega)) hc
    obtain ⟨L, k1, k2, k3⟩ := ordA hct hp t1 ⟨t3, t4⟩ (N := t) rfl (x := -1) ⟨by omega, by omega⟩
    have L3 : RwR 122 n (olP n 0) L := ⟨fun i hi => by
      rw [k3 i hi, eqN_e l1.2 i hi]
      unfold odP
      rw [if_pos rfl]
      show ((n - 1 - (n - 1 - i) : Nat) : Int) = (i : Int)
      omega, fun i hi => by rw [eqN_e l1.2 i hi]; show i < 8; omega⟩
    have fL : FC M L := fun a ha => by rw [k2 a (by omega)]; exact h1 a ha
    have L2 : ∀ x : Nat, (x : Int) < 2 ^ n → L 125 x = hoP P n b B0 1 (btS (x : Int)) := fun x hx => by rw [k2 125 (by omega)]; exact h2 x (by omega)
    have Ln : L p 3 = (n : Int) := by rw [k2 p (by omega)]; exact tn
    have g := gapA hc hT hn5 (fL p (by omega)) (pl_ord (by omega) (show 0 < (plP n).length by omega)) L3 (fun i hi => pl_f n (by omega) 0 (by omega) (by omega) i (by omega) hi) hb0.1 L2
    rw [sX4_fairest_b2, tn, wI_of (x := (n : Int)) (by omega) (by omega), if_pos (show 0 ≤ (n : Int) ∧ (n : Int) < 32 by omega), tN, Int.one_mul, hw, if_pos (Int.le_refl _)]
    unfold sX4_fairest_b40
    rw [k1, ob_s]
    dsimp only
    rw [ordC t4 Ln L3, ob_s, g, ob_s]
    exact walk L fL L2 L3
  · intro f k t hk ⟨h1, h2⟩
    right
    have tn : t p 3 = (n : Int) := by rw [h1 p (by omega), hc.1.2.1]; exact t1
    have hct : PC t p P := PC_c (fun j hj => h1 _ (by omega)) hc
    obtain ⟨Z, z1, z2⟩ := holdA hct hv hg hp hT (F34_r t) hB0 hb0 (lay := 1) ⟨by omega, by omega⟩ (x := (k : Int)) ⟨by omega, by omega⟩
    refine ⟨mU Z 125 k (hoP P n b B0 1 (btS (k : Int))), ?_, fun a ha => by rw [mU_row _ _ (by omega), z2 a (by omega) (by omega)]; exact h1 a ha, fun x hx => ?_⟩
    · show sX4_fairest_b2 121 p (f + 1) (k : Int) t = _
      rw [sX4_fairest_b2, tn, wI_of (x := (n : Int)) (by omega) (by omega), if_pos (show 0 ≤ (n : Int) ∧ (n : Int) < 32 by omega), tN, Int.one_mul, hw, wI_of (x := (w : Int)) (by omega) (by omega), wI_of (x := (k : Int)) (by omega) (by omega), if_neg (show ¬ (w : Int) ≤ (k : Int) by omega), if_neg (show ¬ 32 ≤ (k : Int) by omega), show (1 : Int) = ((1 : Nat) : Int) from rfl, z1, ob_s]
      dsimp only
      rw [if_pos (show 0 ≤ (k : Int) ∧ (k : Int) < 32 by omega), ob_s, ob_s, g121_3, tN]
    · by_cases e : x = k
      · subst e; rw [mU_eq]
      · rw [mU_ne _ _ (by omega), z2 125 (by omega) (by omega)]; exact h2 x (by omega)
