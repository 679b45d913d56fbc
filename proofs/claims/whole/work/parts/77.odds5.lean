def swp (dr : Bool) (p : WF × WF) : WF × WF := if dr then (p.2, p.1) else p
def E1k (l : Int) (p : WF × WF) (k x : Nat) : Int := if x < k then (10 - l) * p.1 x else 0
def E2k (l : Int) (F : Nat) (p : WF × WF) (k x : Nat) : Int := (if x < k then (10 - l) * p.2 x + l * p.1 x else 0) + (if x + F < k then l * p.2 (x + F) else 0)
theorem E1_s (l : Int) (p : WF × WF) (k x : Nat) : E1k l p (k + 1) x = E1k l p k x + if x = k then (10 - l) * p.1 k else 0 := by
  unfold E1k
  by_cases e : x = k
  · subst e; rw [if_pos (show x < x + 1 by omega), if_neg (show ¬ x < x by omega), if_pos rfl]; omega
  · rw [if_neg e]
    by_cases q : x < k
    · rw [if_pos q, if_pos (show x < k + 1 by omega)]; omega
    · rw [if_neg q, if_neg (show ¬ x < k + 1 by omega)]; rfl
theorem E2_s (l : Int) (F : Nat) (p : WF × WF) (k x : Nat) : E2k l F p (k + 1) x = E2k l F p k x + (if x = k then (10 - l) * p.2 k + l * p.1 k else 0) + if x + F = k then l * p.2 k else 0 := by
  unfold E2k
  have a1 : (if x < k + 1 then (10 - l) * p.2 x + l * p.1 x else 0) = (if x < k then (10 - l) * p.2 x + l * p.1 x else 0) + (if x = k then (10 - l) * p.2 k + l * p.1 k else 0) := by
    by_cases e : x = k
    · subst e; rw [if_pos (show x < x + 1 by omega), if_neg (show ¬ x < x by omega), if_pos rfl]; omega
    · rw [if_neg e]
      by_cases q : x < k
      · rw [if_pos q, if_pos (show x < k + 1 by omega)]; omega
      · rw [if_neg q, if_neg (show ¬ x < k + 1 by omega)]; rfl
  have a2 : (if x + F < k + 1 then l * p.2 (x + F) else 0) = (if x + F < k then l * p.2 (x + F) else 0) + (if x + F = k then l * p.2 k else 0) := by
    by_cases e : x + F = k
    · subst e; rw [if_pos (show x + F < x + F + 1 by omega), if_neg (show ¬ x + F < x + F by omega), if_pos rfl]; omega
    · rw [if_neg e]
      by_cases q : x + F < k
      · rw [if_pos q, if_pos (show x + F < k + 1 by omega)]; omega
      · rw [if_neg q, if_neg (show ¬ x + F < k + 1 by omega)]; rfl
  rw [a1, a2]
  omega
theorem blowB {N : MM} {kp : Nat} {P : Nat → Int} (hd : HD N kp) (pe : pP N kp = P) (hv : PV P) {n b : Nat} (hT : TPP P n b) {B : Nat} (hB : 1 ≤ B ∧ B ≤ 270) {c : Nat} (hcn : c < n) {p : WF × WF} {dr : Bool} (hdr : dr = decide (P (28 + 13 * c) < P 3)) (hp : RwB B N (swp dr p)) (h0 : dr = true → ∀ x, p.1 x = 0) (ht : Top B p.1 ∧ Top B p.2) : ∃ N', sX12_blow 359 (c : Int) (B : Int) N = some (bsF B (P (29 + 13 * c)).toNat (P (30 + 13 * c)) p.2, N') ∧ F90 N N' ∧ RwB B N' (swp dr (blT (P (30 + 13 * c)) (P (29 + 13 * c)).toNat p)) := by
  obtain ⟨t1, t2, t3, t4, t5, t6, t7, t8, t9⟩ := hT
  have hv1 := hv.1
  have hF := t8 c hcn
  have hl := t9 c hcn
  have hch := hv.2.2.2.2.2.1 c (by omega)
  obtain ⟨F, hFF⟩ := Int.eq_ofNat_of_zero_le (show 0 ≤ P (29 + 13 * c) by omega)
  rw [hFF] at hF ⊢
  rw [tN]
  unfold sX12_blow sX12_blow_b0 sX12_blow_b33
  rw [ofC_e hd ⟨by omega, by omega⟩ ⟨by omega, by omega⟩, ob_s, ofC_e hd ⟨by omega, by omega⟩ ⟨by omega, by omega⟩, ob_s, ofC_e hd ⟨by omega, by omega⟩ ⟨by omega, by omega⟩, ob_s, hd.2.2.2.2.2, pe, show (28 + 13 * (c : Int) + 2).toNat = 30 + 13 * c by omega, show (28 + 13 * (c : Int) + 1).toNat = 29 + 13 * c by omega, show (28 + 13 * (c : Int) + 0).toNat = 28 + 13 * c by omega, hFF, wI_of (x := P (28 + 13 * c)) (by omega) (by omega), wI_of (x := P 3) (by omega) (by omega)]
  generalize P (30 + 13 * c) = l at *
  have em : (if P (28 + 13 * c) < P 3 then sX12_blow_b41 359 (c : Int) (B : Int) FU l (F : Int) 0 0 0 N else sX12_blow_b41 359 (c : Int) (B : Int) FU l (F : Int) 1 0 0 N) = sX12_blow_b41 359 (c : Int) (B : Int) FU l (F : Int) (if dr then 0 else 1) 0 0 N := by
    rw [hdr]
    by_cases q : P (28 + 13 * c) < P 3
    · rw [if_pos q, decide_eq_true q]; rfl
    · rw [if_neg q, decide_eq_false q]; rfl
  rw [em]
  clear em hdr
  -- the copying back
  have back : ∀ T : MM, (∀ a, a ≠ 379 → a ≠ 380 → T a = N a) → (∀ x, 1 ≤ x → x ≤ B → T 380 x = (swp dr (blT l F p)).1 x ∧ T 380 (271 + x) = (swp dr (blT l F p)).2 x) → ∃ N', sX12_blow_b214 359 (c : Int) (B : Int) FU (bsF B F l p.2) 0 T = some (bsF B F l p.2, N') ∧ F90 N N' ∧ RwB B N' (swp dr (blT l F p)) := by
    intro T h1 h2
    refine loopC (fun f y (t : MM) => sX12_blow_b214 359 (c : Int) (B : Int) f (bsF B F l p.2) y t) 542 (fun k t => (∀ a, a ≠ 379 → t a = T a) ∧ ∀ x, x < k → t 379 x = T 380 x) (fun o => ∃ N', o = some (bsF B F l p.2, N') ∧ F90 N N' ∧ RwB B N' (swp dr (blT l F p))) ?_ ?_ FU 0 T (by omega) ⟨fun _ _ => rfl, fun x hx => by omega⟩ (by unfold FU; omega)
    · intro f t ⟨s1, s2⟩
      show ∃ N', sX12_blow_b214 359 (c : Int) (B : Int) (f + 1) (bsF B F l p.2) ((542 : Nat) : Int) t = some (bsF B F l p.2, N') ∧ _
      rw [sX12_blow_b214, wI_of (x := ((542 : Nat) : Int)) (by omega) (by omega), if_pos (by omega)]
      refine ⟨t, rfl, fun a ha hb => by rw [s1 a ha]; exact h1 a ha hb, fun x x1 x2 => ?_⟩
      rw [s2 x (by omega), s2 (271 + x) (by omega)]
      exact h2 x x1 x2
    · intro f k t hk ⟨s1, s2⟩
      right
      have z : 0 ≤ (k : Int) ∧ (k : Int) < 542 := ⟨by omega, by omega⟩
      refine ⟨mU t 379 k (T 380 k), ?_, fun a ha => by rw [mU_row _ _ ha]; exact s1 a ha, fun x hx => ?_⟩
      · show sX12_blow_b214 359 (c : Int) (B : Int) (f + 1) (bsF B F l p.2) (k : Int) t = _
        rw [sX12_blow_b214, wI_of (x := (k : Int)) (by omega) (by omega), if_neg (show ¬ 542 ≤ (k : Int) by omega), if_pos z, if_pos z, ob_s, ob_s, g359_49, g359_50, tN, s1 380 (by omega)]
      · by_cases e : x = k
        · subst e; rw [mU_eq]
        · rw [mU_ne _ _ (by omega)]; exact s2 x (by omega)
  -- the cells
  have cells : ∀ T : MM, (∀ a, a ≠ 380 → T a = N a) → (∀ x, 1 ≤ x → x ≤ B → T 380 x = 0 ∧ T 380 (271 + x) = 0) → ∃ N', sX12_blow_b66 359 (c : Int) (B : Int) FU l (F : Int) (if dr then 0 else 1) 0 1 T = some (bsF B F l p.2, N') ∧ F90 N N' ∧ RwB B N' (swp dr (blT l F p)) := by
    intro T h1 h2
    refine loopC (fun f y (s : Int × MM) => sX12_blow_b66 359 (c : Int) (B : Int) f l (F : Int) (if dr then 0 else 1) s.1 y s.2) (B + 1) (fun k s => 1 ≤ k ∧ (∀ a, a ≠ 380 → s.2 a = N a) ∧ s.1 = sm (fun x => if x < F then l * p.2 (x + 1) else 0) (k - 1) ∧ ∀ x, 1 ≤ x → x ≤ B → s.2 380 x = (swp dr (E1k l p k, E2k l F p k)).1 x ∧ s.2 380 (271 + x) = (swp dr (E1k l p k, E2k l F p k)).2 x) (fun o => ∃ N', o = some (bsF B F l p.2, N') ∧ F90 N N' ∧ RwB B N' (swp dr (blT l F p))) ?_ ?_ FU 1 (0, T) (by omega) ⟨by omega, h1, by rw [show 1 - 1 = 0 from rfl, sm_0], fun x x1 x2 => ?_⟩ (by unfold FU; omega)
    · intro f s ⟨_, s1, s2, s3⟩
      show ∃ N', sX12_blow_b66 359 (c : Int) (B : Int) (f + 1) l (F : Int) (if dr then 0 else 1) s.1 ((B + 1 : Nat) : Int) s.2 = some (bsF B F l p.2, N') ∧ _
      rw [sX12_blow_b66, wI_of (x := (B : Int)) (by omega) (by omega), wI_of (x := ((B + 1 : Nat) : Int)) (by omega) (by omega), if_pos (by omega), s2, show B + 1 - 1 = B by omega]
      refine back s.2 (fun a _ hb => s1 a hb) (fun x x1 x2 => ?_)
      have q1 : E1k l p (B + 1) x = (blT l F p).1 x := if_pos (by omega)
      have q2 : E2k l F p (B + 1) x = (blT l F p).2 x := by
        unfold E2k
        rw [if_pos (show x < B + 1 by omega)]
        show _ = (10 - l) * p.2 x + l * p.1 x + l * p.2 (x + F)
        by_cases e : x + F < B + 1
        · rw [if_pos e]
        · rw [if_neg e, ht.2 (x + F) (by omega), Int.mul_zero]
      have q := s3 x x1 x2
      cases dr
      · show _ = (blT l F p).1 x ∧ _ = (blT l F p).2 x
        rw [← q1, ← q2]; exact q
      · show _ = (blT l F p).2 x ∧ _ = (blT l F p).1 x
        rw [← q1, ← q2]; exact q
    · intro f k s hk ⟨hk1, s1, s2, s3⟩
      right
      have l0 : s.2 379 k = (swp dr p).1 k := by rw [s1 379 (by omega)]; exact (hp k hk1 (by omega)).1
      have l1 : s.2 379 (271 + k) = (swp dr p).2 k := by rw [s1 379 (by omega)]; exact (hp k hk1 (by omega)).2
      have sms : sm (fun x => if x < F then l * p.2 (x + 1) else 0) (k + 1 - 1) = sm (fun x => if x < F then l * p.2 (x + 1) else 0) (k - 1) + if k ≤ F then l * p.2 k else 0 := by
        obtain ⟨j, rfl⟩ : ∃ j, k = j + 1 := ⟨k - 1, by omega⟩
        rw [show j + 1 + 1 - 1 = j + 1 by omega, show j + 1 - 1 = j by omega, sm_s]
        have : (j < F) = (j + 1 ≤ F) := by apply propext; omega
        simp only [this]
      have head := bl75 (c := (c : Int)) (B := (B : Int)) (K66 := fun x3 x4 x5 y6 x8 M => sX12_blow_b66 359 (c : Int) (B : Int) f x3 x4 x5 y6 x8 M) hl (F := (F : Int)) rfl (by omega) dr s.1 (k := k) ⟨hk1, by omega⟩ 99997 l0 l1
      have eFU : FU = 99997 + 3 := rfl
      rw [← eFU] at head
      show ∃ s' : Int × MM, sX12_blow_b66 359 (c : Int) (B : Int) (f + 1) l (F : Int) (if dr then 0 else 1) s.1 (k : Int) s.2 = sX12_blow_b66 359 (c : Int) (B : Int) f l (F : Int) (if dr then 0 else 1) s'.1 ((k : Int) + 1) s'.2 ∧ _
      rw [sX12_blow_b66, wI_of (x := (B : Int)) (by omega) (by omega), wI_of (x := (k : Int)) (by omega) (by omega), if_neg (show ¬ (B : Int) < (k : Int) by omega), head, sms]
      clear head eFU sms back
      cases dr
      · show ∃ s' : Int × MM, (if F < k then _ else _) = _ ∧ _
        have v0 : (swp false p).1 k = p.1 k := rfl
        have v1 : (swp false p).2 k = p.2 k := rfl
        have a1 : p.1 k * (10 - l) = (10 - l) * p.1 k := Int.mul_comm _ _
        have a2 : p.1 k * l = l * p.1 k := Int.mul_comm _ _
        have a3 : p.2 k * (10 - l) = (10 - l) * p.2 k := Int.mul_comm _ _
        have a4 : p.2 k * l = l * p.2 k := Int.mul_comm _ _
        rw [v0, v1, a1, a2, a3, a4]
        by_cases e : F < k
        · rw [if_pos e]
          refine ⟨(s.1, adU (adU (adU (adU s.2 k ((10 - l) * p.1 k)) (271 + k) (l * p.1 k)) (271 + k) ((10 - l) * p.2 k)) (271 + k - F) (l * p.2 k)), rfl, by omega, fun a ha => (ad_r _ _ _ ha).trans ((ad_r _ _ _ ha).trans ((ad_r _ _ _ ha).trans ((ad_r _ _ _ ha).trans (s1 a ha)))), by rw [if_neg (show ¬ k ≤ F by omega), Int.add_zero]; exact s2, fun x x1 x2 => ?_⟩
          have q := s3 x x1 x2
          have q1 : s.2 380 x = E1k l p k x := q.1
          have q2 : s.2 380 (271 + x) = E2k l F p k x := q.2
          show _ = E1k l p (k + 1) x ∧ _ = E2k l F p (k + 1) x
          dsimp only
          rw [E1_s, E2_s, ad_e, ad_e, ad_e, ad_e, ad_e, ad_e, ad_e, ad_e, q1, q2]
          generalize (10 - l) * p.1 k = b1
          generalize (10 - l) * p.2 k = b2
          generalize l * p.1 k = b3
          generalize l * p.2 k = b4
          rw [if_neg (show ¬ x = 271 + k by omega), if_neg (show ¬ x = 271 + k - F by omega), if_neg (show ¬ 271 + x = k by omega)]
          have e1 : (271 + x = 271 + k) = (x = k) := by apply propext; omega
          have e2 : (271 + x = 271 + k - F) = (x + F = k) := by apply propext; omega
          simp only [e1, e2]
          refine ⟨by omega, ?_⟩
          by_cases y : x = k
          · rw [if_pos y, if_pos y, if_pos y]; omega
          · rw [if_neg y, if_neg y, if_neg y]; omega
        · rw [if_neg e]
          refine ⟨(s.1 + l * p.2 k, adU (adU (adU s.2 k ((10 - l) * p.1 k)) (271 + k) (l * p.1 k)) (271 + k) ((10 - l) * p.2 k)), rfl, by omega, fun a ha => (ad_r _ _ _ ha).trans ((ad_r _ _ _ ha).trans ((ad_r _ _ _ ha).trans (s1 a ha))), by rw [if_pos (show k ≤ F by omega)]; dsimp only; rw [s2], fun x x1 x2 => ?_⟩
          have q := s3 x x1 x2
          have q1 : s.2 380 x = E1k l p k x := q.1
          have q2 : s.2 380 (271 + x) = E2k l F p k x := q.2
          show _ = E1k l p (k + 1) x ∧ _ = E2k l F p (k + 1) x
          dsimp only
          rw [E1_s, E2_s, ad_e, ad_e, ad_e, ad_e, ad_e, ad_e, q1, q2]
          generalize (10 - l) * p.1 k = b1
          generalize (10 - l) * p.2 k = b2
          generalize l * p.1 k = b3
          generalize l * p.2 k = b4
          rw [if_neg (show ¬ x = 271 + k by omega), if_neg (show ¬ 271 + x = k by omega), if_neg (show ¬ x + F = k by omega)]
          have e1 : (271 + x = 271 + k) = (x = k) := by apply propext; omega
          simp only [e1]
          refine ⟨by omega, ?_⟩
          by_cases y : x = k
          · rw [if_pos y, if_pos y, if_pos y]; omega
          · rw [if_neg y, if_neg y, if_neg y]; omega
      · show ∃ s' : Int × MM, (if F < k then _ else _) = _ ∧ _
        have p0 := h0 rfl
        have v0 : (swp true p).1 k = p.2 k := rfl
        have v1 : (swp true p).2 k = 0 := p0 k
        have a3 : p.2 k * (10 - l) = (10 - l) * p.2 k := Int.mul_comm _ _
        have a4 : p.2 k * l = l * p.2 k := Int.mul_comm _ _
        rw [v0, v1, a3, a4, Int.zero_mul, Int.zero_mul]
        by_cases e : F < k
        · rw [if_pos e]
          refine ⟨(s.1, adU (adU (adU (adU s.2 k ((10 - l) * p.2 k)) (k - F) (l * p.2 k)) (271 + k) 0) (271 + k - F) 0), rfl, by omega, fun a ha => (ad_r _ _ _ ha).trans ((ad_r _ _ _ ha).trans ((ad_r _ _ _ ha).trans ((ad_r _ _ _ ha).trans (s1 a ha)))), by rw [if_neg (show ¬ k ≤ F by omega), Int.add_zero]; exact s2, fun x x1 x2 => ?_⟩
          have q := s3 x x1 x2
          have q1 : s.2 380 x = E2k l F p k x := q.1
          have q2 : s.2 380 (271 + x) = E1k l p k x := q.2
          show _ = E2k l F p (k + 1) x ∧ _ = E1k l p (k + 1) x
          dsimp only
          rw [E1_s, E2_s, ad_e, ad_e, ad_e, ad_e, ad_e, ad_e, ad_e, ad_e, q1, q2, p0 k, Int.mul_zero, Int.mul_zero]
          generalize (10 - l) * p.2 k = b2
          generalize l * p.2 k = b4
          rw [if_neg (show ¬ 271 + x = k by omega), if_neg (show ¬ 271 + x = k - F by omega)]
          have e2 : (x = k - F) = (x + F = k) := by apply propext; omega
          simp only [e2, ite_self, Int.add_zero]
          first | exact ⟨trivial, trivial⟩ | exact ⟨rfl, trivial⟩ | exact trivial
        · rw [if_neg e]
          refine ⟨(s.1 + l * p.2 k + 0, adU (adU s.2 k ((10 - l) * p.2 k)) (271 + k) 0), rfl, by omega, fun a ha => (ad_r _ _ _ ha).trans ((ad_r _ _ _ ha).trans (s1 a ha)), by rw [if_pos (show k ≤ F by omega)]; dsimp only; rw [s2, Int.add_zero], fun x x1 x2 => ?_⟩
          have q := s3 x x1 x2
          have q1 : s.2 380 x = E2k l F p k x := q.1
          have q2 : s.2 380 (271 + x) = E1k l p k x := q.2
          show _ = E2k l F p (k + 1) x ∧ _ = E1k l p (k + 1) x
          dsimp only
          rw [E1_s, E2_s, ad_e, ad_e, ad_e, ad_e, q1, q2, p0 k, Int.mul_zero, Int.mul_zero]
          generalize (10 - l) * p.2 k = b2
          generalize l * p.2 k = b4
          rw [if_neg (show ¬ 271 + x = k by omega), if_neg (show ¬ x + F = k by omega)]
          simp only [ite_self, Int.add_zero]
          refine ⟨trivial, trivial⟩
    · have q := h2 x x1 x2
      have z1 : E1k l p 1 x = 0 := if_neg (by omega)
      have z2 : E2k l F p 1 x = 0 := by unfold E2k; rw [if_neg (by omega), if_neg (by omega)]; rfl
      cases dr
      · show _ = E1k l p 1 x ∧ _ = E2k l F p 1 x
        rw [z1, z2]; exact q
      · show _ = E2k l F p 1 x ∧ _ = E1k l p 1 x
        rw [z1, z2]; exact q
  refine loopC (fun f y (t : MM) => sX12_blow_b41 359 (c : Int) (B : Int) f l (F : Int) (if dr then 0 else 1) 0 y t) 542 (fun k t => (∀ a, a ≠ 380 → t a = N a) ∧ ∀ x, x < k → t 380 x = 0) (fun o => ∃ N', o = some (bsF B F l p.2, N') ∧ F90 N N' ∧ RwB B N' (swp dr (blT l F p))) ?_ ?_ FU 0 N (by omega) ⟨fun _ _ => rfl, fun x hx => by omega⟩ (by unfold FU; omega)
  · intro f t ⟨s1, s2⟩
    show ∃ N', sX12_blow_b41 359 (c : Int) (B : Int) (f + 1) l (F : Int) (if dr then 0 else 1) 0 ((542 : Nat) : Int) t = some (bsF B F l p.2, N') ∧ _
    rw [sX12_blow_b41, wI_of (x := ((542 : Nat) : Int)) (by omega) (by omega), if_pos (by omega)]
    exact cells t s1 (fun x x1 x2 => ⟨s2 x (by omega), s2 (271 + x) (by omega)⟩)
  · intro f k t hk ⟨s1, s2⟩
    right
    have z : 0 ≤ (k : Int) ∧ (k : Int) < 542 := ⟨by omega, by omega⟩
    refine ⟨mU t 380 k 0, ?_, fun a ha => by rw [mU_row _ _ ha]; exact s1 a ha, fun x hx => ?_⟩
    · show sX12_blow_b41 359 (c : Int) (B : Int) (f + 1) l (F : Int) (if dr then 0 else 1) 0 (k : Int) t = _
      rw [sX12_blow_b41, wI_of (x := (k : Int)) (by omega) (by omega), if_neg (show ¬ 542 ≤ (k : Int) by omega), if_pos z, ob_s, ob_s, g359_50, tN]
    · by_cases e : x = k
      · subst e; rw [mU_eq]
      · rw [mU_ne _ _ (by omega)]; exact s2 x (by omega)
