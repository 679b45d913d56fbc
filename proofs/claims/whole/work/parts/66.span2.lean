/-- a belly that goes as the told one does -/
def goP (P R : Nat → Int) (s0 c0 : PS) (r : Nat) : Prop := (rnP P R r 0 c0).1 = r ∧ buP P R c0 r = buP P R s0 r ∧ ∀ i, i < r → R (1 + 3 * i) = 2 → (itP P R c0 (i + 1)).1 7 = (itP P R s0 (i + 1)).1 7 ∧ (itP P R c0 (i + 1)).1 8 = (itP P R s0 (i + 1)).1 8
def loP (s : PS) : Int := if s.1 4 = -1 then s.1 12 + 1 else s.1 12 - s.1 13 + 1
def hiP (s : PS) : Int := if s.1 4 = -1 then 30 else min 30 (s.1 12)
theorem it_v {P R : Nat → Int} (hv : PV P) (hw : BV R) {s0 : PS} (h0 : SV P 0 s0) {r : Nat} (hr : (r : Int) ≤ R 0) (hd : ∀ i, i < r → dePb P (itP P R s0 i) (R (1 + 3 * i)) (R (2 + 3 * i))) : ∀ j, j ≤ r → SV P j (itP P R s0 j) := by
  intro j
  induction j with
  | zero => intro _; exact h0
  | succ j ih =>
    intro hj
    have bk := bv_k hw (k := j) (by omega)
    rw [it_s]
    exact de_v hv (ih (by omega)) bk.1 bk.2.1 bk.2.2.2.1 (hd j (by omega))
theorem sim_0 (P : Nat → Int) (B v : Int) (hB : 1 ≤ B) (hv : 1 ≤ v) : Sim B v (s0P P B) (s0P P v) := by
  refine ⟨rfl, rfl, fun p hp => ?_, ?_, ?_, ?_, ?_⟩
  · unfold s0P; dsimp only; rw [uF_n _ _ hp, uF_n _ _ hp]
  · show uF (fun p => P (19 + 2 * p)) 0 B 0 = B - 0; rw [uF_e]; omega
  · show uF (fun p => P (19 + 2 * p)) 0 v 0 = v - 0; rw [uF_e]; omega
  · show (0 : Int) < B; omega
  · show (0 : Int) < v; omega
theorem span_p {P R : Nat → Int} (hv : PV P) (hw : BV R) {B v : Int} (hB : 1 ≤ B ∧ B ≤ 30) (hvv : 1 ≤ v ∧ v ≤ 30) {K : Nat} (hK : R 0 = (K : Int)) {r : Nat} (er : (rnP P R K 0 (s0P P B)).1 = r) : (goP P R (s0P P B) (s0P P v) r ↔ loP (itP P R (s0P P B) r) ≤ v ∧ v ≤ hiP (itP P R (s0P P B) r)) ∧ 1 ≤ loP (itP P R (s0P P B) r) ∧ loP (itP P R (s0P P B) r) ≤ hiP (itP P R (s0P P B) r) ∧ hiP (itP P R (s0P P B) r) ≤ 30 := by
  have rb := rn_b (P := P) (R := R) K 0 (s0P P B)
  have it0 := rn_it P R (s0P P B) K 0
  rw [show itP P R (s0P P B) 0 = s0P P B from rfl, er] at it0
  rw [er] at rb
  obtain ⟨-, hdA, -⟩ := it0
  have hdA' : ∀ i, i < r → dePb P (itP P R (s0P P B) i) (R (1 + 3 * i)) (R (2 + 3 * i)) := fun i hi => hdA i (by omega) hi
  have hrK : (r : Int) ≤ R 0 := by omega
  have vA := it_v hv hw (s0_v hv hB) hrK hdA'
  clear hdA
  have A0 : (itP P R (s0P P B) 0).1 12 = 0 ∧ (itP P R (s0P P B) 0).1 4 = -1 := ⟨rfl, rfl⟩
  have C0 : Sim B v (itP P R (s0P P B) 0) (itP P R (s0P P v) 0) := sim_0 P B v hB.1 hvv.1
  have AA : Sim B B (itP P R (s0P P B) 0) (itP P R (s0P P B) 0) := sim_0 P B B hB.1 hB.1
  obtain ⟨A, hA⟩ : ∃ A : Nat → PS, ∀ j, itP P R (s0P P B) j = A j := ⟨_, fun _ => rfl⟩
  obtain ⟨C, hC⟩ : ∃ C : Nat → PS, ∀ j, itP P R (s0P P v) j = C j := ⟨_, fun _ => rfl⟩
  have sA : ∀ j, A (j + 1) = deP P (A j) (R (1 + 3 * j)) (R (2 + 3 * j)) (R (3 + 3 * j)) := fun j => by rw [← hA, ← hA, it_s]
  have sC : ∀ j, C (j + 1) = deP P (C j) (R (1 + 3 * j)) (R (2 + 3 * j)) (R (3 + 3 * j)) := fun j => by rw [← hC, ← hC, it_s]
  have itc := rn_it P R (s0P P v) r 0
  rw [show itP P R (s0P P v) 0 = s0P P v from rfl] at itc
  have rbc := rn_b (P := P) (R := R) r 0 (s0P P v)
  unfold goP buP
  obtain ⟨-, ic1, ic2⟩ := itc
  simp only [hA] at A0 C0 AA vA hdA'
  simp only [hC] at C0 ic1 ic2
  simp only [hA, hC]
  clear hA hC
  generalize (rnP P R r 0 (s0P P v)).1 = rc at *
  have kk : ∀ j, j < r → 0 ≤ R (1 + 3 * j) ∧ R (1 + 3 * j) ≤ 5 := fun j hj => (bv_k hw (k := j) (by omega)).1
  have SA : ∀ j, j ≤ r → (A j).1 4 = -1 → Sim B B (A j) (A j) := by
    intro j
    induction j with
    | zero => intro _ _; exact AA
    | succ j ih =>
      intro hj h4
      have q := sim_s hv (vA j (by omega)) (ih (by omega) (hdA' j (by omega)).1) (kk j (by omega)) (hdA' j (by omega)) (R (3 + 3 * j))
      rw [← sA] at q
      obtain ⟨-, -, -, -, q5, -, -, q8⟩ := q
      exact q8 (q5.1 h4) (q5.1 h4)
  have TA : ∀ j, j < r → (A j).1 12 < B ∧ (A j).1 12 ≤ (A (j + 1)).1 12 ∧ ((A (j + 1)).1 4 = -1 ↔ (A (j + 1)).1 12 < B) ∧ (¬ (A (j + 1)).1 4 = -1 → (A (j + 1)).1 13 = (A (j + 1)).1 12 - (A j).1 12) := by
    intro j hj
    have sj := SA j (by omega) (hdA' j hj).1
    have q := sim_s hv (vA j (by omega)) sj (kk j (by omega)) (hdA' j (by omega)) (R (3 + 3 * j))
    rw [← sA] at q
    exact ⟨sj.2.2.2.2.2.1, q.2.2.2.1, q.2.2.2.2.1, q.2.2.2.2.2.2.1⟩
  have SC : ∀ j, j ≤ r → (A j).1 12 < B → (A j).1 12 < v → Sim B v (A j) (C j) := by
    intro j
    induction j with
    | zero => intro _ _ _; exact C0
    | succ j ih =>
      intro hj h1 h2
      have t := TA j (by omega)
      have q := sim_s hv (vA j (by omega)) (ih (by omega) (by omega) (by omega)) (kk j (by omega)) (hdA' j (by omega)) (R (3 + 3 * j))
      rw [← sA, ← sC] at q
      exact q.2.2.2.2.2.2.2 h1 h2
  have step : ∀ j, j < r → (A j).1 12 < v → dePb P (C j) (R (1 + 3 * j)) (R (2 + 3 * j)) ∧ (C (j + 1)).1 7 = (A (j + 1)).1 7 ∧ (C (j + 1)).1 8 = (A (j + 1)).1 8 ∧ ((C (j + 1)).1 4 = -1 ↔ (A (j + 1)).1 12 < v) := by
    intro j hj h
    have t := TA j hj
    have s := SC j (by omega) t.1 h
    have q := sim_s hv (vA j (by omega)) s (kk j (by omega)) (hdA' j (by omega)) (R (3 + 3 * j))
    rw [← sA, ← sC] at q
    exact ⟨by rw [← deb_x s.1]; exact hdA' j hj, q.1.symm, q.2.1.symm, q.2.2.2.2.2.1⟩
  have mono : ∀ j, j ≤ r → ∀ i, i ≤ j → (A i).1 12 ≤ (A j).1 12 := by
    intro j
    induction j with
    | zero => intro _ i hi; rw [show i = 0 by omega]; exact Int.le_refl _
    | succ j ih =>
      intro hj i hi
      by_cases e : i = j + 1
      · subst e; exact Int.le_refl _
      · have := ih (by omega) i (by omega)
        have := (TA j (by omega)).2.1
        omega
  have cross : ∀ j, j ≤ r → v ≤ (A j).1 12 → ∃ i, i < j ∧ (A i).1 12 < v ∧ v ≤ (A (i + 1)).1 12 := by
    intro j
    induction j with
    | zero => intro _ h; rw [A0.1] at h; omega
    | succ j ih =>
      intro hj h
      by_cases e : v ≤ (A j).1 12
      · obtain ⟨i, a1, a2⟩ := ih (by omega) e
        exact ⟨i, by omega, a2⟩
      · exact ⟨j, by omega, by omega, h⟩
  -- how far v goes
  have far : ∀ i, i < r → (A i).1 12 < v → i + 1 ≤ rc := by
    intro i hi h
    by_cases e : i + 1 ≤ rc
    · exact e
    · exfalso
      have m := mono i (by omega) rc (by omega)
      exact ic2 (by omega) (step rc (by omega) (by omega)).1
  have stops : ∀ i, i < r → (A i).1 12 < v → v ≤ (A (i + 1)).1 12 → rc = i + 1 ∧ ¬ (C (i + 1)).1 4 = -1 := by
    intro i hi h1 h2
    have s := step i hi h1
    have c4 : ¬ (C (i + 1)).1 4 = -1 := fun q => by have := s.2.2.2.1 q; omega
    have f := far i hi h1
    refine ⟨?_, c4⟩
    by_cases e : rc = i + 1
    · exact e
    · exact absurd (ic1 (i + 1) (by omega) (by omega)).1 c4
  have vr := vA r (Nat.le_refl r)
  have vr12 := vr.2.2.2.2.2.2.2.2.2.2.2.1
  unfold loP hiP
  by_cases c : (A r).1 4 = -1
  · rw [if_pos c, if_pos c, if_pos c]
    have tB := (SA r (Nat.le_refl r) c).2.2.2.2.2.1
    refine ⟨⟨fun g => ⟨?_, hvv.2⟩, fun g => ?_⟩, by omega, by omega, by omega⟩
    · by_cases e : v ≤ (A r).1 12
      · exfalso
        obtain ⟨i, a1, a2, a3⟩ := cross r (Nat.le_refl r) e
        obtain ⟨b1, b2⟩ := stops i a1 a2 a3
        rw [← b1, g.1] at b2
        have := g.2.1
        rw [if_neg b2] at this
        omega
      · omega
    · have lt : ∀ j, j ≤ r → (A j).1 12 < v := fun j hj => by have := mono r (Nat.le_refl r) j hj; omega
      have s := SC r (Nat.le_refl r) tB (by omega)
      refine ⟨?_, ?_, fun i hi _ => ?_⟩
      · by_cases e : r = 0
        · omega
        · have := far (r - 1) (by omega) (lt _ (by omega)); omega
      · rw [if_pos (by rw [← s.1]; exact c)]
      · have := step i hi (lt i (by omega))
        exact ⟨this.2.1, this.2.2.1⟩
  · rw [if_neg c, if_neg c, if_neg c]
    obtain ⟨r', rfl⟩ : ∃ k, r = k + 1 := ⟨r - 1, by
      by_cases e : r = 0
      · rw [e] at c; exact absurd A0.2 c
      · omega⟩
    have t := TA r' (by omega)
    have e13 := t.2.2.2 c
    have tB : ¬ (A (r' + 1)).1 12 < B := fun q => c (t.2.2.1.2 q)
    have t0 := (vA r' (by omega)).2.2.2.2.2.2.2.2.2.2.2.1.1
    rw [e13]
    refine ⟨⟨fun g => ?_, fun g => ?_⟩, by omega, by omega, by omega⟩
    · have hlo : ¬ v ≤ (A r').1 12 := fun e => by
        obtain ⟨i, a1, a2, a3⟩ := cross r' (by omega) e
        obtain ⟨b1, b2⟩ := stops i (by omega) a2 a3
        have := g.1
        omega
      refine ⟨by omega, ?_⟩
      have s := step r' (by omega) (by omega)
      by_cases e : v ≤ (A (r' + 1)).1 12
      · omega
      · exfalso
        have := g.2.1
        rw [if_pos (s.2.2.2.2 (by omega))] at this
        omega
    · have lt : ∀ j, j ≤ r' → (A j).1 12 < v := fun j hj => by have := mono r' (by omega) j hj; omega
      obtain ⟨b1, b2⟩ := stops r' (by omega) (by omega) (by omega)
      refine ⟨b1, by rw [if_neg b2], fun i hi _ => ?_⟩
      have := step i hi (lt i (by omega))
      exact ⟨this.2.1, this.2.2.1⟩
