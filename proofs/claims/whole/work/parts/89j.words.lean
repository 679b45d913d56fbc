def cW : List Int := [1885434484, 426953501796, 1667591276, 112641580559972, 6713189, 128047779833188, 1919512167, 422726039411, 1818846836, 126956639450227, 27691674476046181, 495874302827, 26479, 1717658469, 126943972911973, 30064, 1685026670, 6518132, 1935767923, 6383986, 444300622437, 126931137819237, 500136506472, 1717922924, 1953658213, 439721161573, 6842740, 1835627379]
theorem kch_t : ∀ k, k < 28 → (1 ≤ (kCh k).length ∧ (kCh k).length ≤ 7) ∧ (∀ i, i < (kCh k).length → 97 ≤ (kCh k).getD i 0 ∧ (kCh k).getD i 0 ≤ 122) ∧ pk (fun i => (kCh k).getD i 0) 0 (kCh k).length = cW.getD k 0 := by decide +kernel
theorem wof_ : ∀ k, k < 28 → sX11_wordOf ((k : Nat) : Int) = k := by decide +kernel
theorem cW_p : ∀ k, k < 28 → 0 < cW.getD k 0 := by decide +kernel
theorem cW_i : ∀ k, k < 28 → ∀ j, j < 28 → cW.getD k 0 = cW.getD j 0 → k = j := by decide +kernel
theorem pk_p {T : Nat → Int} {f : Nat} : ∀ n, (∀ i, i < n → isL (T (f + i))) → 0 ≤ pk T f n := by
  intro n
  induction n with
  | zero => intro _; exact Int.le_refl _
  | succ n ih =>
    intro h
    have h1 := ih (fun i hi => h i (by omega))
    have h2 := h n (by omega)
    unfold isL at h2
    rw [pk]; omega
theorem pk_inj {a b : Nat → Int} {f g : Nat} : ∀ n m, (∀ i, i < n → isL (a (f + i))) → (∀ i, i < m → isL (b (g + i))) → pk a f n = pk b g m → n = m ∧ ∀ i, i < n → a (f + i) = b (g + i) := by
  intro n
  induction n with
  | zero =>
    intro m ha hb e
    cases m with
    | zero => exact ⟨rfl, fun i hi => by omega⟩
    | succ m =>
      have h1 := pk_p m (fun i hi => hb i (by omega))
      have h2 := hb m (by omega)
      unfold isL at h2
      rw [pk, pk] at e; omega
  | succ n ih =>
    intro m ha hb e
    have h3 := pk_p n (fun i hi => ha i (by omega))
    have h4 := ha n (by omega)
    unfold isL at h4
    cases m with
    | zero => rw [pk, pk] at e; omega
    | succ m =>
      have h1 := pk_p m (fun i hi => hb i (by omega))
      have h2 := hb m (by omega)
      unfold isL at h2
      rw [pk, pk] at e
      obtain ⟨e1, e2⟩ := ih m (fun i hi => ha i (by omega)) (fun i hi => hb i (by omega)) (by omega)
      have e3 : a (f + n) = b (g + m) := by omega
      refine ⟨by omega, fun i hi => ?_⟩
      by_cases hin : i = n
      · rw [hin, e3, show g + m = g + n by omega]
      · exact e2 i (by omega)
theorem pk_ext {a b : Nat → Int} {f g : Nat} : ∀ n, (∀ i, i < n → a (f + i) = b (g + i)) → pk a f n = pk b g n := by
  intro n
  induction n with
  | zero => intro _; rfl
  | succ n ih => intro h; rw [pk, pk, ih (fun i hi => h i (by omega)), h n (by omega)]
theorem sp_e {M : MM} {T : Nat → Int} {f t : Nat} (hT : M 2 = T) (hb : TB T) (hf : M 79 9 = (f : Int)) (ht : M 79 10 = (t : Int)) (h : f ≤ t ∧ t ≤ 600) (hl : ∀ j, f ≤ j → j < t → isL (T j)) {k : Nat} (hk : k < 28) : sX7_spells 79 1 (sX11_wordOf (k : Int)) M = some (if wd T f t = cW.getD k 0 then 1 else 0) := by
  obtain ⟨⟨m1, m2⟩, cl, cp⟩ := kch_t k hk
  have hcp := cW_p k hk
  obtain ⟨m, em⟩ : ∃ m, Unit → (kCh k).length = m := ⟨_, fun _ => rfl⟩
  obtain ⟨W, eW⟩ : ∃ W, Unit → cW.getD k 0 = W := ⟨_, fun _ => rfl⟩
  obtain ⟨c, ec⟩ : ∃ c : Nat → Int, c = fun i => (kCh k).getD i 0 := ⟨_, rfl⟩
  have hc : ∀ i, (kCh k).getD i 0 = c i := fun i => by rw [ec]
  rw [← ec, em (), eW ()] at cp
  rw [em ()] at m1 m2
  have cl' : ∀ i, i < m → isL (c i) := fun i hi => by rw [← hc]; exact cl i (by rw [em ()]; exact hi)
  clear cl ec
  rw [eW ()] at hcp ⊢
  have la : ∀ n, n ≤ t - f → ∀ i, i < n → isL (T (f + i)) := fun n hn i hi => hl (f + i) (by omega) (by omega)
  unfold sX7_spells sX7_spells_b0 sJ0_length_8abf5
  rw [wof_ k hk, hf, ht, em (), wI_of (x := (m : Int)) (by omega) (by omega), wI_of (x := (t : Int) - (f : Int)) (by omega) (by omega)]
  by_cases hm : m = t - f
  · rw [if_pos (show (m : Int) = (t : Int) - (f : Int) by omega)]
    have hQ : (sX7_spells_b20 79 1 k M FU ((0 : Nat) : Int) = some 1 ∧ ∀ i, i < m → T (f + i) = c i) ∨ (sX7_spells_b20 79 1 k M FU ((0 : Nat) : Int) = some 0 ∧ ∃ i, i < m ∧ T (f + i) ≠ c i) := by
      refine loopC (fun n y (_ : Unit) => sX7_spells_b20 79 1 k M n y) m (fun j _ => ∀ i, i < j → T (f + i) = c i) (fun r => (r = some 1 ∧ ∀ i, i < m → T (f + i) = c i) ∨ (r = some 0 ∧ ∃ i, i < m ∧ T (f + i) ≠ c i)) ?_ ?_ FU 0 () (by omega) (fun i hi => by omega) (by unfold FU; omega)
      · intro n _ hI
        left
        refine ⟨?_, hI⟩
        rw [sX7_spells_b20]
        unfold sJ0_length_8abf5
        rw [em (), if_pos (Int.le_refl _)]
      · intro n j _ hj hI
        have hz := hb (f + j) (by omega)
        have cj := cl' j hj
        unfold isL at cj
        have d1 : ¬ (m : Int) ≤ (j : Int) := by omega
        have d2 : ¬ (600 : Int) ≤ ((f + j : Nat) : Int) := by omega
        have d3 : (0 : Int) ≤ ((f + j : Nat) : Int) ∧ ((f + j : Nat) : Int) < 600 := ⟨by omega, by omega⟩
        have d4 : (0 : Int) ≤ (j : Int) ∧ (j : Int) < (m : Int) := ⟨by omega, by omega⟩
        have r1 : -2147483648 ≤ (f : Int) + (j : Int) ∧ (f : Int) + (j : Int) ≤ 2147483647 := ⟨by omega, by omega⟩
        have r2 : (f : Int) + (j : Int) = ((f + j : Nat) : Int) := by omega
        have r3 : -2147483648 ≤ (j : Int) ∧ (j : Int) ≤ 2147483647 := ⟨by omega, by omega⟩
        have d5 : wI (m : Int) = (m : Int) := wI_of (by omega) (by omega)
        have d6 : wI (T (f + j)) = T (f + j) := wI_of (by omega) (by omega)
        have d7 : wI (c j) = c j := wI_of (by omega) (by omega)
        have ej : wI (j : Int) = (j : Int) := wI_of r3.1 r3.2
        have e1 : wI ((f : Int) + (j : Int)) = ((f + j : Nat) : Int) := (wI_of r1.1 r1.2).trans r2
        have es : sX7_spells_b20 79 1 k M (n + 1) (j : Int) = if T (f + j) = c j then sX7_spells_b20 79 1 k M n ((j : Int) + 1) else some 0 := by
          rw [sX7_spells_b20]
          unfold sJ0_length_8abf5 sJ0_charAt_5068e
          rw [em (), ej, d5, if_neg d1, hf, e1, if_neg d2, if_pos d3, if_pos d4, ob_s, tN, tN, hc, g1_0, hT, d6, d7, ob_s]
        by_cases he : T (f + j) = c j
        · right
          refine ⟨(), ?_, fun i hi => ?_⟩
          · show sX7_spells_b20 79 1 k M (n + 1) (j : Int) = _
            rw [es, if_pos he]
          · by_cases hij : i = j
            · subst hij; exact he
            · exact hI i (Nat.lt_of_le_of_ne (Nat.le_of_lt_succ hi) hij)
        · left; right
          refine ⟨?_, j, hj, he⟩
          show sX7_spells_b20 79 1 k M (n + 1) (j : Int) = _
          rw [es, if_neg he]
    have ew : wd T f t = pk T f m := by unfold wd; rw [if_pos (by omega), ← hm]
    rw [ew]
    rcases hQ with ⟨q1, q2⟩ | ⟨q1, i, hi, q2⟩
    · have hW : pk T f m = W := by rw [← cp]; exact pk_ext m (fun i hi => by rw [q2 i hi, Nat.zero_add])
      rw [show sX7_spells_b20 79 1 k M FU 0 = some 1 from q1, if_pos hW]
    · have hW : ¬ pk T f m = W := by
        rw [← cp]; intro z
        have := (pk_inj m m (la m (by omega)) (fun i hi => by rw [Nat.zero_add]; exact cl' i hi) z).2 i hi
        rw [Nat.zero_add] at this
        exact q2 this
      rw [show sX7_spells_b20 79 1 k M FU 0 = some 0 from q1, if_neg hW]
  · rw [if_neg (show ¬ (m : Int) = (t : Int) - (f : Int) by omega), if_neg]
    unfold wd
    by_cases h8 : t - f ≤ 8
    · rw [if_pos h8, ← cp]; intro z
      have := (pk_inj (t - f) m (la (t - f) (by omega)) (fun i hi => by rw [Nat.zero_add]; exact cl' i hi) z).1
      omega
    · rw [if_neg h8]; omega
def fK (s : Nat) : Nat := [0, 12, 18, 23, 24, 28].getD s 0
theorem fK_e : ∀ s, s < 6 → (sT 0).getD s 0 = ((fK s : Nat) : Int) ∧ fK s ≤ 28 := by decide +kernel
theorem fK_m : ∀ s, s < 5 → fK s ≤ fK (s + 1) := by decide +kernel
theorem ko_e {M : MM} {T : Nat → Int} {f t : Nat} (hT : M 2 = T) (hb : TB T) (hf : M 79 9 = (f : Int)) (ht : M 79 10 = (t : Int)) (h : f ≤ t ∧ t ≤ 600) (hl : ∀ j, f ≤ j → j < t → isL (T j)) {s : Nat} (hs : s < 5) : (∃ k : Nat, fK s ≤ k ∧ k < fK (s + 1) ∧ wd T f t = cW.getD k 0 ∧ sX7_kindOf 79 1 (s : Int) M = some (k : Int)) ∨ ((∀ k, fK s ≤ k → k < fK (s + 1) → wd T f t ≠ cW.getD k 0) ∧ sX7_kindOf 79 1 (s : Int) M = some (-1)) := by
  obtain ⟨a1, a2⟩ := fK_e s (by omega)
  obtain ⟨b1, b2⟩ := fK_e (s + 1) (by omega)
  have hm := fK_m s hs
  have e1 : wI ((s : Int) + 1) = ((s + 1 : Nat) : Int) := by rw [wI_of (by omega) (by omega)]; omega
  unfold sX7_kindOf sX7_kindOf_b0
  rw [wI_of (x := (s : Int)) (by omega) (by omega), if_neg (by omega), if_pos (by omega), if_pos ⟨by omega, by omega⟩, tN, a1]
  have hz : ∀ d k n, fK (s + 1) - k = d → fK s ≤ k → k ≤ fK (s + 1) → d < n → (∃ k' : Nat, k ≤ k' ∧ k' < fK (s + 1) ∧ wd T f t = cW.getD k' 0 ∧ sX7_kindOf_b17 79 1 (s : Int) M n (k : Int) = some (k' : Int)) ∨ ((∀ k', k ≤ k' → k' < fK (s + 1) → wd T f t ≠ cW.getD k' 0) ∧ sX7_kindOf_b17 79 1 (s : Int) M n (k : Int) = some (-1)) := by
    intro d
    induction d with
    | zero =>
      intro k n hd hk hk' hn
      obtain ⟨m, rfl⟩ : ∃ m, n = m + 1 := ⟨n - 1, by omega⟩
      right
      refine ⟨fun k' h1 h2 => by omega, ?_⟩
      rw [sX7_kindOf_b17, e1, if_pos ⟨by omega, by omega⟩, tN, b1, wI_of (x := ((fK (s + 1) : Nat) : Int)) (by omega) (by omega), wI_of (x := (k : Int)) (by omega) (by omega), if_pos (by omega)]
    | succ d ih =>
      intro k n hd hk hk' hn
      obtain ⟨m, rfl⟩ : ∃ m, n = m + 1 := ⟨n - 1, by omega⟩
      have es : sX7_kindOf_b17 79 1 (s : Int) M (m + 1) (k : Int) = if wd T f t = cW.getD k 0 then some (k : Int) else sX7_kindOf_b17 79 1 (s : Int) M m ((k + 1 : Nat) : Int) := by
        rw [sX7_kindOf_b17, e1, if_pos ⟨by omega, by omega⟩, tN, b1, wI_of (x := ((fK (s + 1) : Nat) : Int)) (by omega) (by omega), wI_of (x := (k : Int)) (by omega) (by omega), if_neg (by omega), sp_e hT hb hf ht h hl (k := k) (by omega), ob_s]
        by_cases he : wd T f t = cW.getD k 0
        · rw [if_pos he, if_pos he, i10]
        · rw [if_neg he, if_neg he, i00, ob_s]; rfl
      rw [es]
      by_cases he : wd T f t = cW.getD k 0
      · left; exact ⟨k, by omega, by omega, he, by rw [if_pos he]⟩
      · rw [if_neg he]
        rcases ih (k + 1) m (by omega) (by omega) (by omega) (by omega) with ⟨k', q1, q2, q3, q4⟩ | ⟨q1, q2⟩
        · left; exact ⟨k', by omega, q2, q3, q4⟩
        · right
          refine ⟨fun k' h1 h2 => ?_, q2⟩
          by_cases hkk : k' = k
          · rw [hkk]; exact he
          · exact q1 k' (by omega) h2
  exact hz (fK (s + 1) - fK s) (fK s) FU rfl (by omega) hm (by unfold FU; omega)
