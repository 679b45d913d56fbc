theorem findB {N0 : MM} {kp : Nat} {P : Nat → Int} (hd0 : HD N0 kp) (pe0 : pP N0 kp = P) (hv : PV P) {n b : Nat} (hT : TPP P n b) {o : Nat → Nat} (ho : ORD o n) (h82 : ∀ i, i < n → N0 382 i = (o i : Int)) {B0 lay : Nat} (hB0 : P 19 = (B0 : Int)) (hb0 : 1 ≤ B0 ∧ B0 ≤ 30) (hlay : 1 ≤ lay ∧ lay ≤ 9) : ∃ N', sX12_findChances 359 (lay : Int) N0 = some N' ∧ FQ N0 N' ∧ N' 359 53 = 10 ^ (n * b) ∧ N' 359 54 = wW P b n (B0 * lay) o (n - 1) * 10 ^ b ∧ N' 359 55 = chW P b n (B0 * lay) o n (o (n - 1)) ∧ N' 359 56 = wW P b n (B0 * lay) o n ∧ ∀ c, c < n → N' 381 c = chW P b n (B0 * lay) o n c := by
  have hT0 := hT
  obtain ⟨t1, t2, t3, t4, t5, t6, t7, t8, t9⟩ := hT
  have hm : (B0 : Int) * (lay : Int) = ((B0 * lay : Nat) : Int) := by simp
  have hmb : B0 * lay ≤ 30 * 9 := Nat.mul_le_mul hb0.2 hlay.2
  have hmp : 1 ≤ B0 * lay := Nat.mul_pos hb0.1 hlay.1
  obtain ⟨B, hB⟩ : ∃ B, B = B0 * lay := ⟨_, rfl⟩
  rw [← hB] at hm hmb hmp ⊢
  have hB2 : 1 ≤ B ∧ B ≤ 270 := ⟨hmp, hmb⟩
  unfold sX12_findChances sX12_findChances_b0
  have ebel : sX12_belly 359 N0 = some (B0 : Int) := by
    unfold sX12_belly sX12_belly_b0
    rw [of_e hd0 ⟨by omega, by omega⟩, ob_s, pe0, show (19 : Int).toNat = 19 from rfl, hB0]
  rw [ebel, ob_s, hm]
  obtain ⟨G, hG⟩ : ∃ G : Nat → WF, ∀ i, G i = stF (opP P b) (pfS o i) n (dlF B) := ⟨_, fun _ => rfl⟩
  have hW : ∀ i, wW P b n B o i = wtF B (G i) := fun i => by rw [hG]; rfl
  have hG0 : G 0 = dlF B := by
    rw [hG]
    have : ∀ m, stF (opP P b) (pfS o 0) m (dlF B) = dlF B := by
      intro m
      induction m with
      | zero => rfl
      | succ m ih => rw [stF_s, ih]; rfl
    exact this n
  have hGs : ∀ i, i < n → G (i + 1) = opP P b (o i) (G i) := fun i hi => by rw [hG, hG, pf_s ho hi]
  have hGt : ∀ i, Top B (G i) := fun i => by rw [hG]; exact st_t n (dl_t B)
  -- the state before position i
  let I : Nat → MM → Prop := fun i t => FQ N0 t ∧ (∃ q, RwB B t q ∧ ∀ x, 1 ≤ x → x ≤ B → q.1 x + q.2 x = G i x) ∧ t 359 53 = 10 ^ (i * b) ∧ t 359 54 = (if i = n then wW P b n B o (n - 1) * 10 ^ b else 0) ∧ ∀ c, c < n → t 381 c = chW P b n B o i c
  have main : ∀ T : MM, I 0 T → ∃ N', sX12_findChances_b76 359 (lay : Int) FU (B : Int) 0 T = some N' ∧ FQ N0 N' ∧ N' 359 53 = 10 ^ (n * b) ∧ N' 359 54 = wW P b n B o (n - 1) * 10 ^ b ∧ N' 359 55 = chW P b n B o n (o (n - 1)) ∧ N' 359 56 = wW P b n B o n ∧ ∀ c, c < n → N' 381 c = chW P b n B o n c := by
    intro T hT1
    refine loopC (fun f y (t : MM) => sX12_findChances_b76 359 (lay : Int) f (B : Int) y t) n I (fun r => ∃ N', r = some N' ∧ FQ N0 N' ∧ N' 359 53 = 10 ^ (n * b) ∧ N' 359 54 = wW P b n B o (n - 1) * 10 ^ b ∧ N' 359 55 = chW P b n B o n (o (n - 1)) ∧ N' 359 56 = wW P b n B o n ∧ ∀ c, c < n → N' 381 c = chW P b n B o n c) ?_ ?_ FU 0 T (by omega) hT1 (by unfold FU; omega)
    · intro f t ⟨h1, ⟨q, q1, q2⟩, h3, h4, h5⟩
      have hd := FQ_HD h1 hd0
      have pe := (FQ_p h1 kp).trans pe0
      have hlast := ho.1 (n - 1) (by omega)
      have e82 : t 382 = N0 382 := h1.1 382 (by omega) (by omega) (by omega) (by omega)
      have r1 : FQ N0 (mU t 359 55 (t 381 (o (n - 1)))) := FQ_u h1 (by omega)
      show ∃ N', sX12_findChances_b76 359 (lay : Int) (f + 1) (B : Int) (n : Int) t = some N' ∧ _
      rw [sX12_findChances_b76, hd.2.2.2.1, pe, t1, if_pos (Int.le_refl _), wI_of (x := (n : Int) - 1) (by omega) (by omega), if_pos (show 0 ≤ (n : Int) - 1 ∧ (n : Int) - 1 < 8 by omega), g359_51, g359_52, show ((n : Int) - 1).toNat = n - 1 by omega, e82, h82 (n - 1) (by omega), wI_of (x := (o (n - 1) : Int)) (by omega) (by omega), if_pos (show 0 ≤ (o (n - 1) : Int) ∧ (o (n - 1) : Int) < 8 by omega), tN, ob_s, staB hB2 (q := q) (fun x x1 x2 => by rw [mU_row _ _ (show (379 : Nat) ≠ 359 by omega)]; exact q1 x x1 x2), ob_s, ob_s]
      refine ⟨_, rfl, FQ_u r1 (by omega), ?_, ?_, ?_, ?_, fun c hc => ?_⟩
      · rw [mU_ne _ _ (by omega), mU_ne _ _ (by omega)]; exact h3
      · rw [mU_ne _ _ (by omega), mU_ne _ _ (by omega), h4, if_pos rfl]
      · rw [mU_ne _ _ (by omega), mU_eq, h5 _ hlast]
      · rw [mU_eq, hW]; exact wt_x q2
      · rw [mU_row _ _ (by omega), mU_row _ _ (by omega)]; exact h5 c hc
    · intro f i t hi ⟨h1, ⟨q, q1, q2⟩, h3, h4, h5⟩
      right
      have hd := FQ_HD h1 hd0
      have hoi := ho.1 i hi
      have pe := (FQ_p h1 kp).trans pe0
      obtain ⟨U, u1, u2, u3⟩ := turB hB2 q1
      have fU : FQ N0 U := FQ_t h1 ⟨fun a _ ha _ _ => u2 a ha, fun j _ => by rw [u2 359 (by omega)]⟩
      have u59 : U 359 = t 359 := u2 359 (by omega)
      have u3' : RwB B U (G i, fun _ => 0) := fun x x1 x2 => by
        have := u3 x x1 x2
        show U 379 x = G i x ∧ U 379 (271 + x) = 0
        rw [← q2 x x1 x2]; exact this
      have hdU := FQ_HD fU hd0
      have peU := (FQ_p fU kp).trans pe0
      -- the field 54
      obtain ⟨v, hvv⟩ : ∃ v, v = if i = n - 1 then wW P b n B o i else 0 := ⟨_, rfl⟩
      have pick : sX12_findChances_b76 359 (lay : Int) (f + 1) (B : Int) (i : Int) t = sX12_findChances_b118 359 (lay : Int) (fun x2 x3 M => sX12_findChances_b76 359 (lay : Int) f x2 x3 M) FU (B : Int) (i : Int) 0 (mU U 359 54 v) := by
        rw [sX12_findChances_b76, hd.2.2.2.1, pe, t1, wI_of (x := (n : Int)) (by omega) (by omega), wI_of (x := (i : Int)) (by omega) (by omega), if_neg (show ¬ (n : Int) ≤ (i : Int) by omega), u1, ob_s, hdU.2.2.2.1, peU, t1, wI_of (x := (n : Int) - 1) (by omega) (by omega)]
        unfold sX12_findChances_b112
        by_cases e : i = n - 1
        · have sb := staB hB2 u3'
          have eW : wtF B (fun x : Nat => ((G i, fun _ => 0) : WF × WF).1 x + ((G i, fun _ => 0) : WF × WF).2 x) = wtF B (G i) := wt_x (fun x _ _ => by show G i x + 0 = G i x; omega)
          rw [eW] at sb
          rw [if_pos (show (i : Int) = (n : Int) - 1 by omega), sb, ob_s, ob_s, hvv, if_pos e, hW]
        · rw [if_neg (show ¬ (i : Int) = (n : Int) - 1 by omega), ob_s, hvv, if_neg e, u59, h4, if_neg (show ¬ i = n by omega)]
      show ∃ s' : MM, sX12_findChances_b76 359 (lay : Int) (f + 1) (B : Int) (i : Int) t = sX12_findChances_b76 359 (lay : Int) f (B : Int) ((i : Int) + 1) s' ∧ I (i + 1) s'
      rw [pick]
      obtain ⟨dr, hdr⟩ : ∃ dr, dr = decide (P (28 + 13 * o i) < P 3) := ⟨_, rfl⟩
      obtain ⟨l, hl⟩ : ∃ l, l = P (30 + 13 * o i) := ⟨_, rfl⟩
      obtain ⟨F, hF⟩ : ∃ F, F = (P (29 + 13 * o i)).toNat := ⟨_, rfl⟩
      have tops : ∀ k, Top B (itT l F k (inF dr (G i))).1 ∧ Top B (itT l F k (inF dr (G i))).2 := by
        intro k
        induction k with
        | zero => exact in_t' dr (hGt i)
        | succ k ih => exact bl_t ih
      have zer : ∀ k, dr = true → ∀ x, (itT l F k (inF dr (G i))).1 x = 0 := by
        intro k hk
        induction k with
        | zero => intro x; rw [hk]; rfl
        | succ k ih => intro x; show (10 - l) * (itT l F k (inF dr (G i))).1 x = 0; rw [ih x, Int.mul_zero]
      let J : Nat → MM → Prop := fun k s => FQ N0 s ∧ RwB B s (swp dr (itT l F k (inF dr (G i)))) ∧ s 359 53 = 10 ^ (i * b + k) ∧ s 359 54 = v * 10 ^ k ∧ ∀ c, c < n → s 381 c = chW P b n B o i c * 10 ^ k + (if c = o i then 10 ^ k * wW P b n B o i - wtF B (fun x => (itT l F k (inF dr (G i))).1 x + (itT l F k (inF dr (G i))).2 x) else 0)
      refine loopC (fun g y (s : MM) => sX12_findChances_b118 359 (lay : Int) (fun x2 x3 M => sX12_findChances_b76 359 (lay : Int) f x2 x3 M) g (B : Int) (i : Int) y s) b J (fun r => ∃ s', r = sX12_findChances_b76 359 (lay : Int) f (B : Int) ((i : Int) + 1) s' ∧ I (i + 1) s') ?_ ?_ FU 0 (mU U 359 54 v) (by omega) ⟨FQ_u fU (by omega), ?_, ?_, ?_, fun c hc => ?_⟩ (by unfold FU; omega)
      · intro g s ⟨j1, j2, j3, j4, j5⟩
        have hds := FQ_HD j1 hd0
        have pes := (FQ_p j1 kp).trans pe0
        have eG : ∀ x, (itT l F b (inF dr (G i))).1 x + (itT l F b (inF dr (G i))).2 x = G (i + 1) x := fun x => by rw [hGs i hi, hl, hF, hdr]; rfl
        refine ⟨s, ?_, j1, ⟨_, j2, fun x _ _ => ?_⟩, ?_, ?_, fun c hc => ?_⟩
        · show sX12_findChances_b118 359 (lay : Int) (fun x2 x3 M => sX12_findChances_b76 359 (lay : Int) f x2 x3 M) (g + 1) (B : Int) (i : Int) (b : Int) s = _
          rw [sX12_findChances_b118, hds.2.2.2.2.1, pes, t2, if_pos (Int.le_refl _), ob_s]
        · rw [← eG x]
          exact congrFun (swp_w dr (itT l F b (inF dr (G i)))) x
        · rw [j3, Nat.add_mul, Nat.one_mul]
        · rw [j4, hvv]
          by_cases e : i = n - 1
          · rw [if_pos e, if_pos (show i + 1 = n by omega), e]
          · rw [if_neg e, if_neg (show ¬ i + 1 = n by omega), Int.zero_mul]
        · rw [j5 c hc]
          show _ = chW P b n B o i c * 10 ^ b + if c = o i then 10 ^ b * wW P b n B o i - wW P b n B o (i + 1) else 0
          rw [hW (i + 1), show (fun x => (itT l F b (inF dr (G i))).1 x + (itT l F b (inF dr (G i))).2 x) = G (i + 1) from funext eG]
      · intro g k s hk ⟨j1, j2, j3, j4, j5⟩
        right
        have hds := FQ_HD j1 hd0
        have pes := (FQ_p j1 kp).trans pe0
        have e82 : s 382 = N0 382 := j1.1 382 (by omega) (by omega) (by omega) (by omega)
        obtain ⟨Z, z1, z2, z3⟩ := blowB hds pes hv hT0 hB2 hoi hdr j2 (zer k) (tops k)
        rw [← hl, ← hF] at z1 z3
        have bw := bl_w (F := F) (l := l) (tops k)
        obtain ⟨y, hy⟩ : ∃ y, y = bsF B F l (itT l F k (inF dr (G i))).2 := ⟨_, rfl⟩
        rw [← hy] at z1 bw
        have fZ : FQ N0 Z := FQ_t j1 (FQ_90 z2)
        have z59 : Z 359 = s 359 := z2 359 (by omega) (by omega)
        have z81 : Z 381 = s 381 := z2 381 (by omega) (by omega)
        have head : sX12_findChances_b118 359 (lay : Int) (fun x2 x3 M => sX12_findChances_b76 359 (lay : Int) f x2 x3 M) (g + 1) (B : Int) (i : Int) (k : Int) s = sX12_findChances_b155 359 (lay : Int) (fun x2 x3 x4 M => sX12_findChances_b118 359 (lay : Int) (fun x2 x3 M => sX12_findChances_b76 359 (lay : Int) f x2 x3 M) g x2 x3 x4 M) FU (B : Int) (i : Int) (k : Int) y 0 (mU Z 359 53 (Z 359 53 * 10)) := by
          rw [sX12_findChances_b118, hds.2.2.2.2.1, pes, t2, wI_of (x := (b : Int)) (by omega) (by omega), wI_of (x := (k : Int)) (by omega) (by omega), if_neg (show ¬ (b : Int) ≤ (k : Int) by omega), wI_of (x := (i : Int)) (by omega) (by omega), if_pos (show 0 ≤ (i : Int) ∧ (i : Int) < 8 by omega), g359_52, tN, e82, h82 i hi, z1, ob_s, ob_s]
        show ∃ s' : MM, sX12_findChances_b118 359 (lay : Int) (fun x2 x3 M => sX12_findChances_b76 359 (lay : Int) f x2 x3 M) (g + 1) (B : Int) (i : Int) (k : Int) s = sX12_findChances_b118 359 (lay : Int) (fun x2 x3 M => sX12_findChances_b76 359 (lay : Int) f x2 x3 M) g (B : Int) (i : Int) ((k : Int) + 1) s' ∧ J (k + 1) s'
        rw [head]
        refine loopC (fun h x7 (r : MM) => sX12_findChances_b155 359 (lay : Int) (fun x2 x3 x4 M => sX12_findChances_b118 359 (lay : Int) (fun x2 x3 M => sX12_findChances_b76 359 (lay : Int) f x2 x3 M) g x2 x3 x4 M) h (B : Int) (i : Int) (k : Int) y x7 r) n (fun m r => FQ N0 r ∧ (∀ a, a ≠ 381 → r a = mU Z 359 53 (Z 359 53 * 10) a) ∧ ∀ c, c < n → r 381 c = if c < m then s 381 c * 10 else s 381 c) (fun r => ∃ s', r = sX12_findChances_b118 359 (lay : Int) (fun x2 x3 M => sX12_findChances_b76 359 (lay : Int) f x2 x3 M) g (B : Int) (i : Int) ((k : Int) + 1) s' ∧ J (k + 1) s') ?_ ?_ FU 0 (mU Z 359 53 (Z 359 53 * 10)) (by omega) ⟨FQ_u fZ (by omega), fun _ _ => rfl, fun c hc => by rw [if_neg (by omega), mU_row _ _ (by omega), z81]⟩ (by unfold FU; omega)
        · intro h r ⟨r1, r2, r3⟩
          have hdr' := FQ_HD r1 hd0
          have per := (FQ_p r1 kp).trans pe0
          have e82r : r 382 = N0 382 := r1.1 382 (by omega) (by omega) (by omega) (by omega)
          have r59 : r 359 54 = s 359 54 := by rw [r2 359 (by omega), mU_ne _ _ (by omega), z59]
          refine ⟨mU (mU r 381 (o i) (s 381 (o i) * 10 + y)) 359 54 (s 359 54 * 10), ?_, FQ_u (FQ_u r1 (by omega)) (by omega), ?_, ?_, ?_, fun c hc => ?_⟩
          · show sX12_findChances_b155 359 (lay : Int) (fun x2 x3 x4 M => sX12_findChances_b118 359 (lay : Int) (fun x2 x3 M => sX12_findChances_b76 359 (lay : Int) f x2 x3 M) g x2 x3 x4 M) (h + 1) (B : Int) (i : Int) (k : Int) y (n : Int) r = _
            rw [sX12_findChances_b155, hdr'.2.2.2.1, per, t1, if_pos (Int.le_refl _), wI_of (x := (i : Int)) (by omega) (by omega), if_pos (show 0 ≤ (i : Int) ∧ (i : Int) < 8 by omega), g359_51, g359_52, tN, e82r, h82 i hi, wI_of (x := (o i : Int)) (by omega) (by omega), if_pos (show 0 ≤ (o i : Int) ∧ (o i : Int) < 8 by omega), if_pos (show 0 ≤ (o i : Int) ∧ (o i : Int) < 8 by omega), ob_s, ob_s, ob_s, tN, r3 (o i) hoi, if_pos hoi, mU_ne _ _ (show (359 : Nat) ≠ 381 ∨ (54 : Nat) ≠ o i by omega), r59]
          · intro x x1 x2
            rw [mU_row _ _ (show (379 : Nat) ≠ 359 by omega), mU_row _ _ (show (379 : Nat) ≠ 381 by omega), r2 379 (by omega), mU_row _ _ (show (379 : Nat) ≠ 359 by omega)]
            exact z3 x x1 x2
          · rw [mU_ne _ _ (by omega), mU_row _ _ (by omega), r2 359 (by omega), mU_eq, z59, j3, ← Int.pow_succ]; rfl
          · rw [mU_eq, j4, Int.mul_assoc, ← Int.pow_succ]
          · rw [mU_row _ _ (show (381 : Nat) ≠ 359 by omega)]
            have bw' : wtF B (fun x => (itT l F (k + 1) (inF dr (G i))).1 x + (itT l F (k + 1) (inF dr (G i))).2 x) + y = 10 * wtF B (fun x => (itT l F k (inF dr (G i))).1 x + (itT l F k (inF dr (G i))).2 x) := bw
            generalize wtF B (fun x => (itT l F (k + 1) (inF dr (G i))).1 x + (itT l F (k + 1) (inF dr (G i))).2 x) = w1 at *
            generalize wtF B (fun x => (itT l F k (inF dr (G i))).1 x + (itT l F k (inF dr (G i))).2 x) = w0 at *
            by_cases e : c = o i
            · subst e
              rw [mU_eq, if_pos rfl, j5 (o i) hc, if_pos rfl, Int.pow_succ]
              generalize (10 : Int) ^ k = A
              rw [← Int.mul_assoc, Int.mul_comm A 10, Int.mul_assoc 10 A]
              generalize A * wW P b n B o i = w2
              generalize chW P b n B o i (o i) * A = w3
              omega
            · rw [mU_ne _ _ (by omega), if_neg e, r3 c hc, if_pos hc, j5 c hc, if_neg e, Int.pow_succ, ← Int.mul_assoc]
              generalize chW P b n B o i c * 10 ^ k = w3
              omega
        · intro h m r hm ⟨r1, r2, r3⟩
          right
          have hdr' := FQ_HD r1 hd0
          have per := (FQ_p r1 kp).trans pe0
          have z8 : 0 ≤ (m : Int) ∧ (m : Int) < 8 := ⟨by omega, by omega⟩
          have rm := r3 m hm
          rw [if_neg (by omega)] at rm
          refine ⟨mU r 381 m (s 381 m * 10), ?_, FQ_u r1 (by omega), fun a ha => by rw [mU_row _ _ ha]; exact r2 a ha, fun c hc => ?_⟩
          · show sX12_findChances_b155 359 (lay : Int) (fun x2 x3 x4 M => sX12_findChances_b118 359 (lay : Int) (fun x2 x3 M => sX12_findChances_b76 359 (lay : Int) f x2 x3 M) g x2 x3 x4 M) (h + 1) (B : Int) (i : Int) (k : Int) y (m : Int) r = _
            rw [sX12_findChances_b155, hdr'.2.2.2.1, per, t1, wI_of (x := (n : Int)) (by omega) (by omega), wI_of (x := (m : Int)) (by omega) (by omega), if_neg (show ¬ (n : Int) ≤ (m : Int) by omega), if_pos z8, if_pos z8, ob_s, ob_s, g359_51, tN, rm]
          · by_cases e : c = m
            · subst e; rw [mU_eq, if_pos (by omega)]
            · rw [mU_ne _ _ (by omega), r3 c hc]
              by_cases e2 : c < m
              · rw [if_pos e2, if_pos (by omega)]
              · rw [if_neg e2, if_neg (by omega)]
      · show RwB B (mU U 359 54 v) (swp dr (inF dr (G i)))
        rw [swp_i]
        intro x x1 x2
        rw [mU_row _ _ (by omega)]
        exact u3' x x1 x2
      · rw [mU_ne _ _ (by omega), u59]; exact h3
      · rw [mU_eq, Int.pow_zero, Int.mul_one]
      · rw [mU_row _ _ (by omega), u2 381 (by omega), h5 c hc]
        have e0 : (fun x => (itT l F 0 (inF dr (G i))).1 x + (itT l F 0 (inF dr (G i))).2 x) = G i := by
          funext x
          cases dr
          · show G i x + 0 = G i x; omega
          · show 0 + G i x = G i x; omega
        rw [e0, hW, Int.pow_zero, Int.mul_one, Int.one_mul, Int.sub_self, ite_self, Int.add_zero]
  -- the beginning
  have second : ∀ T : MM, FQ N0 T → RwB B T (dlF B, fun _ => 0) → T 359 53 = 1 → T 359 54 = 0 → ∃ N', sX12_findChances_b55 359 (lay : Int) FU (B : Int) 0 T = some N' ∧ FQ N0 N' ∧ N' 359 53 = 10 ^ (n * b) ∧ N' 359 54 = wW P b n B o (n - 1) * 10 ^ b ∧ N' 359 55 = chW P b n B o n (o (n - 1)) ∧ N' 359 56 = wW P b n B o n ∧ ∀ c, c < n → N' 381 c = chW P b n B o n c := by
    intro T h1 h2 h3 h4
    refine loopC (fun f y (t : MM) => sX12_findChances_b55 359 (lay : Int) f (B : Int) y t) 8 (fun k t => FQ N0 t ∧ (∀ a, a ≠ 381 → t a = T a) ∧ ∀ c, c < k → t 381 c = 0) (fun r => ∃ N', r = some N' ∧ FQ N0 N' ∧ N' 359 53 = 10 ^ (n * b) ∧ N' 359 54 = wW P b n B o (n - 1) * 10 ^ b ∧ N' 359 55 = chW P b n B o n (o (n - 1)) ∧ N' 359 56 = wW P b n B o n ∧ ∀ c, c < n → N' 381 c = chW P b n B o n c) ?_ ?_ FU 0 T (by omega) ⟨h1, fun _ _ => rfl, fun c hc => by omega⟩ (by unfold FU; omega)
    · intro f t ⟨s1, s2, s3⟩
      show ∃ N', sX12_findChances_b55 359 (lay : Int) (f + 1) (B : Int) ((8 : Nat) : Int) t = some N' ∧ _
      rw [sX12_findChances_b55, wI_of (x := ((8 : Nat) : Int)) (by omega) (by omega), if_pos (by omega)]
      refine main t ⟨s1, ⟨(dlF B, fun _ => 0), fun x x1 x2 => by rw [s2 379 (by omega)]; exact h2 x x1 x2, fun x _ _ => by rw [hG0]; show dlF B x + 0 = _; omega⟩, ?_, ?_, fun c hc => ?_⟩
      · rw [s2 359 (by omega), h3, Nat.zero_mul, Int.pow_zero]
      · rw [s2 359 (by omega), h4, if_neg (show ¬ 0 = n by omega)]
      · rw [s3 c (by omega)]; rfl
    · intro f k t hk ⟨s1, s2, s3⟩
      right
      refine ⟨mU t 381 k 0, ?_, FQ_u s1 (by omega), fun a ha => by rw [mU_row _ _ ha]; exact s2 a ha, fun c hc => ?_⟩
      · show sX12_findChances_b55 359 (lay : Int) (f + 1) (B : Int) (k : Int) t = _
        rw [sX12_findChances_b55, wI_of (x := (k : Int)) (by omega) (by omega), if_neg (show ¬ 8 ≤ (k : Int) by omega), if_pos (show 0 ≤ (k : Int) ∧ (k : Int) < 8 by omega), ob_s, ob_s, g359_51, tN]
      · by_cases e : c = k
        · subst e; rw [mU_eq]
        · rw [mU_ne _ _ (by omega)]; exact s3 c (by omega)
  refine loopC (fun f y (t : MM) => sX12_findChances_b9 359 (lay : Int) f (B : Int) y t) 542 (fun k t => FQ N0 t ∧ ∀ x, x < k → t 379 x = if x = B then 1 else 0) (fun r => ∃ N', r = some N' ∧ FQ N0 N' ∧ N' 359 53 = 10 ^ (n * b) ∧ N' 359 54 = wW P b n B o (n - 1) * 10 ^ b ∧ N' 359 55 = chW P b n B o n (o (n - 1)) ∧ N' 359 56 = wW P b n B o n ∧ ∀ c, c < n → N' 381 c = chW P b n B o n c) ?_ ?_ FU 0 N0 (by omega) ⟨FQ_r N0, fun x hx => by omega⟩ (by unfold FU; omega)
  · intro f t ⟨s1, s2⟩
    show ∃ N', sX12_findChances_b9 359 (lay : Int) (f + 1) (B : Int) ((542 : Nat) : Int) t = some N' ∧ _
    rw [sX12_findChances_b9, wI_of (x := ((542 : Nat) : Int)) (by omega) (by omega), if_pos (by omega), ob_s, ob_s, ob_s]
    refine second _ (FQ_u (FQ_u (FQ_u s1 (by omega)) (by omega)) (by omega)) (fun x x1 x2 => ?_) (by rw [mU_ne _ _ (by omega), mU_ne _ _ (by omega), mU_eq]) (by rw [mU_ne _ _ (by omega), mU_eq])
    rw [mU_row _ _ (by omega), mU_row _ _ (by omega), mU_row _ _ (by omega), s2 x (by omega), s2 (271 + x) (by omega), if_neg (show ¬ 271 + x = B by omega)]
    exact ⟨rfl, rfl⟩
  · intro f k t hk ⟨s1, s2⟩
    right
    refine ⟨mU t 379 k (if k = B then 1 else 0), ?_, FQ_u s1 (by omega), fun x hx => ?_⟩
    · show sX12_findChances_b9 359 (lay : Int) (f + 1) (B : Int) (k : Int) t = _
      rw [sX12_findChances_b9, wI_of (x := (k : Int)) (by omega) (by omega), wI_of (x := (B : Int)) (by omega) (by omega), if_neg (show ¬ 542 ≤ (k : Int) by omega)]
      unfold sX12_findChances_b31
      rw [wI_of (x := (k : Int)) (by omega) (by omega), g359_49, tN]
      by_cases e : k = B
      · rw [if_pos (show (k : Int) = (B : Int) by omega), if_pos (show 0 ≤ (k : Int) ∧ (k : Int) < 542 by omega), ob_s, ob_s, if_pos e]
      · rw [if_neg (show ¬ (k : Int) = (B : Int) by omega), if_pos (show 0 ≤ (k : Int) ∧ (k : Int) < 542 by omega), ob_s, ob_s, if_neg e]
    · by_cases e : x = k
      · subst e; rw [mU_eq]
      · rw [mU_ne _ _ (by omega)]; exact s2 x (by omega)
