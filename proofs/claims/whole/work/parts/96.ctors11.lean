abbrev xX11_init : XX := (yX11_init, cX11_init, 2, none, 4, 85, 358, 10657)
theorem ci_X11_init_9 : CKI xX11_init 9 xX9_init 0 := ⟨tb_i 140 (by decide +kernel) (by decide +kernel), tb_i 170 (by decide +kernel) (by decide +kernel), ⟨by decide +kernel, by decide +kernel, by decide +kernel⟩, by decide, by decide, rfl, tb_i 169 (by decide +kernel) (by decide +kernel), rfl, Or.inl (tb_i 168 (by decide +kernel) (by decide +kernel))⟩
def t11_2 (n : Nat) : List LE := (t11_1 n).set 0 (eX9_init (n + 0) (n + 1)) ++ sX9_init (n + 0) (n + 1)
theorem tl11_2 (n : Nat) : (t11_2 n).length = 76 := by unfold t11_2; simp only [List.length_append, List.length_set, tl11_1]; rfl
theorem tc11_2 (n : Nat) : (t11_2 n)[0]? = some (eX9_init (n + 0) (n + 1)) := by unfold t11_2; rw [List.getElem?_append_left (by simp only [List.length_set, tl11_1]; decide), List.getElem?_set_self (by rw [tl11_1]; decide)]
theorem fc_11_10 : FG RX11 10 11 0 (clT 11 0) true := ⟨RX11, TX11, cf_11, by decide, tb_i 583 (by decide +kernel) (by decide +kernel), rfl, rfl, rfl⟩
def t11_3 (n : Nat) : List LE := t11_2 n ++ [(9, 3, List.replicate 3 none)]
theorem tl11_3 (n : Nat) : (t11_3 n).length = 77 := by unfold t11_3; simp only [List.length_append, List.length_set, tl11_2]; rfl
theorem ta11_3 (n : Nat) : (t11_3 n)[76]? = some (9, 3, List.replicate 3 none) := by unfold t11_3; rw [List.getElem?_append_right (by rw [tl11_2]; exact Nat.le_refl _), tl11_2]; rfl
theorem tb11_3 (n : Nat) : (t11_3 n)[76]? = some (9, 3, [none, none, none]) := ta11_3 n
theorem fc_11_16 : FG RX11 16 11 1 (clT 11 1) true := ⟨RX11, TX11, cf_11, by decide, tb_i 584 (by decide +kernel) (by decide +kernel), rfl, rfl, rfl⟩
def t11_4 (n : Nat) : List LE := t11_3 n ++ [(4, 3, [])]
theorem tl11_4 (n : Nat) : (t11_4 n).length = 78 := by unfold t11_4; simp only [List.length_append, List.length_set, tl11_3]; rfl
theorem ta11_4 (n : Nat) : (t11_4 n)[77]? = some (4, 3, []) := by unfold t11_4; rw [List.getElem?_append_right (by rw [tl11_3]; exact Nat.le_refl _), tl11_3]; rfl
theorem tb11_4 (n : Nat) : (t11_4 n)[76]? = some (9, 3, [none, none, none]) := by unfold t11_4; rw [List.getElem?_append_left (by simp only [List.length_set, tl11_3]; decide), tb11_3]
theorem fc_11_20 : FG RX11 20 11 2 (clT 11 2) true := ⟨RX11, TX11, cf_11, by decide, tb_i 585 (by decide +kernel) (by decide +kernel), rfl, rfl, rfl⟩
def t11_5 (n : Nat) : List LE := t11_4 n ++ [(0, 7, List.replicate (clN 7) none)]
theorem tl11_5 (n : Nat) : (t11_5 n).length = 79 := by unfold t11_5; simp only [List.length_append, List.length_set, tl11_4]; rfl
theorem ta11_5 (n : Nat) : (t11_5 n)[78]? = some (0, 7, List.replicate (clN 7) none) := by unfold t11_5; rw [List.getElem?_append_right (by rw [tl11_4]; exact Nat.le_refl _), tl11_4]; rfl
theorem tb11_5 (n : Nat) : (t11_5 n)[76]? = some (9, 3, [none, none, none]) := by unfold t11_5; rw [List.getElem?_append_left (by simp only [List.length_set, tl11_4]; decide), tb11_4]
theorem ci_X11_init_26 : CKI xX11_init 26 xX7_init 0 := ⟨tb_i 146 (by decide +kernel) (by decide +kernel), tb_i 405 (by decide +kernel) (by decide +kernel), ⟨by decide +kernel, by decide +kernel, by decide +kernel⟩, by decide, by decide, rfl, tb_i 404 (by decide +kernel) (by decide +kernel), rfl, Or.inr ⟨"PaperDonkey", tn_i 403 (by decide +kernel) rfl⟩⟩
def t11_6 (n : Nat) : List LE := (t11_5 n).set 78 (eX7_init (n + 78) (n + 79)) ++ sX7_init (n + 78) (n + 79)
theorem tl11_6 (n : Nat) : (t11_6 n).length = 114 := by unfold t11_6; simp only [List.length_append, List.length_set, tl11_5]; rfl
theorem tb11_6 (n : Nat) : (t11_6 n)[76]? = some (9, 3, [none, none, none]) := by unfold t11_6; rw [List.getElem?_append_left (by simp only [List.length_set, tl11_5]; decide), List.getElem?_set_ne (by decide), tb11_5]
theorem tc11_6 (n : Nat) : (t11_6 n)[78]? = some (eX7_init (n + 78) (n + 79)) := by unfold t11_6; rw [List.getElem?_append_left (by simp only [List.length_set, tl11_5]; decide), List.getElem?_set_self (by rw [tl11_5]; decide)]
theorem fc_11_27 : FG RX11 27 11 3 (clT 11 3) true := ⟨RX11, TX11, cf_11, by decide, tb_i 586 (by decide +kernel) (by decide +kernel), rfl, rfl, rfl⟩
def t11_7 (n : Nat) : List LE := t11_6 n ++ [(0, 6, List.replicate (clN 6) none)]
theorem tl11_7 (n : Nat) : (t11_7 n).length = 115 := by unfold t11_7; simp only [List.length_append, List.length_set, tl11_6]; rfl
theorem ta11_7 (n : Nat) : (t11_7 n)[114]? = some (0, 6, List.replicate (clN 6) none) := by unfold t11_7; rw [List.getElem?_append_right (by rw [tl11_6]; exact Nat.le_refl _), tl11_6]; rfl
theorem tb11_7 (n : Nat) : (t11_7 n)[76]? = some (9, 3, [none, none, none]) := by unfold t11_7; rw [List.getElem?_append_left (by simp only [List.length_set, tl11_6]; decide), tb11_6]
theorem ci_X11_init_33 : CKI xX11_init 33 xX6_init 0 := ⟨tb_i 147 (by decide +kernel) (by decide +kernel), tb_i 467 (by decide +kernel) (by decide +kernel), ⟨by decide +kernel, by decide +kernel, by decide +kernel⟩, by decide, by decide, rfl, tb_i 466 (by decide +kernel) (by decide +kernel), rfl, Or.inr ⟨"PaperDonkey", tn_i 465 (by decide +kernel) rfl⟩⟩
def t11_8 (n : Nat) : List LE := (t11_7 n).set 114 (eX6_init (n + 114) (n + 115)) ++ sX6_init (n + 114) (n + 115)
theorem tl11_8 (n : Nat) : (t11_8 n).length = 118 := by unfold t11_8; simp only [List.length_append, List.length_set, tl11_7]; rfl
theorem tb11_8 (n : Nat) : (t11_8 n)[76]? = some (9, 3, [none, none, none]) := by unfold t11_8; rw [List.getElem?_append_left (by simp only [List.length_set, tl11_7]; decide), List.getElem?_set_ne (by decide), tb11_7]
theorem tc11_8 (n : Nat) : (t11_8 n)[114]? = some (eX6_init (n + 114) (n + 115)) := by unfold t11_8; rw [List.getElem?_append_left (by simp only [List.length_set, tl11_7]; decide), List.getElem?_set_self (by rw [tl11_7]; decide)]
theorem fc_11_34 : FG RX11 34 11 4 (clT 11 4) true := ⟨RX11, TX11, cf_11, by decide, tb_i 587 (by decide +kernel) (by decide +kernel), rfl, rfl, rfl⟩
def t11_9 (n : Nat) : List LE := t11_8 n ++ [(0, 2, List.replicate (clN 2) none)]
theorem tl11_9 (n : Nat) : (t11_9 n).length = 119 := by unfold t11_9; simp only [List.length_append, List.length_set, tl11_8]; rfl
theorem ta11_9 (n : Nat) : (t11_9 n)[118]? = some (0, 2, List.replicate (clN 2) none) := by unfold t11_9; rw [List.getElem?_append_right (by rw [tl11_8]; exact Nat.le_refl _), tl11_8]; rfl
theorem tb11_9 (n : Nat) : (t11_9 n)[76]? = some (9, 3, [none, none, none]) := by unfold t11_9; rw [List.getElem?_append_left (by simp only [List.length_set, tl11_8]; decide), tb11_8]
theorem ci_X11_init_40 : CKI xX11_init 40 xX2_init 0 := ⟨tb_i 148 (by decide +kernel) (by decide +kernel), tb_i 516 (by decide +kernel) (by decide +kernel), ⟨by decide +kernel, by decide +kernel, by decide +kernel⟩, by decide, by decide, rfl, tb_i 515 (by decide +kernel) (by decide +kernel), rfl, Or.inr ⟨"PaperDonkey", tn_i 514 (by decide +kernel) rfl⟩⟩
def t11_10 (n : Nat) : List LE := (t11_9 n).set 118 (eX2_init (n + 118) (n + 119)) ++ sX2_init (n + 118) (n + 119)
theorem tl11_10 (n : Nat) : (t11_10 n).length = 120 := by unfold t11_10; simp only [List.length_append, List.length_set, tl11_9]; rfl
theorem tb11_10 (n : Nat) : (t11_10 n)[76]? = some (9, 3, [none, none, none]) := by unfold t11_10; rw [List.getElem?_append_left (by simp only [List.length_set, tl11_9]; decide), List.getElem?_set_ne (by decide), tb11_9]
theorem tc11_10 (n : Nat) : (t11_10 n)[118]? = some (eX2_init (n + 118) (n + 119)) := by unfold t11_10; rw [List.getElem?_append_left (by simp only [List.length_set, tl11_9]; decide), List.getElem?_set_self (by rw [tl11_9]; decide)]
theorem fc_11_41 : FG RX11 41 11 5 (clT 11 5) true := ⟨RX11, TX11, cf_11, by decide, tb_i 588 (by decide +kernel) (by decide +kernel), rfl, rfl, rfl⟩
def t11_11 (n : Nat) : List LE := t11_10 n ++ [(0, 4, List.replicate (clN 4) none)]
theorem tl11_11 (n : Nat) : (t11_11 n).length = 121 := by unfold t11_11; simp only [List.length_append, List.length_set, tl11_10]; rfl
theorem ta11_11 (n : Nat) : (t11_11 n)[120]? = some (0, 4, List.replicate (clN 4) none) := by unfold t11_11; rw [List.getElem?_append_right (by rw [tl11_10]; exact Nat.le_refl _), tl11_10]; rfl
theorem tb11_11 (n : Nat) : (t11_11 n)[76]? = some (9, 3, [none, none, none]) := by unfold t11_11; rw [List.getElem?_append_left (by simp only [List.length_set, tl11_10]; decide), tb11_10]
theorem ci_X11_init_47 : CKI xX11_init 47 xX4_init 0 := ⟨tb_i 149 (by decide +kernel) (by decide +kernel), tb_i 532 (by decide +kernel) (by decide +kernel), ⟨by decide +kernel, by decide +kernel, by decide +kernel⟩, by decide, by decide, rfl, tb_i 531 (by decide +kernel) (by decide +kernel), rfl, Or.inr ⟨"PaperDonkey", tn_i 530 (by decide +kernel) rfl⟩⟩
def t11_12 (n : Nat) : List LE := (t11_11 n).set 120 (eX4_init (n + 120) (n + 121)) ++ sX4_init (n + 120) (n + 121)
theorem tl11_12 (n : Nat) : (t11_12 n).length = 126 := by unfold t11_12; simp only [List.length_append, List.length_set, tl11_11]; rfl
theorem tb11_12 (n : Nat) : (t11_12 n)[76]? = some (9, 3, [none, none, none]) := by unfold t11_12; rw [List.getElem?_append_left (by simp only [List.length_set, tl11_11]; decide), List.getElem?_set_ne (by decide), tb11_11]
theorem tc11_12 (n : Nat) : (t11_12 n)[120]? = some (eX4_init (n + 120) (n + 121)) := by unfold t11_12; rw [List.getElem?_append_left (by simp only [List.length_set, tl11_11]; decide), List.getElem?_set_self (by rw [tl11_11]; decide)]
theorem fc_11_48 : FG RX11 48 11 6 (clT 11 6) true := ⟨RX11, TX11, cf_11, by decide, tb_i 589 (by decide +kernel) (by decide +kernel), rfl, rfl, rfl⟩
def t11_13 (n : Nat) : List LE := t11_12 n ++ [(0, 10, List.replicate (clN 10) none)]
theorem tl11_13 (n : Nat) : (t11_13 n).length = 127 := by unfold t11_13; simp only [List.length_append, List.length_set, tl11_12]; rfl
theorem ta11_13 (n : Nat) : (t11_13 n)[126]? = some (0, 10, List.replicate (clN 10) none) := by unfold t11_13; rw [List.getElem?_append_right (by rw [tl11_12]; exact Nat.le_refl _), tl11_12]; rfl
theorem tb11_13 (n : Nat) : (t11_13 n)[76]? = some (9, 3, [none, none, none]) := by unfold t11_13; rw [List.getElem?_append_left (by simp only [List.length_set, tl11_12]; decide), tb11_12]
theorem ci_X11_init_54 : CKI xX11_init 54 xX10_init 0 := ⟨tb_i 150 (by decide +kernel) (by decide +kernel), tb_i 554 (by decide +kernel) (by decide +kernel), ⟨by decide +kernel, by decide +kernel, by decide +kernel⟩, by decide, by decide, rfl, tb_i 553 (by decide +kernel) (by decide +kernel), rfl, Or.inr ⟨"PaperDonkey", tn_i 552 (by decide +kernel) rfl⟩⟩
def t11_14 (n : Nat) : List LE := (t11_13 n).set 126 (eX10_init (n + 126) (n + 127)) ++ sX10_init (n + 126) (n + 127)
theorem tl11_14 (n : Nat) : (t11_14 n).length = 129 := by unfold t11_14; simp only [List.length_append, List.length_set, tl11_13]; rfl
theorem tb11_14 (n : Nat) : (t11_14 n)[76]? = some (9, 3, [none, none, none]) := by unfold t11_14; rw [List.getElem?_append_left (by simp only [List.length_set, tl11_13]; decide), List.getElem?_set_ne (by decide), tb11_13]
theorem tc11_14 (n : Nat) : (t11_14 n)[126]? = some (eX10_init (n + 126) (n + 127)) := by unfold t11_14; rw [List.getElem?_append_left (by simp only [List.length_set, tl11_13]; decide), List.getElem?_set_self (by rw [tl11_13]; decide)]
theorem fc_11_55 : FG RX11 55 11 7 (clT 11 7) true := ⟨RX11, TX11, cf_11, by decide, tb_i 590 (by decide +kernel) (by decide +kernel), rfl, rfl, rfl⟩
def t11_15 (n : Nat) : List LE := t11_14 n ++ [(0, 0, List.replicate (clN 0) none)]
theorem tl11_15 (n : Nat) : (t11_15 n).length = 130 := by unfold t11_15; simp only [List.length_append, List.length_set, tl11_14]; rfl
theorem ta11_15 (n : Nat) : (t11_15 n)[129]? = some (0, 0, List.replicate (clN 0) none) := by unfold t11_15; rw [List.getElem?_append_right (by rw [tl11_14]; exact Nat.le_refl _), tl11_14]; rfl
theorem tb11_15 (n : Nat) : (t11_15 n)[76]? = some (9, 3, [none, none, none]) := by unfold t11_15; rw [List.getElem?_append_left (by simp only [List.length_set, tl11_14]; decide), tb11_14]
theorem ci_X11_init_61 : CKI xX11_init 61 xX0_init 0 := ⟨tb_i 151 (by decide +kernel) (by decide +kernel), tb_i 568 (by decide +kernel) (by decide +kernel), ⟨by decide +kernel, by decide +kernel, by decide +kernel⟩, by decide, by decide, rfl, tb_i 567 (by decide +kernel) (by decide +kernel), rfl, Or.inr ⟨"PaperDonkey", tn_i 566 (by decide +kernel) rfl⟩⟩
def t11_16 (n : Nat) : List LE := (t11_15 n).set 129 (eX0_init (n + 129) (n + 130)) ++ sX0_init (n + 129) (n + 130)
theorem tl11_16 (n : Nat) : (t11_16 n).length = 130 := by unfold t11_16; simp only [List.length_append, List.length_set, tl11_15]; rfl
theorem tb11_16 (n : Nat) : (t11_16 n)[76]? = some (9, 3, [none, none, none]) := by unfold t11_16; rw [List.getElem?_append_left (by simp only [List.length_set, tl11_15]; decide), List.getElem?_set_ne (by decide), tb11_15]
theorem tc11_16 (n : Nat) : (t11_16 n)[129]? = some (eX0_init (n + 129) (n + 130)) := by unfold t11_16; rw [List.getElem?_append_left (by simp only [List.length_set, tl11_15]; decide), List.getElem?_set_self (by rw [tl11_15]; decide)]
theorem fc_11_62 : FG RX11 62 11 8 (clT 11 8) true := ⟨RX11, TX11, cf_11, by decide, tb_i 591 (by decide +kernel) (by decide +kernel), rfl, rfl, rfl⟩
def t11_17 (n : Nat) : List LE := t11_16 n ++ [(0, 9, List.replicate (clN 9) none)]
theorem tl11_17 (n : Nat) : (t11_17 n).length = 131 := by unfold t11_17; simp only [List.length_append, List.length_set, tl11_16]; rfl
theorem ta11_17 (n : Nat) : (t11_17 n)[130]? = some (0, 9, List.replicate (clN 9) none) := by unfold t11_17; rw [List.getElem?_append_right (by rw [tl11_16]; exact Nat.le_refl _), tl11_16]; rfl
theorem tb11_17 (n : Nat) : (t11_17 n)[76]? = some (9, 3, [none, none, none]) := by unfold t11_17; rw [List.getElem?_append_left (by simp only [List.length_set, tl11_16]; decide), tb11_16]
def t11_18 (n : Nat) : List LE := (t11_17 n).set 130 (eX9_init (n + 130) (n + 131)) ++ sX9_init (n + 130) (n + 131)
theorem tl11_18 (n : Nat) : (t11_18 n).length = 206 := by unfold t11_18; simp only [List.length_append, List.length_set, tl11_17]; rfl
theorem tb11_18 (n : Nat) : (t11_18 n)[76]? = some (9, 3, [none, none, none]) := by unfold t11_18; rw [List.getElem?_append_left (by simp only [List.length_set, tl11_17]; decide), List.getElem?_set_ne (by decide), tb11_17]
theorem tc11_18 (n : Nat) : (t11_18 n)[130]? = some (eX9_init (n + 130) (n + 131)) := by unfold t11_18; rw [List.getElem?_append_left (by simp only [List.length_set, tl11_17]; decide), List.getElem?_set_self (by rw [tl11_17]; decide)]
def t11_19 (n : Nat) : List LE := (t11_18 n).set 76 (9, 3, [some (n + 130), none, none])
theorem tl11_19 (n : Nat) : (t11_19 n).length = 206 := by unfold t11_19; rw [List.length_set, tl11_18]
theorem tb11_19 (n : Nat) : (t11_19 n)[76]? = some (9, 3, [some (n + 130), none, none]) := by unfold t11_19; rw [List.getElem?_set_self (by rw [tl11_18]; decide)]
def t11_20 (n : Nat) : List LE := t11_19 n ++ [(0, 9, List.replicate (clN 9) none)]
theorem tl11_20 (n : Nat) : (t11_20 n).length = 207 := by unfold t11_20; simp only [List.length_append, List.length_set, tl11_19]; rfl
theorem ta11_20 (n : Nat) : (t11_20 n)[206]? = some (0, 9, List.replicate (clN 9) none) := by unfold t11_20; rw [List.getElem?_append_right (by rw [tl11_19]; exact Nat.le_refl _), tl11_19]; rfl
theorem tb11_20 (n : Nat) : (t11_20 n)[76]? = some (9, 3, [some (n + 130), none, none]) := by unfold t11_20; rw [List.getElem?_append_left (by simp only [List.length_set, tl11_19]; decide), tb11_19]
def t11_21 (n : Nat) : List LE := (t11_20 n).set 206 (eX9_init (n + 206) (n + 207)) ++ sX9_init (n + 206) (n + 207)
theorem tl11_21 (n : Nat) : (t11_21 n).length = 282 := by unfold t11_21; simp only [List.length_append, List.length_set, tl11_20]; rfl
theorem tb11_21 (n : Nat) : (t11_21 n)[76]? = some (9, 3, [some (n + 130), none, none]) := by unfold t11_21; rw [List.getElem?_append_left (by simp only [List.length_set, tl11_20]; decide), List.getElem?_set_ne (by decide), tb11_20]
theorem tc11_21 (n : Nat) : (t11_21 n)[206]? = some (eX9_init (n + 206) (n + 207)) := by unfold t11_21; rw [List.getElem?_append_left (by simp only [List.length_set, tl11_20]; decide), List.getElem?_set_self (by rw [tl11_20]; decide)]
def t11_22 (n : Nat) : List LE := (t11_21 n).set 76 (9, 3, [some (n + 130), some (n + 206), none])
theorem tl11_22 (n : Nat) : (t11_22 n).length = 282 := by unfold t11_22; rw [List.length_set, tl11_21]
theorem tb11_22 (n : Nat) : (t11_22 n)[76]? = some (9, 3, [some (n + 130), some (n + 206), none]) := by unfold t11_22; rw [List.getElem?_set_self (by rw [tl11_21]; decide)]
def t11_23 (n : Nat) : List LE := t11_22 n ++ [(0, 9, List.replicate (clN 9) none)]
theorem tl11_23 (n : Nat) : (t11_23 n).length = 283 := by unfold t11_23; simp only [List.length_append, List.length_set, tl11_22]; rfl
theorem ta11_23 (n : Nat) : (t11_23 n)[282]? = some (0, 9, List.replicate (clN 9) none) := by unfold t11_23; rw [List.getElem?_append_right (by rw [tl11_22]; exact Nat.le_refl _), tl11_22]; rfl
theorem tb11_23 (n : Nat) : (t11_23 n)[76]? = some (9, 3, [some (n + 130), some (n + 206), none]) := by unfold t11_23; rw [List.getElem?_append_left (by simp only [List.length_set, tl11_22]; decide), tb11_22]
def t11_24 (n : Nat) : List LE := (t11_23 n).set 282 (eX9_init (n + 282) (n + 283)) ++ sX9_init (n + 282) (n + 283)
theorem tl11_24 (n : Nat) : (t11_24 n).length = 358 := by unfold t11_24; simp only [List.length_append, List.length_set, tl11_23]; rfl
theorem tb11_24 (n : Nat) : (t11_24 n)[76]? = some (9, 3, [some (n + 130), some (n + 206), none]) := by unfold t11_24; rw [List.getElem?_append_left (by simp only [List.length_set, tl11_23]; decide), List.getElem?_set_ne (by decide), tb11_23]
theorem tc11_24 (n : Nat) : (t11_24 n)[282]? = some (eX9_init (n + 282) (n + 283)) := by unfold t11_24; rw [List.getElem?_append_left (by simp only [List.length_set, tl11_23]; decide), List.getElem?_set_self (by rw [tl11_23]; decide)]
def t11_25 (n : Nat) : List LE := (t11_24 n).set 76 (9, 3, [some (n + 130), some (n + 206), some (n + 282)])
theorem tl11_25 (n : Nat) : (t11_25 n).length = 358 := by unfold t11_25; rw [List.length_set, tl11_24]
theorem tb11_25 (n : Nat) : (t11_25 n)[76]? = some (9, 3, [some (n + 130), some (n + 206), some (n + 282)]) := by unfold t11_25; rw [List.getElem?_set_self (by rw [tl11_24]; decide)]
def eX11_init (a n : Nat) : LE := (0, 11, [some (n + 0), some (n + 76), some (n + 77), some (n + 78), some (n + 114), some (n + 118), some (n + 120), some (n + 126), some (n + 129)])
def sX11_init (a n : Nat) : List LE := t11_25 n
def mX11_init (M : MM) (a n : Nat) : MM := (mX9_init (mX9_init (mX9_init (mX0_init (mX10_init (mX4_init (mX2_init (mX6_init (mX7_init (mX9_init M (n + 0) (n + 1)) (n + 78) (n + 79)) (n + 114) (n + 115)) (n + 118) (n + 119)) (n + 120) (n + 121)) (n + 126) (n + 127)) (n + 129) (n + 130)) (n + 130) (n + 131)) (n + 206) (n + 207)) (n + 282) (n + 283))
theorem oX11_init {L : List LE} {M : MM} {a n : Nat} (hn : L.length = n) (ha : L[a]? = some (0, 11, List.replicate (clN 11) none)) (hg : gd L M) : gd (LX L a (eX11_init a n) (sX11_init a n)) (mX11_init M a n) := by
  have han : a < L.length := (List.getElem?_eq_some_iff.mp ha).1
  have han2 : a < n := by omega
  have q0 : gd (LX L a (0, 11, List.replicate (clN 11) none) []) M := by rw [LX_start ha]; exact hg
  have q1 : gd (LX L a (0, 11, [none, none, none, none, none, none, none, none, none]) (t11_0 n)) M := q0
  have q2 := gd_push (q := 0) (n := 9) (m := clN 9) q1
  rw [LX_push] at q2
  have q3 : gd (LX L a (0, 11, [none, none, none, none, none, none, none, none, none]) (t11_1 n)) M := q2
  have q4 := oX9_init (a := n + 0) (n := n + 1) (by rw [LX_len, hn, tl11_1]) (LX_at hn (ta11_1 n)) q3
  rw [LX_LX hn] at q4
  have q5 : gd (LX L a (0, 11, [none, none, none, none, none, none, none, none, none]) (t11_2 n)) (mX9_init M (n + 0) (n + 1)) := q4
  have q6 := gd_ref (a := a) (k := 0) (b := (n + 0)) q5 (LX_this han) (Nat.le_of_ble_eq_true rfl) (by rw [LX_len, hn, tl11_2]; show _ < n + 76; omega)
  rw [LX_put han] at q6
  have q7 : gd (LX L a (0, 11, [some (n + 0), none, none, none, none, none, none, none, none]) (t11_2 n)) (mX9_init M (n + 0) (n + 1)) := q6
  have q8 := gd_push (q := 9) (n := 3) (m := 3) q7
  rw [LX_push] at q8
  have q9 : gd (LX L a (0, 11, [some (n + 0), none, none, none, none, none, none, none, none]) (t11_3 n)) (mX9_init M (n + 0) (n + 1)) := q8
  have q10 := gd_ref (a := a) (k := 1) (b := (n + 76)) q9 (LX_this han) (Nat.le_of_ble_eq_true rfl) (by rw [LX_len, hn, tl11_3]; show _ < n + 77; omega)
  rw [LX_put han] at q10
  have q11 : gd (LX L a (0, 11, [some (n + 0), some (n + 76), none, none, none, none, none, none, none]) (t11_3 n)) (mX9_init M (n + 0) (n + 1)) := q10
  have q12 := gd_nil (q := 4) (n := 3) q11
  rw [LX_push] at q12
  have q13 : gd (LX L a (0, 11, [some (n + 0), some (n + 76), none, none, none, none, none, none, none]) (t11_4 n)) (mX9_init M (n + 0) (n + 1)) := q12
  have q14 := gd_ref (a := a) (k := 2) (b := (n + 77)) q13 (LX_this han) (Nat.le_of_ble_eq_true rfl) (by rw [LX_len, hn, tl11_4]; show _ < n + 78; omega)
  rw [LX_put han] at q14
  have q15 : gd (LX L a (0, 11, [some (n + 0), some (n + 76), some (n + 77), none, none, none, none, none, none]) (t11_4 n)) (mX9_init M (n + 0) (n + 1)) := q14
  have q16 := gd_push (q := 0) (n := 7) (m := clN 7) q15
  rw [LX_push] at q16
  have q17 : gd (LX L a (0, 11, [some (n + 0), some (n + 76), some (n + 77), none, none, none, none, none, none]) (t11_5 n)) (mX9_init M (n + 0) (n + 1)) := q16
  have q18 := oX7_init (a := n + 78) (n := n + 79) (by rw [LX_len, hn, tl11_5]) (LX_at hn (ta11_5 n)) q17
  rw [LX_LX hn] at q18
  have q19 : gd (LX L a (0, 11, [some (n + 0), some (n + 76), some (n + 77), none, none, none, none, none, none]) (t11_6 n)) (mX7_init (mX9_init M (n + 0) (n + 1)) (n + 78) (n + 79)) := q18
  have q20 := gd_ref (a := a) (k := 3) (b := (n + 78)) q19 (LX_this han) (Nat.le_of_ble_eq_true rfl) (by rw [LX_len, hn, tl11_6]; show _ < n + 114; omega)
  rw [LX_put han] at q20
  have q21 : gd (LX L a (0, 11, [some (n + 0), some (n + 76), some (n + 77), some (n + 78), none, none, none, none, none]) (t11_6 n)) (mX7_init (mX9_init M (n + 0) (n + 1)) (n + 78) (n + 79)) := q20
  have q22 := gd_push (q := 0) (n := 6) (m := clN 6) q21
  rw [LX_push] at q22
  have q23 : gd (LX L a (0, 11, [some (n + 0), some (n + 76), some (n + 77), some (n + 78), none, none, none, none, none]) (t11_7 n)) (mX7_init (mX9_init M (n + 0) (n + 1)) (n + 78) (n + 79)) := q22
  have q24 := oX6_init (a := n + 114) (n := n + 115) (by rw [LX_len, hn, tl11_7]) (LX_at hn (ta11_7 n)) q23
  rw [LX_LX hn] at q24
  have q25 : gd (LX L a (0, 11, [some (n + 0), some (n + 76), some (n + 77), some (n + 78), none, none, none, none, none]) (t11_8 n)) (mX6_init (mX7_init (mX9_init M (n + 0) (n + 1)) (n + 78) (n + 79)) (n + 114) (n + 115)) := q24
  have q26 := gd_ref (a := a) (k := 4) (b := (n + 114)) q25 (LX_this han) (Nat.le_of_ble_eq_true rfl) (by rw [LX_len, hn, tl11_8]; show _ < n + 118; omega)
  rw [LX_put han] at q26
  have q27 : gd (LX L a (0, 11, [some (n + 0), some (n + 76), some (n + 77), some (n + 78), some (n + 114), none, none, none, none]) (t11_8 n)) (mX6_init (mX7_init (mX9_init M (n + 0) (n + 1)) (n + 78) (n + 79)) (n + 114) (n + 115)) := q26
  have q28 := gd_push (q := 0) (n := 2) (m := clN 2) q27
  rw [LX_push] at q28
  have q29 : gd (LX L a (0, 11, [some (n + 0), some (n + 76), some (n + 77), some (n + 78), some (n + 114), none, none, none, none]) (t11_9 n)) (mX6_init (mX7_init (mX9_init M (n + 0) (n + 1)) (n + 78) (n + 79)) (n + 114) (n + 115)) := q28
  have q30 := oX2_init (a := n + 118) (n := n + 119) (by rw [LX_len, hn, tl11_9]) (LX_at hn (ta11_9 n)) q29
  rw [LX_LX hn] at q30
  have q31 : gd (LX L a (0, 11, [some (n + 0), some (n + 76), some (n + 77), some (n + 78), some (n + 114), none, none, none, none]) (t11_10 n)) (mX2_init (mX6_init (mX7_init (mX9_init M (n + 0) (n + 1)) (n + 78) (n + 79)) (n + 114) (n + 115)) (n + 118) (n + 119)) := q30
  have q32 := gd_ref (a := a) (k := 5) (b := (n + 118)) q31 (LX_this han) (Nat.le_of_ble_eq_true rfl) (by rw [LX_len, hn, tl11_10]; show _ < n + 120; omega)
  rw [LX_put han] at q32
  have q33 : gd (LX L a (0, 11, [some (n + 0), some (n + 76), some (n + 77), some (n + 78), some (n + 114), some (n + 118), none, none, none]) (t11_10 n)) (mX2_init (mX6_init (mX7_init (mX9_init M (n + 0) (n + 1)) (n + 78) (n + 79)) (n + 114) (n + 115)) (n + 118) (n + 119)) := q32
  have q34 := gd_push (q := 0) (n := 4) (m := clN 4) q33
  rw [LX_push] at q34
  have q35 : gd (LX L a (0, 11, [some (n + 0), some (n + 76), some (n + 77), some (n + 78), some (n + 114), some (n + 118), none, none, none]) (t11_11 n)) (mX2_init (mX6_init (mX7_init (mX9_init M (n + 0) (n + 1)) (n + 78) (n + 79)) (n + 114) (n + 115)) (n + 118) (n + 119)) := q34
  have q36 := oX4_init (a := n + 120) (n := n + 121) (by rw [LX_len, hn, tl11_11]) (LX_at hn (ta11_11 n)) q35
  rw [LX_LX hn] at q36
  have q37 : gd (LX L a (0, 11, [some (n + 0), some (n + 76), some (n + 77), some (n + 78), some (n + 114), some (n + 118), none, none, none]) (t11_12 n)) (mX4_init (mX2_init (mX6_init (mX7_init (mX9_init M (n + 0) (n + 1)) (n + 78) (n + 79)) (n + 114) (n + 115)) (n + 118) (n + 119)) (n + 120) (n + 121)) := q36
  have q38 := gd_ref (a := a) (k := 6) (b := (n + 120)) q37 (LX_this han) (Nat.le_of_ble_eq_true rfl) (by rw [LX_len, hn, tl11_12]; show _ < n + 126; omega)
  rw [LX_put han] at q38
  have q39 : gd (LX L a (0, 11, [some (n + 0), some (n + 76), some (n + 77), some (n + 78), some (n + 114), some (n + 118), some (n + 120), none, none]) (t11_12 n)) (mX4_init (mX2_init (mX6_init (mX7_init (mX9_init M (n + 0) (n + 1)) (n + 78) (n + 79)) (n + 114) (n + 115)) (n + 118) (n + 119)) (n + 120) (n + 121)) := q38
  have q40 := gd_push (q := 0) (n := 10) (m := clN 10) q39
  rw [LX_push] at q40
  have q41 : gd (LX L a (0, 11, [some (n + 0), some (n + 76), some (n + 77), some (n + 78), some (n + 114), some (n + 118), some (n + 120), none, none]) (t11_13 n)) (mX4_init (mX2_init (mX6_init (mX7_init (mX9_init M (n + 0) (n + 1)) (n + 78) (n + 79)) (n + 114) (n + 115)) (n + 118) (n + 119)) (n + 120) (n + 121)) := q40
  have q42 := oX10_init (a := n + 126) (n := n + 127) (by rw [LX_len, hn, tl11_13]) (LX_at hn (ta11_13 n)) q41
  rw [LX_LX hn] at q42
  have q43 : gd (LX L a (0, 11, [some (n + 0), some (n + 76), some (n + 77), some (n + 78), some (n + 114), some (n + 118), some (n + 120), none, none]) (t11_14 n)) (mX10_init (mX4_init (mX2_init (mX6_init (mX7_init (mX9_init M (n + 0) (n + 1)) (n + 78) (n + 79)) (n + 114) (n + 115)) (n + 118) (n + 119)) (n + 120) (n + 121)) (n + 126) (n + 127)) := q42
  have q44 := gd_ref (a := a) (k := 7) (b := (n + 126)) q43 (LX_this han) (Nat.le_of_ble_eq_true rfl) (by rw [LX_len, hn, tl11_14]; show _ < n + 129; omega)
  rw [LX_put han] at q44
  have q45 : gd (LX L a (0, 11, [some (n + 0), some (n + 76), some (n + 77), some (n + 78), some (n + 114), some (n + 118), some (n + 120), some (n + 126), none]) (t11_14 n)) (mX10_init (mX4_init (mX2_init (mX6_init (mX7_init (mX9_init M (n + 0) (n + 1)) (n + 78) (n + 79)) (n + 114) (n + 115)) (n + 118) (n + 119)) (n + 120) (n + 121)) (n + 126) (n + 127)) := q44
  have q46 := gd_push (q := 0) (n := 0) (m := clN 0) q45
  rw [LX_push] at q46
  have q47 : gd (LX L a (0, 11, [some (n + 0), some (n + 76), some (n + 77), some (n + 78), some (n + 114), some (n + 118), some (n + 120), some (n + 126), none]) (t11_15 n)) (mX10_init (mX4_init (mX2_init (mX6_init (mX7_init (mX9_init M (n + 0) (n + 1)) (n + 78) (n + 79)) (n + 114) (n + 115)) (n + 118) (n + 119)) (n + 120) (n + 121)) (n + 126) (n + 127)) := q46
  have q48 := oX0_init (a := n + 129) (n := n + 130) (by rw [LX_len, hn, tl11_15]) (LX_at hn (ta11_15 n)) q47
  rw [LX_LX hn] at q48
  have q49 : gd (LX L a (0, 11, [some (n + 0), some (n + 76), some (n + 77), some (n + 78), some (n + 114), some (n + 118), some (n + 120), some (n + 126), none]) (t11_16 n)) (mX0_init (mX10_init (mX4_init (mX2_init (mX6_init (mX7_init (mX9_init M (n + 0) (n + 1)) (n + 78) (n + 79)) (n + 114) (n + 115)) (n + 118) (n + 119)) (n + 120) (n + 121)) (n + 126) (n + 127)) (n + 129) (n + 130)) := q48
  have q50 := gd_ref (a := a) (k := 8) (b := (n + 129)) q49 (LX_this han) (Nat.le_of_ble_eq_true rfl) (by rw [LX_len, hn, tl11_16]; show _ < n + 130; omega)
  rw [LX_put han] at q50
  have q51 : gd (LX L a (0, 11, [some (n + 0), some (n + 76), some (n + 77), some (n + 78), some (n + 114), some (n + 118), some (n + 120), some (n + 126), some (n + 129)]) (t11_16 n)) (mX0_init (mX10_init (mX4_init (mX2_init (mX6_init (mX7_init (mX9_init M (n + 0) (n + 1)) (n + 78) (n + 79)) (n + 114) (n + 115)) (n + 118) (n + 119)) (n + 120) (n + 121)) (n + 126) (n + 127)) (n + 129) (n + 130)) := q50
  have q52 := gd_push (q := 0) (n := 9) (m := clN 9) q51
  rw [LX_push] at q52
  have q53 : gd (LX L a (0, 11, [some (n + 0), some (n + 76), some (n + 77), some (n + 78), some (n + 114), some (n + 118), some (n + 120), some (n + 126), some (n + 129)]) (t11_17 n)) (mX0_init (mX10_init (mX4_init (mX2_init (mX6_init (mX7_init (mX9_init M (n + 0) (n + 1)) (n + 78) (n + 79)) (n + 114) (n + 115)) (n + 118) (n + 119)) (n + 120) (n + 121)) (n + 126) (n + 127)) (n + 129) (n + 130)) := q52
  have q54 := oX9_init (a := n + 130) (n := n + 131) (by rw [LX_len, hn, tl11_17]) (LX_at hn (ta11_17 n)) q53
  rw [LX_LX hn] at q54
  have q55 : gd (LX L a (0, 11, [some (n + 0), some (n + 76), some (n + 77), some (n + 78), some (n + 114), some (n + 118), some (n + 120), some (n + 126), some (n + 129)]) (t11_18 n)) (mX9_init (mX0_init (mX10_init (mX4_init (mX2_init (mX6_init (mX7_init (mX9_init M (n + 0) (n + 1)) (n + 78) (n + 79)) (n + 114) (n + 115)) (n + 118) (n + 119)) (n + 120) (n + 121)) (n + 126) (n + 127)) (n + 129) (n + 130)) (n + 130) (n + 131)) := q54
  have q56 := gd_ref (a := n + 76) (k := 0) (b := n + 130) q55 (LX_at hn (tb11_18 n)) (Nat.le_of_ble_eq_true rfl) (by rw [LX_len, hn, tl11_18]; show _ < n + 206; omega)
  rw [LX_set hn] at q56
  have q57 : gd (LX L a (0, 11, [some (n + 0), some (n + 76), some (n + 77), some (n + 78), some (n + 114), some (n + 118), some (n + 120), some (n + 126), some (n + 129)]) (t11_19 n)) (mX9_init (mX0_init (mX10_init (mX4_init (mX2_init (mX6_init (mX7_init (mX9_init M (n + 0) (n + 1)) (n + 78) (n + 79)) (n + 114) (n + 115)) (n + 118) (n + 119)) (n + 120) (n + 121)) (n + 126) (n + 127)) (n + 129) (n + 130)) (n + 130) (n + 131)) := q56
  have q58 := gd_push (q := 0) (n := 9) (m := clN 9) q57
  rw [LX_push] at q58
  have q59 : gd (LX L a (0, 11, [some (n + 0), some (n + 76), some (n + 77), some (n + 78), some (n + 114), some (n + 118), some (n + 120), some (n + 126), some (n + 129)]) (t11_20 n)) (mX9_init (mX0_init (mX10_init (mX4_init (mX2_init (mX6_init (mX7_init (mX9_init M (n + 0) (n + 1)) (n + 78) (n + 79)) (n + 114) (n + 115)) (n + 118) (n + 119)) (n + 120) (n + 121)) (n + 126) (n + 127)) (n + 129) (n + 130)) (n + 130) (n + 131)) := q58
  have q60 := oX9_init (a := n + 206) (n := n + 207) (by rw [LX_len, hn, tl11_20]) (LX_at hn (ta11_20 n)) q59
  rw [LX_LX hn] at q60
  have q61 : gd (LX L a (0, 11, [some (n + 0), some (n + 76), some (n + 77), some (n + 78), some (n + 114), some (n + 118), some (n + 120), some (n + 126), some (n + 129)]) (t11_21 n)) (mX9_init (mX9_init (mX0_init (mX10_init (mX4_init (mX2_init (mX6_init (mX7_init (mX9_init M (n + 0) (n + 1)) (n + 78) (n + 79)) (n + 114) (n + 115)) (n + 118) (n + 119)) (n + 120) (n + 121)) (n + 126) (n + 127)) (n + 129) (n + 130)) (n + 130) (n + 131)) (n + 206) (n + 207)) := q60
  have q62 := gd_ref (a := n + 76) (k := 1) (b := n + 206) q61 (LX_at hn (tb11_21 n)) (Nat.le_of_ble_eq_true rfl) (by rw [LX_len, hn, tl11_21]; show _ < n + 282; omega)
  rw [LX_set hn] at q62
  have q63 : gd (LX L a (0, 11, [some (n + 0), some (n + 76), some (n + 77), some (n + 78), some (n + 114), some (n + 118), some (n + 120), some (n + 126), some (n + 129)]) (t11_22 n)) (mX9_init (mX9_init (mX0_init (mX10_init (mX4_init (mX2_init (mX6_init (mX7_init (mX9_init M (n + 0) (n + 1)) (n + 78) (n + 79)) (n + 114) (n + 115)) (n + 118) (n + 119)) (n + 120) (n + 121)) (n + 126) (n + 127)) (n + 129) (n + 130)) (n + 130) (n + 131)) (n + 206) (n + 207)) := q62
  have q64 := gd_push (q := 0) (n := 9) (m := clN 9) q63
  rw [LX_push] at q64
  have q65 : gd (LX L a (0, 11, [some (n + 0), some (n + 76), some (n + 77), some (n + 78), some (n + 114), some (n + 118), some (n + 120), some (n + 126), some (n + 129)]) (t11_23 n)) (mX9_init (mX9_init (mX0_init (mX10_init (mX4_init (mX2_init (mX6_init (mX7_init (mX9_init M (n + 0) (n + 1)) (n + 78) (n + 79)) (n + 114) (n + 115)) (n + 118) (n + 119)) (n + 120) (n + 121)) (n + 126) (n + 127)) (n + 129) (n + 130)) (n + 130) (n + 131)) (n + 206) (n + 207)) := q64
  have q66 := oX9_init (a := n + 282) (n := n + 283) (by rw [LX_len, hn, tl11_23]) (LX_at hn (ta11_23 n)) q65
  rw [LX_LX hn] at q66
  have q67 : gd (LX L a (0, 11, [some (n + 0), some (n + 76), some (n + 77), some (n + 78), some (n + 114), some (n + 118), some (n + 120), some (n + 126), some (n + 129)]) (t11_24 n)) (mX9_init (mX9_init (mX9_init (mX0_init (mX10_init (mX4_init (mX2_init (mX6_init (mX7_init (mX9_init M (n + 0) (n + 1)) (n + 78) (n + 79)) (n + 114) (n + 115)) (n + 118) (n + 119)) (n + 120) (n + 121)) (n + 126) (n + 127)) (n + 129) (n + 130)) (n + 130) (n + 131)) (n + 206) (n + 207)) (n + 282) (n + 283)) := q66
  have q68 := gd_ref (a := n + 76) (k := 2) (b := n + 282) q67 (LX_at hn (tb11_24 n)) (Nat.le_of_ble_eq_true rfl) (by rw [LX_len, hn, tl11_24]; show _ < n + 358; omega)
  rw [LX_set hn] at q68
  have q69 : gd (LX L a (0, 11, [some (n + 0), some (n + 76), some (n + 77), some (n + 78), some (n + 114), some (n + 118), some (n + 120), some (n + 126), some (n + 129)]) (t11_25 n)) (mX9_init (mX9_init (mX9_init (mX0_init (mX10_init (mX4_init (mX2_init (mX6_init (mX7_init (mX9_init M (n + 0) (n + 1)) (n + 78) (n + 79)) (n + 114) (n + 115)) (n + 118) (n + 119)) (n + 120) (n + 121)) (n + 126) (n + 127)) (n + 129) (n + 130)) (n + 130) (n + 131)) (n + 206) (n + 207)) (n + 282) (n + 283)) := q68
  exact q69
set_option maxHeartbeats 8000000 in
set_option maxRecDepth 100000 in
theorem kX11_init {G : GG} {L : List LE} {M : MM} {a n : Nat} (hn : L.length = n) (ha : L[a]? = some (0, 11, List.replicate (clN 11) none)) (hg : gd L M) : CI G xX11_init [.ref (gA G a)] L M (LX L a (eX11_init a n) (sX11_init a n)) (mX11_init M a n) := by
  have han : a < L.length := (List.getElem?_eq_some_iff.mp ha).1
  have han2 : a < n := by omega
  have q0 : gd (LX L a (0, 11, List.replicate (clN 11) none) []) M := by rw [LX_start ha]; exact hg
  refine CI_of (by decide +kernel) (Nat.le_of_ble_eq_true rfl) ?_
  rw [hn]
  obtain ⟨γ, hγ⟩ : ∃ γ, γ = gA G := ⟨_, rfl⟩
  have K : VV (gS G γ) xX11_init (ZI G xX11_init n (LX L a (eX11_init a n) (sX11_init a n)) (mX11_init M a n)) (LX L a (0, 11, List.replicate (clN 11) none) []) M 0 0 0 [(0, .ref (γ a))] [] := ?_
  · rw [LX_start ha, hγ] at K; exact K
  change VV (gS G _) _ _ (LX L a (0, 11, [none, none, none, none, none, none, none, none, none]) (t11_0 n)) _ _ _ _ _ _
  have q1 : gd (LX L a (0, 11, [none, none, none, none, none, none, none, none, none]) (t11_0 n)) M := q0
  refine r_aload_n (pc := 0) (i := 0) dX11_init_0 rfl 0 rfl ?_
  refine r_objI (pc := 1) (γ := γ) (tb_i 163 (by decide +kernel) (by decide +kernel)) (tb_i 164 (by decide +kernel) (by decide +kernel)) (tb_i 165 (by decide +kernel) (by decide +kernel)) ⟨Nat.le_of_ble_eq_true rfl, Nat.le_of_ble_eq_true rfl⟩ dX11_init_1 ?_
  refine r_aload_n (pc := 4) (i := 0) dX11_init_4 rfl 0 rfl ?_
  refine r_newO (pc := 5) (γ := γ) (lvf := fun g => [(0, .ref (g a))]) (stf := fun g => [.ref (g a)]) (n := n + 0) cf_9 (tb_i 166 (by decide +kernel) (by decide +kernel)) (tb_i 167 (by decide +kernel) (by decide +kernel)) (tb_i 140 (by decide +kernel) (by decide +kernel)) (by rw [LX_len, hn, tl11_0]) q1.1 (fun z => q1.2 _ (by rw [LX_len, hn, tl11_0]; exact Nat.le_refl _) z) (nf_all 9 (by decide)) (fun g h => ⟨by rw [h a (by omega)], by rw [h a (by omega)]⟩) ⟨by decide, by decide⟩ dX11_init_5 (fun g1 h1 => ?_)
  rw [LX_push]
  have q2 := gd_push (q := 0) (n := 9) (m := clN 9) q1
  rw [LX_push] at q2
  have k1 : ∀ z, z < n → g1 z = gA G z := fun z hz => (h1 z (by omega)).trans (by rw [hγ])
  have q3 : gd (LX L a (0, 11, [none, none, none, none, none, none, none, none, none]) (t11_1 n)) M := q2
  change VV (gS G _) _ _ (LX L a (0, 11, [none, none, none, none, none, none, none, none, none]) (t11_1 n)) _ _ _ _ _ _
  refine r_dup (pc := 8) dX11_init_8 rfl ?_
  refine r_callI (pc := 9) (γ := g1) (lvf := fun g => [(0, .ref (g a))]) (stf := fun g => [.ref (g (n + 0)), .ref (g a)]) (b := n + 0) (As := []) (fun _ _ _ _ _ _ _ _ _ h => h) ci_X11_init_9 (kX9_init (G := gS G g1) (a := n + 0) (n := n + 1) (by rw [LX_len, hn, tl11_1]) (LX_at hn (ta11_1 n)) q3) (fun g h => ⟨by rw [h a (by rw [LX_len, hn, tl11_1]; show _ < n + 1; omega)], by rw [h a (by rw [LX_len, hn, tl11_1]; show _ < n + 1; omega), h (n + 0) (by rw [LX_len, hn, tl11_1]; show _ < n + 1; omega)]⟩) rfl (Nat.le_of_ble_eq_true rfl) ⟨by decide, by decide⟩ dX11_init_9 (fun g2 h2 => ?_)
  rw [LX_LX hn]
  have q4 := oX9_init (a := n + 0) (n := n + 1) (by rw [LX_len, hn, tl11_1]) (LX_at hn (ta11_1 n)) q3
  rw [LX_LX hn] at q4
  have k2 : ∀ z, z < n → g2 z = gA G z := fun z hz => (h2 z (by rw [LX_len, hn, tl11_1]; show z < n + 1; omega)).trans (k1 z hz)
  have q5 : gd (LX L a (0, 11, [none, none, none, none, none, none, none, none, none]) (t11_2 n)) (mX9_init M (n + 0) (n + 1)) := q4
  change VV (gS G _) _ _ (LX L a (0, 11, [none, none, none, none, none, none, none, none, none]) (t11_2 n)) _ _ _ _ _ _
  refine r_putRF (pc := 12) (γ := g2) (a := a) (b := (n + 0)) fc_11_10 rfl rfl (LX_this han) (Nat.le_of_ble_eq_true rfl) (fun C T h => by rw [cf_own cf_11 h]; rfl) dX11_init_12 ?_
  rw [LX_put han]
  have q6 := gd_ref (a := a) (k := 0) (b := (n + 0)) q5 (LX_this han) (Nat.le_of_ble_eq_true rfl) (by rw [LX_len, hn, tl11_2]; show _ < n + 76; omega)
  rw [LX_put han] at q6
  have q7 : gd (LX L a (0, 11, [some (n + 0), none, none, none, none, none, none, none, none]) (t11_2 n)) (mX9_init M (n + 0) (n + 1)) := q6
  change VV (gS G _) _ _ (LX L a (0, 11, [some (n + 0), none, none, none, none, none, none, none, none]) (t11_2 n)) _ _ _ _ _ _
  refine r_aload_n (pc := 15) (i := 0) dX11_init_15 rfl 0 rfl ?_
  refine r_iconst (pc := 16) (v := 3) dX11_init_16 (by decide +kernel) ?_
  refine r_newQ9 (pc := 17) (γ := g2) (lvf := fun g => [(0, .ref (g a))]) (stf := fun g => [.ref (g a)]) (n := n + 76) (N := 3) (tb_i 166 (by decide +kernel) (by decide +kernel)) rfl wc_3 rfl (by decide) (by rw [LX_len, hn, tl11_2]) q7.1 (fun g h => ⟨by rw [h a (by omega)], by rw [h a (by omega)]⟩) ⟨by decide, by decide⟩ dX11_init_17 (fun g3 h3 => ?_)
  rw [LX_push]
  have q8 := gd_push (q := 9) (n := 3) (m := 3) q7
  rw [LX_push] at q8
  have k3 : ∀ z, z < n → g3 z = gA G z := fun z hz => (h3 z (by omega)).trans (k2 z hz)
  have q9 : gd (LX L a (0, 11, [some (n + 0), none, none, none, none, none, none, none, none]) (t11_3 n)) (mX9_init M (n + 0) (n + 1)) := q8
  change VV (gS G _) _ _ (LX L a (0, 11, [some (n + 0), none, none, none, none, none, none, none, none]) (t11_3 n)) _ _ _ _ _ _
  refine r_putRF (pc := 20) (γ := g3) (a := a) (b := (n + 76)) fc_11_16 rfl rfl (LX_this han) (Nat.le_of_ble_eq_true rfl) (fun C T h => by rw [cf_own cf_11 h]; rfl) dX11_init_20 ?_
  rw [LX_put han]
  have q10 := gd_ref (a := a) (k := 1) (b := (n + 76)) q9 (LX_this han) (Nat.le_of_ble_eq_true rfl) (by rw [LX_len, hn, tl11_3]; show _ < n + 77; omega)
  rw [LX_put han] at q10
  have q11 : gd (LX L a (0, 11, [some (n + 0), some (n + 76), none, none, none, none, none, none, none]) (t11_3 n)) (mX9_init M (n + 0) (n + 1)) := q10
  change VV (gS G _) _ _ (LX L a (0, 11, [some (n + 0), some (n + 76), none, none, none, none, none, none, none]) (t11_3 n)) _ _ _ _ _ _
  refine r_aload_n (pc := 23) (i := 0) dX11_init_23 rfl 0 rfl ?_
  refine r_iconst (pc := 24) (v := 3) dX11_init_24 (by decide +kernel) ?_
  refine r_newA4 (pc := 25) (γ := g3) (lvf := fun g => [(0, .ref (g a))]) (stf := fun g => [.ref (g a)]) (n := n + 77) (N := 3) (tb_i 462 (by decide +kernel) (by decide +kernel)) wc_3 rfl (by decide) (by rw [LX_len, hn, tl11_3]) q11.1 (fun z => q11.2 _ (by rw [LX_len, hn, tl11_3]; exact Nat.le_refl _) z) (fun g h => ⟨by rw [h a (by omega)], by rw [h a (by omega)]⟩) ⟨by decide, by decide⟩ dX11_init_25 (fun g4 h4 => ?_)
  rw [LX_push]
  have q12 := gd_nil (q := 4) (n := 3) q11
  rw [LX_push] at q12
  have k4 : ∀ z, z < n → g4 z = gA G z := fun z hz => (h4 z (by omega)).trans (k3 z hz)
  have q13 : gd (LX L a (0, 11, [some (n + 0), some (n + 76), none, none, none, none, none, none, none]) (t11_4 n)) (mX9_init M (n + 0) (n + 1)) := q12
  change VV (gS G _) _ _ (LX L a (0, 11, [some (n + 0), some (n + 76), none, none, none, none, none, none, none]) (t11_4 n)) _ _ _ _ _ _
  refine r_putRF (pc := 27) (γ := g4) (a := a) (b := (n + 77)) fc_11_20 rfl rfl (LX_this han) (Nat.le_of_ble_eq_true rfl) (fun C T h => by rw [cf_own cf_11 h]; rfl) dX11_init_27 ?_
  rw [LX_put han]
  have q14 := gd_ref (a := a) (k := 2) (b := (n + 77)) q13 (LX_this han) (Nat.le_of_ble_eq_true rfl) (by rw [LX_len, hn, tl11_4]; show _ < n + 78; omega)
  rw [LX_put han] at q14
  have q15 : gd (LX L a (0, 11, [some (n + 0), some (n + 76), some (n + 77), none, none, none, none, none, none]) (t11_4 n)) (mX9_init M (n + 0) (n + 1)) := q14
  change VV (gS G _) _ _ (LX L a (0, 11, [some (n + 0), some (n + 76), some (n + 77), none, none, none, none, none, none]) (t11_4 n)) _ _ _ _ _ _
  refine r_aload_n (pc := 30) (i := 0) dX11_init_30 rfl 0 rfl ?_
  refine r_newO (pc := 31) (γ := g4) (lvf := fun g => [(0, .ref (g a))]) (stf := fun g => [.ref (g a)]) (n := n + 78) cf_7 (tb_i 401 (by decide +kernel) (by decide +kernel)) (tb_i 402 (by decide +kernel) (by decide +kernel)) (tb_i 146 (by decide +kernel) (by decide +kernel)) (by rw [LX_len, hn, tl11_4]) q15.1 (fun z => q15.2 _ (by rw [LX_len, hn, tl11_4]; exact Nat.le_refl _) z) (nf_all 7 (by decide)) (fun g h => ⟨by rw [h a (by omega)], by rw [h a (by omega)]⟩) ⟨by decide, by decide⟩ dX11_init_31 (fun g5 h5 => ?_)
  rw [LX_push]
  have q16 := gd_push (q := 0) (n := 7) (m := clN 7) q15
  rw [LX_push] at q16
  have k5 : ∀ z, z < n → g5 z = gA G z := fun z hz => (h5 z (by omega)).trans (k4 z hz)
  have q17 : gd (LX L a (0, 11, [some (n + 0), some (n + 76), some (n + 77), none, none, none, none, none, none]) (t11_5 n)) (mX9_init M (n + 0) (n + 1)) := q16
  change VV (gS G _) _ _ (LX L a (0, 11, [some (n + 0), some (n + 76), some (n + 77), none, none, none, none, none, none]) (t11_5 n)) _ _ _ _ _ _
  refine r_dup (pc := 34) dX11_init_34 rfl ?_
  refine r_callI (pc := 35) (γ := g5) (lvf := fun g => [(0, .ref (g a))]) (stf := fun g => [.ref (g (n + 78)), .ref (g a)]) (b := n + 78) (As := []) (fun _ _ _ _ _ _ _ _ _ h => h) ci_X11_init_26 (kX7_init (G := gS G g5) (a := n + 78) (n := n + 79) (by rw [LX_len, hn, tl11_5]) (LX_at hn (ta11_5 n)) q17) (fun g h => ⟨by rw [h a (by rw [LX_len, hn, tl11_5]; show _ < n + 79; omega)], by rw [h a (by rw [LX_len, hn, tl11_5]; show _ < n + 79; omega), h (n + 78) (by rw [LX_len, hn, tl11_5]; show _ < n + 79; omega)]⟩) rfl (Nat.le_of_ble_eq_true rfl) ⟨by decide, by decide⟩ dX11_init_35 (fun g6 h6 => ?_)
  rw [LX_LX hn]
  have q18 := oX7_init (a := n + 78) (n := n + 79) (by rw [LX_len, hn, tl11_5]) (LX_at hn (ta11_5 n)) q17
  rw [LX_LX hn] at q18
  have k6 : ∀ z, z < n → g6 z = gA G z := fun z hz => (h6 z (by rw [LX_len, hn, tl11_5]; show z < n + 79; omega)).trans (k5 z hz)
  have q19 : gd (LX L a (0, 11, [some (n + 0), some (n + 76), some (n + 77), none, none, none, none, none, none]) (t11_6 n)) (mX7_init (mX9_init M (n + 0) (n + 1)) (n + 78) (n + 79)) := q18
  change VV (gS G _) _ _ (LX L a (0, 11, [some (n + 0), some (n + 76), some (n + 77), none, none, none, none, none, none]) (t11_6 n)) _ _ _ _ _ _
  refine r_putRF (pc := 38) (γ := g6) (a := a) (b := (n + 78)) fc_11_27 rfl rfl (LX_this han) (Nat.le_of_ble_eq_true rfl) (fun C T h => by rw [cf_own cf_11 h]; rfl) dX11_init_38 ?_
  rw [LX_put han]
  have q20 := gd_ref (a := a) (k := 3) (b := (n + 78)) q19 (LX_this han) (Nat.le_of_ble_eq_true rfl) (by rw [LX_len, hn, tl11_6]; show _ < n + 114; omega)
  rw [LX_put han] at q20
  have q21 : gd (LX L a (0, 11, [some (n + 0), some (n + 76), some (n + 77), some (n + 78), none, none, none, none, none]) (t11_6 n)) (mX7_init (mX9_init M (n + 0) (n + 1)) (n + 78) (n + 79)) := q20
  change VV (gS G _) _ _ (LX L a (0, 11, [some (n + 0), some (n + 76), some (n + 77), some (n + 78), none, none, none, none, none]) (t11_6 n)) _ _ _ _ _ _
  refine r_aload_n (pc := 41) (i := 0) dX11_init_41 rfl 0 rfl ?_
  refine r_newO (pc := 42) (γ := g6) (lvf := fun g => [(0, .ref (g a))]) (stf := fun g => [.ref (g a)]) (n := n + 114) cf_6 (tb_i 463 (by decide +kernel) (by decide +kernel)) (tb_i 464 (by decide +kernel) (by decide +kernel)) (tb_i 147 (by decide +kernel) (by decide +kernel)) (by rw [LX_len, hn, tl11_6]) q21.1 (fun z => q21.2 _ (by rw [LX_len, hn, tl11_6]; exact Nat.le_refl _) z) (nf_all 6 (by decide)) (fun g h => ⟨by rw [h a (by omega)], by rw [h a (by omega)]⟩) ⟨by decide, by decide⟩ dX11_init_42 (fun g7 h7 => ?_)
  rw [LX_push]
  have q22 := gd_push (q := 0) (n := 6) (m := clN 6) q21
  rw [LX_push] at q22
  have k7 : ∀ z, z < n → g7 z = gA G z := fun z hz => (h7 z (by omega)).trans (k6 z hz)
  have q23 : gd (LX L a (0, 11, [some (n + 0), some (n + 76), some (n + 77), some (n + 78), none, none, none, none, none]) (t11_7 n)) (mX7_init (mX9_init M (n + 0) (n + 1)) (n + 78) (n + 79)) := q22
  change VV (gS G _) _ _ (LX L a (0, 11, [some (n + 0), some (n + 76), some (n + 77), some (n + 78), none, none, none, none, none]) (t11_7 n)) _ _ _ _ _ _
  refine r_dup (pc := 45) dX11_init_45 rfl ?_
  refine r_callI (pc := 46) (γ := g7) (lvf := fun g => [(0, .ref (g a))]) (stf := fun g => [.ref (g (n + 114)), .ref (g a)]) (b := n + 114) (As := []) (fun _ _ _ _ _ _ _ _ _ h => h) ci_X11_init_33 (kX6_init (G := gS G g7) (a := n + 114) (n := n + 115) (by rw [LX_len, hn, tl11_7]) (LX_at hn (ta11_7 n)) q23) (fun g h => ⟨by rw [h a (by rw [LX_len, hn, tl11_7]; show _ < n + 115; omega)], by rw [h a (by rw [LX_len, hn, tl11_7]; show _ < n + 115; omega), h (n + 114) (by rw [LX_len, hn, tl11_7]; show _ < n + 115; omega)]⟩) rfl (Nat.le_of_ble_eq_true rfl) ⟨by decide, by decide⟩ dX11_init_46 (fun g8 h8 => ?_)
  rw [LX_LX hn]
  have q24 := oX6_init (a := n + 114) (n := n + 115) (by rw [LX_len, hn, tl11_7]) (LX_at hn (ta11_7 n)) q23
  rw [LX_LX hn] at q24
  have k8 : ∀ z, z < n → g8 z = gA G z := fun z hz => (h8 z (by rw [LX_len, hn, tl11_7]; show z < n + 115; omega)).trans (k7 z hz)
  have q25 : gd (LX L a (0, 11, [some (n + 0), some (n + 76), some (n + 77), some (n + 78), none, none, none, none, none]) (t11_8 n)) (mX6_init (mX7_init (mX9_init M (n + 0) (n + 1)) (n + 78) (n + 79)) (n + 114) (n + 115)) := q24
  change VV (gS G _) _ _ (LX L a (0, 11, [some (n + 0), some (n + 76), some (n + 77), some (n + 78), none, none, none, none, none]) (t11_8 n)) _ _ _ _ _ _
  refine r_putRF (pc := 49) (γ := g8) (a := a) (b := (n + 114)) fc_11_34 rfl rfl (LX_this han) (Nat.le_of_ble_eq_true rfl) (fun C T h => by rw [cf_own cf_11 h]; rfl) dX11_init_49 ?_
  rw [LX_put han]
  have q26 := gd_ref (a := a) (k := 4) (b := (n + 114)) q25 (LX_this han) (Nat.le_of_ble_eq_true rfl) (by rw [LX_len, hn, tl11_8]; show _ < n + 118; omega)
  rw [LX_put han] at q26
  have q27 : gd (LX L a (0, 11, [some (n + 0), some (n + 76), some (n + 77), some (n + 78), some (n + 114), none, none, none, none]) (t11_8 n)) (mX6_init (mX7_init (mX9_init M (n + 0) (n + 1)) (n + 78) (n + 79)) (n + 114) (n + 115)) := q26
  change VV (gS G _) _ _ (LX L a (0, 11, [some (n + 0), some (n + 76), some (n + 77), some (n + 78), some (n + 114), none, none, none, none]) (t11_8 n)) _ _ _ _ _ _
  refine r_aload_n (pc := 52) (i := 0) dX11_init_52 rfl 0 rfl ?_
  refine r_newO (pc := 53) (γ := g8) (lvf := fun g => [(0, .ref (g a))]) (stf := fun g => [.ref (g a)]) (n := n + 118) cf_2 (tb_i 512 (by decide +kernel) (by decide +kernel)) (tb_i 513 (by decide +kernel) (by decide +kernel)) (tb_i 148 (by decide +kernel) (by decide +kernel)) (by rw [LX_len, hn, tl11_8]) q27.1 (fun z => q27.2 _ (by rw [LX_len, hn, tl11_8]; exact Nat.le_refl _) z) (nf_all 2 (by decide)) (fun g h => ⟨by rw [h a (by omega)], by rw [h a (by omega)]⟩) ⟨by decide, by decide⟩ dX11_init_53 (fun g9 h9 => ?_)
  rw [LX_push]
  have q28 := gd_push (q := 0) (n := 2) (m := clN 2) q27
  rw [LX_push] at q28
  have k9 : ∀ z, z < n → g9 z = gA G z := fun z hz => (h9 z (by omega)).trans (k8 z hz)
  have q29 : gd (LX L a (0, 11, [some (n + 0), some (n + 76), some (n + 77), some (n + 78), some (n + 114), none, none, none, none]) (t11_9 n)) (mX6_init (mX7_init (mX9_init M (n + 0) (n + 1)) (n + 78) (n + 79)) (n + 114) (n + 115)) := q28
  change VV (gS G _) _ _ (LX L a (0, 11, [some (n + 0), some (n + 76), some (n + 77), some (n + 78), some (n + 114), none, none, none, none]) (t11_9 n)) _ _ _ _ _ _
  refine r_dup (pc := 56) dX11_init_56 rfl ?_
  refine r_callI (pc := 57) (γ := g9) (lvf := fun g => [(0, .ref (g a))]) (stf := fun g => [.ref (g (n + 118)), .ref (g a)]) (b := n + 118) (As := []) (fun _ _ _ _ _ _ _ _ _ h => h) ci_X11_init_40 (kX2_init (G := gS G g9) (a := n + 118) (n := n + 119) (by rw [LX_len, hn, tl11_9]) (LX_at hn (ta11_9 n)) q29) (fun g h => ⟨by rw [h a (by rw [LX_len, hn, tl11_9]; show _ < n + 119; omega)], by rw [h a (by rw [LX_len, hn, tl11_9]; show _ < n + 119; omega), h (n + 118) (by rw [LX_len, hn, tl11_9]; show _ < n + 119; omega)]⟩) rfl (Nat.le_of_ble_eq_true rfl) ⟨by decide, by decide⟩ dX11_init_57 (fun g10 h10 => ?_)
  rw [LX_LX hn]
  have q30 := oX2_init (a := n + 118) (n := n + 119) (by rw [LX_len, hn, tl11_9]) (LX_at hn (ta11_9 n)) q29
  rw [LX_LX hn] at q30
  have k10 : ∀ z, z < n → g10 z = gA G z := fun z hz => (h10 z (by rw [LX_len, hn, tl11_9]; show z < n + 119; omega)).trans (k9 z hz)
  have q31 : gd (LX L a (0, 11, [some (n + 0), some (n + 76), some (n + 77), some (n + 78), some (n + 114), none, none, none, none]) (t11_10 n)) (mX2_init (mX6_init (mX7_init (mX9_init M (n + 0) (n + 1)) (n + 78) (n + 79)) (n + 114) (n + 115)) (n + 118) (n + 119)) := q30
  change VV (gS G _) _ _ (LX L a (0, 11, [some (n + 0), some (n + 76), some (n + 77), some (n + 78), some (n + 114), none, none, none, none]) (t11_10 n)) _ _ _ _ _ _
  refine r_putRF (pc := 60) (γ := g10) (a := a) (b := (n + 118)) fc_11_41 rfl rfl (LX_this han) (Nat.le_of_ble_eq_true rfl) (fun C T h => by rw [cf_own cf_11 h]; rfl) dX11_init_60 ?_
  rw [LX_put han]
  have q32 := gd_ref (a := a) (k := 5) (b := (n + 118)) q31 (LX_this han) (Nat.le_of_ble_eq_true rfl) (by rw [LX_len, hn, tl11_10]; show _ < n + 120; omega)
  rw [LX_put han] at q32
  have q33 : gd (LX L a (0, 11, [some (n + 0), some (n + 76), some (n + 77), some (n + 78), some (n + 114), some (n + 118), none, none, none]) (t11_10 n)) (mX2_init (mX6_init (mX7_init (mX9_init M (n + 0) (n + 1)) (n + 78) (n + 79)) (n + 114) (n + 115)) (n + 118) (n + 119)) := q32
  change VV (gS G _) _ _ (LX L a (0, 11, [some (n + 0), some (n + 76), some (n + 77), some (n + 78), some (n + 114), some (n + 118), none, none, none]) (t11_10 n)) _ _ _ _ _ _
  refine r_aload_n (pc := 63) (i := 0) dX11_init_63 rfl 0 rfl ?_
  refine r_newO (pc := 64) (γ := g10) (lvf := fun g => [(0, .ref (g a))]) (stf := fun g => [.ref (g a)]) (n := n + 120) cf_4 (tb_i 528 (by decide +kernel) (by decide +kernel)) (tb_i 529 (by decide +kernel) (by decide +kernel)) (tb_i 149 (by decide +kernel) (by decide +kernel)) (by rw [LX_len, hn, tl11_10]) q33.1 (fun z => q33.2 _ (by rw [LX_len, hn, tl11_10]; exact Nat.le_refl _) z) (nf_all 4 (by decide)) (fun g h => ⟨by rw [h a (by omega)], by rw [h a (by omega)]⟩) ⟨by decide, by decide⟩ dX11_init_64 (fun g11 h11 => ?_)
  rw [LX_push]
  have q34 := gd_push (q := 0) (n := 4) (m := clN 4) q33
  rw [LX_push] at q34
  have k11 : ∀ z, z < n → g11 z = gA G z := fun z hz => (h11 z (by omega)).trans (k10 z hz)
  have q35 : gd (LX L a (0, 11, [some (n + 0), some (n + 76), some (n + 77), some (n + 78), some (n + 114), some (n + 118), none, none, none]) (t11_11 n)) (mX2_init (mX6_init (mX7_init (mX9_init M (n + 0) (n + 1)) (n + 78) (n + 79)) (n + 114) (n + 115)) (n + 118) (n + 119)) := q34
  change VV (gS G _) _ _ (LX L a (0, 11, [some (n + 0), some (n + 76), some (n + 77), some (n + 78), some (n + 114), some (n + 118), none, none, none]) (t11_11 n)) _ _ _ _ _ _
  refine r_dup (pc := 67) dX11_init_67 rfl ?_
  refine r_callI (pc := 68) (γ := g11) (lvf := fun g => [(0, .ref (g a))]) (stf := fun g => [.ref (g (n + 120)), .ref (g a)]) (b := n + 120) (As := []) (fun _ _ _ _ _ _ _ _ _ h => h) ci_X11_init_47 (kX4_init (G := gS G g11) (a := n + 120) (n := n + 121) (by rw [LX_len, hn, tl11_11]) (LX_at hn (ta11_11 n)) q35) (fun g h => ⟨by rw [h a (by rw [LX_len, hn, tl11_11]; show _ < n + 121; omega)], by rw [h a (by rw [LX_len, hn, tl11_11]; show _ < n + 121; omega), h (n + 120) (by rw [LX_len, hn, tl11_11]; show _ < n + 121; omega)]⟩) rfl (Nat.le_of_ble_eq_true rfl) ⟨by decide, by decide⟩ dX11_init_68 (fun g12 h12 => ?_)
  rw [LX_LX hn]
  have q36 := oX4_init (a := n + 120) (n := n + 121) (by rw [LX_len, hn, tl11_11]) (LX_at hn (ta11_11 n)) q35
  rw [LX_LX hn] at q36
  have k12 : ∀ z, z < n → g12 z = gA G z := fun z hz => (h12 z (by rw [LX_len, hn, tl11_11]; show z < n + 121; omega)).trans (k11 z hz)
  have q37 : gd (LX L a (0, 11, [some (n + 0), some (n + 76), some (n + 77), some (n + 78), some (n + 114), some (n + 118), none, none, none]) (t11_12 n)) (mX4_init (mX2_init (mX6_init (mX7_init (mX9_init M (n + 0) (n + 1)) (n + 78) (n + 79)) (n + 114) (n + 115)) (n + 118) (n + 119)) (n + 120) (n + 121)) := q36
  change VV (gS G _) _ _ (LX L a (0, 11, [some (n + 0), some (n + 76), some (n + 77), some (n + 78), some (n + 114), some (n + 118), none, none, none]) (t11_12 n)) _ _ _ _ _ _
  refine r_putRF (pc := 71) (γ := g12) (a := a) (b := (n + 120)) fc_11_48 rfl rfl (LX_this han) (Nat.le_of_ble_eq_true rfl) (fun C T h => by rw [cf_own cf_11 h]; rfl) dX11_init_71 ?_
  rw [LX_put han]
  have q38 := gd_ref (a := a) (k := 6) (b := (n + 120)) q37 (LX_this han) (Nat.le_of_ble_eq_true rfl) (by rw [LX_len, hn, tl11_12]; show _ < n + 126; omega)
  rw [LX_put han] at q38
  have q39 : gd (LX L a (0, 11, [some (n + 0), some (n + 76), some (n + 77), some (n + 78), some (n + 114), some (n + 118), some (n + 120), none, none]) (t11_12 n)) (mX4_init (mX2_init (mX6_init (mX7_init (mX9_init M (n + 0) (n + 1)) (n + 78) (n + 79)) (n + 114) (n + 115)) (n + 118) (n + 119)) (n + 120) (n + 121)) := q38
  change VV (gS G _) _ _ (LX L a (0, 11, [some (n + 0), some (n + 76), some (n + 77), some (n + 78), some (n + 114), some (n + 118), some (n + 120), none, none]) (t11_12 n)) _ _ _ _ _ _
  refine r_aload_n (pc := 74) (i := 0) dX11_init_74 rfl 0 rfl ?_
  refine r_newO (pc := 75) (γ := g12) (lvf := fun g => [(0, .ref (g a))]) (stf := fun g => [.ref (g a)]) (n := n + 126) cf_10 (tb_i 550 (by decide +kernel) (by decide +kernel)) (tb_i 551 (by decide +kernel) (by decide +kernel)) (tb_i 150 (by decide +kernel) (by decide +kernel)) (by rw [LX_len, hn, tl11_12]) q39.1 (fun z => q39.2 _ (by rw [LX_len, hn, tl11_12]; exact Nat.le_refl _) z) (nf_all 10 (by decide)) (fun g h => ⟨by rw [h a (by omega)], by rw [h a (by omega)]⟩) ⟨by decide, by decide⟩ dX11_init_75 (fun g13 h13 => ?_)
  rw [LX_push]
  have q40 := gd_push (q := 0) (n := 10) (m := clN 10) q39
  rw [LX_push] at q40
  have k13 : ∀ z, z < n → g13 z = gA G z := fun z hz => (h13 z (by omega)).trans (k12 z hz)
  have q41 : gd (LX L a (0, 11, [some (n + 0), some (n + 76), some (n + 77), some (n + 78), some (n + 114), some (n + 118), some (n + 120), none, none]) (t11_13 n)) (mX4_init (mX2_init (mX6_init (mX7_init (mX9_init M (n + 0) (n + 1)) (n + 78) (n + 79)) (n + 114) (n + 115)) (n + 118) (n + 119)) (n + 120) (n + 121)) := q40
  change VV (gS G _) _ _ (LX L a (0, 11, [some (n + 0), some (n + 76), some (n + 77), some (n + 78), some (n + 114), some (n + 118), some (n + 120), none, none]) (t11_13 n)) _ _ _ _ _ _
  refine r_dup (pc := 78) dX11_init_78 rfl ?_
  refine r_callI (pc := 79) (γ := g13) (lvf := fun g => [(0, .ref (g a))]) (stf := fun g => [.ref (g (n + 126)), .ref (g a)]) (b := n + 126) (As := []) (fun _ _ _ _ _ _ _ _ _ h => h) ci_X11_init_54 (kX10_init (G := gS G g13) (a := n + 126) (n := n + 127) (by rw [LX_len, hn, tl11_13]) (LX_at hn (ta11_13 n)) q41) (fun g h => ⟨by rw [h a (by rw [LX_len, hn, tl11_13]; show _ < n + 127; omega)], by rw [h a (by rw [LX_len, hn, tl11_13]; show _ < n + 127; omega), h (n + 126) (by rw [LX_len, hn, tl11_13]; show _ < n + 127; omega)]⟩) rfl (Nat.le_of_ble_eq_true rfl) ⟨by decide, by decide⟩ dX11_init_79 (fun g14 h14 => ?_)
  rw [LX_LX hn]
  have q42 := oX10_init (a := n + 126) (n := n + 127) (by rw [LX_len, hn, tl11_13]) (LX_at hn (ta11_13 n)) q41
  rw [LX_LX hn] at q42
  have k14 : ∀ z, z < n → g14 z = gA G z := fun z hz => (h14 z (by rw [LX_len, hn, tl11_13]; show z < n + 127; omega)).trans (k13 z hz)
  have q43 : gd (LX L a (0, 11, [some (n + 0), some (n + 76), some (n + 77), some (n + 78), some (n + 114), some (n + 118), some (n + 120), none, none]) (t11_14 n)) (mX10_init (mX4_init (mX2_init (mX6_init (mX7_init (mX9_init M (n + 0) (n + 1)) (n + 78) (n + 79)) (n + 114) (n + 115)) (n + 118) (n + 119)) (n + 120) (n + 121)) (n + 126) (n + 127)) := q42
  change VV (gS G _) _ _ (LX L a (0, 11, [some (n + 0), some (n + 76), some (n + 77), some (n + 78), some (n + 114), some (n + 118), some (n + 120), none, none]) (t11_14 n)) _ _ _ _ _ _
  refine r_putRF (pc := 82) (γ := g14) (a := a) (b := (n + 126)) fc_11_55 rfl rfl (LX_this han) (Nat.le_of_ble_eq_true rfl) (fun C T h => by rw [cf_own cf_11 h]; rfl) dX11_init_82 ?_
  rw [LX_put han]
  have q44 := gd_ref (a := a) (k := 7) (b := (n + 126)) q43 (LX_this han) (Nat.le_of_ble_eq_true rfl) (by rw [LX_len, hn, tl11_14]; show _ < n + 129; omega)
  rw [LX_put han] at q44
  have q45 : gd (LX L a (0, 11, [some (n + 0), some (n + 76), some (n + 77), some (n + 78), some (n + 114), some (n + 118), some (n + 120), some (n + 126), none]) (t11_14 n)) (mX10_init (mX4_init (mX2_init (mX6_init (mX7_init (mX9_init M (n + 0) (n + 1)) (n + 78) (n + 79)) (n + 114) (n + 115)) (n + 118) (n + 119)) (n + 120) (n + 121)) (n + 126) (n + 127)) := q44
  change VV (gS G _) _ _ (LX L a (0, 11, [some (n + 0), some (n + 76), some (n + 77), some (n + 78), some (n + 114), some (n + 118), some (n + 120), some (n + 126), none]) (t11_14 n)) _ _ _ _ _ _
  refine r_aload_n (pc := 85) (i := 0) dX11_init_85 rfl 0 rfl ?_
  refine r_newO (pc := 86) (γ := g14) (lvf := fun g => [(0, .ref (g a))]) (stf := fun g => [.ref (g a)]) (n := n + 129) cf_0 (tb_i 564 (by decide +kernel) (by decide +kernel)) (tb_i 565 (by decide +kernel) (by decide +kernel)) (tb_i 151 (by decide +kernel) (by decide +kernel)) (by rw [LX_len, hn, tl11_14]) q45.1 (fun z => q45.2 _ (by rw [LX_len, hn, tl11_14]; exact Nat.le_refl _) z) (nf_all 0 (by decide)) (fun g h => ⟨by rw [h a (by omega)], by rw [h a (by omega)]⟩) ⟨by decide, by decide⟩ dX11_init_86 (fun g15 h15 => ?_)
  rw [LX_push]
  have q46 := gd_push (q := 0) (n := 0) (m := clN 0) q45
  rw [LX_push] at q46
  have k15 : ∀ z, z < n → g15 z = gA G z := fun z hz => (h15 z (by omega)).trans (k14 z hz)
  have q47 : gd (LX L a (0, 11, [some (n + 0), some (n + 76), some (n + 77), some (n + 78), some (n + 114), some (n + 118), some (n + 120), some (n + 126), none]) (t11_15 n)) (mX10_init (mX4_init (mX2_init (mX6_init (mX7_init (mX9_init M (n + 0) (n + 1)) (n + 78) (n + 79)) (n + 114) (n + 115)) (n + 118) (n + 119)) (n + 120) (n + 121)) (n + 126) (n + 127)) := q46
  change VV (gS G _) _ _ (LX L a (0, 11, [some (n + 0), some (n + 76), some (n + 77), some (n + 78), some (n + 114), some (n + 118), some (n + 120), some (n + 126), none]) (t11_15 n)) _ _ _ _ _ _
  refine r_dup (pc := 89) dX11_init_89 rfl ?_
  refine r_callI (pc := 90) (γ := g15) (lvf := fun g => [(0, .ref (g a))]) (stf := fun g => [.ref (g (n + 129)), .ref (g a)]) (b := n + 129) (As := []) (fun _ _ _ _ _ _ _ _ _ h => h) ci_X11_init_61 (kX0_init (G := gS G g15) (a := n + 129) (n := n + 130) (by rw [LX_len, hn, tl11_15]) (LX_at hn (ta11_15 n)) q47) (fun g h => ⟨by rw [h a (by rw [LX_len, hn, tl11_15]; show _ < n + 130; omega)], by rw [h a (by rw [LX_len, hn, tl11_15]; show _ < n + 130; omega), h (n + 129) (by rw [LX_len, hn, tl11_15]; show _ < n + 130; omega)]⟩) rfl (Nat.le_of_ble_eq_true rfl) ⟨by decide, by decide⟩ dX11_init_90 (fun g16 h16 => ?_)
  rw [LX_LX hn]
  have q48 := oX0_init (a := n + 129) (n := n + 130) (by rw [LX_len, hn, tl11_15]) (LX_at hn (ta11_15 n)) q47
  rw [LX_LX hn] at q48
  have k16 : ∀ z, z < n → g16 z = gA G z := fun z hz => (h16 z (by rw [LX_len, hn, tl11_15]; show z < n + 130; omega)).trans (k15 z hz)
  have q49 : gd (LX L a (0, 11, [some (n + 0), some (n + 76), some (n + 77), some (n + 78), some (n + 114), some (n + 118), some (n + 120), some (n + 126), none]) (t11_16 n)) (mX0_init (mX10_init (mX4_init (mX2_init (mX6_init (mX7_init (mX9_init M (n + 0) (n + 1)) (n + 78) (n + 79)) (n + 114) (n + 115)) (n + 118) (n + 119)) (n + 120) (n + 121)) (n + 126) (n + 127)) (n + 129) (n + 130)) := q48
  change VV (gS G _) _ _ (LX L a (0, 11, [some (n + 0), some (n + 76), some (n + 77), some (n + 78), some (n + 114), some (n + 118), some (n + 120), some (n + 126), none]) (t11_16 n)) _ _ _ _ _ _
  refine r_putRF (pc := 93) (γ := g16) (a := a) (b := (n + 129)) fc_11_62 rfl rfl (LX_this han) (Nat.le_of_ble_eq_true rfl) (fun C T h => by rw [cf_own cf_11 h]; rfl) dX11_init_93 ?_
  rw [LX_put han]
  have q50 := gd_ref (a := a) (k := 8) (b := (n + 129)) q49 (LX_this han) (Nat.le_of_ble_eq_true rfl) (by rw [LX_len, hn, tl11_16]; show _ < n + 130; omega)
  rw [LX_put han] at q50
  have q51 : gd (LX L a (0, 11, [some (n + 0), some (n + 76), some (n + 77), some (n + 78), some (n + 114), some (n + 118), some (n + 120), some (n + 126), some (n + 129)]) (t11_16 n)) (mX0_init (mX10_init (mX4_init (mX2_init (mX6_init (mX7_init (mX9_init M (n + 0) (n + 1)) (n + 78) (n + 79)) (n + 114) (n + 115)) (n + 118) (n + 119)) (n + 120) (n + 121)) (n + 126) (n + 127)) (n + 129) (n + 130)) := q50
  change VV (gS G _) _ _ (LX L a (0, 11, [some (n + 0), some (n + 76), some (n + 77), some (n + 78), some (n + 114), some (n + 118), some (n + 120), some (n + 126), some (n + 129)]) (t11_16 n)) _ _ _ _ _ _
  refine r_iconst (pc := 96) (v := 0) dX11_init_96 (by decide +kernel) ?_
  refine r_istore_n (pc := 97) (i := 1) (lv' := [(1, .int (eI 0)), (0, .ref (g16 a))]) dX11_init_97 rfl (Nat.le_of_ble_eq_true rfl) rfl ?_
  refine r_iload_n (pc := 98) (i := 1) dX11_init_98 rfl 0 rfl ?_
  refine r_iconst (pc := 99) (v := 3) dX11_init_99 (by decide +kernel) ?_
  refine r_icmp_ge (pc := 100) (tgt := 122) dX11_init_100 (by decide) wc_0 wc_3 (fun c => absurd c (by decide)) (fun _ => ?_)
  refine r_aload_n (pc := 103) (i := 0) dX11_init_103 rfl 1 rfl ?_
  refine r_getR (pc := 104) (a := a) (b := (n + 76)) fc_11_16 rfl ⟨_, LX_this han⟩ ⟨_, LX_this han, rfl⟩ dX11_init_104 ?_
  refine r_iload_n (pc := 107) (i := 1) dX11_init_107 rfl 0 rfl ?_
  refine r_newO (pc := 108) (γ := g16) (lvf := fun g => [(1, .int (eI 0)), (0, .ref (g a))]) (stf := fun g => [.int (eI 0), .ref (g (n + 76))]) (n := n + 130) cf_9 (tb_i 166 (by decide +kernel) (by decide +kernel)) (tb_i 167 (by decide +kernel) (by decide +kernel)) (tb_i 140 (by decide +kernel) (by decide +kernel)) (by rw [LX_len, hn, tl11_16]) q51.1 (fun z => q51.2 _ (by rw [LX_len, hn, tl11_16]; exact Nat.le_refl _) z) (nf_all 9 (by decide)) (fun g h => ⟨by rw [h a (by omega)], by rw [h (n + 76) (by omega)]⟩) ⟨by decide, by decide⟩ dX11_init_108 (fun g17 h17 => ?_)
  rw [LX_push]
  have q52 := gd_push (q := 0) (n := 9) (m := clN 9) q51
  rw [LX_push] at q52
  have k17 : ∀ z, z < n → g17 z = gA G z := fun z hz => (h17 z (by omega)).trans (k16 z hz)
  have q53 : gd (LX L a (0, 11, [some (n + 0), some (n + 76), some (n + 77), some (n + 78), some (n + 114), some (n + 118), some (n + 120), some (n + 126), some (n + 129)]) (t11_17 n)) (mX0_init (mX10_init (mX4_init (mX2_init (mX6_init (mX7_init (mX9_init M (n + 0) (n + 1)) (n + 78) (n + 79)) (n + 114) (n + 115)) (n + 118) (n + 119)) (n + 120) (n + 121)) (n + 126) (n + 127)) (n + 129) (n + 130)) := q52
  change VV (gS G _) _ _ (LX L a (0, 11, [some (n + 0), some (n + 76), some (n + 77), some (n + 78), some (n + 114), some (n + 118), some (n + 120), some (n + 126), some (n + 129)]) (t11_17 n)) _ _ _ _ _ _
  refine r_dup (pc := 111) dX11_init_111 rfl ?_
  refine r_callI (pc := 112) (γ := g17) (lvf := fun g => [(1, .int (eI 0)), (0, .ref (g a))]) (stf := fun g => [.ref (g (n + 130)), .int (eI 0), .ref (g (n + 76))]) (b := n + 130) (As := []) (fun _ _ _ _ _ _ _ _ _ h => h) ci_X11_init_9 (kX9_init (G := gS G g17) (a := n + 130) (n := n + 131) (by rw [LX_len, hn, tl11_17]) (LX_at hn (ta11_17 n)) q53) (fun g h => ⟨by rw [h a (by rw [LX_len, hn, tl11_17]; show _ < n + 131; omega)], by rw [h (n + 76) (by rw [LX_len, hn, tl11_17]; show _ < n + 131; omega), h (n + 130) (by rw [LX_len, hn, tl11_17]; show _ < n + 131; omega)]⟩) rfl (Nat.le_of_ble_eq_true rfl) ⟨by decide, by decide⟩ dX11_init_112 (fun g18 h18 => ?_)
  rw [LX_LX hn]
  have q54 := oX9_init (a := n + 130) (n := n + 131) (by rw [LX_len, hn, tl11_17]) (LX_at hn (ta11_17 n)) q53
  rw [LX_LX hn] at q54
  have k18 : ∀ z, z < n → g18 z = gA G z := fun z hz => (h18 z (by rw [LX_len, hn, tl11_17]; show z < n + 131; omega)).trans (k17 z hz)
  have q55 : gd (LX L a (0, 11, [some (n + 0), some (n + 76), some (n + 77), some (n + 78), some (n + 114), some (n + 118), some (n + 120), some (n + 126), some (n + 129)]) (t11_18 n)) (mX9_init (mX0_init (mX10_init (mX4_init (mX2_init (mX6_init (mX7_init (mX9_init M (n + 0) (n + 1)) (n + 78) (n + 79)) (n + 114) (n + 115)) (n + 118) (n + 119)) (n + 120) (n + 121)) (n + 126) (n + 127)) (n + 129) (n + 130)) (n + 130) (n + 131)) := q54
  change VV (gS G _) _ _ (LX L a (0, 11, [some (n + 0), some (n + 76), some (n + 77), some (n + 78), some (n + 114), some (n + 118), some (n + 120), some (n + 126), some (n + 129)]) (t11_18 n)) _ _ _ _ _ _
  refine r_aast9 (pc := 115) (γ := g18) (a := n + 76) (b := n + 130) (LX_at hn (tb11_18 n)) (LX_at hn (tc11_18 n)) wc_0 ⟨by decide, by decide⟩ rfl (Nat.le_of_ble_eq_true rfl) dX11_init_115 ?_
  rw [LX_set hn]
  have q56 := gd_ref (a := n + 76) (k := 0) (b := n + 130) q55 (LX_at hn (tb11_18 n)) (Nat.le_of_ble_eq_true rfl) (by rw [LX_len, hn, tl11_18]; show _ < n + 206; omega)
  rw [LX_set hn] at q56
  have q57 : gd (LX L a (0, 11, [some (n + 0), some (n + 76), some (n + 77), some (n + 78), some (n + 114), some (n + 118), some (n + 120), some (n + 126), some (n + 129)]) (t11_19 n)) (mX9_init (mX0_init (mX10_init (mX4_init (mX2_init (mX6_init (mX7_init (mX9_init M (n + 0) (n + 1)) (n + 78) (n + 79)) (n + 114) (n + 115)) (n + 118) (n + 119)) (n + 120) (n + 121)) (n + 126) (n + 127)) (n + 129) (n + 130)) (n + 130) (n + 131)) := q56
  change VV (gS G _) _ _ (LX L a (0, 11, [some (n + 0), some (n + 76), some (n + 77), some (n + 78), some (n + 114), some (n + 118), some (n + 120), some (n + 126), some (n + 129)]) (t11_19 n)) _ _ _ _ _ _
  refine r_iinc (pc := 116) (y := 1) (lv' := [(1, .int (eI 1)), (0, .ref (g18 a))]) dX11_init_116 0 rfl (by decide) (Nat.le_of_ble_eq_true rfl) rfl ?_
  refine r_goto (pc := 119) (tgt := 98) dX11_init_119 (by decide) ?_
  refine r_iload_n (pc := 98) (i := 1) dX11_init_98 rfl 0 rfl ?_
  refine r_iconst (pc := 99) (v := 3) dX11_init_99 (by decide +kernel) ?_
  refine r_icmp_ge (pc := 100) (tgt := 122) dX11_init_100 (by decide) wc_1 wc_3 (fun c => absurd c (by decide)) (fun _ => ?_)
  refine r_aload_n (pc := 103) (i := 0) dX11_init_103 rfl 1 rfl ?_
  refine r_getR (pc := 104) (a := a) (b := (n + 76)) fc_11_16 rfl ⟨_, LX_this han⟩ ⟨_, LX_this han, rfl⟩ dX11_init_104 ?_
  refine r_iload_n (pc := 107) (i := 1) dX11_init_107 rfl 0 rfl ?_
  refine r_newO (pc := 108) (γ := g18) (lvf := fun g => [(1, .int (eI 1)), (0, .ref (g a))]) (stf := fun g => [.int (eI 1), .ref (g (n + 76))]) (n := n + 206) cf_9 (tb_i 166 (by decide +kernel) (by decide +kernel)) (tb_i 167 (by decide +kernel) (by decide +kernel)) (tb_i 140 (by decide +kernel) (by decide +kernel)) (by rw [LX_len, hn, tl11_19]) q57.1 (fun z => q57.2 _ (by rw [LX_len, hn, tl11_19]; exact Nat.le_refl _) z) (nf_all 9 (by decide)) (fun g h => ⟨by rw [h a (by omega)], by rw [h (n + 76) (by omega)]⟩) ⟨by decide, by decide⟩ dX11_init_108 (fun g19 h19 => ?_)
  rw [LX_push]
  have q58 := gd_push (q := 0) (n := 9) (m := clN 9) q57
  rw [LX_push] at q58
  have k19 : ∀ z, z < n → g19 z = gA G z := fun z hz => (h19 z (by omega)).trans (k18 z hz)
  have q59 : gd (LX L a (0, 11, [some (n + 0), some (n + 76), some (n + 77), some (n + 78), some (n + 114), some (n + 118), some (n + 120), some (n + 126), some (n + 129)]) (t11_20 n)) (mX9_init (mX0_init (mX10_init (mX4_init (mX2_init (mX6_init (mX7_init (mX9_init M (n + 0) (n + 1)) (n + 78) (n + 79)) (n + 114) (n + 115)) (n + 118) (n + 119)) (n + 120) (n + 121)) (n + 126) (n + 127)) (n + 129) (n + 130)) (n + 130) (n + 131)) := q58
  change VV (gS G _) _ _ (LX L a (0, 11, [some (n + 0), some (n + 76), some (n + 77), some (n + 78), some (n + 114), some (n + 118), some (n + 120), some (n + 126), some (n + 129)]) (t11_20 n)) _ _ _ _ _ _
  refine r_dup (pc := 111) dX11_init_111 rfl ?_
  refine r_callI (pc := 112) (γ := g19) (lvf := fun g => [(1, .int (eI 1)), (0, .ref (g a))]) (stf := fun g => [.ref (g (n + 206)), .int (eI 1), .ref (g (n + 76))]) (b := n + 206) (As := []) (fun _ _ _ _ _ _ _ _ _ h => h) ci_X11_init_9 (kX9_init (G := gS G g19) (a := n + 206) (n := n + 207) (by rw [LX_len, hn, tl11_20]) (LX_at hn (ta11_20 n)) q59) (fun g h => ⟨by rw [h a (by rw [LX_len, hn, tl11_20]; show _ < n + 207; omega)], by rw [h (n + 76) (by rw [LX_len, hn, tl11_20]; show _ < n + 207; omega), h (n + 206) (by rw [LX_len, hn, tl11_20]; show _ < n + 207; omega)]⟩) rfl (Nat.le_of_ble_eq_true rfl) ⟨by decide, by decide⟩ dX11_init_112 (fun g20 h20 => ?_)
  rw [LX_LX hn]
  have q60 := oX9_init (a := n + 206) (n := n + 207) (by rw [LX_len, hn, tl11_20]) (LX_at hn (ta11_20 n)) q59
  rw [LX_LX hn] at q60
  have k20 : ∀ z, z < n → g20 z = gA G z := fun z hz => (h20 z (by rw [LX_len, hn, tl11_20]; show z < n + 207; omega)).trans (k19 z hz)
  have q61 : gd (LX L a (0, 11, [some (n + 0), some (n + 76), some (n + 77), some (n + 78), some (n + 114), some (n + 118), some (n + 120), some (n + 126), some (n + 129)]) (t11_21 n)) (mX9_init (mX9_init (mX0_init (mX10_init (mX4_init (mX2_init (mX6_init (mX7_init (mX9_init M (n + 0) (n + 1)) (n + 78) (n + 79)) (n + 114) (n + 115)) (n + 118) (n + 119)) (n + 120) (n + 121)) (n + 126) (n + 127)) (n + 129) (n + 130)) (n + 130) (n + 131)) (n + 206) (n + 207)) := q60
  change VV (gS G _) _ _ (LX L a (0, 11, [some (n + 0), some (n + 76), some (n + 77), some (n + 78), some (n + 114), some (n + 118), some (n + 120), some (n + 126), some (n + 129)]) (t11_21 n)) _ _ _ _ _ _
  refine r_aast9 (pc := 115) (γ := g20) (a := n + 76) (b := n + 206) (LX_at hn (tb11_21 n)) (LX_at hn (tc11_21 n)) wc_1 ⟨by decide, by decide⟩ rfl (Nat.le_of_ble_eq_true rfl) dX11_init_115 ?_
  rw [LX_set hn]
  have q62 := gd_ref (a := n + 76) (k := 1) (b := n + 206) q61 (LX_at hn (tb11_21 n)) (Nat.le_of_ble_eq_true rfl) (by rw [LX_len, hn, tl11_21]; show _ < n + 282; omega)
  rw [LX_set hn] at q62
  have q63 : gd (LX L a (0, 11, [some (n + 0), some (n + 76), some (n + 77), some (n + 78), some (n + 114), some (n + 118), some (n + 120), some (n + 126), some (n + 129)]) (t11_22 n)) (mX9_init (mX9_init (mX0_init (mX10_init (mX4_init (mX2_init (mX6_init (mX7_init (mX9_init M (n + 0) (n + 1)) (n + 78) (n + 79)) (n + 114) (n + 115)) (n + 118) (n + 119)) (n + 120) (n + 121)) (n + 126) (n + 127)) (n + 129) (n + 130)) (n + 130) (n + 131)) (n + 206) (n + 207)) := q62
  change VV (gS G _) _ _ (LX L a (0, 11, [some (n + 0), some (n + 76), some (n + 77), some (n + 78), some (n + 114), some (n + 118), some (n + 120), some (n + 126), some (n + 129)]) (t11_22 n)) _ _ _ _ _ _
  refine r_iinc (pc := 116) (y := 2) (lv' := [(1, .int (eI 2)), (0, .ref (g20 a))]) dX11_init_116 0 rfl (by decide) (Nat.le_of_ble_eq_true rfl) rfl ?_
  refine r_goto (pc := 119) (tgt := 98) dX11_init_119 (by decide) ?_
  refine r_iload_n (pc := 98) (i := 1) dX11_init_98 rfl 0 rfl ?_
  refine r_iconst (pc := 99) (v := 3) dX11_init_99 (by decide +kernel) ?_
  refine r_icmp_ge (pc := 100) (tgt := 122) dX11_init_100 (by decide) wc_2 wc_3 (fun c => absurd c (by decide)) (fun _ => ?_)
  refine r_aload_n (pc := 103) (i := 0) dX11_init_103 rfl 1 rfl ?_
  refine r_getR (pc := 104) (a := a) (b := (n + 76)) fc_11_16 rfl ⟨_, LX_this han⟩ ⟨_, LX_this han, rfl⟩ dX11_init_104 ?_
  refine r_iload_n (pc := 107) (i := 1) dX11_init_107 rfl 0 rfl ?_
  refine r_newO (pc := 108) (γ := g20) (lvf := fun g => [(1, .int (eI 2)), (0, .ref (g a))]) (stf := fun g => [.int (eI 2), .ref (g (n + 76))]) (n := n + 282) cf_9 (tb_i 166 (by decide +kernel) (by decide +kernel)) (tb_i 167 (by decide +kernel) (by decide +kernel)) (tb_i 140 (by decide +kernel) (by decide +kernel)) (by rw [LX_len, hn, tl11_22]) q63.1 (fun z => q63.2 _ (by rw [LX_len, hn, tl11_22]; exact Nat.le_refl _) z) (nf_all 9 (by decide)) (fun g h => ⟨by rw [h a (by omega)], by rw [h (n + 76) (by omega)]⟩) ⟨by decide, by decide⟩ dX11_init_108 (fun g21 h21 => ?_)
  rw [LX_push]
  have q64 := gd_push (q := 0) (n := 9) (m := clN 9) q63
  rw [LX_push] at q64
  have k21 : ∀ z, z < n → g21 z = gA G z := fun z hz => (h21 z (by omega)).trans (k20 z hz)
  have q65 : gd (LX L a (0, 11, [some (n + 0), some (n + 76), some (n + 77), some (n + 78), some (n + 114), some (n + 118), some (n + 120), some (n + 126), some (n + 129)]) (t11_23 n)) (mX9_init (mX9_init (mX0_init (mX10_init (mX4_init (mX2_init (mX6_init (mX7_init (mX9_init M (n + 0) (n + 1)) (n + 78) (n + 79)) (n + 114) (n + 115)) (n + 118) (n + 119)) (n + 120) (n + 121)) (n + 126) (n + 127)) (n + 129) (n + 130)) (n + 130) (n + 131)) (n + 206) (n + 207)) := q64
  change VV (gS G _) _ _ (LX L a (0, 11, [some (n + 0), some (n + 76), some (n + 77), some (n + 78), some (n + 114), some (n + 118), some (n + 120), some (n + 126), some (n + 129)]) (t11_23 n)) _ _ _ _ _ _
  refine r_dup (pc := 111) dX11_init_111 rfl ?_
  refine r_callI (pc := 112) (γ := g21) (lvf := fun g => [(1, .int (eI 2)), (0, .ref (g a))]) (stf := fun g => [.ref (g (n + 282)), .int (eI 2), .ref (g (n + 76))]) (b := n + 282) (As := []) (fun _ _ _ _ _ _ _ _ _ h => h) ci_X11_init_9 (kX9_init (G := gS G g21) (a := n + 282) (n := n + 283) (by rw [LX_len, hn, tl11_23]) (LX_at hn (ta11_23 n)) q65) (fun g h => ⟨by rw [h a (by rw [LX_len, hn, tl11_23]; show _ < n + 283; omega)], by rw [h (n + 76) (by rw [LX_len, hn, tl11_23]; show _ < n + 283; omega), h (n + 282) (by rw [LX_len, hn, tl11_23]; show _ < n + 283; omega)]⟩) rfl (Nat.le_of_ble_eq_true rfl) ⟨by decide, by decide⟩ dX11_init_112 (fun g22 h22 => ?_)
  rw [LX_LX hn]
  have q66 := oX9_init (a := n + 282) (n := n + 283) (by rw [LX_len, hn, tl11_23]) (LX_at hn (ta11_23 n)) q65
  rw [LX_LX hn] at q66
  have k22 : ∀ z, z < n → g22 z = gA G z := fun z hz => (h22 z (by rw [LX_len, hn, tl11_23]; show z < n + 283; omega)).trans (k21 z hz)
  have q67 : gd (LX L a (0, 11, [some (n + 0), some (n + 76), some (n + 77), some (n + 78), some (n + 114), some (n + 118), some (n + 120), some (n + 126), some (n + 129)]) (t11_24 n)) (mX9_init (mX9_init (mX9_init (mX0_init (mX10_init (mX4_init (mX2_init (mX6_init (mX7_init (mX9_init M (n + 0) (n + 1)) (n + 78) (n + 79)) (n + 114) (n + 115)) (n + 118) (n + 119)) (n + 120) (n + 121)) (n + 126) (n + 127)) (n + 129) (n + 130)) (n + 130) (n + 131)) (n + 206) (n + 207)) (n + 282) (n + 283)) := q66
  change VV (gS G _) _ _ (LX L a (0, 11, [some (n + 0), some (n + 76), some (n + 77), some (n + 78), some (n + 114), some (n + 118), some (n + 120), some (n + 126), some (n + 129)]) (t11_24 n)) _ _ _ _ _ _
  refine r_aast9 (pc := 115) (γ := g22) (a := n + 76) (b := n + 282) (LX_at hn (tb11_24 n)) (LX_at hn (tc11_24 n)) wc_2 ⟨by decide, by decide⟩ rfl (Nat.le_of_ble_eq_true rfl) dX11_init_115 ?_
  rw [LX_set hn]
  have q68 := gd_ref (a := n + 76) (k := 2) (b := n + 282) q67 (LX_at hn (tb11_24 n)) (Nat.le_of_ble_eq_true rfl) (by rw [LX_len, hn, tl11_24]; show _ < n + 358; omega)
  rw [LX_set hn] at q68
  have q69 : gd (LX L a (0, 11, [some (n + 0), some (n + 76), some (n + 77), some (n + 78), some (n + 114), some (n + 118), some (n + 120), some (n + 126), some (n + 129)]) (t11_25 n)) (mX9_init (mX9_init (mX9_init (mX0_init (mX10_init (mX4_init (mX2_init (mX6_init (mX7_init (mX9_init M (n + 0) (n + 1)) (n + 78) (n + 79)) (n + 114) (n + 115)) (n + 118) (n + 119)) (n + 120) (n + 121)) (n + 126) (n + 127)) (n + 129) (n + 130)) (n + 130) (n + 131)) (n + 206) (n + 207)) (n + 282) (n + 283)) := q68
  change VV (gS G _) _ _ (LX L a (0, 11, [some (n + 0), some (n + 76), some (n + 77), some (n + 78), some (n + 114), some (n + 118), some (n + 120), some (n + 126), some (n + 129)]) (t11_25 n)) _ _ _ _ _ _
  refine r_iinc (pc := 116) (y := 3) (lv' := [(1, .int (eI 3)), (0, .ref (g22 a))]) dX11_init_116 0 rfl (by decide) (Nat.le_of_ble_eq_true rfl) rfl ?_
  refine r_goto (pc := 119) (tgt := 98) dX11_init_119 (by decide) ?_
  refine r_iload_n (pc := 98) (i := 1) dX11_init_98 rfl 0 rfl ?_
  refine r_iconst (pc := 99) (v := 3) dX11_init_99 (by decide +kernel) ?_
  refine r_icmp_ge (pc := 100) (tgt := 122) dX11_init_100 (by decide) wc_3 wc_3 (fun _ => ?_) (fun c => absurd (by decide) c)
  exact r_vretI (pc := 122) (γ := g22) k22 rfl (by decide) (by decide) dX11_init_122
theorem wc_2400 : wI 2400 = 2400 := by decide +kernel
theorem fc_12_7 : FG RX12 7 12 1 (clT 12 1) true := ⟨RX12, TX12, cf_12, by decide, tb_i 1406 (by decide +kernel) (by decide +kernel), rfl, rfl, rfl⟩
theorem fc_12_13 : FG RX12 13 12 2 (clT 12 2) true := ⟨RX12, TX12, cf_12, by decide, tb_i 1407 (by decide +kernel) (by decide +kernel), rfl, rfl, rfl⟩
theorem fc_12_17 : FG RX12 17 12 3 (clT 12 3) true := ⟨RX12, TX12, cf_12, by decide, tb_i 1408 (by decide +kernel) (by decide +kernel), rfl, rfl, rfl⟩
theorem fc_12_20 : FG RX12 20 12 4 (clT 12 4) true := ⟨RX12, TX12, cf_12, by decide, tb_i 1409 (by decide +kernel) (by decide +kernel), rfl, rfl, rfl⟩
theorem wc_20 : wI 20 = 20 := by decide +kernel
theorem fc_12_23 : FG RX12 23 12 5 (clT 12 5) true := ⟨RX12, TX12, cf_12, by decide, tb_i 1410 (by decide +kernel) (by decide +kernel), rfl, rfl, rfl⟩
theorem wc_1056 : wI 1056 = 1056 := by decide +kernel
theorem fc_12_26 : FG RX12 26 12 6 (clT 12 6) true := ⟨RX12, TX12, cf_12, by decide, tb_i 1411 (by decide +kernel) (by decide +kernel), rfl, rfl, rfl⟩
theorem wc_968 : wI 968 = 968 := by decide +kernel
theorem fc_12_29 : FG RX12 29 12 7 (clT 12 7) true := ⟨RX12, TX12, cf_12, by decide, tb_i 1412 (by decide +kernel) (by decide +kernel), rfl, rfl, rfl⟩
theorem wc_264 : wI 264 = 264 := by decide +kernel
theorem fc_12_32 : FG RX12 32 12 8 (clT 12 8) true := ⟨RX12, TX12, cf_12, by decide, tb_i 1413 (by decide +kernel) (by decide +kernel), rfl, rfl, rfl⟩
theorem wc_408 : wI 408 = 408 := by decide +kernel
theorem fc_12_35 : FG RX12 35 12 9 (clT 12 9) true := ⟨RX12, TX12, cf_12, by decide, tb_i 1414 (by decide +kernel) (by decide +kernel), rfl, rfl, rfl⟩
theorem wc_776 : wI 776 = 776 := by decide +kernel
theorem fc_12_38 : FG RX12 38 12 10 (clT 12 10) true := ⟨RX12, TX12, cf_12, by decide, tb_i 1415 (by decide +kernel) (by decide +kernel), rfl, rfl, rfl⟩
theorem wc_132 : wI 132 = 132 := by decide +kernel
theorem fc_12_41 : FG RX12 41 12 20 (clT 12 20) true := ⟨RX12, TX12, cf_12, by decide, tb_i 1425 (by decide +kernel) (by decide +kernel), rfl, rfl, rfl⟩
theorem fc_12_44 : FG RX12 44 12 21 (clT 12 21) true := ⟨RX12, TX12, cf_12, by decide, tb_i 1426 (by decide +kernel) (by decide +kernel), rfl, rfl, rfl⟩
theorem fc_12_47 : FG RX12 47 12 40 (clT 12 40) true := ⟨RX12, TX12, cf_12, by decide, tb_i 1445 (by decide +kernel) (by decide +kernel), rfl, rfl, rfl⟩
theorem fc_12_50 : FG RX12 50 12 41 (clT 12 41) true := ⟨RX12, TX12, cf_12, by decide, tb_i 1446 (by decide +kernel) (by decide +kernel), rfl, rfl, rfl⟩
theorem wc_40 : wI 40 = 40 := by decide +kernel
theorem fc_12_53 : FG RX12 53 12 42 (clT 12 42) true := ⟨RX12, TX12, cf_12, by decide, tb_i 1447 (by decide +kernel) (by decide +kernel), rfl, rfl, rfl⟩
theorem fc_12_56 : FG RX12 56 12 43 (clT 12 43) true := ⟨RX12, TX12, cf_12, by decide, tb_i 1448 (by decide +kernel) (by decide +kernel), rfl, rfl, rfl⟩
theorem fc_12_59 : FG RX12 59 12 44 (clT 12 44) true := ⟨RX12, TX12, cf_12, by decide, tb_i 1449 (by decide +kernel) (by decide +kernel), rfl, rfl, rfl⟩
theorem fc_12_62 : FG RX12 62 12 45 (clT 12 45) true := ⟨RX12, TX12, cf_12, by decide, tb_i 1450 (by decide +kernel) (by decide +kernel), rfl, rfl, rfl⟩
theorem fc_12_65 : FG RX12 65 12 47 (clT 12 47) true := ⟨RX12, TX12, cf_12, by decide, tb_i 1452 (by decide +kernel) (by decide +kernel), rfl, rfl, rfl⟩
theorem wc_542 : wI 542 = 542 := by decide +kernel
theorem fc_12_69 : FG RX12 69 12 49 (clT 12 49) true := ⟨RX12, TX12, cf_12, by decide, tb_i 1454 (by decide +kernel) (by decide +kernel), rfl, rfl, rfl⟩
theorem fc_12_72 : FG RX12 72 12 50 (clT 12 50) true := ⟨RX12, TX12, cf_12, by decide, tb_i 1455 (by decide +kernel) (by decide +kernel), rfl, rfl, rfl⟩
theorem fc_12_75 : FG RX12 75 12 51 (clT 12 51) true := ⟨RX12, TX12, cf_12, by decide, tb_i 1456 (by decide +kernel) (by decide +kernel), rfl, rfl, rfl⟩
theorem fc_12_78 : FG RX12 78 12 52 (clT 12 52) true := ⟨RX12, TX12, cf_12, by decide, tb_i 1457 (by decide +kernel) (by decide +kernel), rfl, rfl, rfl⟩
theorem fc_12_81 : FG RX12 81 12 57 (clT 12 57) true := ⟨RX12, TX12, cf_12, by decide, tb_i 1462 (by decide +kernel) (by decide +kernel), rfl, rfl, rfl⟩
theorem fc_12_84 : FG RX12 84 12 59 (clT 12 59) true := ⟨RX12, TX12, cf_12, by decide, tb_i 1464 (by decide +kernel) (by decide +kernel), rfl, rfl, rfl⟩
theorem fc_12_87 : FG RX12 87 12 61 (clT 12 61) true := ⟨RX12, TX12, cf_12, by decide, tb_i 1466 (by decide +kernel) (by decide +kernel), rfl, rfl, rfl⟩
theorem fc_12_90 : FG RX12 90 12 62 (clT 12 62) true := ⟨RX12, TX12, cf_12, by decide, tb_i 1467 (by decide +kernel) (by decide +kernel), rfl, rfl, rfl⟩
theorem fc_12_93 : FG RX12 93 12 67 (clT 12 67) true := ⟨RX12, TX12, cf_12, by decide, tb_i 1472 (by decide +kernel) (by decide +kernel), rfl, rfl, rfl⟩
