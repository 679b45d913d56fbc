abbrev xX11_init : XX := (yX11_init, cX11_init, 2, none, 4, 85, 358, 10657)
theorem ci_X11_init_9 : CKI xX11_init 9 xX9_init 0 := ⟨tb_i 140 (by decide +kernel) (by decide +kernel), tb_i 170 (by decide +kernel) (by decide +kernel), ⟨by decide +kernel, by decide +kernel, by decide +kernel⟩, by decide, by decide, rfl, tb_i 169 (by decide +kernel) (by decide +kernel), rfl, Or.inl (tb_i 168 (by decide +kernel) (by decide +kernel))⟩
theorem fc_11_10 : FG RX11 10 11 0 (clT 11 0) true := ⟨RX11, TX11, cf_11, by decide, tb_i 583 (by decide +kernel) (by decide +kernel), rfl, rfl, rfl⟩
theorem fc_11_16 : FG RX11 16 11 1 (clT 11 1) true := ⟨RX11, TX11, cf_11, by decide, tb_i 584 (by decide +kernel) (by decide +kernel), rfl, rfl, rfl⟩
theorem fc_11_20 : FG RX11 20 11 2 (clT 11 2) true := ⟨RX11, TX11, cf_11, by decide, tb_i 585 (by decide +kernel) (by decide +kernel), rfl, rfl, rfl⟩
theorem ci_X11_init_26 : CKI xX11_init 26 xX7_init 0 := ⟨tb_i 146 (by decide +kernel) (by decide +kernel), tb_i 405 (by decide +kernel) (by decide +kernel), ⟨by decide +kernel, by decide +kernel, by decide +kernel⟩, by decide, by decide, rfl, tb_i 404 (by decide +kernel) (by decide +kernel), rfl, Or.inr ⟨"PaperDonkey", tn_i 403 (by decide +kernel) rfl⟩⟩
theorem fc_11_27 : FG RX11 27 11 3 (clT 11 3) true := ⟨RX11, TX11, cf_11, by decide, tb_i 586 (by decide +kernel) (by decide +kernel), rfl, rfl, rfl⟩
theorem ci_X11_init_33 : CKI xX11_init 33 xX6_init 0 := ⟨tb_i 147 (by decide +kernel) (by decide +kernel), tb_i 467 (by decide +kernel) (by decide +kernel), ⟨by decide +kernel, by decide +kernel, by decide +kernel⟩, by decide, by decide, rfl, tb_i 466 (by decide +kernel) (by decide +kernel), rfl, Or.inr ⟨"PaperDonkey", tn_i 465 (by decide +kernel) rfl⟩⟩
theorem fc_11_34 : FG RX11 34 11 4 (clT 11 4) true := ⟨RX11, TX11, cf_11, by decide, tb_i 587 (by decide +kernel) (by decide +kernel), rfl, rfl, rfl⟩
theorem ci_X11_init_40 : CKI xX11_init 40 xX2_init 0 := ⟨tb_i 148 (by decide +kernel) (by decide +kernel), tb_i 516 (by decide +kernel) (by decide +kernel), ⟨by decide +kernel, by decide +kernel, by decide +kernel⟩, by decide, by decide, rfl, tb_i 515 (by decide +kernel) (by decide +kernel), rfl, Or.inr ⟨"PaperDonkey", tn_i 514 (by decide +kernel) rfl⟩⟩
theorem fc_11_41 : FG RX11 41 11 5 (clT 11 5) true := ⟨RX11, TX11, cf_11, by decide, tb_i 588 (by decide +kernel) (by decide +kernel), rfl, rfl, rfl⟩
theorem ci_X11_init_47 : CKI xX11_init 47 xX4_init 0 := ⟨tb_i 149 (by decide +kernel) (by decide +kernel), tb_i 532 (by decide +kernel) (by decide +kernel), ⟨by decide +kernel, by decide +kernel, by decide +kernel⟩, by decide, by decide, rfl, tb_i 531 (by decide +kernel) (by decide +kernel), rfl, Or.inr ⟨"PaperDonkey", tn_i 530 (by decide +kernel) rfl⟩⟩
theorem fc_11_48 : FG RX11 48 11 6 (clT 11 6) true := ⟨RX11, TX11, cf_11, by decide, tb_i 589 (by decide +kernel) (by decide +kernel), rfl, rfl, rfl⟩
theorem ci_X11_init_54 : CKI xX11_init 54 xX10_init 0 := ⟨tb_i 150 (by decide +kernel) (by decide +kernel), tb_i 554 (by decide +kernel) (by decide +kernel), ⟨by decide +kernel, by decide +kernel, by decide +kernel⟩, by decide, by decide, rfl, tb_i 553 (by decide +kernel) (by decide +kernel), rfl, Or.inr ⟨"PaperDonkey", tn_i 552 (by decide +kernel) rfl⟩⟩
theorem fc_11_55 : FG RX11 55 11 7 (clT 11 7) true := ⟨RX11, TX11, cf_11, by decide, tb_i 590 (by decide +kernel) (by decide +kernel), rfl, rfl, rfl⟩
theorem ci_X11_init_61 : CKI xX11_init 61 xX0_init 0 := ⟨tb_i 151 (by decide +kernel) (by decide +kernel), tb_i 568 (by decide +kernel) (by decide +kernel), ⟨by decide +kernel, by decide +kernel, by decide +kernel⟩, by decide, by decide, rfl, tb_i 567 (by decide +kernel) (by decide +kernel), rfl, Or.inr ⟨"PaperDonkey", tn_i 566 (by decide +kernel) rfl⟩⟩
theorem fc_11_62 : FG RX11 62 11 8 (clT 11 8) true := ⟨RX11, TX11, cf_11, by decide, tb_i 591 (by decide +kernel) (by decide +kernel), rfl, rfl, rfl⟩
def eX11_init (a n : Nat) : LE := (0, 11, [some (n + 0), some (n + 76), some (n + 77), some (n + 78), some (n + 114), some (n + 118), some (n + 120), some (n + 126), some (n + 129)])
def sX11_init (a n : Nat) : List LE := [(0, 9, [some (n + 1), none, none, none, some (n + 2), some (n + 3), some (n + 4), some (n + 5), some (n + 6), some (n + 7)]), (3, 600, []), (1, 5, []), (7, 2, [some (n + 8), some (n + 42)]), (6, 2, [some (n + 19), some (n + 53)]), (5, 2, [some (n + 23), some (n + 57)]), (6, 2, [some (n + 29), some (n + 63)]), (8, 2, [some (n + 33), some (n + 67)]), (0, 5, [none, some (n + 9), some (n + 10), none, some (n + 11), some (n + 12), some (n + 13), some (n + 14), some (n + 15), some (n + 16), some (n + 17), some (n + 18), none, none, none, none, none]), (1, 5, []), (1, 5, []), (1, 8, []), (1, 8, []), (1, 8, []), (1, 8, []), (1, 8, []), (1, 64, []), (1, 8, []), (1, 3, []), (0, 3, [none, some (n + 20), some (n + 21), some (n + 22), none]), (1, 40, []), (1, 40, []), (1, 40, []), (0, 1, [some (n + 24), some (n + 28)]), (0, 3, [none, some (n + 25), some (n + 26), some (n + 27), none]), (1, 8, []), (1, 8, []), (1, 8, []), (1, 8, []), (0, 3, [none, some (n + 30), some (n + 31), some (n + 32), none]), (1, 25, []), (1, 25, []), (1, 25, []), (0, 8, [some (n + 34), some (n + 38)]), (0, 3, [none, some (n + 35), some (n + 36), some (n + 37), none]), (1, 40, []), (1, 40, []), (1, 40, []), (0, 3, [none, some (n + 39), some (n + 40), some (n + 41), none]), (1, 15, []), (1, 15, []), (1, 15, []), (0, 5, [none, some (n + 43), some (n + 44), none, some (n + 45), some (n + 46), some (n + 47), some (n + 48), some (n + 49), some (n + 50), some (n + 51), some (n + 52), none, none, none, none, none]), (1, 5, []), (1, 5, []), (1, 8, []), (1, 8, []), (1, 8, []), (1, 8, []), (1, 8, []), (1, 64, []), (1, 8, []), (1, 3, []), (0, 3, [none, some (n + 54), some (n + 55), some (n + 56), none]), (1, 40, []), (1, 40, []), (1, 40, []), (0, 1, [some (n + 58), some (n + 62)]), (0, 3, [none, some (n + 59), some (n + 60), some (n + 61), none]), (1, 8, []), (1, 8, []), (1, 8, []), (1, 8, []), (0, 3, [none, some (n + 64), some (n + 65), some (n + 66), none]), (1, 25, []), (1, 25, []), (1, 25, []), (0, 8, [some (n + 68), some (n + 72)]), (0, 3, [none, some (n + 69), some (n + 70), some (n + 71), none]), (1, 40, []), (1, 40, []), (1, 40, []), (0, 3, [none, some (n + 73), some (n + 74), some (n + 75), none]), (1, 15, []), (1, 15, []), (1, 15, []), (9, 3, [some (n + 130), some (n + 206), some (n + 282)]), (4, 3, []), (0, 7, [some (n + 79), some (n + 90), some (n + 94), some (n + 100), some (n + 104), none, none, some (n + 113), none, none, none, none, none]), (0, 5, [none, some (n + 80), some (n + 81), none, some (n + 82), some (n + 83), some (n + 84), some (n + 85), some (n + 86), some (n + 87), some (n + 88), some (n + 89), none, none, none, none, none]), (1, 5, []), (1, 5, []), (1, 8, []), (1, 8, []), (1, 8, []), (1, 8, []), (1, 8, []), (1, 64, []), (1, 8, []), (1, 3, []), (0, 3, [none, some (n + 91), some (n + 92), some (n + 93), none]), (1, 40, []), (1, 40, []), (1, 40, []), (0, 1, [some (n + 95), some (n + 99)]), (0, 3, [none, some (n + 96), some (n + 97), some (n + 98), none]), (1, 8, []), (1, 8, []), (1, 8, []), (1, 8, []), (0, 3, [none, some (n + 101), some (n + 102), some (n + 103), none]), (1, 25, []), (1, 25, []), (1, 25, []), (0, 8, [some (n + 105), some (n + 109)]), (0, 3, [none, some (n + 106), some (n + 107), some (n + 108), none]), (1, 40, []), (1, 40, []), (1, 40, []), (0, 3, [none, some (n + 110), some (n + 111), some (n + 112), none]), (1, 15, []), (1, 15, []), (1, 15, []), (1, 4, []), (0, 6, [none, none, none, none, none, none, none, none, none, some (n + 115), some (n + 116), some (n + 117), none, none]), (1, 5, []), (1, 24, []), (1, 8, []), (0, 2, [some (n + 119), none]), (2, 8, []), (0, 4, [some (n + 121), some (n + 122), some (n + 123), some (n + 124), some (n + 125)]), (1, 8, []), (2, 137, []), (2, 137, []), (2, 32, []), (2, 496, []), (0, 10, [some (n + 127), some (n + 128)]), (1, 8, []), (1, 8, []), (0, 0, [none, none, none, none]), (0, 9, [some (n + 131), none, none, none, some (n + 132), some (n + 133), some (n + 134), some (n + 135), some (n + 136), some (n + 137)]), (3, 600, []), (1, 5, []), (7, 2, [some (n + 138), some (n + 172)]), (6, 2, [some (n + 149), some (n + 183)]), (5, 2, [some (n + 153), some (n + 187)]), (6, 2, [some (n + 159), some (n + 193)]), (8, 2, [some (n + 163), some (n + 197)]), (0, 5, [none, some (n + 139), some (n + 140), none, some (n + 141), some (n + 142), some (n + 143), some (n + 144), some (n + 145), some (n + 146), some (n + 147), some (n + 148), none, none, none, none, none]), (1, 5, []), (1, 5, []), (1, 8, []), (1, 8, []), (1, 8, []), (1, 8, []), (1, 8, []), (1, 64, []), (1, 8, []), (1, 3, []), (0, 3, [none, some (n + 150), some (n + 151), some (n + 152), none]), (1, 40, []), (1, 40, []), (1, 40, []), (0, 1, [some (n + 154), some (n + 158)]), (0, 3, [none, some (n + 155), some (n + 156), some (n + 157), none]), (1, 8, []), (1, 8, []), (1, 8, []), (1, 8, []), (0, 3, [none, some (n + 160), some (n + 161), some (n + 162), none]), (1, 25, []), (1, 25, []), (1, 25, []), (0, 8, [some (n + 164), some (n + 168)]), (0, 3, [none, some (n + 165), some (n + 166), some (n + 167), none]), (1, 40, []), (1, 40, []), (1, 40, []), (0, 3, [none, some (n + 169), some (n + 170), some (n + 171), none]), (1, 15, []), (1, 15, []), (1, 15, []), (0, 5, [none, some (n + 173), some (n + 174), none, some (n + 175), some (n + 176), some (n + 177), some (n + 178), some (n + 179), some (n + 180), some (n + 181), some (n + 182), none, none, none, none, none]), (1, 5, []), (1, 5, []), (1, 8, []), (1, 8, []), (1, 8, []), (1, 8, []), (1, 8, []), (1, 64, []), (1, 8, []), (1, 3, []), (0, 3, [none, some (n + 184), some (n + 185), some (n + 186), none]), (1, 40, []), (1, 40, []), (1, 40, []), (0, 1, [some (n + 188), some (n + 192)]), (0, 3, [none, some (n + 189), some (n + 190), some (n + 191), none]), (1, 8, []), (1, 8, []), (1, 8, []), (1, 8, []), (0, 3, [none, some (n + 194), some (n + 195), some (n + 196), none]), (1, 25, []), (1, 25, []), (1, 25, []), (0, 8, [some (n + 198), some (n + 202)]), (0, 3, [none, some (n + 199), some (n + 200), some (n + 201), none]), (1, 40, []), (1, 40, []), (1, 40, []), (0, 3, [none, some (n + 203), some (n + 204), some (n + 205), none]), (1, 15, []), (1, 15, []), (1, 15, []), (0, 9, [some (n + 207), none, none, none, some (n + 208), some (n + 209), some (n + 210), some (n + 211), some (n + 212), some (n + 213)]), (3, 600, []), (1, 5, []), (7, 2, [some (n + 214), some (n + 248)]), (6, 2, [some (n + 225), some (n + 259)]), (5, 2, [some (n + 229), some (n + 263)]), (6, 2, [some (n + 235), some (n + 269)]), (8, 2, [some (n + 239), some (n + 273)]), (0, 5, [none, some (n + 215), some (n + 216), none, some (n + 217), some (n + 218), some (n + 219), some (n + 220), some (n + 221), some (n + 222), some (n + 223), some (n + 224), none, none, none, none, none]), (1, 5, []), (1, 5, []), (1, 8, []), (1, 8, []), (1, 8, []), (1, 8, []), (1, 8, []), (1, 64, []), (1, 8, []), (1, 3, []), (0, 3, [none, some (n + 226), some (n + 227), some (n + 228), none]), (1, 40, []), (1, 40, []), (1, 40, []), (0, 1, [some (n + 230), some (n + 234)]), (0, 3, [none, some (n + 231), some (n + 232), some (n + 233), none]), (1, 8, []), (1, 8, []), (1, 8, []), (1, 8, []), (0, 3, [none, some (n + 236), some (n + 237), some (n + 238), none]), (1, 25, []), (1, 25, []), (1, 25, []), (0, 8, [some (n + 240), some (n + 244)]), (0, 3, [none, some (n + 241), some (n + 242), some (n + 243), none]), (1, 40, []), (1, 40, []), (1, 40, []), (0, 3, [none, some (n + 245), some (n + 246), some (n + 247), none]), (1, 15, []), (1, 15, []), (1, 15, []), (0, 5, [none, some (n + 249), some (n + 250), none, some (n + 251), some (n + 252), some (n + 253), some (n + 254), some (n + 255), some (n + 256), some (n + 257), some (n + 258), none, none, none, none, none]), (1, 5, []), (1, 5, []), (1, 8, []), (1, 8, []), (1, 8, []), (1, 8, []), (1, 8, []), (1, 64, []), (1, 8, []), (1, 3, []), (0, 3, [none, some (n + 260), some (n + 261), some (n + 262), none]), (1, 40, []), (1, 40, []), (1, 40, []), (0, 1, [some (n + 264), some (n + 268)]), (0, 3, [none, some (n + 265), some (n + 266), some (n + 267), none]), (1, 8, []), (1, 8, []), (1, 8, []), (1, 8, []), (0, 3, [none, some (n + 270), some (n + 271), some (n + 272), none]), (1, 25, []), (1, 25, []), (1, 25, []), (0, 8, [some (n + 274), some (n + 278)]), (0, 3, [none, some (n + 275), some (n + 276), some (n + 277), none]), (1, 40, []), (1, 40, []), (1, 40, []), (0, 3, [none, some (n + 279), some (n + 280), some (n + 281), none]), (1, 15, []), (1, 15, []), (1, 15, []), (0, 9, [some (n + 283), none, none, none, some (n + 284), some (n + 285), some (n + 286), some (n + 287), some (n + 288), some (n + 289)]), (3, 600, []), (1, 5, []), (7, 2, [some (n + 290), some (n + 324)]), (6, 2, [some (n + 301), some (n + 335)]), (5, 2, [some (n + 305), some (n + 339)]), (6, 2, [some (n + 311), some (n + 345)]), (8, 2, [some (n + 315), some (n + 349)]), (0, 5, [none, some (n + 291), some (n + 292), none, some (n + 293), some (n + 294), some (n + 295), some (n + 296), some (n + 297), some (n + 298), some (n + 299), some (n + 300), none, none, none, none, none]), (1, 5, []), (1, 5, []), (1, 8, []), (1, 8, []), (1, 8, []), (1, 8, []), (1, 8, []), (1, 64, []), (1, 8, []), (1, 3, []), (0, 3, [none, some (n + 302), some (n + 303), some (n + 304), none]), (1, 40, []), (1, 40, []), (1, 40, []), (0, 1, [some (n + 306), some (n + 310)]), (0, 3, [none, some (n + 307), some (n + 308), some (n + 309), none]), (1, 8, []), (1, 8, []), (1, 8, []), (1, 8, []), (0, 3, [none, some (n + 312), some (n + 313), some (n + 314), none]), (1, 25, []), (1, 25, []), (1, 25, []), (0, 8, [some (n + 316), some (n + 320)]), (0, 3, [none, some (n + 317), some (n + 318), some (n + 319), none]), (1, 40, []), (1, 40, []), (1, 40, []), (0, 3, [none, some (n + 321), some (n + 322), some (n + 323), none]), (1, 15, []), (1, 15, []), (1, 15, []), (0, 5, [none, some (n + 325), some (n + 326), none, some (n + 327), some (n + 328), some (n + 329), some (n + 330), some (n + 331), some (n + 332), some (n + 333), some (n + 334), none, none, none, none, none]), (1, 5, []), (1, 5, []), (1, 8, []), (1, 8, []), (1, 8, []), (1, 8, []), (1, 8, []), (1, 64, []), (1, 8, []), (1, 3, []), (0, 3, [none, some (n + 336), some (n + 337), some (n + 338), none]), (1, 40, []), (1, 40, []), (1, 40, []), (0, 1, [some (n + 340), some (n + 344)]), (0, 3, [none, some (n + 341), some (n + 342), some (n + 343), none]), (1, 8, []), (1, 8, []), (1, 8, []), (1, 8, []), (0, 3, [none, some (n + 346), some (n + 347), some (n + 348), none]), (1, 25, []), (1, 25, []), (1, 25, []), (0, 8, [some (n + 350), some (n + 354)]), (0, 3, [none, some (n + 351), some (n + 352), some (n + 353), none]), (1, 40, []), (1, 40, []), (1, 40, []), (0, 3, [none, some (n + 355), some (n + 356), some (n + 357), none]), (1, 15, []), (1, 15, []), (1, 15, [])]
def mX11_init (M : MM) (a n : Nat) : MM := (mX9_init (mX9_init (mX9_init (mX0_init (mX10_init (mX4_init (mX2_init (mX6_init (mX7_init (mX9_init M (n + 0) (n + 1)) (n + 78) (n + 79)) (n + 114) (n + 115)) (n + 118) (n + 119)) (n + 120) (n + 121)) (n + 126) (n + 127)) (n + 129) (n + 130)) (n + 130) (n + 131)) (n + 206) (n + 207)) (n + 282) (n + 283))
theorem oX11_init {L : List LE} {M : MM} {a n : Nat} (hn : L.length = n) (ha : L[a]? = some (0, 11, List.replicate (clN 11) none)) (hg : gd L M) : gd (LX L a (eX11_init a n) (sX11_init a n)) (mX11_init M a n) := by
  have han : a < L.length := (List.getElem?_eq_some_iff.mp ha).1
  have han2 : a < n := by omega
  have q0 : gd (LX L a (0, 11, List.replicate (clN 11) none) []) M := by rw [LX_start ha]; exact hg
  have q1 := gd_push (q := 0) (n := 9) (m := clN 9) q0
  rw [LX_push] at q1
  have q2 := oX9_init (a := n + 0) (n := n + 1) (by rw [LX_len, hn]; rfl) (LX_at hn rfl) q1
  rw [LX_LX hn] at q2
  have q3 := gd_ref (a := a) (k := 0) (b := (n + 0)) q2 (LX_this han) (Nat.le_of_ble_eq_true rfl) (by rw [LX_len, hn]; show _ < n + 76; omega)
  rw [LX_put han] at q3
  have q4 := gd_push (q := 9) (n := 3) (m := 3) q3
  rw [LX_push] at q4
  have q5 := gd_ref (a := a) (k := 1) (b := (n + 76)) q4 (LX_this han) (Nat.le_of_ble_eq_true rfl) (by rw [LX_len, hn]; show _ < n + 77; omega)
  rw [LX_put han] at q5
  have q6 := gd_nil (q := 4) (n := 3) q5
  rw [LX_push] at q6
  have q7 := gd_ref (a := a) (k := 2) (b := (n + 77)) q6 (LX_this han) (Nat.le_of_ble_eq_true rfl) (by rw [LX_len, hn]; show _ < n + 78; omega)
  rw [LX_put han] at q7
  have q8 := gd_push (q := 0) (n := 7) (m := clN 7) q7
  rw [LX_push] at q8
  have q9 := oX7_init (a := n + 78) (n := n + 79) (by rw [LX_len, hn]; rfl) (LX_at hn rfl) q8
  rw [LX_LX hn] at q9
  have q10 := gd_ref (a := a) (k := 3) (b := (n + 78)) q9 (LX_this han) (Nat.le_of_ble_eq_true rfl) (by rw [LX_len, hn]; show _ < n + 114; omega)
  rw [LX_put han] at q10
  have q11 := gd_push (q := 0) (n := 6) (m := clN 6) q10
  rw [LX_push] at q11
  have q12 := oX6_init (a := n + 114) (n := n + 115) (by rw [LX_len, hn]; rfl) (LX_at hn rfl) q11
  rw [LX_LX hn] at q12
  have q13 := gd_ref (a := a) (k := 4) (b := (n + 114)) q12 (LX_this han) (Nat.le_of_ble_eq_true rfl) (by rw [LX_len, hn]; show _ < n + 118; omega)
  rw [LX_put han] at q13
  have q14 := gd_push (q := 0) (n := 2) (m := clN 2) q13
  rw [LX_push] at q14
  have q15 := oX2_init (a := n + 118) (n := n + 119) (by rw [LX_len, hn]; rfl) (LX_at hn rfl) q14
  rw [LX_LX hn] at q15
  have q16 := gd_ref (a := a) (k := 5) (b := (n + 118)) q15 (LX_this han) (Nat.le_of_ble_eq_true rfl) (by rw [LX_len, hn]; show _ < n + 120; omega)
  rw [LX_put han] at q16
  have q17 := gd_push (q := 0) (n := 4) (m := clN 4) q16
  rw [LX_push] at q17
  have q18 := oX4_init (a := n + 120) (n := n + 121) (by rw [LX_len, hn]; rfl) (LX_at hn rfl) q17
  rw [LX_LX hn] at q18
  have q19 := gd_ref (a := a) (k := 6) (b := (n + 120)) q18 (LX_this han) (Nat.le_of_ble_eq_true rfl) (by rw [LX_len, hn]; show _ < n + 126; omega)
  rw [LX_put han] at q19
  have q20 := gd_push (q := 0) (n := 10) (m := clN 10) q19
  rw [LX_push] at q20
  have q21 := oX10_init (a := n + 126) (n := n + 127) (by rw [LX_len, hn]; rfl) (LX_at hn rfl) q20
  rw [LX_LX hn] at q21
  have q22 := gd_ref (a := a) (k := 7) (b := (n + 126)) q21 (LX_this han) (Nat.le_of_ble_eq_true rfl) (by rw [LX_len, hn]; show _ < n + 129; omega)
  rw [LX_put han] at q22
  have q23 := gd_push (q := 0) (n := 0) (m := clN 0) q22
  rw [LX_push] at q23
  have q24 := oX0_init (a := n + 129) (n := n + 130) (by rw [LX_len, hn]; rfl) (LX_at hn rfl) q23
  rw [LX_LX hn] at q24
  have q25 := gd_ref (a := a) (k := 8) (b := (n + 129)) q24 (LX_this han) (Nat.le_of_ble_eq_true rfl) (by rw [LX_len, hn]; show _ < n + 130; omega)
  rw [LX_put han] at q25
  have q26 := gd_push (q := 0) (n := 9) (m := clN 9) q25
  rw [LX_push] at q26
  have q27 := oX9_init (a := n + 130) (n := n + 131) (by rw [LX_len, hn]; rfl) (LX_at hn rfl) q26
  rw [LX_LX hn] at q27
  have q28 := gd_ref (a := n + 76) (k := 0) (b := n + 130) q27 (LX_at hn rfl) (Nat.le_of_ble_eq_true rfl) (by rw [LX_len, hn]; show _ < n + 206; omega)
  rw [LX_set hn] at q28
  have q29 := gd_push (q := 0) (n := 9) (m := clN 9) q28
  rw [LX_push] at q29
  have q30 := oX9_init (a := n + 206) (n := n + 207) (by rw [LX_len, hn]; rfl) (LX_at hn rfl) q29
  rw [LX_LX hn] at q30
  have q31 := gd_ref (a := n + 76) (k := 1) (b := n + 206) q30 (LX_at hn rfl) (Nat.le_of_ble_eq_true rfl) (by rw [LX_len, hn]; show _ < n + 282; omega)
  rw [LX_set hn] at q31
  have q32 := gd_push (q := 0) (n := 9) (m := clN 9) q31
  rw [LX_push] at q32
  have q33 := oX9_init (a := n + 282) (n := n + 283) (by rw [LX_len, hn]; rfl) (LX_at hn rfl) q32
  rw [LX_LX hn] at q33
  have q34 := gd_ref (a := n + 76) (k := 2) (b := n + 282) q33 (LX_at hn rfl) (Nat.le_of_ble_eq_true rfl) (by rw [LX_len, hn]; show _ < n + 358; omega)
  rw [LX_set hn] at q34
  exact q34
set_option maxHeartbeats 8000000 in
set_option maxRecDepth 100000 in
theorem kX11_init {G : GG} {L : List LE} {M : MM} {a n : Nat} (hn : L.length = n) (ha : L[a]? = some (0, 11, List.replicate (clN 11) none)) (hg : gd L M) : CI G xX11_init [.ref (gA G a)] L M (LX L a (eX11_init a n) (sX11_init a n)) (mX11_init M a n) := by
  have han : a < L.length := (List.getElem?_eq_some_iff.mp ha).1
  have han2 : a < n := by omega
  have q0 : gd (LX L a (0, 11, List.replicate (clN 11) none) []) M := by rw [LX_start ha]; exact hg
  refine CI_of (by decide +kernel) (Nat.le_of_ble_eq_true rfl) ?_
  rw [hn]
  obtain ⟨γ, hγ⟩ : ∃ γ, γ = gA G := ⟨_, rfl⟩
  have K : VV (gS G γ) xX11_init (ZI G xX11_init n (LX L a (eX11_init a n) (sX11_init a n)) (mX11_init M a n)) (LX L a (0, 11, List.replicate (clN 11) none) []) M 0 0 0 [(0, .ref (γ a))] [] := ?_
  · rw [LX_start ha, hγ] at K; exact K
  refine r_aload_n (pc := 0) (i := 0) dX11_init_0 rfl 0 rfl ?_
  refine r_objI (pc := 1) (γ := γ) (tb_i 163 (by decide +kernel) (by decide +kernel)) (tb_i 164 (by decide +kernel) (by decide +kernel)) (tb_i 165 (by decide +kernel) (by decide +kernel)) ⟨Nat.le_of_ble_eq_true rfl, Nat.le_of_ble_eq_true rfl⟩ dX11_init_1 ?_
  refine r_aload_n (pc := 4) (i := 0) dX11_init_4 rfl 0 rfl ?_
  refine r_newO (pc := 5) (γ := γ) (lvf := fun g => [(0, .ref (g a))]) (stf := fun g => [.ref (g a)]) (n := n + 0) cf_9 (tb_i 166 (by decide +kernel) (by decide +kernel)) (tb_i 167 (by decide +kernel) (by decide +kernel)) (tb_i 140 (by decide +kernel) (by decide +kernel)) (by rw [LX_len, hn]; rfl) q0.1 (fun z => q0.2 _ (by rw [LX_len, hn]; exact Nat.le_refl _) z) (nf_all 9 (by decide)) (fun g h => ⟨by rw [h a (by omega)], by rw [h a (by omega)]⟩) ⟨by decide, by decide⟩ dX11_init_5 (fun g1 h1 => ?_)
  rw [LX_push]
  have q1 := gd_push (q := 0) (n := 9) (m := clN 9) q0
  rw [LX_push] at q1
  have k1 : ∀ z, z < n → g1 z = gA G z := fun z hz => (h1 z (by omega)).trans (by rw [hγ])
  refine r_dup (pc := 8) dX11_init_8 rfl ?_
  refine r_callI (pc := 9) (γ := g1) (lvf := fun g => [(0, .ref (g a))]) (stf := fun g => [.ref (g (n + 0)), .ref (g a)]) (b := n + 0) (As := []) (fun _ _ _ _ _ _ _ _ _ h => h) ci_X11_init_9 (kX9_init (G := gS G g1) (a := n + 0) (n := n + 1) (by rw [LX_len, hn]; rfl) (LX_at hn rfl) q1) (fun g h => ⟨by rw [h a (by rw [LX_len, hn]; show _ < n + 1; omega)], by rw [h a (by rw [LX_len, hn]; show _ < n + 1; omega), h (n + 0) (by rw [LX_len, hn]; show _ < n + 1; omega)]⟩) rfl (Nat.le_of_ble_eq_true rfl) ⟨by decide, by decide⟩ dX11_init_9 (fun g2 h2 => ?_)
  rw [LX_LX hn]
  have q2 := oX9_init (a := n + 0) (n := n + 1) (by rw [LX_len, hn]; rfl) (LX_at hn rfl) q1
  rw [LX_LX hn] at q2
  have k2 : ∀ z, z < n → g2 z = gA G z := fun z hz => (h2 z (by rw [LX_len, hn]; show z < n + 1; omega)).trans (k1 z hz)
  refine r_putRF (pc := 12) (γ := g2) (a := a) (b := (n + 0)) fc_11_10 rfl rfl (LX_this han) (Nat.le_of_ble_eq_true rfl) (fun C T h => by rw [cf_own cf_11 h]; rfl) dX11_init_12 ?_
  rw [LX_put han]
  have q3 := gd_ref (a := a) (k := 0) (b := (n + 0)) q2 (LX_this han) (Nat.le_of_ble_eq_true rfl) (by rw [LX_len, hn]; show _ < n + 76; omega)
  rw [LX_put han] at q3
  refine r_aload_n (pc := 15) (i := 0) dX11_init_15 rfl 0 rfl ?_
  refine r_iconst (pc := 16) (v := 3) dX11_init_16 (by decide +kernel) ?_
  refine r_newQ9 (pc := 17) (γ := g2) (lvf := fun g => [(0, .ref (g a))]) (stf := fun g => [.ref (g a)]) (n := n + 76) (N := 3) (tb_i 166 (by decide +kernel) (by decide +kernel)) rfl wc_3 rfl (by decide) (by rw [LX_len, hn]; rfl) q3.1 (fun g h => ⟨by rw [h a (by omega)], by rw [h a (by omega)]⟩) ⟨by decide, by decide⟩ dX11_init_17 (fun g3 h3 => ?_)
  rw [LX_push]
  have q4 := gd_push (q := 9) (n := 3) (m := 3) q3
  rw [LX_push] at q4
  have k3 : ∀ z, z < n → g3 z = gA G z := fun z hz => (h3 z (by omega)).trans (k2 z hz)
  refine r_putRF (pc := 20) (γ := g3) (a := a) (b := (n + 76)) fc_11_16 rfl rfl (LX_this han) (Nat.le_of_ble_eq_true rfl) (fun C T h => by rw [cf_own cf_11 h]; rfl) dX11_init_20 ?_
  rw [LX_put han]
  have q5 := gd_ref (a := a) (k := 1) (b := (n + 76)) q4 (LX_this han) (Nat.le_of_ble_eq_true rfl) (by rw [LX_len, hn]; show _ < n + 77; omega)
  rw [LX_put han] at q5
  refine r_aload_n (pc := 23) (i := 0) dX11_init_23 rfl 0 rfl ?_
  refine r_iconst (pc := 24) (v := 3) dX11_init_24 (by decide +kernel) ?_
  refine r_newA4 (pc := 25) (γ := g3) (lvf := fun g => [(0, .ref (g a))]) (stf := fun g => [.ref (g a)]) (n := n + 77) (N := 3) (tb_i 462 (by decide +kernel) (by decide +kernel)) wc_3 rfl (by decide) (by rw [LX_len, hn]; rfl) q5.1 (fun z => q5.2 _ (by rw [LX_len, hn]; exact Nat.le_refl _) z) (fun g h => ⟨by rw [h a (by omega)], by rw [h a (by omega)]⟩) ⟨by decide, by decide⟩ dX11_init_25 (fun g4 h4 => ?_)
  rw [LX_push]
  have q6 := gd_nil (q := 4) (n := 3) q5
  rw [LX_push] at q6
  have k4 : ∀ z, z < n → g4 z = gA G z := fun z hz => (h4 z (by omega)).trans (k3 z hz)
  refine r_putRF (pc := 27) (γ := g4) (a := a) (b := (n + 77)) fc_11_20 rfl rfl (LX_this han) (Nat.le_of_ble_eq_true rfl) (fun C T h => by rw [cf_own cf_11 h]; rfl) dX11_init_27 ?_
  rw [LX_put han]
  have q7 := gd_ref (a := a) (k := 2) (b := (n + 77)) q6 (LX_this han) (Nat.le_of_ble_eq_true rfl) (by rw [LX_len, hn]; show _ < n + 78; omega)
  rw [LX_put han] at q7
  refine r_aload_n (pc := 30) (i := 0) dX11_init_30 rfl 0 rfl ?_
  refine r_newO (pc := 31) (γ := g4) (lvf := fun g => [(0, .ref (g a))]) (stf := fun g => [.ref (g a)]) (n := n + 78) cf_7 (tb_i 401 (by decide +kernel) (by decide +kernel)) (tb_i 402 (by decide +kernel) (by decide +kernel)) (tb_i 146 (by decide +kernel) (by decide +kernel)) (by rw [LX_len, hn]; rfl) q7.1 (fun z => q7.2 _ (by rw [LX_len, hn]; exact Nat.le_refl _) z) (nf_all 7 (by decide)) (fun g h => ⟨by rw [h a (by omega)], by rw [h a (by omega)]⟩) ⟨by decide, by decide⟩ dX11_init_31 (fun g5 h5 => ?_)
  rw [LX_push]
  have q8 := gd_push (q := 0) (n := 7) (m := clN 7) q7
  rw [LX_push] at q8
  have k5 : ∀ z, z < n → g5 z = gA G z := fun z hz => (h5 z (by omega)).trans (k4 z hz)
  refine r_dup (pc := 34) dX11_init_34 rfl ?_
  refine r_callI (pc := 35) (γ := g5) (lvf := fun g => [(0, .ref (g a))]) (stf := fun g => [.ref (g (n + 78)), .ref (g a)]) (b := n + 78) (As := []) (fun _ _ _ _ _ _ _ _ _ h => h) ci_X11_init_26 (kX7_init (G := gS G g5) (a := n + 78) (n := n + 79) (by rw [LX_len, hn]; rfl) (LX_at hn rfl) q8) (fun g h => ⟨by rw [h a (by rw [LX_len, hn]; show _ < n + 79; omega)], by rw [h a (by rw [LX_len, hn]; show _ < n + 79; omega), h (n + 78) (by rw [LX_len, hn]; show _ < n + 79; omega)]⟩) rfl (Nat.le_of_ble_eq_true rfl) ⟨by decide, by decide⟩ dX11_init_35 (fun g6 h6 => ?_)
  rw [LX_LX hn]
  have q9 := oX7_init (a := n + 78) (n := n + 79) (by rw [LX_len, hn]; rfl) (LX_at hn rfl) q8
  rw [LX_LX hn] at q9
  have k6 : ∀ z, z < n → g6 z = gA G z := fun z hz => (h6 z (by rw [LX_len, hn]; show z < n + 79; omega)).trans (k5 z hz)
  refine r_putRF (pc := 38) (γ := g6) (a := a) (b := (n + 78)) fc_11_27 rfl rfl (LX_this han) (Nat.le_of_ble_eq_true rfl) (fun C T h => by rw [cf_own cf_11 h]; rfl) dX11_init_38 ?_
  rw [LX_put han]
  have q10 := gd_ref (a := a) (k := 3) (b := (n + 78)) q9 (LX_this han) (Nat.le_of_ble_eq_true rfl) (by rw [LX_len, hn]; show _ < n + 114; omega)
  rw [LX_put han] at q10
  refine r_aload_n (pc := 41) (i := 0) dX11_init_41 rfl 0 rfl ?_
  refine r_newO (pc := 42) (γ := g6) (lvf := fun g => [(0, .ref (g a))]) (stf := fun g => [.ref (g a)]) (n := n + 114) cf_6 (tb_i 463 (by decide +kernel) (by decide +kernel)) (tb_i 464 (by decide +kernel) (by decide +kernel)) (tb_i 147 (by decide +kernel) (by decide +kernel)) (by rw [LX_len, hn]; rfl) q10.1 (fun z => q10.2 _ (by rw [LX_len, hn]; exact Nat.le_refl _) z) (nf_all 6 (by decide)) (fun g h => ⟨by rw [h a (by omega)], by rw [h a (by omega)]⟩) ⟨by decide, by decide⟩ dX11_init_42 (fun g7 h7 => ?_)
  rw [LX_push]
  have q11 := gd_push (q := 0) (n := 6) (m := clN 6) q10
  rw [LX_push] at q11
  have k7 : ∀ z, z < n → g7 z = gA G z := fun z hz => (h7 z (by omega)).trans (k6 z hz)
  refine r_dup (pc := 45) dX11_init_45 rfl ?_
  refine r_callI (pc := 46) (γ := g7) (lvf := fun g => [(0, .ref (g a))]) (stf := fun g => [.ref (g (n + 114)), .ref (g a)]) (b := n + 114) (As := []) (fun _ _ _ _ _ _ _ _ _ h => h) ci_X11_init_33 (kX6_init (G := gS G g7) (a := n + 114) (n := n + 115) (by rw [LX_len, hn]; rfl) (LX_at hn rfl) q11) (fun g h => ⟨by rw [h a (by rw [LX_len, hn]; show _ < n + 115; omega)], by rw [h a (by rw [LX_len, hn]; show _ < n + 115; omega), h (n + 114) (by rw [LX_len, hn]; show _ < n + 115; omega)]⟩) rfl (Nat.le_of_ble_eq_true rfl) ⟨by decide, by decide⟩ dX11_init_46 (fun g8 h8 => ?_)
  rw [LX_LX hn]
  have q12 := oX6_init (a := n + 114) (n := n + 115) (by rw [LX_len, hn]; rfl) (LX_at hn rfl) q11
  rw [LX_LX hn] at q12
  have k8 : ∀ z, z < n → g8 z = gA G z := fun z hz => (h8 z (by rw [LX_len, hn]; show z < n + 115; omega)).trans (k7 z hz)
  refine r_putRF (pc := 49) (γ := g8) (a := a) (b := (n + 114)) fc_11_34 rfl rfl (LX_this han) (Nat.le_of_ble_eq_true rfl) (fun C T h => by rw [cf_own cf_11 h]; rfl) dX11_init_49 ?_
  rw [LX_put han]
  have q13 := gd_ref (a := a) (k := 4) (b := (n + 114)) q12 (LX_this han) (Nat.le_of_ble_eq_true rfl) (by rw [LX_len, hn]; show _ < n + 118; omega)
  rw [LX_put han] at q13
  refine r_aload_n (pc := 52) (i := 0) dX11_init_52 rfl 0 rfl ?_
  refine r_newO (pc := 53) (γ := g8) (lvf := fun g => [(0, .ref (g a))]) (stf := fun g => [.ref (g a)]) (n := n + 118) cf_2 (tb_i 512 (by decide +kernel) (by decide +kernel)) (tb_i 513 (by decide +kernel) (by decide +kernel)) (tb_i 148 (by decide +kernel) (by decide +kernel)) (by rw [LX_len, hn]; rfl) q13.1 (fun z => q13.2 _ (by rw [LX_len, hn]; exact Nat.le_refl _) z) (nf_all 2 (by decide)) (fun g h => ⟨by rw [h a (by omega)], by rw [h a (by omega)]⟩) ⟨by decide, by decide⟩ dX11_init_53 (fun g9 h9 => ?_)
  rw [LX_push]
  have q14 := gd_push (q := 0) (n := 2) (m := clN 2) q13
  rw [LX_push] at q14
  have k9 : ∀ z, z < n → g9 z = gA G z := fun z hz => (h9 z (by omega)).trans (k8 z hz)
  refine r_dup (pc := 56) dX11_init_56 rfl ?_
  refine r_callI (pc := 57) (γ := g9) (lvf := fun g => [(0, .ref (g a))]) (stf := fun g => [.ref (g (n + 118)), .ref (g a)]) (b := n + 118) (As := []) (fun _ _ _ _ _ _ _ _ _ h => h) ci_X11_init_40 (kX2_init (G := gS G g9) (a := n + 118) (n := n + 119) (by rw [LX_len, hn]; rfl) (LX_at hn rfl) q14) (fun g h => ⟨by rw [h a (by rw [LX_len, hn]; show _ < n + 119; omega)], by rw [h a (by rw [LX_len, hn]; show _ < n + 119; omega), h (n + 118) (by rw [LX_len, hn]; show _ < n + 119; omega)]⟩) rfl (Nat.le_of_ble_eq_true rfl) ⟨by decide, by decide⟩ dX11_init_57 (fun g10 h10 => ?_)
  rw [LX_LX hn]
  have q15 := oX2_init (a := n + 118) (n := n + 119) (by rw [LX_len, hn]; rfl) (LX_at hn rfl) q14
  rw [LX_LX hn] at q15
  have k10 : ∀ z, z < n → g10 z = gA G z := fun z hz => (h10 z (by rw [LX_len, hn]; show z < n + 119; omega)).trans (k9 z hz)
  refine r_putRF (pc := 60) (γ := g10) (a := a) (b := (n + 118)) fc_11_41 rfl rfl (LX_this han) (Nat.le_of_ble_eq_true rfl) (fun C T h => by rw [cf_own cf_11 h]; rfl) dX11_init_60 ?_
  rw [LX_put han]
  have q16 := gd_ref (a := a) (k := 5) (b := (n + 118)) q15 (LX_this han) (Nat.le_of_ble_eq_true rfl) (by rw [LX_len, hn]; show _ < n + 120; omega)
  rw [LX_put han] at q16
  refine r_aload_n (pc := 63) (i := 0) dX11_init_63 rfl 0 rfl ?_
  refine r_newO (pc := 64) (γ := g10) (lvf := fun g => [(0, .ref (g a))]) (stf := fun g => [.ref (g a)]) (n := n + 120) cf_4 (tb_i 528 (by decide +kernel) (by decide +kernel)) (tb_i 529 (by decide +kernel) (by decide +kernel)) (tb_i 149 (by decide +kernel) (by decide +kernel)) (by rw [LX_len, hn]; rfl) q16.1 (fun z => q16.2 _ (by rw [LX_len, hn]; exact Nat.le_refl _) z) (nf_all 4 (by decide)) (fun g h => ⟨by rw [h a (by omega)], by rw [h a (by omega)]⟩) ⟨by decide, by decide⟩ dX11_init_64 (fun g11 h11 => ?_)
  rw [LX_push]
  have q17 := gd_push (q := 0) (n := 4) (m := clN 4) q16
  rw [LX_push] at q17
  have k11 : ∀ z, z < n → g11 z = gA G z := fun z hz => (h11 z (by omega)).trans (k10 z hz)
  refine r_dup (pc := 67) dX11_init_67 rfl ?_
  refine r_callI (pc := 68) (γ := g11) (lvf := fun g => [(0, .ref (g a))]) (stf := fun g => [.ref (g (n + 120)), .ref (g a)]) (b := n + 120) (As := []) (fun _ _ _ _ _ _ _ _ _ h => h) ci_X11_init_47 (kX4_init (G := gS G g11) (a := n + 120) (n := n + 121) (by rw [LX_len, hn]; rfl) (LX_at hn rfl) q17) (fun g h => ⟨by rw [h a (by rw [LX_len, hn]; show _ < n + 121; omega)], by rw [h a (by rw [LX_len, hn]; show _ < n + 121; omega), h (n + 120) (by rw [LX_len, hn]; show _ < n + 121; omega)]⟩) rfl (Nat.le_of_ble_eq_true rfl) ⟨by decide, by decide⟩ dX11_init_68 (fun g12 h12 => ?_)
  rw [LX_LX hn]
  have q18 := oX4_init (a := n + 120) (n := n + 121) (by rw [LX_len, hn]; rfl) (LX_at hn rfl) q17
  rw [LX_LX hn] at q18
  have k12 : ∀ z, z < n → g12 z = gA G z := fun z hz => (h12 z (by rw [LX_len, hn]; show z < n + 121; omega)).trans (k11 z hz)
  refine r_putRF (pc := 71) (γ := g12) (a := a) (b := (n + 120)) fc_11_48 rfl rfl (LX_this han) (Nat.le_of_ble_eq_true rfl) (fun C T h => by rw [cf_own cf_11 h]; rfl) dX11_init_71 ?_
  rw [LX_put han]
  have q19 := gd_ref (a := a) (k := 6) (b := (n + 120)) q18 (LX_this han) (Nat.le_of_ble_eq_true rfl) (by rw [LX_len, hn]; show _ < n + 126; omega)
  rw [LX_put han] at q19
  refine r_aload_n (pc := 74) (i := 0) dX11_init_74 rfl 0 rfl ?_
  refine r_newO (pc := 75) (γ := g12) (lvf := fun g => [(0, .ref (g a))]) (stf := fun g => [.ref (g a)]) (n := n + 126) cf_10 (tb_i 550 (by decide +kernel) (by decide +kernel)) (tb_i 551 (by decide +kernel) (by decide +kernel)) (tb_i 150 (by decide +kernel) (by decide +kernel)) (by rw [LX_len, hn]; rfl) q19.1 (fun z => q19.2 _ (by rw [LX_len, hn]; exact Nat.le_refl _) z) (nf_all 10 (by decide)) (fun g h => ⟨by rw [h a (by omega)], by rw [h a (by omega)]⟩) ⟨by decide, by decide⟩ dX11_init_75 (fun g13 h13 => ?_)
  rw [LX_push]
  have q20 := gd_push (q := 0) (n := 10) (m := clN 10) q19
  rw [LX_push] at q20
  have k13 : ∀ z, z < n → g13 z = gA G z := fun z hz => (h13 z (by omega)).trans (k12 z hz)
  refine r_dup (pc := 78) dX11_init_78 rfl ?_
  refine r_callI (pc := 79) (γ := g13) (lvf := fun g => [(0, .ref (g a))]) (stf := fun g => [.ref (g (n + 126)), .ref (g a)]) (b := n + 126) (As := []) (fun _ _ _ _ _ _ _ _ _ h => h) ci_X11_init_54 (kX10_init (G := gS G g13) (a := n + 126) (n := n + 127) (by rw [LX_len, hn]; rfl) (LX_at hn rfl) q20) (fun g h => ⟨by rw [h a (by rw [LX_len, hn]; show _ < n + 127; omega)], by rw [h a (by rw [LX_len, hn]; show _ < n + 127; omega), h (n + 126) (by rw [LX_len, hn]; show _ < n + 127; omega)]⟩) rfl (Nat.le_of_ble_eq_true rfl) ⟨by decide, by decide⟩ dX11_init_79 (fun g14 h14 => ?_)
  rw [LX_LX hn]
  have q21 := oX10_init (a := n + 126) (n := n + 127) (by rw [LX_len, hn]; rfl) (LX_at hn rfl) q20
  rw [LX_LX hn] at q21
  have k14 : ∀ z, z < n → g14 z = gA G z := fun z hz => (h14 z (by rw [LX_len, hn]; show z < n + 127; omega)).trans (k13 z hz)
  refine r_putRF (pc := 82) (γ := g14) (a := a) (b := (n + 126)) fc_11_55 rfl rfl (LX_this han) (Nat.le_of_ble_eq_true rfl) (fun C T h => by rw [cf_own cf_11 h]; rfl) dX11_init_82 ?_
  rw [LX_put han]
  have q22 := gd_ref (a := a) (k := 7) (b := (n + 126)) q21 (LX_this han) (Nat.le_of_ble_eq_true rfl) (by rw [LX_len, hn]; show _ < n + 129; omega)
  rw [LX_put han] at q22
  refine r_aload_n (pc := 85) (i := 0) dX11_init_85 rfl 0 rfl ?_
  refine r_newO (pc := 86) (γ := g14) (lvf := fun g => [(0, .ref (g a))]) (stf := fun g => [.ref (g a)]) (n := n + 129) cf_0 (tb_i 564 (by decide +kernel) (by decide +kernel)) (tb_i 565 (by decide +kernel) (by decide +kernel)) (tb_i 151 (by decide +kernel) (by decide +kernel)) (by rw [LX_len, hn]; rfl) q22.1 (fun z => q22.2 _ (by rw [LX_len, hn]; exact Nat.le_refl _) z) (nf_all 0 (by decide)) (fun g h => ⟨by rw [h a (by omega)], by rw [h a (by omega)]⟩) ⟨by decide, by decide⟩ dX11_init_86 (fun g15 h15 => ?_)
  rw [LX_push]
  have q23 := gd_push (q := 0) (n := 0) (m := clN 0) q22
  rw [LX_push] at q23
  have k15 : ∀ z, z < n → g15 z = gA G z := fun z hz => (h15 z (by omega)).trans (k14 z hz)
  refine r_dup (pc := 89) dX11_init_89 rfl ?_
  refine r_callI (pc := 90) (γ := g15) (lvf := fun g => [(0, .ref (g a))]) (stf := fun g => [.ref (g (n + 129)), .ref (g a)]) (b := n + 129) (As := []) (fun _ _ _ _ _ _ _ _ _ h => h) ci_X11_init_61 (kX0_init (G := gS G g15) (a := n + 129) (n := n + 130) (by rw [LX_len, hn]; rfl) (LX_at hn rfl) q23) (fun g h => ⟨by rw [h a (by rw [LX_len, hn]; show _ < n + 130; omega)], by rw [h a (by rw [LX_len, hn]; show _ < n + 130; omega), h (n + 129) (by rw [LX_len, hn]; show _ < n + 130; omega)]⟩) rfl (Nat.le_of_ble_eq_true rfl) ⟨by decide, by decide⟩ dX11_init_90 (fun g16 h16 => ?_)
  rw [LX_LX hn]
  have q24 := oX0_init (a := n + 129) (n := n + 130) (by rw [LX_len, hn]; rfl) (LX_at hn rfl) q23
  rw [LX_LX hn] at q24
  have k16 : ∀ z, z < n → g16 z = gA G z := fun z hz => (h16 z (by rw [LX_len, hn]; show z < n + 130; omega)).trans (k15 z hz)
  refine r_putRF (pc := 93) (γ := g16) (a := a) (b := (n + 129)) fc_11_62 rfl rfl (LX_this han) (Nat.le_of_ble_eq_true rfl) (fun C T h => by rw [cf_own cf_11 h]; rfl) dX11_init_93 ?_
  rw [LX_put han]
  have q25 := gd_ref (a := a) (k := 8) (b := (n + 129)) q24 (LX_this han) (Nat.le_of_ble_eq_true rfl) (by rw [LX_len, hn]; show _ < n + 130; omega)
  rw [LX_put han] at q25
  refine r_iconst (pc := 96) (v := 0) dX11_init_96 (by decide +kernel) ?_
  refine r_istore_n (pc := 97) (i := 1) (lv' := [(1, .int (eI 0)), (0, .ref (g16 a))]) dX11_init_97 rfl (Nat.le_of_ble_eq_true rfl) rfl ?_
  refine r_iload_n (pc := 98) (i := 1) dX11_init_98 rfl 0 rfl ?_
  refine r_iconst (pc := 99) (v := 3) dX11_init_99 (by decide +kernel) ?_
  refine r_icmp_ge (pc := 100) (tgt := 122) dX11_init_100 (by decide) wc_0 wc_3 (fun c => absurd c (by decide)) (fun _ => ?_)
  refine r_aload_n (pc := 103) (i := 0) dX11_init_103 rfl 1 rfl ?_
  refine r_getR (pc := 104) (a := a) (b := (n + 76)) fc_11_16 rfl ⟨_, LX_this han⟩ ⟨_, LX_this han, rfl⟩ dX11_init_104 ?_
  refine r_iload_n (pc := 107) (i := 1) dX11_init_107 rfl 0 rfl ?_
  refine r_newO (pc := 108) (γ := g16) (lvf := fun g => [(1, .int (eI 0)), (0, .ref (g a))]) (stf := fun g => [.int (eI 0), .ref (g (n + 76))]) (n := n + 130) cf_9 (tb_i 166 (by decide +kernel) (by decide +kernel)) (tb_i 167 (by decide +kernel) (by decide +kernel)) (tb_i 140 (by decide +kernel) (by decide +kernel)) (by rw [LX_len, hn]; rfl) q25.1 (fun z => q25.2 _ (by rw [LX_len, hn]; exact Nat.le_refl _) z) (nf_all 9 (by decide)) (fun g h => ⟨by rw [h a (by omega)], by rw [h (n + 76) (by omega)]⟩) ⟨by decide, by decide⟩ dX11_init_108 (fun g17 h17 => ?_)
  rw [LX_push]
  have q26 := gd_push (q := 0) (n := 9) (m := clN 9) q25
  rw [LX_push] at q26
  have k17 : ∀ z, z < n → g17 z = gA G z := fun z hz => (h17 z (by omega)).trans (k16 z hz)
  refine r_dup (pc := 111) dX11_init_111 rfl ?_
  refine r_callI (pc := 112) (γ := g17) (lvf := fun g => [(1, .int (eI 0)), (0, .ref (g a))]) (stf := fun g => [.ref (g (n + 130)), .int (eI 0), .ref (g (n + 76))]) (b := n + 130) (As := []) (fun _ _ _ _ _ _ _ _ _ h => h) ci_X11_init_9 (kX9_init (G := gS G g17) (a := n + 130) (n := n + 131) (by rw [LX_len, hn]; rfl) (LX_at hn rfl) q26) (fun g h => ⟨by rw [h a (by rw [LX_len, hn]; show _ < n + 131; omega)], by rw [h (n + 76) (by rw [LX_len, hn]; show _ < n + 131; omega), h (n + 130) (by rw [LX_len, hn]; show _ < n + 131; omega)]⟩) rfl (Nat.le_of_ble_eq_true rfl) ⟨by decide, by decide⟩ dX11_init_112 (fun g18 h18 => ?_)
  rw [LX_LX hn]
  have q27 := oX9_init (a := n + 130) (n := n + 131) (by rw [LX_len, hn]; rfl) (LX_at hn rfl) q26
  rw [LX_LX hn] at q27
  have k18 : ∀ z, z < n → g18 z = gA G z := fun z hz => (h18 z (by rw [LX_len, hn]; show z < n + 131; omega)).trans (k17 z hz)
  refine r_aast9 (pc := 115) (γ := g18) (a := n + 76) (b := n + 130) (LX_at hn rfl) (LX_at hn rfl) wc_0 ⟨by decide, by decide⟩ rfl (Nat.le_of_ble_eq_true rfl) dX11_init_115 ?_
  rw [LX_set hn]
  have q28 := gd_ref (a := n + 76) (k := 0) (b := n + 130) q27 (LX_at hn rfl) (Nat.le_of_ble_eq_true rfl) (by rw [LX_len, hn]; show _ < n + 206; omega)
  rw [LX_set hn] at q28
  refine r_iinc (pc := 116) (y := 1) (lv' := [(1, .int (eI 1)), (0, .ref (g18 a))]) dX11_init_116 0 rfl (by decide) (Nat.le_of_ble_eq_true rfl) rfl ?_
  refine r_goto (pc := 119) (tgt := 98) dX11_init_119 (by decide) ?_
  refine r_iload_n (pc := 98) (i := 1) dX11_init_98 rfl 0 rfl ?_
  refine r_iconst (pc := 99) (v := 3) dX11_init_99 (by decide +kernel) ?_
  refine r_icmp_ge (pc := 100) (tgt := 122) dX11_init_100 (by decide) wc_1 wc_3 (fun c => absurd c (by decide)) (fun _ => ?_)
  refine r_aload_n (pc := 103) (i := 0) dX11_init_103 rfl 1 rfl ?_
  refine r_getR (pc := 104) (a := a) (b := (n + 76)) fc_11_16 rfl ⟨_, LX_this han⟩ ⟨_, LX_this han, rfl⟩ dX11_init_104 ?_
  refine r_iload_n (pc := 107) (i := 1) dX11_init_107 rfl 0 rfl ?_
  refine r_newO (pc := 108) (γ := g18) (lvf := fun g => [(1, .int (eI 1)), (0, .ref (g a))]) (stf := fun g => [.int (eI 1), .ref (g (n + 76))]) (n := n + 206) cf_9 (tb_i 166 (by decide +kernel) (by decide +kernel)) (tb_i 167 (by decide +kernel) (by decide +kernel)) (tb_i 140 (by decide +kernel) (by decide +kernel)) (by rw [LX_len, hn]; rfl) q28.1 (fun z => q28.2 _ (by rw [LX_len, hn]; exact Nat.le_refl _) z) (nf_all 9 (by decide)) (fun g h => ⟨by rw [h a (by omega)], by rw [h (n + 76) (by omega)]⟩) ⟨by decide, by decide⟩ dX11_init_108 (fun g19 h19 => ?_)
  rw [LX_push]
  have q29 := gd_push (q := 0) (n := 9) (m := clN 9) q28
  rw [LX_push] at q29
  have k19 : ∀ z, z < n → g19 z = gA G z := fun z hz => (h19 z (by omega)).trans (k18 z hz)
  refine r_dup (pc := 111) dX11_init_111 rfl ?_
  refine r_callI (pc := 112) (γ := g19) (lvf := fun g => [(1, .int (eI 1)), (0, .ref (g a))]) (stf := fun g => [.ref (g (n + 206)), .int (eI 1), .ref (g (n + 76))]) (b := n + 206) (As := []) (fun _ _ _ _ _ _ _ _ _ h => h) ci_X11_init_9 (kX9_init (G := gS G g19) (a := n + 206) (n := n + 207) (by rw [LX_len, hn]; rfl) (LX_at hn rfl) q29) (fun g h => ⟨by rw [h a (by rw [LX_len, hn]; show _ < n + 207; omega)], by rw [h (n + 76) (by rw [LX_len, hn]; show _ < n + 207; omega), h (n + 206) (by rw [LX_len, hn]; show _ < n + 207; omega)]⟩) rfl (Nat.le_of_ble_eq_true rfl) ⟨by decide, by decide⟩ dX11_init_112 (fun g20 h20 => ?_)
  rw [LX_LX hn]
  have q30 := oX9_init (a := n + 206) (n := n + 207) (by rw [LX_len, hn]; rfl) (LX_at hn rfl) q29
  rw [LX_LX hn] at q30
  have k20 : ∀ z, z < n → g20 z = gA G z := fun z hz => (h20 z (by rw [LX_len, hn]; show z < n + 207; omega)).trans (k19 z hz)
  refine r_aast9 (pc := 115) (γ := g20) (a := n + 76) (b := n + 206) (LX_at hn rfl) (LX_at hn rfl) wc_1 ⟨by decide, by decide⟩ rfl (Nat.le_of_ble_eq_true rfl) dX11_init_115 ?_
  rw [LX_set hn]
  have q31 := gd_ref (a := n + 76) (k := 1) (b := n + 206) q30 (LX_at hn rfl) (Nat.le_of_ble_eq_true rfl) (by rw [LX_len, hn]; show _ < n + 282; omega)
  rw [LX_set hn] at q31
  refine r_iinc (pc := 116) (y := 2) (lv' := [(1, .int (eI 2)), (0, .ref (g20 a))]) dX11_init_116 0 rfl (by decide) (Nat.le_of_ble_eq_true rfl) rfl ?_
  refine r_goto (pc := 119) (tgt := 98) dX11_init_119 (by decide) ?_
  refine r_iload_n (pc := 98) (i := 1) dX11_init_98 rfl 0 rfl ?_
  refine r_iconst (pc := 99) (v := 3) dX11_init_99 (by decide +kernel) ?_
  refine r_icmp_ge (pc := 100) (tgt := 122) dX11_init_100 (by decide) wc_2 wc_3 (fun c => absurd c (by decide)) (fun _ => ?_)
  refine r_aload_n (pc := 103) (i := 0) dX11_init_103 rfl 1 rfl ?_
  refine r_getR (pc := 104) (a := a) (b := (n + 76)) fc_11_16 rfl ⟨_, LX_this han⟩ ⟨_, LX_this han, rfl⟩ dX11_init_104 ?_
  refine r_iload_n (pc := 107) (i := 1) dX11_init_107 rfl 0 rfl ?_
  refine r_newO (pc := 108) (γ := g20) (lvf := fun g => [(1, .int (eI 2)), (0, .ref (g a))]) (stf := fun g => [.int (eI 2), .ref (g (n + 76))]) (n := n + 282) cf_9 (tb_i 166 (by decide +kernel) (by decide +kernel)) (tb_i 167 (by decide +kernel) (by decide +kernel)) (tb_i 140 (by decide +kernel) (by decide +kernel)) (by rw [LX_len, hn]; rfl) q31.1 (fun z => q31.2 _ (by rw [LX_len, hn]; exact Nat.le_refl _) z) (nf_all 9 (by decide)) (fun g h => ⟨by rw [h a (by omega)], by rw [h (n + 76) (by omega)]⟩) ⟨by decide, by decide⟩ dX11_init_108 (fun g21 h21 => ?_)
  rw [LX_push]
  have q32 := gd_push (q := 0) (n := 9) (m := clN 9) q31
  rw [LX_push] at q32
  have k21 : ∀ z, z < n → g21 z = gA G z := fun z hz => (h21 z (by omega)).trans (k20 z hz)
  refine r_dup (pc := 111) dX11_init_111 rfl ?_
  refine r_callI (pc := 112) (γ := g21) (lvf := fun g => [(1, .int (eI 2)), (0, .ref (g a))]) (stf := fun g => [.ref (g (n + 282)), .int (eI 2), .ref (g (n + 76))]) (b := n + 282) (As := []) (fun _ _ _ _ _ _ _ _ _ h => h) ci_X11_init_9 (kX9_init (G := gS G g21) (a := n + 282) (n := n + 283) (by rw [LX_len, hn]; rfl) (LX_at hn rfl) q32) (fun g h => ⟨by rw [h a (by rw [LX_len, hn]; show _ < n + 283; omega)], by rw [h (n + 76) (by rw [LX_len, hn]; show _ < n + 283; omega), h (n + 282) (by rw [LX_len, hn]; show _ < n + 283; omega)]⟩) rfl (Nat.le_of_ble_eq_true rfl) ⟨by decide, by decide⟩ dX11_init_112 (fun g22 h22 => ?_)
  rw [LX_LX hn]
  have q33 := oX9_init (a := n + 282) (n := n + 283) (by rw [LX_len, hn]; rfl) (LX_at hn rfl) q32
  rw [LX_LX hn] at q33
  have k22 : ∀ z, z < n → g22 z = gA G z := fun z hz => (h22 z (by rw [LX_len, hn]; show z < n + 283; omega)).trans (k21 z hz)
  refine r_aast9 (pc := 115) (γ := g22) (a := n + 76) (b := n + 282) (LX_at hn rfl) (LX_at hn rfl) wc_2 ⟨by decide, by decide⟩ rfl (Nat.le_of_ble_eq_true rfl) dX11_init_115 ?_
  rw [LX_set hn]
  have q34 := gd_ref (a := n + 76) (k := 2) (b := n + 282) q33 (LX_at hn rfl) (Nat.le_of_ble_eq_true rfl) (by rw [LX_len, hn]; show _ < n + 358; omega)
  rw [LX_set hn] at q34
  refine r_iinc (pc := 116) (y := 3) (lv' := [(1, .int (eI 3)), (0, .ref (g22 a))]) dX11_init_116 0 rfl (by decide) (Nat.le_of_ble_eq_true rfl) rfl ?_
  refine r_goto (pc := 119) (tgt := 98) dX11_init_119 (by decide) ?_
  refine r_iload_n (pc := 98) (i := 1) dX11_init_98 rfl 0 rfl ?_
  refine r_iconst (pc := 99) (v := 3) dX11_init_99 (by decide +kernel) ?_
  refine r_icmp_ge (pc := 100) (tgt := 122) dX11_init_100 (by decide) wc_3 wc_3 (fun _ => ?_) (fun c => absurd (by decide) c)
  exact r_vretI (pc := 122) (γ := g22) k22 rfl (by decide) (by decide) dX11_init_122
theorem wc_2400 : wI 2400 = 2400 := by decide +kernel
theorem fc_12_7 : FG RX12 7 12 1 (clT 12 1) true := ⟨RX12, TX12, cf_12, by decide, tb_i 1406 (by decide +kernel) (by decide +kernel), rfl, rfl, rfl⟩
theorem fc_12_13 : FG RX12 13 12 2 (clT 12 2) true := ⟨RX12, TX12, cf_12, by decide, tb_i 1407 (by decide +kernel) (by decide +kernel), rfl, rfl, rfl⟩
theorem fc_12_17 : FG RX12 17 12 3 (clT 12 3) true := ⟨RX12, TX12, cf_12, by decide, tb_i 1408 (by decide +kernel) (by decide +kernel), rfl, rfl, rfl⟩
theorem fc_12_20 : FG RX12 20 12 4 (clT 12 4) true := ⟨RX12, TX12, cf_12, by decide, tb_i 1409 (by decide +kernel) (by decide +kernel), rfl, rfl, rfl⟩
theorem wc_20 : wI 20 = 20 := by decide +kernel
theorem fc_12_23 : FG RX12 23 12 5 (clT 12 5) true := ⟨RX12, TX12, cf_12, by decide, tb_i 1410 (by decide +kernel) (by decide +kernel), rfl, rfl, rfl⟩
theorem wc_1056 : wI 1056 = 1056 := by decide +kernel
theorem fc_12_26 : FG RX12 26 12 6 (clT 12 6) true := ⟨RX12, TX12, cf_12, by decide, tb_i 1411 (by decide +kernel) (by decide +kernel), rfl, rfl, rfl⟩
theorem wc_968 : wI 968 = 968 := by decide +kernel
theorem fc_12_29 : FG RX12 29 12 7 (clT 12 7) true := ⟨RX12, TX12, cf_12, by decide, tb_i 1412 (by decide +kernel) (by decide +kernel), rfl, rfl, rfl⟩
theorem wc_264 : wI 264 = 264 := by decide +kernel
theorem fc_12_32 : FG RX12 32 12 8 (clT 12 8) true := ⟨RX12, TX12, cf_12, by decide, tb_i 1413 (by decide +kernel) (by decide +kernel), rfl, rfl, rfl⟩
theorem wc_408 : wI 408 = 408 := by decide +kernel
theorem fc_12_35 : FG RX12 35 12 9 (clT 12 9) true := ⟨RX12, TX12, cf_12, by decide, tb_i 1414 (by decide +kernel) (by decide +kernel), rfl, rfl, rfl⟩
theorem wc_776 : wI 776 = 776 := by decide +kernel
theorem fc_12_38 : FG RX12 38 12 10 (clT 12 10) true := ⟨RX12, TX12, cf_12, by decide, tb_i 1415 (by decide +kernel) (by decide +kernel), rfl, rfl, rfl⟩
theorem wc_132 : wI 132 = 132 := by decide +kernel
theorem fc_12_41 : FG RX12 41 12 20 (clT 12 20) true := ⟨RX12, TX12, cf_12, by decide, tb_i 1425 (by decide +kernel) (by decide +kernel), rfl, rfl, rfl⟩
theorem fc_12_44 : FG RX12 44 12 21 (clT 12 21) true := ⟨RX12, TX12, cf_12, by decide, tb_i 1426 (by decide +kernel) (by decide +kernel), rfl, rfl, rfl⟩
theorem fc_12_47 : FG RX12 47 12 40 (clT 12 40) true := ⟨RX12, TX12, cf_12, by decide, tb_i 1445 (by decide +kernel) (by decide +kernel), rfl, rfl, rfl⟩
theorem fc_12_50 : FG RX12 50 12 41 (clT 12 41) true := ⟨RX12, TX12, cf_12, by decide, tb_i 1446 (by decide +kernel) (by decide +kernel), rfl, rfl, rfl⟩
theorem wc_40 : wI 40 = 40 := by decide +kernel
theorem fc_12_53 : FG RX12 53 12 42 (clT 12 42) true := ⟨RX12, TX12, cf_12, by decide, tb_i 1447 (by decide +kernel) (by decide +kernel), rfl, rfl, rfl⟩
theorem fc_12_56 : FG RX12 56 12 43 (clT 12 43) true := ⟨RX12, TX12, cf_12, by decide, tb_i 1448 (by decide +kernel) (by decide +kernel), rfl, rfl, rfl⟩
theorem fc_12_59 : FG RX12 59 12 44 (clT 12 44) true := ⟨RX12, TX12, cf_12, by decide, tb_i 1449 (by decide +kernel) (by decide +kernel), rfl, rfl, rfl⟩
theorem fc_12_62 : FG RX12 62 12 45 (clT 12 45) true := ⟨RX12, TX12, cf_12, by decide, tb_i 1450 (by decide +kernel) (by decide +kernel), rfl, rfl, rfl⟩
theorem fc_12_65 : FG RX12 65 12 47 (clT 12 47) true := ⟨RX12, TX12, cf_12, by decide, tb_i 1452 (by decide +kernel) (by decide +kernel), rfl, rfl, rfl⟩
theorem wc_542 : wI 542 = 542 := by decide +kernel
theorem fc_12_69 : FG RX12 69 12 49 (clT 12 49) true := ⟨RX12, TX12, cf_12, by decide, tb_i 1454 (by decide +kernel) (by decide +kernel), rfl, rfl, rfl⟩
theorem fc_12_72 : FG RX12 72 12 50 (clT 12 50) true := ⟨RX12, TX12, cf_12, by decide, tb_i 1455 (by decide +kernel) (by decide +kernel), rfl, rfl, rfl⟩
theorem fc_12_75 : FG RX12 75 12 51 (clT 12 51) true := ⟨RX12, TX12, cf_12, by decide, tb_i 1456 (by decide +kernel) (by decide +kernel), rfl, rfl, rfl⟩
theorem fc_12_78 : FG RX12 78 12 52 (clT 12 52) true := ⟨RX12, TX12, cf_12, by decide, tb_i 1457 (by decide +kernel) (by decide +kernel), rfl, rfl, rfl⟩
theorem fc_12_81 : FG RX12 81 12 57 (clT 12 57) true := ⟨RX12, TX12, cf_12, by decide, tb_i 1462 (by decide +kernel) (by decide +kernel), rfl, rfl, rfl⟩
theorem fc_12_84 : FG RX12 84 12 59 (clT 12 59) true := ⟨RX12, TX12, cf_12, by decide, tb_i 1464 (by decide +kernel) (by decide +kernel), rfl, rfl, rfl⟩
theorem fc_12_87 : FG RX12 87 12 61 (clT 12 61) true := ⟨RX12, TX12, cf_12, by decide, tb_i 1466 (by decide +kernel) (by decide +kernel), rfl, rfl, rfl⟩
theorem fc_12_90 : FG RX12 90 12 62 (clT 12 62) true := ⟨RX12, TX12, cf_12, by decide, tb_i 1467 (by decide +kernel) (by decide +kernel), rfl, rfl, rfl⟩
theorem fc_12_93 : FG RX12 93 12 67 (clT 12 67) true := ⟨RX12, TX12, cf_12, by decide, tb_i 1472 (by decide +kernel) (by decide +kernel), rfl, rfl, rfl⟩
