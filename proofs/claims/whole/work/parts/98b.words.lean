/-- the words of the start, one by one -/
def FL : List Cond := flatC (Jvm.Cond.and given_1 narrow_1)
def tS (i : Nat) : Term := .string RX11 (kIx.getD i 0)
def tV (i : Nat) : Term := .field (tS i) "java/lang/String" "value" "[B"
def tA (j : Nat) : Term := .static RX11 (sN j) (sD j)
def nL : List (List Int32) := [[112, 97, 114, 116], [99, 104, 105, 108, 100], [99, 101, 108, 108], [102, 114, 105, 101, 110, 100], [102, 111, 101], [116, 117, 114, 110, 101, 100], [114, 105, 110, 103], [98, 108, 111, 119, 115], [108, 105, 102, 116], [115, 119, 101, 101, 116, 115], [98, 97, 110, 100, 97, 103, 101], [115, 116, 105, 99, 107], [103, 111], [102, 97, 99, 101], [115, 116, 114, 105, 107, 101], [117, 112], [100, 111, 119, 110], [99, 117, 116], [115, 97, 121, 115], [97, 105, 114], [103, 114, 97, 122, 101], [115, 113, 117, 97, 114, 101], [116, 114, 117, 116, 104], [102, 101, 108, 108], [116, 114, 117, 101], [102, 97, 108, 115, 101], [104, 105, 116], [109, 105, 115, 115]]
def nN : List Nat := [4, 5, 4, 6, 3, 6, 4, 5, 4, 6, 7, 5, 2, 4, 6, 2, 4, 3, 4, 3, 5, 6, 5, 4, 4, 5, 3, 4]
theorem kb_e : kByt = nL := by decide +kernel
theorem kl_e : kLen = nN := by decide +kernel
def wA (j : Nat) : List Cond := .arrayOf (tA j) (sY j) :: .eq (.length (tA j)) (.int (Int32.ofNat (sT j).length)) :: (List.range (sT j).length).map (fun k => if j = 4 then .eq (.elem (tA j) (.int (Int32.ofNat k))) (.long (eJ ((sT j).getD k 0))) else .eq (.elem (tA j) (.int (Int32.ofNat k))) (.int (eI ((sT j).getD k 0))))
def wS (i : Nat) : List Cond := .exactly (tS i) "java/lang/String" :: .eq (.field (tS i) "java/lang/String" "coder" "B") (.int 0) :: .arrayOf (tV i) .byte :: .eq (.length (tV i)) (.int (Int32.ofNat (nN.getD i 0))) :: (List.range (nN.getD i 0)).map (fun j => .eq (.elem (tV i) (.int (Int32.ofNat j))) (.int ((nL.getD i []).getD j 0)))
theorem sg_m {X Y : List Cond} {b n : Nat} (h : (X.drop b).take n = Y) : ∀ w, w ∈ Y → w ∈ X := fun w hw => List.mem_of_mem_drop (List.mem_of_mem_take (h ▸ hw))
theorem sg_0 : (FL.drop 5).take 8 = wA 0 := by decide +kernel
theorem sg_1 : (FL.drop 19).take 30 = wA 1 := by decide +kernel
theorem sg_2 : (FL.drop 50).take 114 = wA 2 := by decide +kernel
theorem sg_3 : (FL.drop 165).take 114 = wA 3 := by decide +kernel
theorem sg_4 : (FL.drop 280).take 18 = wA 4 := by decide +kernel
theorem sg_5 : (FL.drop 363).take 235 = (List.range 28).flatMap wS := by decide +kernel
theorem sg_6 : (lw_tbl.drop 684).take 28 = (List.range 28).map (fun i => .stringRef RX11 (kIx.getD i 0) (kTx.getD i "")) := by decide +kernel
theorem wA_m (j : Nat) (hj : j < 5) : ∀ w, w ∈ wA j → w ∈ FL := by
  rcases (show j = 0 ∨ j = 1 ∨ j = 2 ∨ j = 3 ∨ j = 4 by omega) with rfl | rfl | rfl | rfl | rfl
  · exact sg_m sg_0
  · exact sg_m sg_1
  · exact sg_m sg_2
  · exact sg_m sg_3
  · exact sg_m sg_4
theorem wS_m (i : Nat) (hi : i < 28) : ∀ w, w ∈ wS i → w ∈ FL := fun w hw => sg_m sg_5 w (List.mem_flatMap.mpr ⟨i, List.mem_range.mpr hi, hw⟩)
theorem st_4 : ∀ i, i < 28 → nN.getD i 0 < 100 := by decide +kernel
theorem st_5 : ∀ i, i < 28 → ∀ j, j < 28 → nN.getD i 0 = nN.getD j 0 → (∀ k, k < nN.getD i 0 → (nL.getD i []).getD k 0 = (nL.getD j []).getD k 0) → i = j := by decide +kernel
theorem sp_4 : lw_tbl[680]? = some (.laysStatic RX11 (sN 0) (sD 0)) ∧ lw_tbl[777]? = some (.laysStatic RX11 (sN 1) (sD 1)) ∧ lw_tbl[783]? = some (.laysStatic RX11 (sN 2) (sD 2)) ∧ lw_tbl[785]? = some (.laysStatic RX11 (sN 3) (sD 3)) ∧ lw_tbl[1076]? = some (.laysStatic RX11 (sN 4) (sD 4)) := by decide +kernel
theorem sp_5 : (lw_tbl[725]? = some (.laysStatic "java/lang/String" "COMPACT_STRINGS" "Z") ∧ lw_tbl[153]? = some (.initialized "java/lang/String")) ∧ lw_tbl[741]? = some (.laysStatic "jdk/internal/util/Preconditions" "SIOOBE_FORMATTER" "Ljava/util/function/BiFunction;") ∧ lw_tbl[155]? = some (.initialized "jdk/internal/util/Preconditions") := by decide +kernel
theorem sp_9 : (FL.drop 13).take 2 = [.eq (.static "java/lang/String" "COMPACT_STRINGS" "Z") (.int 1), .isRef (.static "jdk/internal/util/Preconditions" "SIOOBE_FORMATTER" "Ljava/util/function/BiFunction;")] := by decide +kernel
theorem sp_6 : lw_tbl[139]? = some (.initialized RX11) := by decide +kernel
theorem sp_7 : lw_tbl[177]? = some (.arrayOver (.object RX1)) ∧ lw_tbl[175]? = some (.arrayOver (.object RX3)) ∧ lw_tbl[173]? = some (.arrayOver (.object RX5)) ∧ lw_tbl[179]? = some (.arrayOver (.object RX8)) ∧ lw_tbl[400]? = some (.arrayOver (.object RX9)) := by decide +kernel
theorem sp_8 : lw_tbl[277]? = some (.arrayClass .int) ∧ lw_tbl[527]? = some (.arrayClass .long) ∧ lw_tbl[276]? = some (.arrayClass .byte) ∧ lw_tbl[462]? = some (.arrayClass .boolean) := by decide +kernel
