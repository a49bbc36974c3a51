/-! Resolution tables: fields and constants of the classes' pools, by places in the Statement's tables. -/
def jTX (c : Nat) : u_T := match c with
  | 0 => TX0
  | 1 => TX1
  | 2 => TX2
  | 3 => TX3
  | 4 => TX4
  | 5 => TX5
  | 6 => TX6
  | 7 => TX7
  | 8 => TX8
  | 9 => TX9
  | 10 => TX10
  | 11 => TX11
  | _ => TX12
def jTN (c : Nat) : Nat := match c with
  | 0 => 1
  | 1 => 2
  | 2 => 1
  | 3 => 9
  | 4 => 2
  | 5 => 4
  | 6 => 9
  | 7 => 4
  | 8 => 6
  | 9 => 10
  | 10 => 12
  | 11 => 19
  | _ => 33
def jTy (c : Nat) : Nat → FieldType := match c with
  | 0 => tyX0
  | 1 => tyX1
  | 2 => tyX2
  | 3 => tyX3
  | 4 => tyX4
  | 5 => tyX5
  | 6 => tyX6
  | 7 => tyX7
  | 8 => tyX8
  | 9 => tyX9
  | 10 => tyX10
  | 11 => tyX11
  | _ => tyX12
def jCn (c : Nat) : String := match c with
  | 0 => RX0
  | 1 => RX1
  | 2 => RX2
  | 3 => RX3
  | 4 => RX4
  | 5 => RX5
  | 6 => RX6
  | 7 => RX7
  | 8 => RX8
  | 9 => RX9
  | 10 => RX10
  | 11 => RX11
  | 12 => RX12
  | 13 => RL
  | 14 => RJ0
  | 15 => RJ1
  | 16 => RJ3
  | 17 => RJ6
  | _ => RL
theorem jCl_at : ∀ c, c < 13 → vwCl[c]? = some (jCn c, jTX c, jTN c) := by
  intro c hc
  match c, hc with
  | 0, _ => rfl
  | 1, _ => rfl
  | 2, _ => rfl
  | 3, _ => rfl
  | 4, _ => rfl
  | 5, _ => rfl
  | 6, _ => rfl
  | 7, _ => rfl
  | 8, _ => rfl
  | 9, _ => rfl
  | 10, _ => rfl
  | 11, _ => rfl
  | 12, _ => rfl
theorem jCl_of {c : Nat} {r : vw_C} (h : vwCl[c]? = some r) : c < 13 ∧ r = (jCn c, jTX c, jTN c) := by
  have hc : c < 13 := (List.getElem?_eq_some_iff.mp h).1
  exact ⟨hc, Option.some.inj (h.symm.trans (jCl_at c hc))⟩
theorem jTy_ok : ∀ c, c < 13 → ∀ k, k < jTN c → parseFieldDescriptor (jTX c k).2.2.1 = some (jTy c k) := by
  intro c hc
  match c, hc with
  | 0, _ => exact tyX0_ok
  | 1, _ => exact tyX1_ok
  | 2, _ => exact tyX2_ok
  | 3, _ => exact tyX3_ok
  | 4, _ => exact tyX4_ok
  | 5, _ => exact tyX5_ok
  | 6, _ => exact tyX6_ok
  | 7, _ => exact tyX7_ok
  | 8, _ => exact tyX8_ok
  | 9, _ => exact tyX9_ok
  | 10, _ => exact tyX10_ok
  | 11, _ => exact tyX11_ok
  | 12, _ => exact tyX12_ok
theorem jNm_ok : ∀ c, c < 13 → ∀ a, a < jTN c → ∀ b, b < jTN c → a ≠ b → (jTX c a).2.1 ≠ (jTX c b).2.1 := by
  intro c hc
  match c, hc with
  | 0, _ => exact nmX0
  | 1, _ => exact nmX1
  | 2, _ => exact nmX2
  | 3, _ => exact nmX3
  | 4, _ => exact nmX4
  | 5, _ => exact nmX5
  | 6, _ => exact nmX6
  | 7, _ => exact nmX7
  | 8, _ => exact nmX8
  | 9, _ => exact nmX9
  | 10, _ => exact nmX10
  | 11, _ => exact nmX11
  | 12, _ => exact nmX12
theorem jTO_ok : ∀ c, c < 13 → ∀ k, k < jTN c → (jTX c k).1 = jCn c := by decide +kernel
theorem jLay_tbl : ∀ c, c < 13 → ∀ w ∈ u_ws (jCn c) (jTX c) (jTN c), w ∈ tables_1 ∧ goodWord w = true := by decide +kernel
theorem jTbl {w : Cond} (h : w ∈ tables_1) : w ∈ lw_tbl := List.mem_append_right _ h
theorem jLay_U (c : Nat) (hc : c < 13) : ∀ w ∈ u_ws (jCn c) (jTX c) (jTN c), w ∈ jU := fun w hw => jU_mem (jTbl (jLay_tbl c hc w hw).1) (jLay_tbl c hc w hw).2
/-- fields: (class of the code, pool index, class of the field, its slot, nest mate) -/
def jFT : List (Nat × Nat × Nat × Nat × Bool) := [(8, 9, 8, 0, false), (11, 99, 8, 1, true), (8, 15, 8, 1, false), (2, 31, 8, 2, true), (0, 34, 8, 2, true), (8, 28, 8, 2, false), (0, 31, 8, 3, true), (2, 34, 8, 3, true), (8, 25, 8, 3, false), (8, 19, 8, 4, false), (8, 31, 8, 5, false), (0, 89, 8, 5, true), (2, 84, 8, 5, true), (4, 9, 4, 0, false), (0, 18, 4, 1, true), (4, 15, 4, 1, false), (10, 26, 4, 1, true), (3, 40, 4, 1, true), (11, 136, 4, 1, true), (0, 12, 0, 0, false), (11, 120, 0, 0, true), (1, 9, 1, 0, false), (1, 15, 1, 1, false), (2, 18, 1, 1, true), (11, 374, 1, 1, true), (2, 12, 2, 0, false), (11, 144, 2, 0, true), (5, 9, 5, 0, false), (7, 30, 5, 0, true), (11, 219, 5, 0, true), (5, 15, 5, 1, false), (7, 33, 5, 1, true), (11, 222, 5, 1, true), (5, 18, 5, 2, false), (7, 42, 5, 2, true), (11, 225, 5, 2, true), (5, 21, 5, 3, false), (7, 25, 5, 3, true), (11, 173, 5, 3, true), (9, 9, 9, 0, false), (11, 190, 9, 0, true), (9, 24, 9, 1, false), (11, 187, 9, 1, true), (9, 28, 9, 2, false), (11, 319, 9, 2, true), (9, 31, 9, 3, false), (11, 452, 9, 3, true), (9, 34, 9, 4, false), (11, 200, 9, 4, true), (9, 37, 9, 5, false), (11, 394, 9, 5, true), (9, 15, 9, 6, false), (11, 433, 9, 6, true), (9, 18, 9, 7, false), (11, 436, 9, 7, true), (9, 21, 9, 8, false), (11, 439, 9, 8, true), (9, 40, 9, 9, false), (11, 428, 9, 9, true), (6, 12, 6, 0, false), (11, 127, 6, 0, true), (6, 18, 6, 1, false), (11, 117, 6, 1, true), (6, 24, 6, 2, false), (11, 169, 6, 2, true), (6, 31, 6, 3, false), (11, 140, 6, 3, true), (6, 38, 6, 4, false), (11, 151, 6, 4, true), (6, 42, 6, 5, false), (11, 343, 6, 5, true), (6, 46, 6, 6, false), (6, 54, 6, 7, false), (11, 130, 6, 7, true), (6, 50, 6, 8, false), (11, 351, 6, 8, true), (10, 9, 10, 0, false), (10, 15, 10, 1, false), (10, 53, 10, 2, false), (10, 59, 10, 3, false), (10, 62, 10, 4, false), (10, 18, 10, 5, false), (11, 278, 10, 5, true), (10, 91, 10, 6, false), (11, 281, 10, 6, true), (10, 35, 10, 7, false), (7, 45, 10, 7, true), (10, 38, 10, 8, false), (11, 228, 10, 8, true), (10, 56, 10, 9, false), (7, 47, 10, 9, true), (11, 231, 10, 9, true), (10, 50, 10, 10, false), (10, 31, 10, 11, false), (7, 9, 7, 0, false), (11, 275, 7, 0, true), (7, 15, 7, 1, false), (7, 18, 7, 2, false), (11, 247, 7, 2, true), (7, 22, 7, 3, false), (11, 244, 7, 3, true), (3, 9, 3, 0, false), (11, 287, 3, 0, true), (3, 15, 3, 1, false), (11, 290, 3, 1, true), (3, 18, 3, 2, false), (3, 21, 3, 3, false), (3, 24, 3, 4, false), (3, 27, 3, 5, false), (3, 37, 3, 6, false), (11, 284, 3, 6, true), (3, 30, 3, 7, false), (11, 335, 3, 7, true), (3, 34, 3, 8, false), (11, 338, 3, 8, true), (11, 12, 11, 0, false), (11, 16, 11, 1, false), (11, 23, 11, 2, false), (11, 30, 11, 3, false), (11, 37, 11, 4, false), (11, 41, 11, 5, false), (11, 445, 11, 6, false), (11, 47, 11, 7, false), (11, 54, 11, 8, false), (11, 61, 11, 9, false), (11, 65, 11, 10, false), (11, 71, 11, 11, false), (11, 75, 11, 12, false), (11, 78, 11, 13, false), (11, 82, 11, 14, false), (11, 86, 11, 15, false), (11, 89, 11, 16, false), (11, 92, 11, 17, false), (11, 95, 11, 18, false), (12, 3, 12, 0, false), (12, 13, 12, 1, false), (12, 17, 12, 2, false), (12, 75, 12, 3, false), (12, 20, 12, 4, false), (12, 79, 12, 5, false), (12, 85, 12, 6, false), (12, 82, 12, 7, false), (12, 92, 12, 8, false), (12, 177, 12, 9, false), (12, 24, 12, 10, false), (12, 27, 12, 11, false), (12, 30, 12, 12, false), (12, 164, 12, 13, false), (12, 33, 12, 14, false), (12, 36, 12, 15, false), (12, 39, 12, 16, false), (12, 42, 12, 17, false), (12, 45, 12, 18, false), (12, 222, 12, 19, false), (12, 225, 12, 20, false), (12, 228, 12, 21, false), (12, 48, 12, 22, false), (12, 51, 12, 23, false), (12, 54, 12, 24, false), (12, 57, 12, 25, false), (12, 290, 12, 26, false), (12, 60, 12, 27, false), (12, 374, 12, 28, false), (12, 63, 12, 29, false), (12, 66, 12, 30, false), (12, 69, 12, 31, false), (12, 72, 12, 32, false)]
def jFTp : List Nat := [42, 43, 44, 45, 46, 47, 48, 49, 50, 51, 52, 53, 54, 81, 82, 83, 84, 85, 86, 92, 93, 109, 110, 111, 112, 118, 119, 137, 138, 139, 140, 141, 142, 143, 144, 145, 146, 147, 148, 166, 167, 168, 169, 170, 171, 172, 173, 174, 175, 176, 177, 178, 179, 180, 181, 182, 183, 184, 185, 208, 209, 210, 211, 212, 213, 214, 215, 216, 217, 218, 219, 220, 221, 222, 223, 224, 250, 251, 252, 253, 254, 255, 256, 257, 258, 259, 260, 261, 262, 263, 264, 265, 266, 267, 299, 300, 301, 302, 303, 304, 305, 321, 322, 323, 324, 325, 326, 327, 328, 329, 330, 331, 332, 333, 334, 356, 357, 358, 359, 360, 361, 362, 363, 364, 365, 366, 367, 368, 369, 370, 371, 372, 373, 374, 1271, 1272, 1273, 1274, 1275, 1276, 1277, 1278, 1279, 1280, 1281, 1282, 1283, 1284, 1285, 1286, 1287, 1288, 1289, 1290, 1291, 1292, 1293, 1294, 1295, 1296, 1297, 1298, 1299, 1300, 1301, 1302, 1303]
def jFw (e : Nat × Nat × Nat × Nat × Bool) : Cond := if e.2.2.2.2 = true then .fieldLinkNest (jCn e.1) e.2.1 (jCn e.2.2.1) (jTX e.2.2.1 e.2.2.2.1).2.1 (jTX e.2.2.1 e.2.2.2.1).2.2.1 "MendBench" else .fieldLink (jCn e.1) e.2.1 (jCn e.2.2.1) (jTX e.2.2.1 e.2.2.2.1).2.1 (jTX e.2.2.1 e.2.2.2.1).2.2.1
theorem jFT_ok0 : (List.zip jFT jFTp).all (fun e => decide (tables_1[e.2]? = some (jFw e.1))) = true := by decide +kernel
theorem jFT_sz : jFT.all (fun e => decide (e.2.2.1 < 13 ∧ e.2.2.2.1 < jTN e.2.2.1)) = true := by decide +kernel
theorem jFT_len : jFT.length = jFTp.length := by decide +kernel
theorem jFT_mem {e : Nat × Nat × Nat × Nat × Bool} (h : e ∈ jFT) : jFw e ∈ lw_tbl ∧ e.2.2.1 < 13 ∧ e.2.2.2.1 < jTN e.2.2.1 := by
  obtain ⟨i, hi⟩ := List.getElem?_of_mem h
  have hl : i < jFTp.length := by rw [← jFT_len]; exact (List.getElem?_eq_some_iff.mp hi).1
  have hz : (e, jFTp[i]) ∈ List.zip jFT jFTp := by
    refine List.mem_of_getElem? (i := i) ?_
    rw [List.getElem?_zip_eq_some]
    exact ⟨hi, List.getElem?_eq_getElem hl⟩
  have h1 := List.all_eq_true.mp jFT_ok0 _ hz
  have h2 := List.all_eq_true.mp jFT_sz _ h
  exact ⟨jTbl (List.mem_of_getElem? (of_decide_eq_true h1)), of_decide_eq_true h2⟩
/-- constants -/
def jCT : List (String × Nat × Int32) := [(jCn 10, 112, 2000001), (jCn 10, 117, 2000002), (jCn 11, 166, 999999), (jCn 10, 49, 2000003), (jCn 11, 456, -16646145), (jCn 11, 455, -122881), (jCn 11, 457, -251658241), ("java/lang/Intege\x72", 265, 1431655765), ("java/lang/Intege\x72", 266, 858993459), ("java/lang/Intege\x72", 267, 252645135), (jCn 11, 165, -999999), (jCn 12, 231, 2000003), (jCn 12, 346, -999999), (jCn 12, 205, 999999)]
def jCTp : List Nat := [539, 542, 546, 550, 597, 611, 623, 671, 672, 673, 931, 1519, 1673, 1674]
theorem jCT_ok0 : (List.zip jCT jCTp).all (fun e => decide (tables_1[e.2]? = some (.constant e.1.1 e.1.2.1 e.1.2.2))) = true := by decide +kernel
def jCLT : List (String × Nat × Int64) := [(jCn 10, 113, 999999), (jCn 10, 115, -999999), (jCn 12, 214, 2000001), (jCn 12, 216, 999999), (jCn 12, 218, -999999), (jCn 12, 220, 2000002)]
def jCLTp : List Nat := [540, 541, 1535, 1536, 1537, 1538]
theorem jCLT_ok0 : (List.zip jCLT jCLTp).all (fun e => decide (tables_1[e.2]? = some (.constantLong e.1.1 e.1.2.1 e.1.2.2))) = true := by decide +kernel
theorem jCT_mem {e : String × Nat × Int32} (h : e ∈ jCT) : Cond.constant e.1 e.2.1 e.2.2 ∈ lw_tbl := by
  obtain ⟨i, hi⟩ := List.getElem?_of_mem h
  have hl0 : jCT.length = jCTp.length := by decide +kernel
  have hl : i < jCTp.length := by rw [← hl0]; exact (List.getElem?_eq_some_iff.mp hi).1
  have hz : (e, jCTp[i]) ∈ List.zip jCT jCTp := by
    refine List.mem_of_getElem? (i := i) ?_
    rw [List.getElem?_zip_eq_some]
    exact ⟨hi, List.getElem?_eq_getElem hl⟩
  exact jTbl (List.mem_of_getElem? (of_decide_eq_true (List.all_eq_true.mp jCT_ok0 _ hz)))
theorem jCLT_mem {e : String × Nat × Int64} (h : e ∈ jCLT) : Cond.constantLong e.1 e.2.1 e.2.2 ∈ lw_tbl := by
  obtain ⟨i, hi⟩ := List.getElem?_of_mem h
  have hl0 : jCLT.length = jCLTp.length := by decide +kernel
  have hl : i < jCLTp.length := by rw [← hl0]; exact (List.getElem?_eq_some_iff.mp hi).1
  have hz : (e, jCLTp[i]) ∈ List.zip jCLT jCLTp := by
    refine List.mem_of_getElem? (i := i) ?_
    rw [List.getElem?_zip_eq_some]
    exact ⟨hi, List.getElem?_eq_getElem hl⟩
  exact jTbl (List.mem_of_getElem? (of_decide_eq_true (List.all_eq_true.mp jCLT_ok0 _ hz)))
