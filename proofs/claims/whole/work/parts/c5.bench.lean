/-! MendBench's constructor. -/
section CONS5
variable {sc : Nat × (Nat → Int32)} {h : jH} {S : List (Nat × Nat × Nat)}
theorem d0_new : ∀ j, j < jTN 0 → (if jrefs 0 j = true then Value.null else .int 0) = defaultValue (jTy 0 j) := fun j hj => by
  match j, hj with
  | 0, _ => rfl
theorem d2_new : ∀ j, j < jTN 2 → (if jrefs 2 j = true then Value.null else .int 0) = defaultValue (jTy 2 j) := fun j hj => by
  match j, hj with
  | 0, _ => rfl
theorem d3_new : ∀ j, j < jTN 3 → (if jrefs 3 j = true then Value.null else .int 0) = defaultValue (jTy 3 j) := fun j hj => by
  match j, hj with
  | 0, _ => rfl
  | 1, _ => rfl
  | 2, _ => rfl
  | 3, _ => rfl
  | 4, _ => rfl
  | 5, _ => rfl
  | 6, _ => rfl
  | 7, _ => rfl
  | 8, _ => rfl
theorem d6_new : ∀ j, j < jTN 6 → (if jrefs 6 j = true then Value.null else .int 0) = defaultValue (jTy 6 j) := fun j hj => by
  match j, hj with
  | 0, _ => rfl
  | 1, _ => rfl
  | 2, _ => rfl
  | 3, _ => rfl
  | 4, _ => rfl
  | 5, _ => rfl
  | 6, _ => rfl
  | 7, _ => rfl
  | 8, _ => rfl
theorem d7_new : ∀ j, j < jTN 7 → (if jrefs 7 j = true then Value.null else .int 0) = defaultValue (jTy 7 j) := fun j hj => by
  match j, hj with
  | 0, _ => rfl
  | 1, _ => rfl
  | 2, _ => rfl
  | 3, _ => rfl
theorem d8_new : ∀ j, j < jTN 8 → (if jrefs 8 j = true then Value.null else .int 0) = defaultValue (jTy 8 j) := fun j hj => by
  match j, hj with
  | 0, _ => rfl
  | 1, _ => rfl
  | 2, _ => rfl
  | 3, _ => rfl
  | 4, _ => rfl
  | 5, _ => rfl
theorem d10_new : ∀ j, j < jTN 10 → (if jrefs 10 j = true then Value.null else .int 0) = defaultValue (jTy 10 j) := fun j hj => by
  match j, hj with
  | 0, _ => rfl
  | 1, _ => rfl
  | 2, _ => rfl
  | 3, _ => rfl
  | 4, _ => rfl
  | 5, _ => rfl
  | 6, _ => rfl
  | 7, _ => rfl
  | 8, _ => rfl
  | 9, _ => rfl
  | 10, _ => rfl
  | 11, _ => rfl

def nX11 : jM := (yX11_init, cX11_init, 2, none, 4, 158, 9102, [], 11)
theorem knX11 : jlk (jcw nX11) := jlkT (jtb1 32 rfl) rfl
theorem snX11 : ∀ w ∈ ([.instanceMethod (mY nX11), .initialized (mY nX11).cls] : List Cond), jlk w := j2 (jlkT (jtb1 31 rfl) rfl) (jlkT (jtb1 1 rfl) rfl)
def t11_0 (S : List (Nat × Nat × Nat)) : List (Nat × Nat × Nat) := (0, 0, 1) :: (1, 0, 2) :: S
def t11_15 (S : List (Nat × Nat × Nat)) : List (Nat × Nat × Nat) := S
def t11_20 (S : List (Nat × Nat × Nat)) : List (Nat × Nat × Nat) := (0, 2, 3) :: (3, 0, 4) :: (4, 0, 5) :: S
def t11_31 (S : List (Nat × Nat × Nat)) : List (Nat × Nat × Nat) := (0, 3, 6) :: (6, 0, 7) :: (7, 0, 8) :: S
def t11_42 (S : List (Nat × Nat × Nat)) : List (Nat × Nat × Nat) := (0, 4, 9) :: (26, 5, 37) :: (37, 0, 38) :: (26, 4, 35) :: (35, 0, 36) :: (26, 3, 33) :: (33, 0, 34) :: (26, 2, 31) :: (31, 0, 32) :: (26, 1, 29) :: (29, 0, 30) :: (26, 0, 27) :: (27, 0, 28) :: (9, 6, 26) :: (9, 5, 25) :: (9, 4, 20) :: (20, 8, 24) :: (20, 7, 23) :: (20, 6, 22) :: (20, 0, 21) :: (9, 3, 18) :: (18, 0, 19) :: (9, 2, 14) :: (14, 2, 17) :: (14, 1, 16) :: (14, 0, 15) :: (9, 1, 12) :: (12, 0, 13) :: (9, 0, 10) :: (10, 0, 11) :: S
def t11_53 (S : List (Nat × Nat × Nat)) : List (Nat × Nat × Nat) := (0, 5, 39) :: (56, 5, 67) :: (67, 0, 68) :: (56, 4, 65) :: (65, 0, 66) :: (56, 3, 63) :: (63, 0, 64) :: (56, 2, 61) :: (61, 0, 62) :: (56, 1, 59) :: (59, 0, 60) :: (56, 0, 57) :: (57, 0, 58) :: (39, 6, 56) :: (39, 5, 55) :: (39, 4, 50) :: (50, 8, 54) :: (50, 7, 53) :: (50, 6, 52) :: (50, 0, 51) :: (39, 3, 48) :: (48, 0, 49) :: (39, 2, 44) :: (44, 2, 47) :: (44, 1, 46) :: (44, 0, 45) :: (39, 1, 42) :: (42, 0, 43) :: (39, 0, 40) :: (40, 0, 41) :: S
def t11_64 (S : List (Nat × Nat × Nat)) : List (Nat × Nat × Nat) := (0, 7, 69) :: (69, 1, 71) :: (69, 0, 70) :: S
def t11_75 (S : List (Nat × Nat × Nat)) : List (Nat × Nat × Nat) := (0, 8, 72) :: (72, 1, 74) :: (72, 0, 73) :: S
def t11_86 (S : List (Nat × Nat × Nat)) : List (Nat × Nat × Nat) := (0, 9, 75) :: (75, 5, 81) :: (75, 4, 80) :: (75, 3, 79) :: (75, 2, 78) :: (75, 1, 77) :: (75, 0, 76) :: S
def t11_97 (S : List (Nat × Nat × Nat)) : List (Nat × Nat × Nat) := (0, 10, 82) :: (82, 5, 88) :: (82, 4, 87) :: (82, 3, 86) :: (82, 2, 85) :: (82, 1, 84) :: (82, 0, 83) :: S
def t11_108 (S : List (Nat × Nat × Nat)) : List (Nat × Nat × Nat) := (0, 11, 89) :: (89, 0, 90) :: S
def t11_119 (S : List (Nat × Nat × Nat)) : List (Nat × Nat × Nat) := (0, 12, 91) :: (91, 0, 92) :: S
def t11_130 (S : List (Nat × Nat × Nat)) : List (Nat × Nat × Nat) := (0, 13, 93) :: S
def t11_139 (S : List (Nat × Nat × Nat)) : List (Nat × Nat × Nat) := (0, 14, 94) :: S
def t11_147 (S : List (Nat × Nat × Nat)) : List (Nat × Nat × Nat) := (0, 15, 95) :: S
def t11_155 (S : List (Nat × Nat × Nat)) : List (Nat × Nat × Nat) := (0, 16, 96) :: S
def t11_164 (S : List (Nat × Nat × Nat)) : List (Nat × Nat × Nat) := (0, 17, 97) :: S
def t11_173 (S : List (Nat × Nat × Nat)) : List (Nat × Nat × Nat) := (0, 18, 98) :: S
def t11_182 (S : List (Nat × Nat × Nat)) : List (Nat × Nat × Nat) := S
def t11_184_0 (S : List (Nat × Nat × Nat)) : List (Nat × Nat × Nat) := (93, 0, 99) :: (99, 0, 100) :: S
def t11_184_1 (S : List (Nat × Nat × Nat)) : List (Nat × Nat × Nat) := (93, 1, 101) :: (101, 0, 102) :: S
def t11_184_2 (S : List (Nat × Nat × Nat)) : List (Nat × Nat × Nat) := (93, 2, 103) :: (103, 0, 104) :: S
def t11_184_3 (S : List (Nat × Nat × Nat)) : List (Nat × Nat × Nat) := (93, 3, 105) :: (105, 0, 106) :: S
def t11_184_4 (S : List (Nat × Nat × Nat)) : List (Nat × Nat × Nat) := (93, 4, 107) :: (107, 0, 108) :: S
def t11_184_5 (S : List (Nat × Nat × Nat)) : List (Nat × Nat × Nat) := (93, 5, 109) :: (109, 0, 110) :: S
def t11_184_6 (S : List (Nat × Nat × Nat)) : List (Nat × Nat × Nat) := (93, 6, 111) :: (111, 0, 112) :: S
def t11_184_7 (S : List (Nat × Nat × Nat)) : List (Nat × Nat × Nat) := (93, 7, 113) :: (113, 0, 114) :: S
def t11_184_8 (S : List (Nat × Nat × Nat)) : List (Nat × Nat × Nat) := (93, 8, 115) :: (115, 0, 116) :: S
def t11_184_9 (S : List (Nat × Nat × Nat)) : List (Nat × Nat × Nat) := (93, 9, 117) :: (117, 0, 118) :: S
def t11_184_10 (S : List (Nat × Nat × Nat)) : List (Nat × Nat × Nat) := (93, 10, 119) :: (119, 0, 120) :: S
def t11_184_11 (S : List (Nat × Nat × Nat)) : List (Nat × Nat × Nat) := (93, 11, 121) :: (121, 0, 122) :: S
def t11_184_12 (S : List (Nat × Nat × Nat)) : List (Nat × Nat × Nat) := (93, 12, 123) :: (123, 0, 124) :: S
def t11_184_13 (S : List (Nat × Nat × Nat)) : List (Nat × Nat × Nat) := (93, 13, 125) :: (125, 0, 126) :: S
def t11_184_14 (S : List (Nat × Nat × Nat)) : List (Nat × Nat × Nat) := (93, 14, 127) :: (127, 0, 128) :: S
def t11_184_15 (S : List (Nat × Nat × Nat)) : List (Nat × Nat × Nat) := (93, 15, 129) :: (129, 0, 130) :: S
def t11_184_16 (S : List (Nat × Nat × Nat)) : List (Nat × Nat × Nat) := (93, 16, 131) :: (131, 0, 132) :: S
def t11_184_17 (S : List (Nat × Nat × Nat)) : List (Nat × Nat × Nat) := (93, 17, 133) :: (133, 0, 134) :: S
def t11_184_18 (S : List (Nat × Nat × Nat)) : List (Nat × Nat × Nat) := (93, 18, 135) :: (135, 0, 136) :: S
def t11_184_19 (S : List (Nat × Nat × Nat)) : List (Nat × Nat × Nat) := (93, 19, 137) :: (137, 0, 138) :: S
def t11_184_20 (S : List (Nat × Nat × Nat)) : List (Nat × Nat × Nat) := (93, 20, 139) :: (139, 0, 140) :: S
def t11_184_21 (S : List (Nat × Nat × Nat)) : List (Nat × Nat × Nat) := (93, 21, 141) :: (141, 0, 142) :: S
def t11_184_22 (S : List (Nat × Nat × Nat)) : List (Nat × Nat × Nat) := (93, 22, 143) :: (143, 0, 144) :: S
def t11_184_23 (S : List (Nat × Nat × Nat)) : List (Nat × Nat × Nat) := (93, 23, 145) :: (145, 0, 146) :: S
def t11_184_24 (S : List (Nat × Nat × Nat)) : List (Nat × Nat × Nat) := (93, 24, 147) :: (147, 0, 148) :: S
def t11_184_25 (S : List (Nat × Nat × Nat)) : List (Nat × Nat × Nat) := (93, 25, 149) :: (149, 0, 150) :: S
def t11_184_26 (S : List (Nat × Nat × Nat)) : List (Nat × Nat × Nat) := (93, 26, 151) :: (151, 0, 152) :: S
def t11_184_27 (S : List (Nat × Nat × Nat)) : List (Nat × Nat × Nat) := (93, 27, 153) :: (153, 0, 154) :: S
def t11_184_28 (S : List (Nat × Nat × Nat)) : List (Nat × Nat × Nat) := (93, 28, 155) :: (155, 0, 156) :: S
def t11_184_29 (S : List (Nat × Nat × Nat)) : List (Nat × Nat × Nat) := (93, 29, 157) :: (157, 0, 158) :: S
set_option maxRecDepth 100000 in
theorem b11_0 {Q : jQ} (ao : jAO) (hz : ∀ c, 0 < c → ∀ j, h c j = 0) (hS : jfree 1 S) (kk : (∀ c, 2 < c → ∀ j, (h) c j = 0) → jfree 3 (t11_0 S) → WP nX11 Q 15 [some (.ref 0), none] [] (jW 3 (t11_0 S) sc) (h) (2, 406)) : WP nX11 Q 0 [some (.ref 0), none] [] (jW 1 S sc) h (0, 0) := by
  have f0 : jfree 1 S := hS
  refine j_aload_n (i := 0) rfl (by decide +kernel) ?_
  refine j_obj (idx := 3) (jlkT (jtb1 33 rfl) rfl) (Nat.le_of_ble_eq_true rfl) (by decide +kernel) ?_
  refine j_aload_n (i := 0) rfl (by decide +kernel) ?_
  refine j_new (idx := 9) (ci := 8) (by decide) rfl (by show 1 < 1000; decide) (show jKt.getD 1 99 = 8 by decide +kernel) (fun j hj => (slotN (show jKt.getD 1 99 = 8 by decide +kernel) (by decide) (fun i => f0 _ _ (by show 1 ≤ 1; decide)) (fun j => hz _ (by show 0 < 1; decide) j)).trans (d8_new j hj)) (jlkT (jtb1 36 rfl) rfl) (jlkT (jtb1 37 rfl) rfl) (jlkT (jtb1 2 rfl) rfl) ⟨Nat.le_of_ble_eq_true rfl, Nat.le_of_ble_eq_true rfl⟩ (by decide +kernel) ?_
  refine j_dup rfl (by decide +kernel) ?_
  refine j_callIN (M' := nX8) (As := []) (r := 1) (n := 0) (nX8_ok (t := 1) (S := S) (by decide) (show jKt.getD 1 99 = 8 by decide +kernel) (show jKt.getD 2 99 = 14 by decide +kernel) (show jLt.getD 2 0 = 400 by decide +kernel) (fun c hc j => hz c (by omega) j)) jmade_nt (jTbl (jtb1 38 rfl)) snX8 knX8 rfl rfl rfl ⟨by decide +kernel, by decide +kernel, by decide +kernel⟩ rfl ⟨by decide, by decide⟩ (Nat.le_of_ble_eq_true rfl) ⟨Nat.le_of_ble_eq_true rfl, Nat.le_of_ble_eq_true rfl⟩ (by decide +kernel) ?_
  rintro r0 _ h ⟨e, rfl, rfl⟩
  cases e
  have f1 : jfree 3 ((1, 0, 2) :: S) := (f0.up (by decide)).put (by decide)
  refine j_putR (idx := 12) (ci := 11) (k := 0) (r := 0) (a := 1) (show (11, 12, 11, 0, false) ∈ jFT by decide +kernel) rfl rfl rfl rfl (fun _ => rfl) (fun _ => rfl) (by show 0 < 3; decide) (show jKt.getD 0 99 = 11 by decide +kernel) (by decide +kernel) ?_
  have f2 : jfree 3 ((0, 0, 1) :: (1, 0, 2) :: S) := (f1.up (by decide)).put (by decide)
  exact kk (fun c hc j => hz c (by omega) j) f2
set_option maxRecDepth 100000 in
theorem b11_15 {Q : jQ} (ao : jAO) (hz : ∀ c, 2 < c → ∀ j, h c j = 0) (hS : jfree 3 S) (kk : (∀ c, 2 < c → ∀ j, (jput (h) 0 1 (-1)) c j = 0) → jfree 3 (t11_15 S) → WP nX11 Q 20 [some (.ref 0), none] [] (jW 3 (t11_15 S) sc) (jput (h) 0 1 (-1)) (2, 406)) : WP nX11 Q 15 [some (.ref 0), none] [] (jW 3 S sc) h (2, 406) := by
  have f0 : jfree 3 S := hS
  refine j_aload_n (i := 0) rfl (by decide +kernel) ?_
  refine j_iconst (n := -1) (-1) (by decide) (by decide +kernel) ?_
  refine j_putI (idx := 16) (ci := 11) (k := 1) (r := 0) (nest := false) (show (11, 16, 11, 1, false) ∈ jFT by decide +kernel) rfl rfl rfl rfl (by show 0 < 3; decide) (show jKt.getD 0 99 = 11 by decide +kernel) (by decide +kernel) ?_
  replace hz : ∀ c, 2 < c → ∀ j, jput (h) 0 1 (-1) c j = 0 := fun c hc j => (congrFun (jput_ne (by omega)) j).trans (hz c (by omega) j)
  exact kk (fun c hc j => hz c (by omega) j) f0
set_option maxRecDepth 100000 in
theorem b11_20 {Q : jQ} (ao : jAO) (hz : ∀ c, 2 < c → ∀ j, h c j = 0) (hS : jfree 3 S) (kk : (∀ c, 5 < c → ∀ j, (h) c j = 0) → jfree 6 (t11_20 S) → WP nX11 Q 31 [some (.ref 0), none] [] (jW 6 (t11_20 S) sc) (h) (5, 419)) : WP nX11 Q 20 [some (.ref 0), none] [] (jW 3 S sc) h (2, 406) := by
  have f0 : jfree 3 S := hS
  refine j_aload_n (i := 0) rfl (by decide +kernel) ?_
  refine j_new (idx := 20) (ci := 0) (by decide) rfl (by show 3 < 1000; decide) (show jKt.getD 3 99 = 0 by decide +kernel) (fun j hj => (slotN (show jKt.getD 3 99 = 0 by decide +kernel) (by decide) (fun i => f0 _ _ (by show 3 ≤ 3; decide)) (fun j => hz _ (by show 2 < 3; decide) j)).trans (d0_new j hj)) (jlkT (jtb1 69 rfl) rfl) (jlkT (jtb1 70 rfl) rfl) (jlkT (jtb1 3 rfl) rfl) ⟨Nat.le_of_ble_eq_true rfl, Nat.le_of_ble_eq_true rfl⟩ (by decide +kernel) ?_
  refine j_dup rfl (by decide +kernel) ?_
  refine j_callIN (M' := nX0) (As := []) (r := 3) (n := 0) (nX0_ok (t := 3) (S := S) (by decide) (show jKt.getD 3 99 = 0 by decide +kernel) (show jKt.getD 4 99 = 4 by decide +kernel) (show jKt.getD 5 99 = 14 by decide +kernel) (show jLt.getD 5 0 = 10 by decide +kernel) (fun c hc j => hz c (by omega) j) (fun x i hx => f0 x i (by omega))) jmade_nt (jTbl (jtb1 71 rfl)) snX0 knX0 rfl rfl rfl ⟨by decide +kernel, by decide +kernel, by decide +kernel⟩ rfl ⟨by decide, by decide⟩ (Nat.le_of_ble_eq_true rfl) ⟨Nat.le_of_ble_eq_true rfl, Nat.le_of_ble_eq_true rfl⟩ (by decide +kernel) ?_
  rintro r0 _ h ⟨e, rfl, rfl⟩
  cases e
  have f1 : jfree 6 ((3, 0, 4) :: (4, 0, 5) :: S) := ((f0.up (by decide)).put (by decide)).put (by decide)
  refine j_putR (idx := 23) (ci := 11) (k := 2) (r := 0) (a := 3) (show (11, 23, 11, 2, false) ∈ jFT by decide +kernel) rfl rfl rfl rfl (fun _ => rfl) (fun _ => rfl) (by show 0 < 6; decide) (show jKt.getD 0 99 = 11 by decide +kernel) (by decide +kernel) ?_
  have f2 : jfree 6 ((0, 2, 3) :: (3, 0, 4) :: (4, 0, 5) :: S) := (f1.up (by decide)).put (by decide)
  exact kk (fun c hc j => hz c (by omega) j) f2
set_option maxRecDepth 100000 in
theorem b11_31 {Q : jQ} (ao : jAO) (hz : ∀ c, 5 < c → ∀ j, h c j = 0) (hS : jfree 6 S) (kk : (∀ c, 8 < c → ∀ j, (h) c j = 0) → jfree 9 (t11_31 S) → WP nX11 Q 42 [some (.ref 0), none] [] (jW 9 (t11_31 S) sc) (h) (8, 822)) : WP nX11 Q 31 [some (.ref 0), none] [] (jW 6 S sc) h (5, 419) := by
  have f0 : jfree 6 S := hS
  refine j_aload_n (i := 0) rfl (by decide +kernel) ?_
  refine j_new (idx := 27) (ci := 2) (by decide) rfl (by show 6 < 1000; decide) (show jKt.getD 6 99 = 2 by decide +kernel) (fun j hj => (slotN (show jKt.getD 6 99 = 2 by decide +kernel) (by decide) (fun i => f0 _ _ (by show 6 ≤ 6; decide)) (fun j => hz _ (by show 5 < 6; decide) j)).trans (d2_new j hj)) (jlkT (jtb1 97 rfl) rfl) (jlkT (jtb1 98 rfl) rfl) (jlkT (jtb1 5 rfl) rfl) ⟨Nat.le_of_ble_eq_true rfl, Nat.le_of_ble_eq_true rfl⟩ (by decide +kernel) ?_
  refine j_dup rfl (by decide +kernel) ?_
  refine j_callIN (M' := nX2) (As := []) (r := 6) (n := 0) (nX2_ok (t := 6) (S := S) (by decide) (show jKt.getD 6 99 = 2 by decide +kernel) (show jKt.getD 7 99 = 1 by decide +kernel) (show jKt.getD 8 99 = 14 by decide +kernel) (show jLt.getD 8 0 = 400 by decide +kernel) (fun c hc j => hz c (by omega) j) (fun x i hx => f0 x i (by omega))) jmade_nt (jTbl (jtb1 99 rfl)) snX2 knX2 rfl rfl rfl ⟨by decide +kernel, by decide +kernel, by decide +kernel⟩ rfl ⟨by decide, by decide⟩ (Nat.le_of_ble_eq_true rfl) ⟨Nat.le_of_ble_eq_true rfl, Nat.le_of_ble_eq_true rfl⟩ (by decide +kernel) ?_
  rintro r0 _ h ⟨e, rfl, rfl⟩
  cases e
  have f1 : jfree 9 ((6, 0, 7) :: (7, 0, 8) :: S) := ((f0.up (by decide)).put (by decide)).put (by decide)
  refine j_putR (idx := 30) (ci := 11) (k := 3) (r := 0) (a := 6) (show (11, 30, 11, 3, false) ∈ jFT by decide +kernel) rfl rfl rfl rfl (fun _ => rfl) (fun _ => rfl) (by show 0 < 9; decide) (show jKt.getD 0 99 = 11 by decide +kernel) (by decide +kernel) ?_
  have f2 : jfree 9 ((0, 3, 6) :: (6, 0, 7) :: (7, 0, 8) :: S) := (f1.up (by decide)).put (by decide)
  exact kk (fun c hc j => hz c (by omega) j) f2
set_option maxRecDepth 100000 in
theorem b11_42 {Q : jQ} (ao : jAO) (hz : ∀ c, 8 < c → ∀ j, h c j = 0) (hS : jfree 9 S) (kk : (∀ c, 38 < c → ∀ j, (jput (h) 9 8 (7)) c j = 0) → jfree 39 (t11_42 S) → WP nX11 Q 53 [some (.ref 0), none] [] (jW 39 (t11_42 S) sc) (jput (h) 9 8 (7)) (38, 1445)) : WP nX11 Q 42 [some (.ref 0), none] [] (jW 9 S sc) h (8, 822) := by
  have f0 : jfree 9 S := hS
  refine j_aload_n (i := 0) rfl (by decide +kernel) ?_
  refine j_new (idx := 34) (ci := 6) (by decide) rfl (by show 9 < 1000; decide) (show jKt.getD 9 99 = 6 by decide +kernel) (fun j hj => (slotN (show jKt.getD 9 99 = 6 by decide +kernel) (by decide) (fun i => f0 _ _ (by show 9 ≤ 9; decide)) (fun j => hz _ (by show 8 < 9; decide) j)).trans (d6_new j hj)) (jlkT (jtb1 123 rfl) rfl) (jlkT (jtb1 124 rfl) rfl) (jlkT (jtb1 7 rfl) rfl) ⟨Nat.le_of_ble_eq_true rfl, Nat.le_of_ble_eq_true rfl⟩ (by decide +kernel) ?_
  refine j_dup rfl (by decide +kernel) ?_
  refine j_callIN (M' := nX6) (As := []) (r := 9) (n := 0) (nX6_9 (S := S) ao (fun c hc j => hz c (by omega) j) (f0.up (by decide))) jmade_nt (jTbl (jtb1 125 rfl)) snX6 knX6 rfl rfl rfl ⟨by decide +kernel, by decide +kernel, by decide +kernel⟩ rfl ⟨by decide, by decide⟩ (Nat.le_of_ble_eq_true rfl) ⟨Nat.le_of_ble_eq_true rfl, Nat.le_of_ble_eq_true rfl⟩ (by decide +kernel) ?_
  rintro r0 _ _ ⟨e, rfl, rfl⟩
  cases e
  replace hz : ∀ c, 9 < c → ∀ j, jput (h) 9 8 (7) c j = 0 := fun c hc j => (congrFun (jput_ne (by omega)) j).trans (hz c (by omega) j)
  have f1 : jfree 39 ((26, 5, 37) :: (37, 0, 38) :: (26, 4, 35) :: (35, 0, 36) :: (26, 3, 33) :: (33, 0, 34) :: (26, 2, 31) :: (31, 0, 32) :: (26, 1, 29) :: (29, 0, 30) :: (26, 0, 27) :: (27, 0, 28) :: (9, 6, 26) :: (9, 5, 25) :: (9, 4, 20) :: (20, 8, 24) :: (20, 7, 23) :: (20, 6, 22) :: (20, 0, 21) :: (9, 3, 18) :: (18, 0, 19) :: (9, 2, 14) :: (14, 2, 17) :: (14, 1, 16) :: (14, 0, 15) :: (9, 1, 12) :: (12, 0, 13) :: (9, 0, 10) :: (10, 0, 11) :: S) := (((((((((((((((((((((((((((((f0.up (by decide)).put (by decide)).put (by decide)).put (by decide)).put (by decide)).put (by decide)).put (by decide)).put (by decide)).put (by decide)).put (by decide)).put (by decide)).put (by decide)).put (by decide)).put (by decide)).put (by decide)).put (by decide)).put (by decide)).put (by decide)).put (by decide)).put (by decide)).put (by decide)).put (by decide)).put (by decide)).put (by decide)).put (by decide)).put (by decide)).put (by decide)).put (by decide)).put (by decide)).put (by decide)
  refine j_putR (idx := 37) (ci := 11) (k := 4) (r := 0) (a := 9) (show (11, 37, 11, 4, false) ∈ jFT by decide +kernel) rfl rfl rfl rfl (fun _ => rfl) (fun _ => rfl) (by show 0 < 39; decide) (show jKt.getD 0 99 = 11 by decide +kernel) (by decide +kernel) ?_
  have f2 : jfree 39 ((0, 4, 9) :: (26, 5, 37) :: (37, 0, 38) :: (26, 4, 35) :: (35, 0, 36) :: (26, 3, 33) :: (33, 0, 34) :: (26, 2, 31) :: (31, 0, 32) :: (26, 1, 29) :: (29, 0, 30) :: (26, 0, 27) :: (27, 0, 28) :: (9, 6, 26) :: (9, 5, 25) :: (9, 4, 20) :: (20, 8, 24) :: (20, 7, 23) :: (20, 6, 22) :: (20, 0, 21) :: (9, 3, 18) :: (18, 0, 19) :: (9, 2, 14) :: (14, 2, 17) :: (14, 1, 16) :: (14, 0, 15) :: (9, 1, 12) :: (12, 0, 13) :: (9, 0, 10) :: (10, 0, 11) :: S) := (f1.up (by decide)).put (by decide)
  exact kk (fun c hc j => hz c (by omega) j) f2
set_option maxRecDepth 100000 in
theorem b11_53 {Q : jQ} (ao : jAO) (hz : ∀ c, 38 < c → ∀ j, h c j = 0) (hS : jfree 39 S) (kk : (∀ c, 68 < c → ∀ j, (jput (h) 39 8 (7)) c j = 0) → jfree 69 (t11_53 S) → WP nX11 Q 64 [some (.ref 0), none] [] (jW 69 (t11_53 S) sc) (jput (h) 39 8 (7)) (68, 2068)) : WP nX11 Q 53 [some (.ref 0), none] [] (jW 39 S sc) h (38, 1445) := by
  have f0 : jfree 39 S := hS
  refine j_aload_n (i := 0) rfl (by decide +kernel) ?_
  refine j_new (idx := 34) (ci := 6) (by decide) rfl (by show 39 < 1000; decide) (show jKt.getD 39 99 = 6 by decide +kernel) (fun j hj => (slotN (show jKt.getD 39 99 = 6 by decide +kernel) (by decide) (fun i => f0 _ _ (by show 39 ≤ 39; decide)) (fun j => hz _ (by show 38 < 39; decide) j)).trans (d6_new j hj)) (jlkT (jtb1 123 rfl) rfl) (jlkT (jtb1 124 rfl) rfl) (jlkT (jtb1 7 rfl) rfl) ⟨Nat.le_of_ble_eq_true rfl, Nat.le_of_ble_eq_true rfl⟩ (by decide +kernel) ?_
  refine j_dup rfl (by decide +kernel) ?_
  refine j_callIN (M' := nX6) (As := []) (r := 39) (n := 0) (nX6_39 (S := S) ao (fun c hc j => hz c (by omega) j) (f0.up (by decide))) jmade_nt (jTbl (jtb1 125 rfl)) snX6 knX6 rfl rfl rfl ⟨by decide +kernel, by decide +kernel, by decide +kernel⟩ rfl ⟨by decide, by decide⟩ (Nat.le_of_ble_eq_true rfl) ⟨Nat.le_of_ble_eq_true rfl, Nat.le_of_ble_eq_true rfl⟩ (by decide +kernel) ?_
  rintro r0 _ _ ⟨e, rfl, rfl⟩
  cases e
  replace hz : ∀ c, 39 < c → ∀ j, jput (h) 39 8 (7) c j = 0 := fun c hc j => (congrFun (jput_ne (by omega)) j).trans (hz c (by omega) j)
  have f1 : jfree 69 ((56, 5, 67) :: (67, 0, 68) :: (56, 4, 65) :: (65, 0, 66) :: (56, 3, 63) :: (63, 0, 64) :: (56, 2, 61) :: (61, 0, 62) :: (56, 1, 59) :: (59, 0, 60) :: (56, 0, 57) :: (57, 0, 58) :: (39, 6, 56) :: (39, 5, 55) :: (39, 4, 50) :: (50, 8, 54) :: (50, 7, 53) :: (50, 6, 52) :: (50, 0, 51) :: (39, 3, 48) :: (48, 0, 49) :: (39, 2, 44) :: (44, 2, 47) :: (44, 1, 46) :: (44, 0, 45) :: (39, 1, 42) :: (42, 0, 43) :: (39, 0, 40) :: (40, 0, 41) :: S) := (((((((((((((((((((((((((((((f0.up (by decide)).put (by decide)).put (by decide)).put (by decide)).put (by decide)).put (by decide)).put (by decide)).put (by decide)).put (by decide)).put (by decide)).put (by decide)).put (by decide)).put (by decide)).put (by decide)).put (by decide)).put (by decide)).put (by decide)).put (by decide)).put (by decide)).put (by decide)).put (by decide)).put (by decide)).put (by decide)).put (by decide)).put (by decide)).put (by decide)).put (by decide)).put (by decide)).put (by decide)).put (by decide)
  refine j_putR (idx := 41) (ci := 11) (k := 5) (r := 0) (a := 39) (show (11, 41, 11, 5, false) ∈ jFT by decide +kernel) rfl rfl rfl rfl (fun _ => rfl) (fun _ => rfl) (by show 0 < 69; decide) (show jKt.getD 0 99 = 11 by decide +kernel) (by decide +kernel) ?_
  have f2 : jfree 69 ((0, 5, 39) :: (56, 5, 67) :: (67, 0, 68) :: (56, 4, 65) :: (65, 0, 66) :: (56, 3, 63) :: (63, 0, 64) :: (56, 2, 61) :: (61, 0, 62) :: (56, 1, 59) :: (59, 0, 60) :: (56, 0, 57) :: (57, 0, 58) :: (39, 6, 56) :: (39, 5, 55) :: (39, 4, 50) :: (50, 8, 54) :: (50, 7, 53) :: (50, 6, 52) :: (50, 0, 51) :: (39, 3, 48) :: (48, 0, 49) :: (39, 2, 44) :: (44, 2, 47) :: (44, 1, 46) :: (44, 0, 45) :: (39, 1, 42) :: (42, 0, 43) :: (39, 0, 40) :: (40, 0, 41) :: S) := (f1.up (by decide)).put (by decide)
  exact kk (fun c hc j => hz c (by omega) j) f2
set_option maxRecDepth 100000 in
theorem b11_64 {Q : jQ} (ao : jAO) (hz : ∀ c, 68 < c → ∀ j, h c j = 0) (hS : jfree 69 S) (kk : (∀ c, 71 < c → ∀ j, (jput (h) 69 5 (-1)) c j = 0) → jfree 72 (t11_64 S) → WP nX11 Q 75 [some (.ref 0), none] [] (jW 72 (t11_64 S) sc) (jput (h) 69 5 (-1)) (71, 2088)) : WP nX11 Q 64 [some (.ref 0), none] [] (jW 69 S sc) h (68, 2068) := by
  have f0 : jfree 69 S := hS
  refine j_aload_n (i := 0) rfl (by decide +kernel) ?_
  refine j_new (idx := 44) (ci := 10) (by decide) rfl (by show 69 < 1000; decide) (show jKt.getD 69 99 = 10 by decide +kernel) (fun j hj => (slotN (show jKt.getD 69 99 = 10 by decide +kernel) (by decide) (fun i => f0 _ _ (by show 69 ≤ 69; decide)) (fun j => hz _ (by show 68 < 69; decide) j)).trans (d10_new j hj)) (jlkT (jtb2 4 rfl) rfl) (jlkT (jtb2 5 rfl) rfl) (jlkT (jtb1 10 rfl) rfl) ⟨Nat.le_of_ble_eq_true rfl, Nat.le_of_ble_eq_true rfl⟩ (by decide +kernel) ?_
  refine j_dup rfl (by decide +kernel) ?_
  refine j_callIN (M' := nX10) (As := []) (r := 69) (n := 0) (nX10_ok (t := 69) (S := S) (by decide) (show jKt.getD 69 99 = 10 by decide +kernel) (show jKt.getD 70 99 = 14 by decide +kernel) (show jLt.getD 70 0 = 4 by decide +kernel) (show jKt.getD 71 99 = 14 by decide +kernel) (show jLt.getD 71 0 = 4 by decide +kernel) (fun c hc j => hz c (by omega) j)) jmade_nt (jTbl (jtb2 6 rfl)) snX10 knX10 rfl rfl rfl ⟨by decide +kernel, by decide +kernel, by decide +kernel⟩ rfl ⟨by decide, by decide⟩ (Nat.le_of_ble_eq_true rfl) ⟨Nat.le_of_ble_eq_true rfl, Nat.le_of_ble_eq_true rfl⟩ (by decide +kernel) ?_
  rintro r0 _ _ ⟨e, rfl, rfl⟩
  cases e
  replace hz : ∀ c, 69 < c → ∀ j, jput (h) 69 5 (-1) c j = 0 := fun c hc j => (congrFun (jput_ne (by omega)) j).trans (hz c (by omega) j)
  have f1 : jfree 72 ((69, 1, 71) :: (69, 0, 70) :: S) := ((f0.up (by decide)).put (by decide)).put (by decide)
  refine j_putR (idx := 47) (ci := 11) (k := 7) (r := 0) (a := 69) (show (11, 47, 11, 7, false) ∈ jFT by decide +kernel) rfl rfl rfl rfl (fun _ => rfl) (fun _ => rfl) (by show 0 < 72; decide) (show jKt.getD 0 99 = 11 by decide +kernel) (by decide +kernel) ?_
  have f2 : jfree 72 ((0, 7, 69) :: (69, 1, 71) :: (69, 0, 70) :: S) := (f1.up (by decide)).put (by decide)
  exact kk (fun c hc j => hz c (by omega) j) f2
set_option maxRecDepth 100000 in
theorem b11_75 {Q : jQ} (ao : jAO) (hz : ∀ c, 71 < c → ∀ j, h c j = 0) (hS : jfree 72 S) (kk : (∀ c, 74 < c → ∀ j, (h) c j = 0) → jfree 75 (t11_75 S) → WP nX11 Q 86 [some (.ref 0), none] [] (jW 75 (t11_75 S) sc) (h) (74, 2116)) : WP nX11 Q 75 [some (.ref 0), none] [] (jW 72 S sc) h (71, 2088) := by
  have f0 : jfree 72 S := hS
  refine j_aload_n (i := 0) rfl (by decide +kernel) ?_
  refine j_new (idx := 51) (ci := 7) (by decide) rfl (by show 72 < 1000; decide) (show jKt.getD 72 99 = 7 by decide +kernel) (fun j hj => (slotN (show jKt.getD 72 99 = 7 by decide +kernel) (by decide) (fun i => f0 _ _ (by show 72 ≤ 72; decide)) (fun j => hz _ (by show 71 < 72; decide) j)).trans (d7_new j hj)) (jlkT (jtb2 53 rfl) rfl) (jlkT (jtb2 54 rfl) rfl) (jlkT (jtb1 11 rfl) rfl) ⟨Nat.le_of_ble_eq_true rfl, Nat.le_of_ble_eq_true rfl⟩ (by decide +kernel) ?_
  refine j_dup rfl (by decide +kernel) ?_
  refine j_callIN (M' := nX7) (As := []) (r := 72) (n := 0) (nX7_ok (t := 72) (S := S) (by decide) (show jKt.getD 72 99 = 7 by decide +kernel) (show jKt.getD 73 99 = 14 by decide +kernel) (show jLt.getD 73 0 = 12 by decide +kernel) (show jKt.getD 74 99 = 14 by decide +kernel) (show jLt.getD 74 0 = 12 by decide +kernel) (fun c hc j => hz c (by omega) j)) jmade_nt (jTbl (jtb2 55 rfl)) snX7 knX7 rfl rfl rfl ⟨by decide +kernel, by decide +kernel, by decide +kernel⟩ rfl ⟨by decide, by decide⟩ (Nat.le_of_ble_eq_true rfl) ⟨Nat.le_of_ble_eq_true rfl, Nat.le_of_ble_eq_true rfl⟩ (by decide +kernel) ?_
  rintro r0 _ h ⟨e, rfl, rfl⟩
  cases e
  have f1 : jfree 75 ((72, 1, 74) :: (72, 0, 73) :: S) := ((f0.up (by decide)).put (by decide)).put (by decide)
  refine j_putR (idx := 54) (ci := 11) (k := 8) (r := 0) (a := 72) (show (11, 54, 11, 8, false) ∈ jFT by decide +kernel) rfl rfl rfl rfl (fun _ => rfl) (fun _ => rfl) (by show 0 < 75; decide) (show jKt.getD 0 99 = 11 by decide +kernel) (by decide +kernel) ?_
  have f2 : jfree 75 ((0, 8, 72) :: (72, 1, 74) :: (72, 0, 73) :: S) := (f1.up (by decide)).put (by decide)
  exact kk (fun c hc j => hz c (by omega) j) f2
set_option maxRecDepth 100000 in
theorem b11_86 {Q : jQ} (ao : jAO) (hz : ∀ c, 74 < c → ∀ j, h c j = 0) (hS : jfree 75 S) (kk : (∀ c, 81 < c → ∀ j, (jput (jput (h) 75 7 (-1)) 75 8 (-1)) c j = 0) → jfree 82 (t11_86 S) → WP nX11 Q 97 [some (.ref 0), none] [] (jW 82 (t11_86 S) sc) (jput (jput (h) 75 7 (-1)) 75 8 (-1)) (81, 3055)) : WP nX11 Q 86 [some (.ref 0), none] [] (jW 75 S sc) h (74, 2116) := by
  have f0 : jfree 75 S := hS
  refine j_aload_n (i := 0) rfl (by decide +kernel) ?_
  refine j_new (idx := 58) (ci := 3) (by decide) rfl (by show 75 < 1000; decide) (show jKt.getD 75 99 = 3 by decide +kernel) (fun j hj => (slotN (show jKt.getD 75 99 = 3 by decide +kernel) (by decide) (fun i => f0 _ _ (by show 75 ≤ 75; decide)) (fun j => hz _ (by show 74 < 75; decide) j)).trans (d3_new j hj)) (jlkT (jtb2 75 rfl) rfl) (jlkT (jtb2 76 rfl) rfl) (jlkT (jtb1 12 rfl) rfl) ⟨Nat.le_of_ble_eq_true rfl, Nat.le_of_ble_eq_true rfl⟩ (by decide +kernel) ?_
  refine j_dup rfl (by decide +kernel) ?_
  refine j_callIN (M' := nX3) (As := []) (r := 75) (n := 0) (nX3_ok (t := 75) (S := S) (by decide) (show jKt.getD 75 99 = 3 by decide +kernel) (show jKt.getD 76 99 = 14 by decide +kernel) (show jLt.getD 76 0 = 300 by decide +kernel) (show jKt.getD 77 99 = 14 by decide +kernel) (show jLt.getD 77 0 = 300 by decide +kernel) (show jKt.getD 78 99 = 14 by decide +kernel) (show jLt.getD 78 0 = 300 by decide +kernel) (show jKt.getD 79 99 = 14 by decide +kernel) (show jLt.getD 79 0 = 10 by decide +kernel) (show jKt.getD 80 99 = 14 by decide +kernel) (show jLt.getD 80 0 = 10 by decide +kernel) (show jKt.getD 81 99 = 14 by decide +kernel) (show jLt.getD 81 0 = 10 by decide +kernel) (fun c hc j => hz c (by omega) j)) jmade_nt (jTbl (jtb2 77 rfl)) snX3 knX3 rfl rfl rfl ⟨by decide +kernel, by decide +kernel, by decide +kernel⟩ rfl ⟨by decide, by decide⟩ (Nat.le_of_ble_eq_true rfl) ⟨Nat.le_of_ble_eq_true rfl, Nat.le_of_ble_eq_true rfl⟩ (by decide +kernel) ?_
  rintro r0 _ _ ⟨e, rfl, rfl⟩
  cases e
  replace hz : ∀ c, 75 < c → ∀ j, jput (h) 75 7 (-1) c j = 0 := fun c hc j => (congrFun (jput_ne (by omega)) j).trans (hz c (by omega) j)
  replace hz : ∀ c, 75 < c → ∀ j, jput (jput (h) 75 7 (-1)) 75 8 (-1) c j = 0 := fun c hc j => (congrFun (jput_ne (by omega)) j).trans (hz c (by omega) j)
  have f1 : jfree 82 ((75, 5, 81) :: (75, 4, 80) :: (75, 3, 79) :: (75, 2, 78) :: (75, 1, 77) :: (75, 0, 76) :: S) := ((((((f0.up (by decide)).put (by decide)).put (by decide)).put (by decide)).put (by decide)).put (by decide)).put (by decide)
  refine j_putR (idx := 61) (ci := 11) (k := 9) (r := 0) (a := 75) (show (11, 61, 11, 9, false) ∈ jFT by decide +kernel) rfl rfl rfl rfl (fun _ => rfl) (fun _ => rfl) (by show 0 < 82; decide) (show jKt.getD 0 99 = 11 by decide +kernel) (by decide +kernel) ?_
  have f2 : jfree 82 ((0, 9, 75) :: (75, 5, 81) :: (75, 4, 80) :: (75, 3, 79) :: (75, 2, 78) :: (75, 1, 77) :: (75, 0, 76) :: S) := (f1.up (by decide)).put (by decide)
  exact kk (fun c hc j => hz c (by omega) j) f2
set_option maxRecDepth 100000 in
theorem b11_97 {Q : jQ} (ao : jAO) (hz : ∀ c, 81 < c → ∀ j, h c j = 0) (hS : jfree 82 S) (kk : (∀ c, 88 < c → ∀ j, (jput (jput (h) 82 7 (-1)) 82 8 (-1)) c j = 0) → jfree 89 (t11_97 S) → WP nX11 Q 108 [some (.ref 0), none] [] (jW 89 (t11_97 S) sc) (jput (jput (h) 82 7 (-1)) 82 8 (-1)) (88, 3994)) : WP nX11 Q 97 [some (.ref 0), none] [] (jW 82 S sc) h (81, 3055) := by
  have f0 : jfree 82 S := hS
  refine j_aload_n (i := 0) rfl (by decide +kernel) ?_
  refine j_new (idx := 58) (ci := 3) (by decide) rfl (by show 82 < 1000; decide) (show jKt.getD 82 99 = 3 by decide +kernel) (fun j hj => (slotN (show jKt.getD 82 99 = 3 by decide +kernel) (by decide) (fun i => f0 _ _ (by show 82 ≤ 82; decide)) (fun j => hz _ (by show 81 < 82; decide) j)).trans (d3_new j hj)) (jlkT (jtb2 75 rfl) rfl) (jlkT (jtb2 76 rfl) rfl) (jlkT (jtb1 12 rfl) rfl) ⟨Nat.le_of_ble_eq_true rfl, Nat.le_of_ble_eq_true rfl⟩ (by decide +kernel) ?_
  refine j_dup rfl (by decide +kernel) ?_
  refine j_callIN (M' := nX3) (As := []) (r := 82) (n := 0) (nX3_ok (t := 82) (S := S) (by decide) (show jKt.getD 82 99 = 3 by decide +kernel) (show jKt.getD 83 99 = 14 by decide +kernel) (show jLt.getD 83 0 = 300 by decide +kernel) (show jKt.getD 84 99 = 14 by decide +kernel) (show jLt.getD 84 0 = 300 by decide +kernel) (show jKt.getD 85 99 = 14 by decide +kernel) (show jLt.getD 85 0 = 300 by decide +kernel) (show jKt.getD 86 99 = 14 by decide +kernel) (show jLt.getD 86 0 = 10 by decide +kernel) (show jKt.getD 87 99 = 14 by decide +kernel) (show jLt.getD 87 0 = 10 by decide +kernel) (show jKt.getD 88 99 = 14 by decide +kernel) (show jLt.getD 88 0 = 10 by decide +kernel) (fun c hc j => hz c (by omega) j)) jmade_nt (jTbl (jtb2 77 rfl)) snX3 knX3 rfl rfl rfl ⟨by decide +kernel, by decide +kernel, by decide +kernel⟩ rfl ⟨by decide, by decide⟩ (Nat.le_of_ble_eq_true rfl) ⟨Nat.le_of_ble_eq_true rfl, Nat.le_of_ble_eq_true rfl⟩ (by decide +kernel) ?_
  rintro r0 _ _ ⟨e, rfl, rfl⟩
  cases e
  replace hz : ∀ c, 82 < c → ∀ j, jput (h) 82 7 (-1) c j = 0 := fun c hc j => (congrFun (jput_ne (by omega)) j).trans (hz c (by omega) j)
  replace hz : ∀ c, 82 < c → ∀ j, jput (jput (h) 82 7 (-1)) 82 8 (-1) c j = 0 := fun c hc j => (congrFun (jput_ne (by omega)) j).trans (hz c (by omega) j)
  have f1 : jfree 89 ((82, 5, 88) :: (82, 4, 87) :: (82, 3, 86) :: (82, 2, 85) :: (82, 1, 84) :: (82, 0, 83) :: S) := ((((((f0.up (by decide)).put (by decide)).put (by decide)).put (by decide)).put (by decide)).put (by decide)).put (by decide)
  refine j_putR (idx := 65) (ci := 11) (k := 10) (r := 0) (a := 82) (show (11, 65, 11, 10, false) ∈ jFT by decide +kernel) rfl rfl rfl rfl (fun _ => rfl) (fun _ => rfl) (by show 0 < 89; decide) (show jKt.getD 0 99 = 11 by decide +kernel) (by decide +kernel) ?_
  have f2 : jfree 89 ((0, 10, 82) :: (82, 5, 88) :: (82, 4, 87) :: (82, 3, 86) :: (82, 2, 85) :: (82, 1, 84) :: (82, 0, 83) :: S) := (f1.up (by decide)).put (by decide)
  exact kk (fun c hc j => hz c (by omega) j) f2
set_option maxRecDepth 100000 in
theorem b11_108 {Q : jQ} (ao : jAO) (hz : ∀ c, 88 < c → ∀ j, h c j = 0) (hS : jfree 89 S) (kk : (∀ c, 90 < c → ∀ j, (h) c j = 0) → jfree 91 (t11_108 S) → WP nX11 Q 119 [some (.ref 0), none] [] (jW 91 (t11_108 S) sc) (h) (90, 4006)) : WP nX11 Q 108 [some (.ref 0), none] [] (jW 89 S sc) h (88, 3994) := by
  have f0 : jfree 89 S := hS
  refine j_aload_n (i := 0) rfl (by decide +kernel) ?_
  refine j_new (idx := 68) (ci := 4) (by decide) rfl (by show 89 < 1000; decide) (show jKt.getD 89 99 = 4 by decide +kernel) (fun j hj => (slotN (show jKt.getD 89 99 = 4 by decide +kernel) (by decide) (fun i => f0 _ _ (by show 89 ≤ 89; decide)) (fun j => hz _ (by show 88 < 89; decide) j)).trans (d4_new j hj)) (jlkT (jtb2 114 rfl) rfl) (jlkT (jtb1 76 rfl) rfl) (jlkT (jtb1 4 rfl) rfl) ⟨Nat.le_of_ble_eq_true rfl, Nat.le_of_ble_eq_true rfl⟩ (by decide +kernel) ?_
  refine j_dup rfl (by decide +kernel) ?_
  refine j_callIN (M' := nX4) (As := []) (r := 89) (n := 0) (nX4_ok (t := 89) (S := S) (by decide) (show jKt.getD 89 99 = 4 by decide +kernel) (show jKt.getD 90 99 = 14 by decide +kernel) (show jLt.getD 90 0 = 10 by decide +kernel) (fun c hc j => hz c (by omega) j)) jmade_nt (jTbl (jtb2 115 rfl)) snX4 knX4 rfl rfl rfl ⟨by decide +kernel, by decide +kernel, by decide +kernel⟩ rfl ⟨by decide, by decide⟩ (Nat.le_of_ble_eq_true rfl) ⟨Nat.le_of_ble_eq_true rfl, Nat.le_of_ble_eq_true rfl⟩ (by decide +kernel) ?_
  rintro r0 _ h ⟨e, rfl, rfl⟩
  cases e
  have f1 : jfree 91 ((89, 0, 90) :: S) := (f0.up (by decide)).put (by decide)
  refine j_putR (idx := 71) (ci := 11) (k := 11) (r := 0) (a := 89) (show (11, 71, 11, 11, false) ∈ jFT by decide +kernel) rfl rfl rfl rfl (fun _ => rfl) (fun _ => rfl) (by show 0 < 91; decide) (show jKt.getD 0 99 = 11 by decide +kernel) (by decide +kernel) ?_
  have f2 : jfree 91 ((0, 11, 89) :: (89, 0, 90) :: S) := (f1.up (by decide)).put (by decide)
  exact kk (fun c hc j => hz c (by omega) j) f2
set_option maxRecDepth 100000 in
theorem b11_119 {Q : jQ} (ao : jAO) (hz : ∀ c, 90 < c → ∀ j, h c j = 0) (hS : jfree 91 S) (kk : (∀ c, 92 < c → ∀ j, (h) c j = 0) → jfree 93 (t11_119 S) → WP nX11 Q 130 [some (.ref 0), none] [] (jW 93 (t11_119 S) sc) (h) (92, 4018)) : WP nX11 Q 119 [some (.ref 0), none] [] (jW 91 S sc) h (90, 4006) := by
  have f0 : jfree 91 S := hS
  refine j_aload_n (i := 0) rfl (by decide +kernel) ?_
  refine j_new (idx := 68) (ci := 4) (by decide) rfl (by show 91 < 1000; decide) (show jKt.getD 91 99 = 4 by decide +kernel) (fun j hj => (slotN (show jKt.getD 91 99 = 4 by decide +kernel) (by decide) (fun i => f0 _ _ (by show 91 ≤ 91; decide)) (fun j => hz _ (by show 90 < 91; decide) j)).trans (d4_new j hj)) (jlkT (jtb2 114 rfl) rfl) (jlkT (jtb1 76 rfl) rfl) (jlkT (jtb1 4 rfl) rfl) ⟨Nat.le_of_ble_eq_true rfl, Nat.le_of_ble_eq_true rfl⟩ (by decide +kernel) ?_
  refine j_dup rfl (by decide +kernel) ?_
  refine j_callIN (M' := nX4) (As := []) (r := 91) (n := 0) (nX4_ok (t := 91) (S := S) (by decide) (show jKt.getD 91 99 = 4 by decide +kernel) (show jKt.getD 92 99 = 14 by decide +kernel) (show jLt.getD 92 0 = 10 by decide +kernel) (fun c hc j => hz c (by omega) j)) jmade_nt (jTbl (jtb2 115 rfl)) snX4 knX4 rfl rfl rfl ⟨by decide +kernel, by decide +kernel, by decide +kernel⟩ rfl ⟨by decide, by decide⟩ (Nat.le_of_ble_eq_true rfl) ⟨Nat.le_of_ble_eq_true rfl, Nat.le_of_ble_eq_true rfl⟩ (by decide +kernel) ?_
  rintro r0 _ h ⟨e, rfl, rfl⟩
  cases e
  have f1 : jfree 93 ((91, 0, 92) :: S) := (f0.up (by decide)).put (by decide)
  refine j_putR (idx := 75) (ci := 11) (k := 12) (r := 0) (a := 91) (show (11, 75, 11, 12, false) ∈ jFT by decide +kernel) rfl rfl rfl rfl (fun _ => rfl) (fun _ => rfl) (by show 0 < 93; decide) (show jKt.getD 0 99 = 11 by decide +kernel) (by decide +kernel) ?_
  have f2 : jfree 93 ((0, 12, 91) :: (91, 0, 92) :: S) := (f1.up (by decide)).put (by decide)
  exact kk (fun c hc j => hz c (by omega) j) f2
set_option maxRecDepth 100000 in
theorem b11_130 {Q : jQ} (ao : jAO) (hz : ∀ c, 92 < c → ∀ j, h c j = 0) (hS : jfree 93 S) (kk : (∀ c, 93 < c → ∀ j, (h) c j = 0) → jfree 94 (t11_130 S) → WP nX11 Q 139 [some (.ref 0), none] [] (jW 94 (t11_130 S) sc) (h) (93, 4048)) : WP nX11 Q 130 [some (.ref 0), none] [] (jW 93 S sc) h (92, 4018) := by
  have f0 : jfree 93 S := hS
  refine j_aload_n (i := 0) rfl (by decide +kernel) ?_
  refine j_bipush (n := 30) 30 (by decide) (by decide +kernel) ?_
  refine j_anew ao (idx := 68) (n := 30) rfl (by show 93 < 1000; decide) (show jKt.getD 93 99 = 15 by decide +kernel) (show jLt.getD 93 0 = 30 by decide +kernel) (fun j => f0 93 j (Nat.le_refl 93)) (by decide) (by decide) (by decide) (jlkT (jtb2 114 rfl) rfl) ⟨Nat.le_of_ble_eq_true rfl, Nat.le_of_ble_eq_true rfl⟩ (by decide +kernel) ?_
  refine j_putR (idx := 78) (ci := 11) (k := 13) (r := 0) (a := 93) (show (11, 78, 11, 13, false) ∈ jFT by decide +kernel) rfl rfl rfl rfl (fun _ => rfl) (fun _ => rfl) (by show 0 < 94; decide) (show jKt.getD 0 99 = 11 by decide +kernel) (by decide +kernel) ?_
  have f1 : jfree 94 ((0, 13, 93) :: S) := (f0.up (by decide)).put (by decide)
  exact kk (fun c hc j => hz c (by omega) j) f1
set_option maxRecDepth 100000 in
theorem b11_139 {Q : jQ} (ao : jAO) (hz : ∀ c, 93 < c → ∀ j, h c j = 0) (hS : jfree 94 S) (kk : (∀ c, 94 < c → ∀ j, (h) c j = 0) → jfree 95 (t11_139 S) → WP nX11 Q 147 [some (.ref 0), none] [] (jW 95 (t11_139 S) sc) (h) (94, 4078)) : WP nX11 Q 139 [some (.ref 0), none] [] (jW 94 S sc) h (93, 4048) := by
  have f0 : jfree 94 S := hS
  refine j_aload_n (i := 0) rfl (by decide +kernel) ?_
  refine j_bipush (n := 30) 30 (by decide) (by decide +kernel) ?_
  refine j_newA (at' := .int) (kd := 14) (n := 30) (ty := .int) rfl rfl (by show 94 < 1000; decide) (show jKt.getD 94 99 = 14 by decide +kernel) (by decide) rfl (fun C q => by cases q) (show jLt.getD 94 0 = 30 by decide +kernel) (fun j => slot14 (show jKt.getD 94 99 = 14 by decide +kernel) (hz _ (by show 93 < 94; decide) j)) (by decide) (by decide) (by decide) jar_int.1 jar_int.2 ⟨Nat.le_of_ble_eq_true rfl, Nat.le_of_ble_eq_true rfl⟩ (by decide +kernel) ?_
  refine j_putR (idx := 82) (ci := 11) (k := 14) (r := 0) (a := 94) (show (11, 82, 11, 14, false) ∈ jFT by decide +kernel) rfl rfl rfl rfl (fun _ => rfl) (fun _ => rfl) (by show 0 < 95; decide) (show jKt.getD 0 99 = 11 by decide +kernel) (by decide +kernel) ?_
  have f1 : jfree 95 ((0, 14, 94) :: S) := (f0.up (by decide)).put (by decide)
  exact kk (fun c hc j => hz c (by omega) j) f1
set_option maxRecDepth 100000 in
theorem b11_147 {Q : jQ} (ao : jAO) (hz : ∀ c, 94 < c → ∀ j, h c j = 0) (hS : jfree 95 S) (kk : (∀ c, 95 < c → ∀ j, (h) c j = 0) → jfree 96 (t11_147 S) → WP nX11 Q 155 [some (.ref 0), none] [] (jW 96 (t11_147 S) sc) (h) (95, 4090)) : WP nX11 Q 147 [some (.ref 0), none] [] (jW 95 S sc) h (94, 4078) := by
  have f0 : jfree 95 S := hS
  refine j_aload_n (i := 0) rfl (by decide +kernel) ?_
  refine j_bipush (n := 12) 12 (by decide) (by decide +kernel) ?_
  refine j_newA (at' := .int) (kd := 14) (n := 12) (ty := .int) rfl rfl (by show 95 < 1000; decide) (show jKt.getD 95 99 = 14 by decide +kernel) (by decide) rfl (fun C q => by cases q) (show jLt.getD 95 0 = 12 by decide +kernel) (fun j => slot14 (show jKt.getD 95 99 = 14 by decide +kernel) (hz _ (by show 94 < 95; decide) j)) (by decide) (by decide) (by decide) jar_int.1 jar_int.2 ⟨Nat.le_of_ble_eq_true rfl, Nat.le_of_ble_eq_true rfl⟩ (by decide +kernel) ?_
  refine j_putR (idx := 86) (ci := 11) (k := 15) (r := 0) (a := 95) (show (11, 86, 11, 15, false) ∈ jFT by decide +kernel) rfl rfl rfl rfl (fun _ => rfl) (fun _ => rfl) (by show 0 < 96; decide) (show jKt.getD 0 99 = 11 by decide +kernel) (by decide +kernel) ?_
  have f1 : jfree 96 ((0, 15, 95) :: S) := (f0.up (by decide)).put (by decide)
  exact kk (fun c hc j => hz c (by omega) j) f1
set_option maxRecDepth 100000 in
theorem b11_155 {Q : jQ} (ao : jAO) (hz : ∀ c, 95 < c → ∀ j, h c j = 0) (hS : jfree 96 S) (kk : (∀ c, 96 < c → ∀ j, (h) c j = 0) → jfree 97 (t11_155 S) → WP nX11 Q 164 [some (.ref 0), none] [] (jW 97 (t11_155 S) sc) (h) (96, 4346)) : WP nX11 Q 155 [some (.ref 0), none] [] (jW 96 S sc) h (95, 4090) := by
  have f0 : jfree 96 S := hS
  refine j_aload_n (i := 0) rfl (by decide +kernel) ?_
  refine j_sipush (n := 256) 256 (by decide) (by decide +kernel) ?_
  refine j_newA (at' := .int) (kd := 14) (n := 256) (ty := .int) rfl rfl (by show 96 < 1000; decide) (show jKt.getD 96 99 = 14 by decide +kernel) (by decide) rfl (fun C q => by cases q) (show jLt.getD 96 0 = 256 by decide +kernel) (fun j => slot14 (show jKt.getD 96 99 = 14 by decide +kernel) (hz _ (by show 95 < 96; decide) j)) (by decide) (by decide) (by decide) jar_int.1 jar_int.2 ⟨Nat.le_of_ble_eq_true rfl, Nat.le_of_ble_eq_true rfl⟩ (by decide +kernel) ?_
  refine j_putR (idx := 89) (ci := 11) (k := 16) (r := 0) (a := 96) (show (11, 89, 11, 16, false) ∈ jFT by decide +kernel) rfl rfl rfl rfl (fun _ => rfl) (fun _ => rfl) (by show 0 < 97; decide) (show jKt.getD 0 99 = 11 by decide +kernel) (by decide +kernel) ?_
  have f1 : jfree 97 ((0, 16, 96) :: S) := (f0.up (by decide)).put (by decide)
  exact kk (fun c hc j => hz c (by omega) j) f1
set_option maxRecDepth 100000 in
theorem b11_164 {Q : jQ} (ao : jAO) (hz : ∀ c, 96 < c → ∀ j, h c j = 0) (hS : jfree 97 S) (kk : (∀ c, 97 < c → ∀ j, (h) c j = 0) → jfree 98 (t11_164 S) → WP nX11 Q 173 [some (.ref 0), none] [] (jW 98 (t11_164 S) sc) (h) (97, 4646)) : WP nX11 Q 164 [some (.ref 0), none] [] (jW 97 S sc) h (96, 4346) := by
  have f0 : jfree 97 S := hS
  refine j_aload_n (i := 0) rfl (by decide +kernel) ?_
  refine j_sipush (n := 300) 300 (by decide) (by decide +kernel) ?_
  refine j_newA (at' := .int) (kd := 14) (n := 300) (ty := .int) rfl rfl (by show 97 < 1000; decide) (show jKt.getD 97 99 = 14 by decide +kernel) (by decide) rfl (fun C q => by cases q) (show jLt.getD 97 0 = 300 by decide +kernel) (fun j => slot14 (show jKt.getD 97 99 = 14 by decide +kernel) (hz _ (by show 96 < 97; decide) j)) (by decide) (by decide) (by decide) jar_int.1 jar_int.2 ⟨Nat.le_of_ble_eq_true rfl, Nat.le_of_ble_eq_true rfl⟩ (by decide +kernel) ?_
  refine j_putR (idx := 92) (ci := 11) (k := 17) (r := 0) (a := 97) (show (11, 92, 11, 17, false) ∈ jFT by decide +kernel) rfl rfl rfl rfl (fun _ => rfl) (fun _ => rfl) (by show 0 < 98; decide) (show jKt.getD 0 99 = 11 by decide +kernel) (by decide +kernel) ?_
  have f1 : jfree 98 ((0, 17, 97) :: S) := (f0.up (by decide)).put (by decide)
  exact kk (fun c hc j => hz c (by omega) j) f1
set_option maxRecDepth 100000 in
theorem b11_173 {Q : jQ} (ao : jAO) (hz : ∀ c, 97 < c → ∀ j, h c j = 0) (hS : jfree 98 S) (kk : (∀ c, 98 < c → ∀ j, (h) c j = 0) → jfree 99 (t11_173 S) → WP nX11 Q 182 [some (.ref 0), none] [] (jW 99 (t11_173 S) sc) (h) (98, 8742)) : WP nX11 Q 173 [some (.ref 0), none] [] (jW 98 S sc) h (97, 4646) := by
  have f0 : jfree 98 S := hS
  refine j_aload_n (i := 0) rfl (by decide +kernel) ?_
  refine j_sipush (n := 4096) 4096 (by decide) (by decide +kernel) ?_
  refine j_newA (at' := .byte) (kd := 13) (n := 4096) (ty := .byte) rfl rfl (by show 98 < 1000; decide) (show jKt.getD 98 99 = 13 by decide +kernel) (by decide) rfl (fun C q => by cases q) (show jLt.getD 98 0 = 4096 by decide +kernel) (fun j => slot13 (show jKt.getD 98 99 = 13 by decide +kernel) (hz _ (by show 97 < 98; decide) j)) (by decide) (by decide) (by decide) jar_byte.1 jar_byte.2 ⟨Nat.le_of_ble_eq_true rfl, Nat.le_of_ble_eq_true rfl⟩ (by decide +kernel) ?_
  refine j_putR (idx := 95) (ci := 11) (k := 18) (r := 0) (a := 98) (show (11, 95, 11, 18, false) ∈ jFT by decide +kernel) rfl rfl rfl rfl (fun _ => rfl) (fun _ => rfl) (by show 0 < 99; decide) (show jKt.getD 0 99 = 11 by decide +kernel) (by decide +kernel) ?_
  have f1 : jfree 99 ((0, 18, 98) :: S) := (f0.up (by decide)).put (by decide)
  exact kk (fun c hc j => hz c (by omega) j) f1
set_option maxRecDepth 100000 in
theorem b11_182 {Q : jQ} (ao : jAO) (hz : ∀ c, 98 < c → ∀ j, h c j = 0) (hS : jfree 99 S) (kk : (∀ c, 98 < c → ∀ j, (h) c j = 0) → jfree 99 (t11_182 S) → WP nX11 Q 184 [some (.ref 0), some (.int 0)] [] (jW 99 (t11_182 S) sc) (h) (98, 8742)) : WP nX11 Q 182 [some (.ref 0), none] [] (jW 99 S sc) h (98, 8742) := by
  have f0 : jfree 99 S := hS
  refine j_iconst (n := 0) (0) (by decide) (by decide +kernel) ?_
  refine j_istore_n (i := 1) (by decide +kernel) (by decide) ?_
  refine j_eqlv [some (.ref 0), some (.int 0)] (by rfl) ?_
  exact kk (fun c hc j => hz c (by omega) j) f0
set_option maxRecDepth 100000 in
theorem b11_184_0 {Q : jQ} (ao : jAO) (hz : ∀ c, 98 < c → ∀ j, h c j = 0) (hS : jfree 99 S) (hq : jFind S 0 13 = some 93) (kk : (∀ c, 100 < c → ∀ j, (h) c j = 0) → jfree 101 (t11_184_0 S) → jFind (t11_184_0 S) 0 13 = some 93 → WP nX11 Q 184 [some (.ref 0), some (.int 1)] [] (jW 101 (t11_184_0 S) sc) (h) (100, 8754)) : WP nX11 Q 184 [some (.ref 0), some (.int 0)] [] (jW 99 S sc) h (98, 8742) := by
  have f0 : jfree 99 S := hS
  refine j_iload_n (i := 1) rfl (by decide +kernel) ?_
  refine j_aload_n (i := 0) rfl (by decide +kernel) ?_
  refine j_getR (idx := 78) (ci := 11) (k := 13) (nest := false) (show (11, 78, 11, 13, false) ∈ jFT by decide +kernel) rfl (by show 0 < 99; decide) (show jKt.getD 0 99 = 11 by decide +kernel) (a := 93) hq (by decide +kernel) ?_
  refine j_alen (by show 93 < 99; decide) (show jKt.getD 93 99 = 15 by decide +kernel) rfl 30 (show Int32.ofNat (jLt.getD 93 0) = 30 by decide +kernel) (by decide +kernel) ?_
  refine j_icmp_ge (off := 22) 212 (by decide +kernel) (by decide) (fun q => absurd q (by decide)) (fun _ => ?_)
  refine j_aload_n (i := 0) rfl (by decide +kernel) ?_
  refine j_getR (idx := 78) (ci := 11) (k := 13) (nest := false) (show (11, 78, 11, 13, false) ∈ jFT by decide +kernel) rfl (by show 0 < 99; decide) (show jKt.getD 0 99 = 11 by decide +kernel) (a := 93) hq (by decide +kernel) ?_
  refine j_iload_n (i := 1) rfl (by decide +kernel) ?_
  refine j_new (idx := 68) (ci := 4) (by decide) rfl (by show 99 < 1000; decide) (show jKt.getD 99 99 = 4 by decide +kernel) (fun j hj => (slotN (show jKt.getD 99 99 = 4 by decide +kernel) (by decide) (fun i => f0 _ _ (by show 99 ≤ 99; decide)) (fun j => hz _ (by show 98 < 99; decide) j)).trans (d4_new j hj)) (jlkT (jtb2 114 rfl) rfl) (jlkT (jtb1 76 rfl) rfl) (jlkT (jtb1 4 rfl) rfl) ⟨Nat.le_of_ble_eq_true rfl, Nat.le_of_ble_eq_true rfl⟩ (by decide +kernel) ?_
  refine j_dup rfl (by decide +kernel) ?_
  refine j_callIN (M' := nX4) (As := []) (r := 99) (n := 0) (nX4_ok (t := 99) (S := S) (by decide) (show jKt.getD 99 99 = 4 by decide +kernel) (show jKt.getD 100 99 = 14 by decide +kernel) (show jLt.getD 100 0 = 10 by decide +kernel) (fun c hc j => hz c (by omega) j)) jmade_nt (jTbl (jtb2 115 rfl)) snX4 knX4 rfl rfl rfl ⟨by decide +kernel, by decide +kernel, by decide +kernel⟩ rfl ⟨by decide, by decide⟩ (Nat.le_of_ble_eq_true rfl) ⟨Nat.le_of_ble_eq_true rfl, Nat.le_of_ble_eq_true rfl⟩ (by decide +kernel) ?_
  rintro r0 _ h ⟨e, rfl, rfl⟩
  cases e
  have f1 : jfree 101 ((99, 0, 100) :: S) := (f0.up (by decide)).put (by decide)
  refine j_aastR (by show 93 < 101; decide) (show jKt.getD 93 99 = 15 by decide +kernel) (by show 99 < 101; decide) (show jKt.getD 99 99 = 4 by decide +kernel) (show vp_in (nI 0) 30 from vp_in_nI (by decide) (by decide)) (by decide +kernel) ?_
  have f2 : jfree 101 ((93, 0, 99) :: (99, 0, 100) :: S) := (f1.up (by decide)).put (by decide)
  refine j_iinc (i := 1) (n := 1) rfl (by decide +kernel) (by decide) ?_
  refine j_eqlv [some (.ref 0), some (.int 1)] (by rfl) ?_
  refine j_goto (off := -25) 184 (by decide +kernel) (by decide) ?_
  exact kk (fun c hc j => hz c (by omega) j) f2 hq
set_option maxRecDepth 100000 in
theorem b11_184_1 {Q : jQ} (ao : jAO) (hz : ∀ c, 100 < c → ∀ j, h c j = 0) (hS : jfree 101 S) (hq : jFind S 0 13 = some 93) (kk : (∀ c, 102 < c → ∀ j, (h) c j = 0) → jfree 103 (t11_184_1 S) → jFind (t11_184_1 S) 0 13 = some 93 → WP nX11 Q 184 [some (.ref 0), some (.int 2)] [] (jW 103 (t11_184_1 S) sc) (h) (102, 8766)) : WP nX11 Q 184 [some (.ref 0), some (.int 1)] [] (jW 101 S sc) h (100, 8754) := by
  have f0 : jfree 101 S := hS
  refine j_iload_n (i := 1) rfl (by decide +kernel) ?_
  refine j_aload_n (i := 0) rfl (by decide +kernel) ?_
  refine j_getR (idx := 78) (ci := 11) (k := 13) (nest := false) (show (11, 78, 11, 13, false) ∈ jFT by decide +kernel) rfl (by show 0 < 101; decide) (show jKt.getD 0 99 = 11 by decide +kernel) (a := 93) hq (by decide +kernel) ?_
  refine j_alen (by show 93 < 101; decide) (show jKt.getD 93 99 = 15 by decide +kernel) rfl 30 (show Int32.ofNat (jLt.getD 93 0) = 30 by decide +kernel) (by decide +kernel) ?_
  refine j_icmp_ge (off := 22) 212 (by decide +kernel) (by decide) (fun q => absurd q (by decide)) (fun _ => ?_)
  refine j_aload_n (i := 0) rfl (by decide +kernel) ?_
  refine j_getR (idx := 78) (ci := 11) (k := 13) (nest := false) (show (11, 78, 11, 13, false) ∈ jFT by decide +kernel) rfl (by show 0 < 101; decide) (show jKt.getD 0 99 = 11 by decide +kernel) (a := 93) hq (by decide +kernel) ?_
  refine j_iload_n (i := 1) rfl (by decide +kernel) ?_
  refine j_new (idx := 68) (ci := 4) (by decide) rfl (by show 101 < 1000; decide) (show jKt.getD 101 99 = 4 by decide +kernel) (fun j hj => (slotN (show jKt.getD 101 99 = 4 by decide +kernel) (by decide) (fun i => f0 _ _ (by show 101 ≤ 101; decide)) (fun j => hz _ (by show 100 < 101; decide) j)).trans (d4_new j hj)) (jlkT (jtb2 114 rfl) rfl) (jlkT (jtb1 76 rfl) rfl) (jlkT (jtb1 4 rfl) rfl) ⟨Nat.le_of_ble_eq_true rfl, Nat.le_of_ble_eq_true rfl⟩ (by decide +kernel) ?_
  refine j_dup rfl (by decide +kernel) ?_
  refine j_callIN (M' := nX4) (As := []) (r := 101) (n := 0) (nX4_ok (t := 101) (S := S) (by decide) (show jKt.getD 101 99 = 4 by decide +kernel) (show jKt.getD 102 99 = 14 by decide +kernel) (show jLt.getD 102 0 = 10 by decide +kernel) (fun c hc j => hz c (by omega) j)) jmade_nt (jTbl (jtb2 115 rfl)) snX4 knX4 rfl rfl rfl ⟨by decide +kernel, by decide +kernel, by decide +kernel⟩ rfl ⟨by decide, by decide⟩ (Nat.le_of_ble_eq_true rfl) ⟨Nat.le_of_ble_eq_true rfl, Nat.le_of_ble_eq_true rfl⟩ (by decide +kernel) ?_
  rintro r0 _ h ⟨e, rfl, rfl⟩
  cases e
  have f1 : jfree 103 ((101, 0, 102) :: S) := (f0.up (by decide)).put (by decide)
  refine j_aastR (by show 93 < 103; decide) (show jKt.getD 93 99 = 15 by decide +kernel) (by show 101 < 103; decide) (show jKt.getD 101 99 = 4 by decide +kernel) (show vp_in (nI 1) 30 from vp_in_nI (by decide) (by decide)) (by decide +kernel) ?_
  have f2 : jfree 103 ((93, 1, 101) :: (101, 0, 102) :: S) := (f1.up (by decide)).put (by decide)
  refine j_iinc (i := 1) (n := 1) rfl (by decide +kernel) (by decide) ?_
  refine j_eqlv [some (.ref 0), some (.int 2)] (by rfl) ?_
  refine j_goto (off := -25) 184 (by decide +kernel) (by decide) ?_
  exact kk (fun c hc j => hz c (by omega) j) f2 hq
set_option maxRecDepth 100000 in
theorem b11_184_2 {Q : jQ} (ao : jAO) (hz : ∀ c, 102 < c → ∀ j, h c j = 0) (hS : jfree 103 S) (hq : jFind S 0 13 = some 93) (kk : (∀ c, 104 < c → ∀ j, (h) c j = 0) → jfree 105 (t11_184_2 S) → jFind (t11_184_2 S) 0 13 = some 93 → WP nX11 Q 184 [some (.ref 0), some (.int 3)] [] (jW 105 (t11_184_2 S) sc) (h) (104, 8778)) : WP nX11 Q 184 [some (.ref 0), some (.int 2)] [] (jW 103 S sc) h (102, 8766) := by
  have f0 : jfree 103 S := hS
  refine j_iload_n (i := 1) rfl (by decide +kernel) ?_
  refine j_aload_n (i := 0) rfl (by decide +kernel) ?_
  refine j_getR (idx := 78) (ci := 11) (k := 13) (nest := false) (show (11, 78, 11, 13, false) ∈ jFT by decide +kernel) rfl (by show 0 < 103; decide) (show jKt.getD 0 99 = 11 by decide +kernel) (a := 93) hq (by decide +kernel) ?_
  refine j_alen (by show 93 < 103; decide) (show jKt.getD 93 99 = 15 by decide +kernel) rfl 30 (show Int32.ofNat (jLt.getD 93 0) = 30 by decide +kernel) (by decide +kernel) ?_
  refine j_icmp_ge (off := 22) 212 (by decide +kernel) (by decide) (fun q => absurd q (by decide)) (fun _ => ?_)
  refine j_aload_n (i := 0) rfl (by decide +kernel) ?_
  refine j_getR (idx := 78) (ci := 11) (k := 13) (nest := false) (show (11, 78, 11, 13, false) ∈ jFT by decide +kernel) rfl (by show 0 < 103; decide) (show jKt.getD 0 99 = 11 by decide +kernel) (a := 93) hq (by decide +kernel) ?_
  refine j_iload_n (i := 1) rfl (by decide +kernel) ?_
  refine j_new (idx := 68) (ci := 4) (by decide) rfl (by show 103 < 1000; decide) (show jKt.getD 103 99 = 4 by decide +kernel) (fun j hj => (slotN (show jKt.getD 103 99 = 4 by decide +kernel) (by decide) (fun i => f0 _ _ (by show 103 ≤ 103; decide)) (fun j => hz _ (by show 102 < 103; decide) j)).trans (d4_new j hj)) (jlkT (jtb2 114 rfl) rfl) (jlkT (jtb1 76 rfl) rfl) (jlkT (jtb1 4 rfl) rfl) ⟨Nat.le_of_ble_eq_true rfl, Nat.le_of_ble_eq_true rfl⟩ (by decide +kernel) ?_
  refine j_dup rfl (by decide +kernel) ?_
  refine j_callIN (M' := nX4) (As := []) (r := 103) (n := 0) (nX4_ok (t := 103) (S := S) (by decide) (show jKt.getD 103 99 = 4 by decide +kernel) (show jKt.getD 104 99 = 14 by decide +kernel) (show jLt.getD 104 0 = 10 by decide +kernel) (fun c hc j => hz c (by omega) j)) jmade_nt (jTbl (jtb2 115 rfl)) snX4 knX4 rfl rfl rfl ⟨by decide +kernel, by decide +kernel, by decide +kernel⟩ rfl ⟨by decide, by decide⟩ (Nat.le_of_ble_eq_true rfl) ⟨Nat.le_of_ble_eq_true rfl, Nat.le_of_ble_eq_true rfl⟩ (by decide +kernel) ?_
  rintro r0 _ h ⟨e, rfl, rfl⟩
  cases e
  have f1 : jfree 105 ((103, 0, 104) :: S) := (f0.up (by decide)).put (by decide)
  refine j_aastR (by show 93 < 105; decide) (show jKt.getD 93 99 = 15 by decide +kernel) (by show 103 < 105; decide) (show jKt.getD 103 99 = 4 by decide +kernel) (show vp_in (nI 2) 30 from vp_in_nI (by decide) (by decide)) (by decide +kernel) ?_
  have f2 : jfree 105 ((93, 2, 103) :: (103, 0, 104) :: S) := (f1.up (by decide)).put (by decide)
  refine j_iinc (i := 1) (n := 1) rfl (by decide +kernel) (by decide) ?_
  refine j_eqlv [some (.ref 0), some (.int 3)] (by rfl) ?_
  refine j_goto (off := -25) 184 (by decide +kernel) (by decide) ?_
  exact kk (fun c hc j => hz c (by omega) j) f2 hq
set_option maxRecDepth 100000 in
theorem b11_184_3 {Q : jQ} (ao : jAO) (hz : ∀ c, 104 < c → ∀ j, h c j = 0) (hS : jfree 105 S) (hq : jFind S 0 13 = some 93) (kk : (∀ c, 106 < c → ∀ j, (h) c j = 0) → jfree 107 (t11_184_3 S) → jFind (t11_184_3 S) 0 13 = some 93 → WP nX11 Q 184 [some (.ref 0), some (.int 4)] [] (jW 107 (t11_184_3 S) sc) (h) (106, 8790)) : WP nX11 Q 184 [some (.ref 0), some (.int 3)] [] (jW 105 S sc) h (104, 8778) := by
  have f0 : jfree 105 S := hS
  refine j_iload_n (i := 1) rfl (by decide +kernel) ?_
  refine j_aload_n (i := 0) rfl (by decide +kernel) ?_
  refine j_getR (idx := 78) (ci := 11) (k := 13) (nest := false) (show (11, 78, 11, 13, false) ∈ jFT by decide +kernel) rfl (by show 0 < 105; decide) (show jKt.getD 0 99 = 11 by decide +kernel) (a := 93) hq (by decide +kernel) ?_
  refine j_alen (by show 93 < 105; decide) (show jKt.getD 93 99 = 15 by decide +kernel) rfl 30 (show Int32.ofNat (jLt.getD 93 0) = 30 by decide +kernel) (by decide +kernel) ?_
  refine j_icmp_ge (off := 22) 212 (by decide +kernel) (by decide) (fun q => absurd q (by decide)) (fun _ => ?_)
  refine j_aload_n (i := 0) rfl (by decide +kernel) ?_
  refine j_getR (idx := 78) (ci := 11) (k := 13) (nest := false) (show (11, 78, 11, 13, false) ∈ jFT by decide +kernel) rfl (by show 0 < 105; decide) (show jKt.getD 0 99 = 11 by decide +kernel) (a := 93) hq (by decide +kernel) ?_
  refine j_iload_n (i := 1) rfl (by decide +kernel) ?_
  refine j_new (idx := 68) (ci := 4) (by decide) rfl (by show 105 < 1000; decide) (show jKt.getD 105 99 = 4 by decide +kernel) (fun j hj => (slotN (show jKt.getD 105 99 = 4 by decide +kernel) (by decide) (fun i => f0 _ _ (by show 105 ≤ 105; decide)) (fun j => hz _ (by show 104 < 105; decide) j)).trans (d4_new j hj)) (jlkT (jtb2 114 rfl) rfl) (jlkT (jtb1 76 rfl) rfl) (jlkT (jtb1 4 rfl) rfl) ⟨Nat.le_of_ble_eq_true rfl, Nat.le_of_ble_eq_true rfl⟩ (by decide +kernel) ?_
  refine j_dup rfl (by decide +kernel) ?_
  refine j_callIN (M' := nX4) (As := []) (r := 105) (n := 0) (nX4_ok (t := 105) (S := S) (by decide) (show jKt.getD 105 99 = 4 by decide +kernel) (show jKt.getD 106 99 = 14 by decide +kernel) (show jLt.getD 106 0 = 10 by decide +kernel) (fun c hc j => hz c (by omega) j)) jmade_nt (jTbl (jtb2 115 rfl)) snX4 knX4 rfl rfl rfl ⟨by decide +kernel, by decide +kernel, by decide +kernel⟩ rfl ⟨by decide, by decide⟩ (Nat.le_of_ble_eq_true rfl) ⟨Nat.le_of_ble_eq_true rfl, Nat.le_of_ble_eq_true rfl⟩ (by decide +kernel) ?_
  rintro r0 _ h ⟨e, rfl, rfl⟩
  cases e
  have f1 : jfree 107 ((105, 0, 106) :: S) := (f0.up (by decide)).put (by decide)
  refine j_aastR (by show 93 < 107; decide) (show jKt.getD 93 99 = 15 by decide +kernel) (by show 105 < 107; decide) (show jKt.getD 105 99 = 4 by decide +kernel) (show vp_in (nI 3) 30 from vp_in_nI (by decide) (by decide)) (by decide +kernel) ?_
  have f2 : jfree 107 ((93, 3, 105) :: (105, 0, 106) :: S) := (f1.up (by decide)).put (by decide)
  refine j_iinc (i := 1) (n := 1) rfl (by decide +kernel) (by decide) ?_
  refine j_eqlv [some (.ref 0), some (.int 4)] (by rfl) ?_
  refine j_goto (off := -25) 184 (by decide +kernel) (by decide) ?_
  exact kk (fun c hc j => hz c (by omega) j) f2 hq
set_option maxRecDepth 100000 in
theorem b11_184_4 {Q : jQ} (ao : jAO) (hz : ∀ c, 106 < c → ∀ j, h c j = 0) (hS : jfree 107 S) (hq : jFind S 0 13 = some 93) (kk : (∀ c, 108 < c → ∀ j, (h) c j = 0) → jfree 109 (t11_184_4 S) → jFind (t11_184_4 S) 0 13 = some 93 → WP nX11 Q 184 [some (.ref 0), some (.int 5)] [] (jW 109 (t11_184_4 S) sc) (h) (108, 8802)) : WP nX11 Q 184 [some (.ref 0), some (.int 4)] [] (jW 107 S sc) h (106, 8790) := by
  have f0 : jfree 107 S := hS
  refine j_iload_n (i := 1) rfl (by decide +kernel) ?_
  refine j_aload_n (i := 0) rfl (by decide +kernel) ?_
  refine j_getR (idx := 78) (ci := 11) (k := 13) (nest := false) (show (11, 78, 11, 13, false) ∈ jFT by decide +kernel) rfl (by show 0 < 107; decide) (show jKt.getD 0 99 = 11 by decide +kernel) (a := 93) hq (by decide +kernel) ?_
  refine j_alen (by show 93 < 107; decide) (show jKt.getD 93 99 = 15 by decide +kernel) rfl 30 (show Int32.ofNat (jLt.getD 93 0) = 30 by decide +kernel) (by decide +kernel) ?_
  refine j_icmp_ge (off := 22) 212 (by decide +kernel) (by decide) (fun q => absurd q (by decide)) (fun _ => ?_)
  refine j_aload_n (i := 0) rfl (by decide +kernel) ?_
  refine j_getR (idx := 78) (ci := 11) (k := 13) (nest := false) (show (11, 78, 11, 13, false) ∈ jFT by decide +kernel) rfl (by show 0 < 107; decide) (show jKt.getD 0 99 = 11 by decide +kernel) (a := 93) hq (by decide +kernel) ?_
  refine j_iload_n (i := 1) rfl (by decide +kernel) ?_
  refine j_new (idx := 68) (ci := 4) (by decide) rfl (by show 107 < 1000; decide) (show jKt.getD 107 99 = 4 by decide +kernel) (fun j hj => (slotN (show jKt.getD 107 99 = 4 by decide +kernel) (by decide) (fun i => f0 _ _ (by show 107 ≤ 107; decide)) (fun j => hz _ (by show 106 < 107; decide) j)).trans (d4_new j hj)) (jlkT (jtb2 114 rfl) rfl) (jlkT (jtb1 76 rfl) rfl) (jlkT (jtb1 4 rfl) rfl) ⟨Nat.le_of_ble_eq_true rfl, Nat.le_of_ble_eq_true rfl⟩ (by decide +kernel) ?_
  refine j_dup rfl (by decide +kernel) ?_
  refine j_callIN (M' := nX4) (As := []) (r := 107) (n := 0) (nX4_ok (t := 107) (S := S) (by decide) (show jKt.getD 107 99 = 4 by decide +kernel) (show jKt.getD 108 99 = 14 by decide +kernel) (show jLt.getD 108 0 = 10 by decide +kernel) (fun c hc j => hz c (by omega) j)) jmade_nt (jTbl (jtb2 115 rfl)) snX4 knX4 rfl rfl rfl ⟨by decide +kernel, by decide +kernel, by decide +kernel⟩ rfl ⟨by decide, by decide⟩ (Nat.le_of_ble_eq_true rfl) ⟨Nat.le_of_ble_eq_true rfl, Nat.le_of_ble_eq_true rfl⟩ (by decide +kernel) ?_
  rintro r0 _ h ⟨e, rfl, rfl⟩
  cases e
  have f1 : jfree 109 ((107, 0, 108) :: S) := (f0.up (by decide)).put (by decide)
  refine j_aastR (by show 93 < 109; decide) (show jKt.getD 93 99 = 15 by decide +kernel) (by show 107 < 109; decide) (show jKt.getD 107 99 = 4 by decide +kernel) (show vp_in (nI 4) 30 from vp_in_nI (by decide) (by decide)) (by decide +kernel) ?_
  have f2 : jfree 109 ((93, 4, 107) :: (107, 0, 108) :: S) := (f1.up (by decide)).put (by decide)
  refine j_iinc (i := 1) (n := 1) rfl (by decide +kernel) (by decide) ?_
  refine j_eqlv [some (.ref 0), some (.int 5)] (by rfl) ?_
  refine j_goto (off := -25) 184 (by decide +kernel) (by decide) ?_
  exact kk (fun c hc j => hz c (by omega) j) f2 hq
set_option maxRecDepth 100000 in
theorem b11_184_5 {Q : jQ} (ao : jAO) (hz : ∀ c, 108 < c → ∀ j, h c j = 0) (hS : jfree 109 S) (hq : jFind S 0 13 = some 93) (kk : (∀ c, 110 < c → ∀ j, (h) c j = 0) → jfree 111 (t11_184_5 S) → jFind (t11_184_5 S) 0 13 = some 93 → WP nX11 Q 184 [some (.ref 0), some (.int 6)] [] (jW 111 (t11_184_5 S) sc) (h) (110, 8814)) : WP nX11 Q 184 [some (.ref 0), some (.int 5)] [] (jW 109 S sc) h (108, 8802) := by
  have f0 : jfree 109 S := hS
  refine j_iload_n (i := 1) rfl (by decide +kernel) ?_
  refine j_aload_n (i := 0) rfl (by decide +kernel) ?_
  refine j_getR (idx := 78) (ci := 11) (k := 13) (nest := false) (show (11, 78, 11, 13, false) ∈ jFT by decide +kernel) rfl (by show 0 < 109; decide) (show jKt.getD 0 99 = 11 by decide +kernel) (a := 93) hq (by decide +kernel) ?_
  refine j_alen (by show 93 < 109; decide) (show jKt.getD 93 99 = 15 by decide +kernel) rfl 30 (show Int32.ofNat (jLt.getD 93 0) = 30 by decide +kernel) (by decide +kernel) ?_
  refine j_icmp_ge (off := 22) 212 (by decide +kernel) (by decide) (fun q => absurd q (by decide)) (fun _ => ?_)
  refine j_aload_n (i := 0) rfl (by decide +kernel) ?_
  refine j_getR (idx := 78) (ci := 11) (k := 13) (nest := false) (show (11, 78, 11, 13, false) ∈ jFT by decide +kernel) rfl (by show 0 < 109; decide) (show jKt.getD 0 99 = 11 by decide +kernel) (a := 93) hq (by decide +kernel) ?_
  refine j_iload_n (i := 1) rfl (by decide +kernel) ?_
  refine j_new (idx := 68) (ci := 4) (by decide) rfl (by show 109 < 1000; decide) (show jKt.getD 109 99 = 4 by decide +kernel) (fun j hj => (slotN (show jKt.getD 109 99 = 4 by decide +kernel) (by decide) (fun i => f0 _ _ (by show 109 ≤ 109; decide)) (fun j => hz _ (by show 108 < 109; decide) j)).trans (d4_new j hj)) (jlkT (jtb2 114 rfl) rfl) (jlkT (jtb1 76 rfl) rfl) (jlkT (jtb1 4 rfl) rfl) ⟨Nat.le_of_ble_eq_true rfl, Nat.le_of_ble_eq_true rfl⟩ (by decide +kernel) ?_
  refine j_dup rfl (by decide +kernel) ?_
  refine j_callIN (M' := nX4) (As := []) (r := 109) (n := 0) (nX4_ok (t := 109) (S := S) (by decide) (show jKt.getD 109 99 = 4 by decide +kernel) (show jKt.getD 110 99 = 14 by decide +kernel) (show jLt.getD 110 0 = 10 by decide +kernel) (fun c hc j => hz c (by omega) j)) jmade_nt (jTbl (jtb2 115 rfl)) snX4 knX4 rfl rfl rfl ⟨by decide +kernel, by decide +kernel, by decide +kernel⟩ rfl ⟨by decide, by decide⟩ (Nat.le_of_ble_eq_true rfl) ⟨Nat.le_of_ble_eq_true rfl, Nat.le_of_ble_eq_true rfl⟩ (by decide +kernel) ?_
  rintro r0 _ h ⟨e, rfl, rfl⟩
  cases e
  have f1 : jfree 111 ((109, 0, 110) :: S) := (f0.up (by decide)).put (by decide)
  refine j_aastR (by show 93 < 111; decide) (show jKt.getD 93 99 = 15 by decide +kernel) (by show 109 < 111; decide) (show jKt.getD 109 99 = 4 by decide +kernel) (show vp_in (nI 5) 30 from vp_in_nI (by decide) (by decide)) (by decide +kernel) ?_
  have f2 : jfree 111 ((93, 5, 109) :: (109, 0, 110) :: S) := (f1.up (by decide)).put (by decide)
  refine j_iinc (i := 1) (n := 1) rfl (by decide +kernel) (by decide) ?_
  refine j_eqlv [some (.ref 0), some (.int 6)] (by rfl) ?_
  refine j_goto (off := -25) 184 (by decide +kernel) (by decide) ?_
  exact kk (fun c hc j => hz c (by omega) j) f2 hq
set_option maxRecDepth 100000 in
theorem b11_184_6 {Q : jQ} (ao : jAO) (hz : ∀ c, 110 < c → ∀ j, h c j = 0) (hS : jfree 111 S) (hq : jFind S 0 13 = some 93) (kk : (∀ c, 112 < c → ∀ j, (h) c j = 0) → jfree 113 (t11_184_6 S) → jFind (t11_184_6 S) 0 13 = some 93 → WP nX11 Q 184 [some (.ref 0), some (.int 7)] [] (jW 113 (t11_184_6 S) sc) (h) (112, 8826)) : WP nX11 Q 184 [some (.ref 0), some (.int 6)] [] (jW 111 S sc) h (110, 8814) := by
  have f0 : jfree 111 S := hS
  refine j_iload_n (i := 1) rfl (by decide +kernel) ?_
  refine j_aload_n (i := 0) rfl (by decide +kernel) ?_
  refine j_getR (idx := 78) (ci := 11) (k := 13) (nest := false) (show (11, 78, 11, 13, false) ∈ jFT by decide +kernel) rfl (by show 0 < 111; decide) (show jKt.getD 0 99 = 11 by decide +kernel) (a := 93) hq (by decide +kernel) ?_
  refine j_alen (by show 93 < 111; decide) (show jKt.getD 93 99 = 15 by decide +kernel) rfl 30 (show Int32.ofNat (jLt.getD 93 0) = 30 by decide +kernel) (by decide +kernel) ?_
  refine j_icmp_ge (off := 22) 212 (by decide +kernel) (by decide) (fun q => absurd q (by decide)) (fun _ => ?_)
  refine j_aload_n (i := 0) rfl (by decide +kernel) ?_
  refine j_getR (idx := 78) (ci := 11) (k := 13) (nest := false) (show (11, 78, 11, 13, false) ∈ jFT by decide +kernel) rfl (by show 0 < 111; decide) (show jKt.getD 0 99 = 11 by decide +kernel) (a := 93) hq (by decide +kernel) ?_
  refine j_iload_n (i := 1) rfl (by decide +kernel) ?_
  refine j_new (idx := 68) (ci := 4) (by decide) rfl (by show 111 < 1000; decide) (show jKt.getD 111 99 = 4 by decide +kernel) (fun j hj => (slotN (show jKt.getD 111 99 = 4 by decide +kernel) (by decide) (fun i => f0 _ _ (by show 111 ≤ 111; decide)) (fun j => hz _ (by show 110 < 111; decide) j)).trans (d4_new j hj)) (jlkT (jtb2 114 rfl) rfl) (jlkT (jtb1 76 rfl) rfl) (jlkT (jtb1 4 rfl) rfl) ⟨Nat.le_of_ble_eq_true rfl, Nat.le_of_ble_eq_true rfl⟩ (by decide +kernel) ?_
  refine j_dup rfl (by decide +kernel) ?_
  refine j_callIN (M' := nX4) (As := []) (r := 111) (n := 0) (nX4_ok (t := 111) (S := S) (by decide) (show jKt.getD 111 99 = 4 by decide +kernel) (show jKt.getD 112 99 = 14 by decide +kernel) (show jLt.getD 112 0 = 10 by decide +kernel) (fun c hc j => hz c (by omega) j)) jmade_nt (jTbl (jtb2 115 rfl)) snX4 knX4 rfl rfl rfl ⟨by decide +kernel, by decide +kernel, by decide +kernel⟩ rfl ⟨by decide, by decide⟩ (Nat.le_of_ble_eq_true rfl) ⟨Nat.le_of_ble_eq_true rfl, Nat.le_of_ble_eq_true rfl⟩ (by decide +kernel) ?_
  rintro r0 _ h ⟨e, rfl, rfl⟩
  cases e
  have f1 : jfree 113 ((111, 0, 112) :: S) := (f0.up (by decide)).put (by decide)
  refine j_aastR (by show 93 < 113; decide) (show jKt.getD 93 99 = 15 by decide +kernel) (by show 111 < 113; decide) (show jKt.getD 111 99 = 4 by decide +kernel) (show vp_in (nI 6) 30 from vp_in_nI (by decide) (by decide)) (by decide +kernel) ?_
  have f2 : jfree 113 ((93, 6, 111) :: (111, 0, 112) :: S) := (f1.up (by decide)).put (by decide)
  refine j_iinc (i := 1) (n := 1) rfl (by decide +kernel) (by decide) ?_
  refine j_eqlv [some (.ref 0), some (.int 7)] (by rfl) ?_
  refine j_goto (off := -25) 184 (by decide +kernel) (by decide) ?_
  exact kk (fun c hc j => hz c (by omega) j) f2 hq
set_option maxRecDepth 100000 in
theorem b11_184_7 {Q : jQ} (ao : jAO) (hz : ∀ c, 112 < c → ∀ j, h c j = 0) (hS : jfree 113 S) (hq : jFind S 0 13 = some 93) (kk : (∀ c, 114 < c → ∀ j, (h) c j = 0) → jfree 115 (t11_184_7 S) → jFind (t11_184_7 S) 0 13 = some 93 → WP nX11 Q 184 [some (.ref 0), some (.int 8)] [] (jW 115 (t11_184_7 S) sc) (h) (114, 8838)) : WP nX11 Q 184 [some (.ref 0), some (.int 7)] [] (jW 113 S sc) h (112, 8826) := by
  have f0 : jfree 113 S := hS
  refine j_iload_n (i := 1) rfl (by decide +kernel) ?_
  refine j_aload_n (i := 0) rfl (by decide +kernel) ?_
  refine j_getR (idx := 78) (ci := 11) (k := 13) (nest := false) (show (11, 78, 11, 13, false) ∈ jFT by decide +kernel) rfl (by show 0 < 113; decide) (show jKt.getD 0 99 = 11 by decide +kernel) (a := 93) hq (by decide +kernel) ?_
  refine j_alen (by show 93 < 113; decide) (show jKt.getD 93 99 = 15 by decide +kernel) rfl 30 (show Int32.ofNat (jLt.getD 93 0) = 30 by decide +kernel) (by decide +kernel) ?_
  refine j_icmp_ge (off := 22) 212 (by decide +kernel) (by decide) (fun q => absurd q (by decide)) (fun _ => ?_)
  refine j_aload_n (i := 0) rfl (by decide +kernel) ?_
  refine j_getR (idx := 78) (ci := 11) (k := 13) (nest := false) (show (11, 78, 11, 13, false) ∈ jFT by decide +kernel) rfl (by show 0 < 113; decide) (show jKt.getD 0 99 = 11 by decide +kernel) (a := 93) hq (by decide +kernel) ?_
  refine j_iload_n (i := 1) rfl (by decide +kernel) ?_
  refine j_new (idx := 68) (ci := 4) (by decide) rfl (by show 113 < 1000; decide) (show jKt.getD 113 99 = 4 by decide +kernel) (fun j hj => (slotN (show jKt.getD 113 99 = 4 by decide +kernel) (by decide) (fun i => f0 _ _ (by show 113 ≤ 113; decide)) (fun j => hz _ (by show 112 < 113; decide) j)).trans (d4_new j hj)) (jlkT (jtb2 114 rfl) rfl) (jlkT (jtb1 76 rfl) rfl) (jlkT (jtb1 4 rfl) rfl) ⟨Nat.le_of_ble_eq_true rfl, Nat.le_of_ble_eq_true rfl⟩ (by decide +kernel) ?_
  refine j_dup rfl (by decide +kernel) ?_
  refine j_callIN (M' := nX4) (As := []) (r := 113) (n := 0) (nX4_ok (t := 113) (S := S) (by decide) (show jKt.getD 113 99 = 4 by decide +kernel) (show jKt.getD 114 99 = 14 by decide +kernel) (show jLt.getD 114 0 = 10 by decide +kernel) (fun c hc j => hz c (by omega) j)) jmade_nt (jTbl (jtb2 115 rfl)) snX4 knX4 rfl rfl rfl ⟨by decide +kernel, by decide +kernel, by decide +kernel⟩ rfl ⟨by decide, by decide⟩ (Nat.le_of_ble_eq_true rfl) ⟨Nat.le_of_ble_eq_true rfl, Nat.le_of_ble_eq_true rfl⟩ (by decide +kernel) ?_
  rintro r0 _ h ⟨e, rfl, rfl⟩
  cases e
  have f1 : jfree 115 ((113, 0, 114) :: S) := (f0.up (by decide)).put (by decide)
  refine j_aastR (by show 93 < 115; decide) (show jKt.getD 93 99 = 15 by decide +kernel) (by show 113 < 115; decide) (show jKt.getD 113 99 = 4 by decide +kernel) (show vp_in (nI 7) 30 from vp_in_nI (by decide) (by decide)) (by decide +kernel) ?_
  have f2 : jfree 115 ((93, 7, 113) :: (113, 0, 114) :: S) := (f1.up (by decide)).put (by decide)
  refine j_iinc (i := 1) (n := 1) rfl (by decide +kernel) (by decide) ?_
  refine j_eqlv [some (.ref 0), some (.int 8)] (by rfl) ?_
  refine j_goto (off := -25) 184 (by decide +kernel) (by decide) ?_
  exact kk (fun c hc j => hz c (by omega) j) f2 hq
set_option maxRecDepth 100000 in
theorem b11_184_8 {Q : jQ} (ao : jAO) (hz : ∀ c, 114 < c → ∀ j, h c j = 0) (hS : jfree 115 S) (hq : jFind S 0 13 = some 93) (kk : (∀ c, 116 < c → ∀ j, (h) c j = 0) → jfree 117 (t11_184_8 S) → jFind (t11_184_8 S) 0 13 = some 93 → WP nX11 Q 184 [some (.ref 0), some (.int 9)] [] (jW 117 (t11_184_8 S) sc) (h) (116, 8850)) : WP nX11 Q 184 [some (.ref 0), some (.int 8)] [] (jW 115 S sc) h (114, 8838) := by
  have f0 : jfree 115 S := hS
  refine j_iload_n (i := 1) rfl (by decide +kernel) ?_
  refine j_aload_n (i := 0) rfl (by decide +kernel) ?_
  refine j_getR (idx := 78) (ci := 11) (k := 13) (nest := false) (show (11, 78, 11, 13, false) ∈ jFT by decide +kernel) rfl (by show 0 < 115; decide) (show jKt.getD 0 99 = 11 by decide +kernel) (a := 93) hq (by decide +kernel) ?_
  refine j_alen (by show 93 < 115; decide) (show jKt.getD 93 99 = 15 by decide +kernel) rfl 30 (show Int32.ofNat (jLt.getD 93 0) = 30 by decide +kernel) (by decide +kernel) ?_
  refine j_icmp_ge (off := 22) 212 (by decide +kernel) (by decide) (fun q => absurd q (by decide)) (fun _ => ?_)
  refine j_aload_n (i := 0) rfl (by decide +kernel) ?_
  refine j_getR (idx := 78) (ci := 11) (k := 13) (nest := false) (show (11, 78, 11, 13, false) ∈ jFT by decide +kernel) rfl (by show 0 < 115; decide) (show jKt.getD 0 99 = 11 by decide +kernel) (a := 93) hq (by decide +kernel) ?_
  refine j_iload_n (i := 1) rfl (by decide +kernel) ?_
  refine j_new (idx := 68) (ci := 4) (by decide) rfl (by show 115 < 1000; decide) (show jKt.getD 115 99 = 4 by decide +kernel) (fun j hj => (slotN (show jKt.getD 115 99 = 4 by decide +kernel) (by decide) (fun i => f0 _ _ (by show 115 ≤ 115; decide)) (fun j => hz _ (by show 114 < 115; decide) j)).trans (d4_new j hj)) (jlkT (jtb2 114 rfl) rfl) (jlkT (jtb1 76 rfl) rfl) (jlkT (jtb1 4 rfl) rfl) ⟨Nat.le_of_ble_eq_true rfl, Nat.le_of_ble_eq_true rfl⟩ (by decide +kernel) ?_
  refine j_dup rfl (by decide +kernel) ?_
  refine j_callIN (M' := nX4) (As := []) (r := 115) (n := 0) (nX4_ok (t := 115) (S := S) (by decide) (show jKt.getD 115 99 = 4 by decide +kernel) (show jKt.getD 116 99 = 14 by decide +kernel) (show jLt.getD 116 0 = 10 by decide +kernel) (fun c hc j => hz c (by omega) j)) jmade_nt (jTbl (jtb2 115 rfl)) snX4 knX4 rfl rfl rfl ⟨by decide +kernel, by decide +kernel, by decide +kernel⟩ rfl ⟨by decide, by decide⟩ (Nat.le_of_ble_eq_true rfl) ⟨Nat.le_of_ble_eq_true rfl, Nat.le_of_ble_eq_true rfl⟩ (by decide +kernel) ?_
  rintro r0 _ h ⟨e, rfl, rfl⟩
  cases e
  have f1 : jfree 117 ((115, 0, 116) :: S) := (f0.up (by decide)).put (by decide)
  refine j_aastR (by show 93 < 117; decide) (show jKt.getD 93 99 = 15 by decide +kernel) (by show 115 < 117; decide) (show jKt.getD 115 99 = 4 by decide +kernel) (show vp_in (nI 8) 30 from vp_in_nI (by decide) (by decide)) (by decide +kernel) ?_
  have f2 : jfree 117 ((93, 8, 115) :: (115, 0, 116) :: S) := (f1.up (by decide)).put (by decide)
  refine j_iinc (i := 1) (n := 1) rfl (by decide +kernel) (by decide) ?_
  refine j_eqlv [some (.ref 0), some (.int 9)] (by rfl) ?_
  refine j_goto (off := -25) 184 (by decide +kernel) (by decide) ?_
  exact kk (fun c hc j => hz c (by omega) j) f2 hq
set_option maxRecDepth 100000 in
theorem b11_184_9 {Q : jQ} (ao : jAO) (hz : ∀ c, 116 < c → ∀ j, h c j = 0) (hS : jfree 117 S) (hq : jFind S 0 13 = some 93) (kk : (∀ c, 118 < c → ∀ j, (h) c j = 0) → jfree 119 (t11_184_9 S) → jFind (t11_184_9 S) 0 13 = some 93 → WP nX11 Q 184 [some (.ref 0), some (.int 10)] [] (jW 119 (t11_184_9 S) sc) (h) (118, 8862)) : WP nX11 Q 184 [some (.ref 0), some (.int 9)] [] (jW 117 S sc) h (116, 8850) := by
  have f0 : jfree 117 S := hS
  refine j_iload_n (i := 1) rfl (by decide +kernel) ?_
  refine j_aload_n (i := 0) rfl (by decide +kernel) ?_
  refine j_getR (idx := 78) (ci := 11) (k := 13) (nest := false) (show (11, 78, 11, 13, false) ∈ jFT by decide +kernel) rfl (by show 0 < 117; decide) (show jKt.getD 0 99 = 11 by decide +kernel) (a := 93) hq (by decide +kernel) ?_
  refine j_alen (by show 93 < 117; decide) (show jKt.getD 93 99 = 15 by decide +kernel) rfl 30 (show Int32.ofNat (jLt.getD 93 0) = 30 by decide +kernel) (by decide +kernel) ?_
  refine j_icmp_ge (off := 22) 212 (by decide +kernel) (by decide) (fun q => absurd q (by decide)) (fun _ => ?_)
  refine j_aload_n (i := 0) rfl (by decide +kernel) ?_
  refine j_getR (idx := 78) (ci := 11) (k := 13) (nest := false) (show (11, 78, 11, 13, false) ∈ jFT by decide +kernel) rfl (by show 0 < 117; decide) (show jKt.getD 0 99 = 11 by decide +kernel) (a := 93) hq (by decide +kernel) ?_
  refine j_iload_n (i := 1) rfl (by decide +kernel) ?_
  refine j_new (idx := 68) (ci := 4) (by decide) rfl (by show 117 < 1000; decide) (show jKt.getD 117 99 = 4 by decide +kernel) (fun j hj => (slotN (show jKt.getD 117 99 = 4 by decide +kernel) (by decide) (fun i => f0 _ _ (by show 117 ≤ 117; decide)) (fun j => hz _ (by show 116 < 117; decide) j)).trans (d4_new j hj)) (jlkT (jtb2 114 rfl) rfl) (jlkT (jtb1 76 rfl) rfl) (jlkT (jtb1 4 rfl) rfl) ⟨Nat.le_of_ble_eq_true rfl, Nat.le_of_ble_eq_true rfl⟩ (by decide +kernel) ?_
  refine j_dup rfl (by decide +kernel) ?_
  refine j_callIN (M' := nX4) (As := []) (r := 117) (n := 0) (nX4_ok (t := 117) (S := S) (by decide) (show jKt.getD 117 99 = 4 by decide +kernel) (show jKt.getD 118 99 = 14 by decide +kernel) (show jLt.getD 118 0 = 10 by decide +kernel) (fun c hc j => hz c (by omega) j)) jmade_nt (jTbl (jtb2 115 rfl)) snX4 knX4 rfl rfl rfl ⟨by decide +kernel, by decide +kernel, by decide +kernel⟩ rfl ⟨by decide, by decide⟩ (Nat.le_of_ble_eq_true rfl) ⟨Nat.le_of_ble_eq_true rfl, Nat.le_of_ble_eq_true rfl⟩ (by decide +kernel) ?_
  rintro r0 _ h ⟨e, rfl, rfl⟩
  cases e
  have f1 : jfree 119 ((117, 0, 118) :: S) := (f0.up (by decide)).put (by decide)
  refine j_aastR (by show 93 < 119; decide) (show jKt.getD 93 99 = 15 by decide +kernel) (by show 117 < 119; decide) (show jKt.getD 117 99 = 4 by decide +kernel) (show vp_in (nI 9) 30 from vp_in_nI (by decide) (by decide)) (by decide +kernel) ?_
  have f2 : jfree 119 ((93, 9, 117) :: (117, 0, 118) :: S) := (f1.up (by decide)).put (by decide)
  refine j_iinc (i := 1) (n := 1) rfl (by decide +kernel) (by decide) ?_
  refine j_eqlv [some (.ref 0), some (.int 10)] (by rfl) ?_
  refine j_goto (off := -25) 184 (by decide +kernel) (by decide) ?_
  exact kk (fun c hc j => hz c (by omega) j) f2 hq
set_option maxRecDepth 100000 in
theorem b11_184_10 {Q : jQ} (ao : jAO) (hz : ∀ c, 118 < c → ∀ j, h c j = 0) (hS : jfree 119 S) (hq : jFind S 0 13 = some 93) (kk : (∀ c, 120 < c → ∀ j, (h) c j = 0) → jfree 121 (t11_184_10 S) → jFind (t11_184_10 S) 0 13 = some 93 → WP nX11 Q 184 [some (.ref 0), some (.int 11)] [] (jW 121 (t11_184_10 S) sc) (h) (120, 8874)) : WP nX11 Q 184 [some (.ref 0), some (.int 10)] [] (jW 119 S sc) h (118, 8862) := by
  have f0 : jfree 119 S := hS
  refine j_iload_n (i := 1) rfl (by decide +kernel) ?_
  refine j_aload_n (i := 0) rfl (by decide +kernel) ?_
  refine j_getR (idx := 78) (ci := 11) (k := 13) (nest := false) (show (11, 78, 11, 13, false) ∈ jFT by decide +kernel) rfl (by show 0 < 119; decide) (show jKt.getD 0 99 = 11 by decide +kernel) (a := 93) hq (by decide +kernel) ?_
  refine j_alen (by show 93 < 119; decide) (show jKt.getD 93 99 = 15 by decide +kernel) rfl 30 (show Int32.ofNat (jLt.getD 93 0) = 30 by decide +kernel) (by decide +kernel) ?_
  refine j_icmp_ge (off := 22) 212 (by decide +kernel) (by decide) (fun q => absurd q (by decide)) (fun _ => ?_)
  refine j_aload_n (i := 0) rfl (by decide +kernel) ?_
  refine j_getR (idx := 78) (ci := 11) (k := 13) (nest := false) (show (11, 78, 11, 13, false) ∈ jFT by decide +kernel) rfl (by show 0 < 119; decide) (show jKt.getD 0 99 = 11 by decide +kernel) (a := 93) hq (by decide +kernel) ?_
  refine j_iload_n (i := 1) rfl (by decide +kernel) ?_
  refine j_new (idx := 68) (ci := 4) (by decide) rfl (by show 119 < 1000; decide) (show jKt.getD 119 99 = 4 by decide +kernel) (fun j hj => (slotN (show jKt.getD 119 99 = 4 by decide +kernel) (by decide) (fun i => f0 _ _ (by show 119 ≤ 119; decide)) (fun j => hz _ (by show 118 < 119; decide) j)).trans (d4_new j hj)) (jlkT (jtb2 114 rfl) rfl) (jlkT (jtb1 76 rfl) rfl) (jlkT (jtb1 4 rfl) rfl) ⟨Nat.le_of_ble_eq_true rfl, Nat.le_of_ble_eq_true rfl⟩ (by decide +kernel) ?_
  refine j_dup rfl (by decide +kernel) ?_
  refine j_callIN (M' := nX4) (As := []) (r := 119) (n := 0) (nX4_ok (t := 119) (S := S) (by decide) (show jKt.getD 119 99 = 4 by decide +kernel) (show jKt.getD 120 99 = 14 by decide +kernel) (show jLt.getD 120 0 = 10 by decide +kernel) (fun c hc j => hz c (by omega) j)) jmade_nt (jTbl (jtb2 115 rfl)) snX4 knX4 rfl rfl rfl ⟨by decide +kernel, by decide +kernel, by decide +kernel⟩ rfl ⟨by decide, by decide⟩ (Nat.le_of_ble_eq_true rfl) ⟨Nat.le_of_ble_eq_true rfl, Nat.le_of_ble_eq_true rfl⟩ (by decide +kernel) ?_
  rintro r0 _ h ⟨e, rfl, rfl⟩
  cases e
  have f1 : jfree 121 ((119, 0, 120) :: S) := (f0.up (by decide)).put (by decide)
  refine j_aastR (by show 93 < 121; decide) (show jKt.getD 93 99 = 15 by decide +kernel) (by show 119 < 121; decide) (show jKt.getD 119 99 = 4 by decide +kernel) (show vp_in (nI 10) 30 from vp_in_nI (by decide) (by decide)) (by decide +kernel) ?_
  have f2 : jfree 121 ((93, 10, 119) :: (119, 0, 120) :: S) := (f1.up (by decide)).put (by decide)
  refine j_iinc (i := 1) (n := 1) rfl (by decide +kernel) (by decide) ?_
  refine j_eqlv [some (.ref 0), some (.int 11)] (by rfl) ?_
  refine j_goto (off := -25) 184 (by decide +kernel) (by decide) ?_
  exact kk (fun c hc j => hz c (by omega) j) f2 hq
set_option maxRecDepth 100000 in
theorem b11_184_11 {Q : jQ} (ao : jAO) (hz : ∀ c, 120 < c → ∀ j, h c j = 0) (hS : jfree 121 S) (hq : jFind S 0 13 = some 93) (kk : (∀ c, 122 < c → ∀ j, (h) c j = 0) → jfree 123 (t11_184_11 S) → jFind (t11_184_11 S) 0 13 = some 93 → WP nX11 Q 184 [some (.ref 0), some (.int 12)] [] (jW 123 (t11_184_11 S) sc) (h) (122, 8886)) : WP nX11 Q 184 [some (.ref 0), some (.int 11)] [] (jW 121 S sc) h (120, 8874) := by
  have f0 : jfree 121 S := hS
  refine j_iload_n (i := 1) rfl (by decide +kernel) ?_
  refine j_aload_n (i := 0) rfl (by decide +kernel) ?_
  refine j_getR (idx := 78) (ci := 11) (k := 13) (nest := false) (show (11, 78, 11, 13, false) ∈ jFT by decide +kernel) rfl (by show 0 < 121; decide) (show jKt.getD 0 99 = 11 by decide +kernel) (a := 93) hq (by decide +kernel) ?_
  refine j_alen (by show 93 < 121; decide) (show jKt.getD 93 99 = 15 by decide +kernel) rfl 30 (show Int32.ofNat (jLt.getD 93 0) = 30 by decide +kernel) (by decide +kernel) ?_
  refine j_icmp_ge (off := 22) 212 (by decide +kernel) (by decide) (fun q => absurd q (by decide)) (fun _ => ?_)
  refine j_aload_n (i := 0) rfl (by decide +kernel) ?_
  refine j_getR (idx := 78) (ci := 11) (k := 13) (nest := false) (show (11, 78, 11, 13, false) ∈ jFT by decide +kernel) rfl (by show 0 < 121; decide) (show jKt.getD 0 99 = 11 by decide +kernel) (a := 93) hq (by decide +kernel) ?_
  refine j_iload_n (i := 1) rfl (by decide +kernel) ?_
  refine j_new (idx := 68) (ci := 4) (by decide) rfl (by show 121 < 1000; decide) (show jKt.getD 121 99 = 4 by decide +kernel) (fun j hj => (slotN (show jKt.getD 121 99 = 4 by decide +kernel) (by decide) (fun i => f0 _ _ (by show 121 ≤ 121; decide)) (fun j => hz _ (by show 120 < 121; decide) j)).trans (d4_new j hj)) (jlkT (jtb2 114 rfl) rfl) (jlkT (jtb1 76 rfl) rfl) (jlkT (jtb1 4 rfl) rfl) ⟨Nat.le_of_ble_eq_true rfl, Nat.le_of_ble_eq_true rfl⟩ (by decide +kernel) ?_
  refine j_dup rfl (by decide +kernel) ?_
  refine j_callIN (M' := nX4) (As := []) (r := 121) (n := 0) (nX4_ok (t := 121) (S := S) (by decide) (show jKt.getD 121 99 = 4 by decide +kernel) (show jKt.getD 122 99 = 14 by decide +kernel) (show jLt.getD 122 0 = 10 by decide +kernel) (fun c hc j => hz c (by omega) j)) jmade_nt (jTbl (jtb2 115 rfl)) snX4 knX4 rfl rfl rfl ⟨by decide +kernel, by decide +kernel, by decide +kernel⟩ rfl ⟨by decide, by decide⟩ (Nat.le_of_ble_eq_true rfl) ⟨Nat.le_of_ble_eq_true rfl, Nat.le_of_ble_eq_true rfl⟩ (by decide +kernel) ?_
  rintro r0 _ h ⟨e, rfl, rfl⟩
  cases e
  have f1 : jfree 123 ((121, 0, 122) :: S) := (f0.up (by decide)).put (by decide)
  refine j_aastR (by show 93 < 123; decide) (show jKt.getD 93 99 = 15 by decide +kernel) (by show 121 < 123; decide) (show jKt.getD 121 99 = 4 by decide +kernel) (show vp_in (nI 11) 30 from vp_in_nI (by decide) (by decide)) (by decide +kernel) ?_
  have f2 : jfree 123 ((93, 11, 121) :: (121, 0, 122) :: S) := (f1.up (by decide)).put (by decide)
  refine j_iinc (i := 1) (n := 1) rfl (by decide +kernel) (by decide) ?_
  refine j_eqlv [some (.ref 0), some (.int 12)] (by rfl) ?_
  refine j_goto (off := -25) 184 (by decide +kernel) (by decide) ?_
  exact kk (fun c hc j => hz c (by omega) j) f2 hq
set_option maxRecDepth 100000 in
theorem b11_184_12 {Q : jQ} (ao : jAO) (hz : ∀ c, 122 < c → ∀ j, h c j = 0) (hS : jfree 123 S) (hq : jFind S 0 13 = some 93) (kk : (∀ c, 124 < c → ∀ j, (h) c j = 0) → jfree 125 (t11_184_12 S) → jFind (t11_184_12 S) 0 13 = some 93 → WP nX11 Q 184 [some (.ref 0), some (.int 13)] [] (jW 125 (t11_184_12 S) sc) (h) (124, 8898)) : WP nX11 Q 184 [some (.ref 0), some (.int 12)] [] (jW 123 S sc) h (122, 8886) := by
  have f0 : jfree 123 S := hS
  refine j_iload_n (i := 1) rfl (by decide +kernel) ?_
  refine j_aload_n (i := 0) rfl (by decide +kernel) ?_
  refine j_getR (idx := 78) (ci := 11) (k := 13) (nest := false) (show (11, 78, 11, 13, false) ∈ jFT by decide +kernel) rfl (by show 0 < 123; decide) (show jKt.getD 0 99 = 11 by decide +kernel) (a := 93) hq (by decide +kernel) ?_
  refine j_alen (by show 93 < 123; decide) (show jKt.getD 93 99 = 15 by decide +kernel) rfl 30 (show Int32.ofNat (jLt.getD 93 0) = 30 by decide +kernel) (by decide +kernel) ?_
  refine j_icmp_ge (off := 22) 212 (by decide +kernel) (by decide) (fun q => absurd q (by decide)) (fun _ => ?_)
  refine j_aload_n (i := 0) rfl (by decide +kernel) ?_
  refine j_getR (idx := 78) (ci := 11) (k := 13) (nest := false) (show (11, 78, 11, 13, false) ∈ jFT by decide +kernel) rfl (by show 0 < 123; decide) (show jKt.getD 0 99 = 11 by decide +kernel) (a := 93) hq (by decide +kernel) ?_
  refine j_iload_n (i := 1) rfl (by decide +kernel) ?_
  refine j_new (idx := 68) (ci := 4) (by decide) rfl (by show 123 < 1000; decide) (show jKt.getD 123 99 = 4 by decide +kernel) (fun j hj => (slotN (show jKt.getD 123 99 = 4 by decide +kernel) (by decide) (fun i => f0 _ _ (by show 123 ≤ 123; decide)) (fun j => hz _ (by show 122 < 123; decide) j)).trans (d4_new j hj)) (jlkT (jtb2 114 rfl) rfl) (jlkT (jtb1 76 rfl) rfl) (jlkT (jtb1 4 rfl) rfl) ⟨Nat.le_of_ble_eq_true rfl, Nat.le_of_ble_eq_true rfl⟩ (by decide +kernel) ?_
  refine j_dup rfl (by decide +kernel) ?_
  refine j_callIN (M' := nX4) (As := []) (r := 123) (n := 0) (nX4_ok (t := 123) (S := S) (by decide) (show jKt.getD 123 99 = 4 by decide +kernel) (show jKt.getD 124 99 = 14 by decide +kernel) (show jLt.getD 124 0 = 10 by decide +kernel) (fun c hc j => hz c (by omega) j)) jmade_nt (jTbl (jtb2 115 rfl)) snX4 knX4 rfl rfl rfl ⟨by decide +kernel, by decide +kernel, by decide +kernel⟩ rfl ⟨by decide, by decide⟩ (Nat.le_of_ble_eq_true rfl) ⟨Nat.le_of_ble_eq_true rfl, Nat.le_of_ble_eq_true rfl⟩ (by decide +kernel) ?_
  rintro r0 _ h ⟨e, rfl, rfl⟩
  cases e
  have f1 : jfree 125 ((123, 0, 124) :: S) := (f0.up (by decide)).put (by decide)
  refine j_aastR (by show 93 < 125; decide) (show jKt.getD 93 99 = 15 by decide +kernel) (by show 123 < 125; decide) (show jKt.getD 123 99 = 4 by decide +kernel) (show vp_in (nI 12) 30 from vp_in_nI (by decide) (by decide)) (by decide +kernel) ?_
  have f2 : jfree 125 ((93, 12, 123) :: (123, 0, 124) :: S) := (f1.up (by decide)).put (by decide)
  refine j_iinc (i := 1) (n := 1) rfl (by decide +kernel) (by decide) ?_
  refine j_eqlv [some (.ref 0), some (.int 13)] (by rfl) ?_
  refine j_goto (off := -25) 184 (by decide +kernel) (by decide) ?_
  exact kk (fun c hc j => hz c (by omega) j) f2 hq
set_option maxRecDepth 100000 in
theorem b11_184_13 {Q : jQ} (ao : jAO) (hz : ∀ c, 124 < c → ∀ j, h c j = 0) (hS : jfree 125 S) (hq : jFind S 0 13 = some 93) (kk : (∀ c, 126 < c → ∀ j, (h) c j = 0) → jfree 127 (t11_184_13 S) → jFind (t11_184_13 S) 0 13 = some 93 → WP nX11 Q 184 [some (.ref 0), some (.int 14)] [] (jW 127 (t11_184_13 S) sc) (h) (126, 8910)) : WP nX11 Q 184 [some (.ref 0), some (.int 13)] [] (jW 125 S sc) h (124, 8898) := by
  have f0 : jfree 125 S := hS
  refine j_iload_n (i := 1) rfl (by decide +kernel) ?_
  refine j_aload_n (i := 0) rfl (by decide +kernel) ?_
  refine j_getR (idx := 78) (ci := 11) (k := 13) (nest := false) (show (11, 78, 11, 13, false) ∈ jFT by decide +kernel) rfl (by show 0 < 125; decide) (show jKt.getD 0 99 = 11 by decide +kernel) (a := 93) hq (by decide +kernel) ?_
  refine j_alen (by show 93 < 125; decide) (show jKt.getD 93 99 = 15 by decide +kernel) rfl 30 (show Int32.ofNat (jLt.getD 93 0) = 30 by decide +kernel) (by decide +kernel) ?_
  refine j_icmp_ge (off := 22) 212 (by decide +kernel) (by decide) (fun q => absurd q (by decide)) (fun _ => ?_)
  refine j_aload_n (i := 0) rfl (by decide +kernel) ?_
  refine j_getR (idx := 78) (ci := 11) (k := 13) (nest := false) (show (11, 78, 11, 13, false) ∈ jFT by decide +kernel) rfl (by show 0 < 125; decide) (show jKt.getD 0 99 = 11 by decide +kernel) (a := 93) hq (by decide +kernel) ?_
  refine j_iload_n (i := 1) rfl (by decide +kernel) ?_
  refine j_new (idx := 68) (ci := 4) (by decide) rfl (by show 125 < 1000; decide) (show jKt.getD 125 99 = 4 by decide +kernel) (fun j hj => (slotN (show jKt.getD 125 99 = 4 by decide +kernel) (by decide) (fun i => f0 _ _ (by show 125 ≤ 125; decide)) (fun j => hz _ (by show 124 < 125; decide) j)).trans (d4_new j hj)) (jlkT (jtb2 114 rfl) rfl) (jlkT (jtb1 76 rfl) rfl) (jlkT (jtb1 4 rfl) rfl) ⟨Nat.le_of_ble_eq_true rfl, Nat.le_of_ble_eq_true rfl⟩ (by decide +kernel) ?_
  refine j_dup rfl (by decide +kernel) ?_
  refine j_callIN (M' := nX4) (As := []) (r := 125) (n := 0) (nX4_ok (t := 125) (S := S) (by decide) (show jKt.getD 125 99 = 4 by decide +kernel) (show jKt.getD 126 99 = 14 by decide +kernel) (show jLt.getD 126 0 = 10 by decide +kernel) (fun c hc j => hz c (by omega) j)) jmade_nt (jTbl (jtb2 115 rfl)) snX4 knX4 rfl rfl rfl ⟨by decide +kernel, by decide +kernel, by decide +kernel⟩ rfl ⟨by decide, by decide⟩ (Nat.le_of_ble_eq_true rfl) ⟨Nat.le_of_ble_eq_true rfl, Nat.le_of_ble_eq_true rfl⟩ (by decide +kernel) ?_
  rintro r0 _ h ⟨e, rfl, rfl⟩
  cases e
  have f1 : jfree 127 ((125, 0, 126) :: S) := (f0.up (by decide)).put (by decide)
  refine j_aastR (by show 93 < 127; decide) (show jKt.getD 93 99 = 15 by decide +kernel) (by show 125 < 127; decide) (show jKt.getD 125 99 = 4 by decide +kernel) (show vp_in (nI 13) 30 from vp_in_nI (by decide) (by decide)) (by decide +kernel) ?_
  have f2 : jfree 127 ((93, 13, 125) :: (125, 0, 126) :: S) := (f1.up (by decide)).put (by decide)
  refine j_iinc (i := 1) (n := 1) rfl (by decide +kernel) (by decide) ?_
  refine j_eqlv [some (.ref 0), some (.int 14)] (by rfl) ?_
  refine j_goto (off := -25) 184 (by decide +kernel) (by decide) ?_
  exact kk (fun c hc j => hz c (by omega) j) f2 hq
set_option maxRecDepth 100000 in
theorem b11_184_14 {Q : jQ} (ao : jAO) (hz : ∀ c, 126 < c → ∀ j, h c j = 0) (hS : jfree 127 S) (hq : jFind S 0 13 = some 93) (kk : (∀ c, 128 < c → ∀ j, (h) c j = 0) → jfree 129 (t11_184_14 S) → jFind (t11_184_14 S) 0 13 = some 93 → WP nX11 Q 184 [some (.ref 0), some (.int 15)] [] (jW 129 (t11_184_14 S) sc) (h) (128, 8922)) : WP nX11 Q 184 [some (.ref 0), some (.int 14)] [] (jW 127 S sc) h (126, 8910) := by
  have f0 : jfree 127 S := hS
  refine j_iload_n (i := 1) rfl (by decide +kernel) ?_
  refine j_aload_n (i := 0) rfl (by decide +kernel) ?_
  refine j_getR (idx := 78) (ci := 11) (k := 13) (nest := false) (show (11, 78, 11, 13, false) ∈ jFT by decide +kernel) rfl (by show 0 < 127; decide) (show jKt.getD 0 99 = 11 by decide +kernel) (a := 93) hq (by decide +kernel) ?_
  refine j_alen (by show 93 < 127; decide) (show jKt.getD 93 99 = 15 by decide +kernel) rfl 30 (show Int32.ofNat (jLt.getD 93 0) = 30 by decide +kernel) (by decide +kernel) ?_
  refine j_icmp_ge (off := 22) 212 (by decide +kernel) (by decide) (fun q => absurd q (by decide)) (fun _ => ?_)
  refine j_aload_n (i := 0) rfl (by decide +kernel) ?_
  refine j_getR (idx := 78) (ci := 11) (k := 13) (nest := false) (show (11, 78, 11, 13, false) ∈ jFT by decide +kernel) rfl (by show 0 < 127; decide) (show jKt.getD 0 99 = 11 by decide +kernel) (a := 93) hq (by decide +kernel) ?_
  refine j_iload_n (i := 1) rfl (by decide +kernel) ?_
  refine j_new (idx := 68) (ci := 4) (by decide) rfl (by show 127 < 1000; decide) (show jKt.getD 127 99 = 4 by decide +kernel) (fun j hj => (slotN (show jKt.getD 127 99 = 4 by decide +kernel) (by decide) (fun i => f0 _ _ (by show 127 ≤ 127; decide)) (fun j => hz _ (by show 126 < 127; decide) j)).trans (d4_new j hj)) (jlkT (jtb2 114 rfl) rfl) (jlkT (jtb1 76 rfl) rfl) (jlkT (jtb1 4 rfl) rfl) ⟨Nat.le_of_ble_eq_true rfl, Nat.le_of_ble_eq_true rfl⟩ (by decide +kernel) ?_
  refine j_dup rfl (by decide +kernel) ?_
  refine j_callIN (M' := nX4) (As := []) (r := 127) (n := 0) (nX4_ok (t := 127) (S := S) (by decide) (show jKt.getD 127 99 = 4 by decide +kernel) (show jKt.getD 128 99 = 14 by decide +kernel) (show jLt.getD 128 0 = 10 by decide +kernel) (fun c hc j => hz c (by omega) j)) jmade_nt (jTbl (jtb2 115 rfl)) snX4 knX4 rfl rfl rfl ⟨by decide +kernel, by decide +kernel, by decide +kernel⟩ rfl ⟨by decide, by decide⟩ (Nat.le_of_ble_eq_true rfl) ⟨Nat.le_of_ble_eq_true rfl, Nat.le_of_ble_eq_true rfl⟩ (by decide +kernel) ?_
  rintro r0 _ h ⟨e, rfl, rfl⟩
  cases e
  have f1 : jfree 129 ((127, 0, 128) :: S) := (f0.up (by decide)).put (by decide)
  refine j_aastR (by show 93 < 129; decide) (show jKt.getD 93 99 = 15 by decide +kernel) (by show 127 < 129; decide) (show jKt.getD 127 99 = 4 by decide +kernel) (show vp_in (nI 14) 30 from vp_in_nI (by decide) (by decide)) (by decide +kernel) ?_
  have f2 : jfree 129 ((93, 14, 127) :: (127, 0, 128) :: S) := (f1.up (by decide)).put (by decide)
  refine j_iinc (i := 1) (n := 1) rfl (by decide +kernel) (by decide) ?_
  refine j_eqlv [some (.ref 0), some (.int 15)] (by rfl) ?_
  refine j_goto (off := -25) 184 (by decide +kernel) (by decide) ?_
  exact kk (fun c hc j => hz c (by omega) j) f2 hq
set_option maxRecDepth 100000 in
theorem b11_184_15 {Q : jQ} (ao : jAO) (hz : ∀ c, 128 < c → ∀ j, h c j = 0) (hS : jfree 129 S) (hq : jFind S 0 13 = some 93) (kk : (∀ c, 130 < c → ∀ j, (h) c j = 0) → jfree 131 (t11_184_15 S) → jFind (t11_184_15 S) 0 13 = some 93 → WP nX11 Q 184 [some (.ref 0), some (.int 16)] [] (jW 131 (t11_184_15 S) sc) (h) (130, 8934)) : WP nX11 Q 184 [some (.ref 0), some (.int 15)] [] (jW 129 S sc) h (128, 8922) := by
  have f0 : jfree 129 S := hS
  refine j_iload_n (i := 1) rfl (by decide +kernel) ?_
  refine j_aload_n (i := 0) rfl (by decide +kernel) ?_
  refine j_getR (idx := 78) (ci := 11) (k := 13) (nest := false) (show (11, 78, 11, 13, false) ∈ jFT by decide +kernel) rfl (by show 0 < 129; decide) (show jKt.getD 0 99 = 11 by decide +kernel) (a := 93) hq (by decide +kernel) ?_
  refine j_alen (by show 93 < 129; decide) (show jKt.getD 93 99 = 15 by decide +kernel) rfl 30 (show Int32.ofNat (jLt.getD 93 0) = 30 by decide +kernel) (by decide +kernel) ?_
  refine j_icmp_ge (off := 22) 212 (by decide +kernel) (by decide) (fun q => absurd q (by decide)) (fun _ => ?_)
  refine j_aload_n (i := 0) rfl (by decide +kernel) ?_
  refine j_getR (idx := 78) (ci := 11) (k := 13) (nest := false) (show (11, 78, 11, 13, false) ∈ jFT by decide +kernel) rfl (by show 0 < 129; decide) (show jKt.getD 0 99 = 11 by decide +kernel) (a := 93) hq (by decide +kernel) ?_
  refine j_iload_n (i := 1) rfl (by decide +kernel) ?_
  refine j_new (idx := 68) (ci := 4) (by decide) rfl (by show 129 < 1000; decide) (show jKt.getD 129 99 = 4 by decide +kernel) (fun j hj => (slotN (show jKt.getD 129 99 = 4 by decide +kernel) (by decide) (fun i => f0 _ _ (by show 129 ≤ 129; decide)) (fun j => hz _ (by show 128 < 129; decide) j)).trans (d4_new j hj)) (jlkT (jtb2 114 rfl) rfl) (jlkT (jtb1 76 rfl) rfl) (jlkT (jtb1 4 rfl) rfl) ⟨Nat.le_of_ble_eq_true rfl, Nat.le_of_ble_eq_true rfl⟩ (by decide +kernel) ?_
  refine j_dup rfl (by decide +kernel) ?_
  refine j_callIN (M' := nX4) (As := []) (r := 129) (n := 0) (nX4_ok (t := 129) (S := S) (by decide) (show jKt.getD 129 99 = 4 by decide +kernel) (show jKt.getD 130 99 = 14 by decide +kernel) (show jLt.getD 130 0 = 10 by decide +kernel) (fun c hc j => hz c (by omega) j)) jmade_nt (jTbl (jtb2 115 rfl)) snX4 knX4 rfl rfl rfl ⟨by decide +kernel, by decide +kernel, by decide +kernel⟩ rfl ⟨by decide, by decide⟩ (Nat.le_of_ble_eq_true rfl) ⟨Nat.le_of_ble_eq_true rfl, Nat.le_of_ble_eq_true rfl⟩ (by decide +kernel) ?_
  rintro r0 _ h ⟨e, rfl, rfl⟩
  cases e
  have f1 : jfree 131 ((129, 0, 130) :: S) := (f0.up (by decide)).put (by decide)
  refine j_aastR (by show 93 < 131; decide) (show jKt.getD 93 99 = 15 by decide +kernel) (by show 129 < 131; decide) (show jKt.getD 129 99 = 4 by decide +kernel) (show vp_in (nI 15) 30 from vp_in_nI (by decide) (by decide)) (by decide +kernel) ?_
  have f2 : jfree 131 ((93, 15, 129) :: (129, 0, 130) :: S) := (f1.up (by decide)).put (by decide)
  refine j_iinc (i := 1) (n := 1) rfl (by decide +kernel) (by decide) ?_
  refine j_eqlv [some (.ref 0), some (.int 16)] (by rfl) ?_
  refine j_goto (off := -25) 184 (by decide +kernel) (by decide) ?_
  exact kk (fun c hc j => hz c (by omega) j) f2 hq
set_option maxRecDepth 100000 in
theorem b11_184_16 {Q : jQ} (ao : jAO) (hz : ∀ c, 130 < c → ∀ j, h c j = 0) (hS : jfree 131 S) (hq : jFind S 0 13 = some 93) (kk : (∀ c, 132 < c → ∀ j, (h) c j = 0) → jfree 133 (t11_184_16 S) → jFind (t11_184_16 S) 0 13 = some 93 → WP nX11 Q 184 [some (.ref 0), some (.int 17)] [] (jW 133 (t11_184_16 S) sc) (h) (132, 8946)) : WP nX11 Q 184 [some (.ref 0), some (.int 16)] [] (jW 131 S sc) h (130, 8934) := by
  have f0 : jfree 131 S := hS
  refine j_iload_n (i := 1) rfl (by decide +kernel) ?_
  refine j_aload_n (i := 0) rfl (by decide +kernel) ?_
  refine j_getR (idx := 78) (ci := 11) (k := 13) (nest := false) (show (11, 78, 11, 13, false) ∈ jFT by decide +kernel) rfl (by show 0 < 131; decide) (show jKt.getD 0 99 = 11 by decide +kernel) (a := 93) hq (by decide +kernel) ?_
  refine j_alen (by show 93 < 131; decide) (show jKt.getD 93 99 = 15 by decide +kernel) rfl 30 (show Int32.ofNat (jLt.getD 93 0) = 30 by decide +kernel) (by decide +kernel) ?_
  refine j_icmp_ge (off := 22) 212 (by decide +kernel) (by decide) (fun q => absurd q (by decide)) (fun _ => ?_)
  refine j_aload_n (i := 0) rfl (by decide +kernel) ?_
  refine j_getR (idx := 78) (ci := 11) (k := 13) (nest := false) (show (11, 78, 11, 13, false) ∈ jFT by decide +kernel) rfl (by show 0 < 131; decide) (show jKt.getD 0 99 = 11 by decide +kernel) (a := 93) hq (by decide +kernel) ?_
  refine j_iload_n (i := 1) rfl (by decide +kernel) ?_
  refine j_new (idx := 68) (ci := 4) (by decide) rfl (by show 131 < 1000; decide) (show jKt.getD 131 99 = 4 by decide +kernel) (fun j hj => (slotN (show jKt.getD 131 99 = 4 by decide +kernel) (by decide) (fun i => f0 _ _ (by show 131 ≤ 131; decide)) (fun j => hz _ (by show 130 < 131; decide) j)).trans (d4_new j hj)) (jlkT (jtb2 114 rfl) rfl) (jlkT (jtb1 76 rfl) rfl) (jlkT (jtb1 4 rfl) rfl) ⟨Nat.le_of_ble_eq_true rfl, Nat.le_of_ble_eq_true rfl⟩ (by decide +kernel) ?_
  refine j_dup rfl (by decide +kernel) ?_
  refine j_callIN (M' := nX4) (As := []) (r := 131) (n := 0) (nX4_ok (t := 131) (S := S) (by decide) (show jKt.getD 131 99 = 4 by decide +kernel) (show jKt.getD 132 99 = 14 by decide +kernel) (show jLt.getD 132 0 = 10 by decide +kernel) (fun c hc j => hz c (by omega) j)) jmade_nt (jTbl (jtb2 115 rfl)) snX4 knX4 rfl rfl rfl ⟨by decide +kernel, by decide +kernel, by decide +kernel⟩ rfl ⟨by decide, by decide⟩ (Nat.le_of_ble_eq_true rfl) ⟨Nat.le_of_ble_eq_true rfl, Nat.le_of_ble_eq_true rfl⟩ (by decide +kernel) ?_
  rintro r0 _ h ⟨e, rfl, rfl⟩
  cases e
  have f1 : jfree 133 ((131, 0, 132) :: S) := (f0.up (by decide)).put (by decide)
  refine j_aastR (by show 93 < 133; decide) (show jKt.getD 93 99 = 15 by decide +kernel) (by show 131 < 133; decide) (show jKt.getD 131 99 = 4 by decide +kernel) (show vp_in (nI 16) 30 from vp_in_nI (by decide) (by decide)) (by decide +kernel) ?_
  have f2 : jfree 133 ((93, 16, 131) :: (131, 0, 132) :: S) := (f1.up (by decide)).put (by decide)
  refine j_iinc (i := 1) (n := 1) rfl (by decide +kernel) (by decide) ?_
  refine j_eqlv [some (.ref 0), some (.int 17)] (by rfl) ?_
  refine j_goto (off := -25) 184 (by decide +kernel) (by decide) ?_
  exact kk (fun c hc j => hz c (by omega) j) f2 hq
set_option maxRecDepth 100000 in
theorem b11_184_17 {Q : jQ} (ao : jAO) (hz : ∀ c, 132 < c → ∀ j, h c j = 0) (hS : jfree 133 S) (hq : jFind S 0 13 = some 93) (kk : (∀ c, 134 < c → ∀ j, (h) c j = 0) → jfree 135 (t11_184_17 S) → jFind (t11_184_17 S) 0 13 = some 93 → WP nX11 Q 184 [some (.ref 0), some (.int 18)] [] (jW 135 (t11_184_17 S) sc) (h) (134, 8958)) : WP nX11 Q 184 [some (.ref 0), some (.int 17)] [] (jW 133 S sc) h (132, 8946) := by
  have f0 : jfree 133 S := hS
  refine j_iload_n (i := 1) rfl (by decide +kernel) ?_
  refine j_aload_n (i := 0) rfl (by decide +kernel) ?_
  refine j_getR (idx := 78) (ci := 11) (k := 13) (nest := false) (show (11, 78, 11, 13, false) ∈ jFT by decide +kernel) rfl (by show 0 < 133; decide) (show jKt.getD 0 99 = 11 by decide +kernel) (a := 93) hq (by decide +kernel) ?_
  refine j_alen (by show 93 < 133; decide) (show jKt.getD 93 99 = 15 by decide +kernel) rfl 30 (show Int32.ofNat (jLt.getD 93 0) = 30 by decide +kernel) (by decide +kernel) ?_
  refine j_icmp_ge (off := 22) 212 (by decide +kernel) (by decide) (fun q => absurd q (by decide)) (fun _ => ?_)
  refine j_aload_n (i := 0) rfl (by decide +kernel) ?_
  refine j_getR (idx := 78) (ci := 11) (k := 13) (nest := false) (show (11, 78, 11, 13, false) ∈ jFT by decide +kernel) rfl (by show 0 < 133; decide) (show jKt.getD 0 99 = 11 by decide +kernel) (a := 93) hq (by decide +kernel) ?_
  refine j_iload_n (i := 1) rfl (by decide +kernel) ?_
  refine j_new (idx := 68) (ci := 4) (by decide) rfl (by show 133 < 1000; decide) (show jKt.getD 133 99 = 4 by decide +kernel) (fun j hj => (slotN (show jKt.getD 133 99 = 4 by decide +kernel) (by decide) (fun i => f0 _ _ (by show 133 ≤ 133; decide)) (fun j => hz _ (by show 132 < 133; decide) j)).trans (d4_new j hj)) (jlkT (jtb2 114 rfl) rfl) (jlkT (jtb1 76 rfl) rfl) (jlkT (jtb1 4 rfl) rfl) ⟨Nat.le_of_ble_eq_true rfl, Nat.le_of_ble_eq_true rfl⟩ (by decide +kernel) ?_
  refine j_dup rfl (by decide +kernel) ?_
  refine j_callIN (M' := nX4) (As := []) (r := 133) (n := 0) (nX4_ok (t := 133) (S := S) (by decide) (show jKt.getD 133 99 = 4 by decide +kernel) (show jKt.getD 134 99 = 14 by decide +kernel) (show jLt.getD 134 0 = 10 by decide +kernel) (fun c hc j => hz c (by omega) j)) jmade_nt (jTbl (jtb2 115 rfl)) snX4 knX4 rfl rfl rfl ⟨by decide +kernel, by decide +kernel, by decide +kernel⟩ rfl ⟨by decide, by decide⟩ (Nat.le_of_ble_eq_true rfl) ⟨Nat.le_of_ble_eq_true rfl, Nat.le_of_ble_eq_true rfl⟩ (by decide +kernel) ?_
  rintro r0 _ h ⟨e, rfl, rfl⟩
  cases e
  have f1 : jfree 135 ((133, 0, 134) :: S) := (f0.up (by decide)).put (by decide)
  refine j_aastR (by show 93 < 135; decide) (show jKt.getD 93 99 = 15 by decide +kernel) (by show 133 < 135; decide) (show jKt.getD 133 99 = 4 by decide +kernel) (show vp_in (nI 17) 30 from vp_in_nI (by decide) (by decide)) (by decide +kernel) ?_
  have f2 : jfree 135 ((93, 17, 133) :: (133, 0, 134) :: S) := (f1.up (by decide)).put (by decide)
  refine j_iinc (i := 1) (n := 1) rfl (by decide +kernel) (by decide) ?_
  refine j_eqlv [some (.ref 0), some (.int 18)] (by rfl) ?_
  refine j_goto (off := -25) 184 (by decide +kernel) (by decide) ?_
  exact kk (fun c hc j => hz c (by omega) j) f2 hq
set_option maxRecDepth 100000 in
theorem b11_184_18 {Q : jQ} (ao : jAO) (hz : ∀ c, 134 < c → ∀ j, h c j = 0) (hS : jfree 135 S) (hq : jFind S 0 13 = some 93) (kk : (∀ c, 136 < c → ∀ j, (h) c j = 0) → jfree 137 (t11_184_18 S) → jFind (t11_184_18 S) 0 13 = some 93 → WP nX11 Q 184 [some (.ref 0), some (.int 19)] [] (jW 137 (t11_184_18 S) sc) (h) (136, 8970)) : WP nX11 Q 184 [some (.ref 0), some (.int 18)] [] (jW 135 S sc) h (134, 8958) := by
  have f0 : jfree 135 S := hS
  refine j_iload_n (i := 1) rfl (by decide +kernel) ?_
  refine j_aload_n (i := 0) rfl (by decide +kernel) ?_
  refine j_getR (idx := 78) (ci := 11) (k := 13) (nest := false) (show (11, 78, 11, 13, false) ∈ jFT by decide +kernel) rfl (by show 0 < 135; decide) (show jKt.getD 0 99 = 11 by decide +kernel) (a := 93) hq (by decide +kernel) ?_
  refine j_alen (by show 93 < 135; decide) (show jKt.getD 93 99 = 15 by decide +kernel) rfl 30 (show Int32.ofNat (jLt.getD 93 0) = 30 by decide +kernel) (by decide +kernel) ?_
  refine j_icmp_ge (off := 22) 212 (by decide +kernel) (by decide) (fun q => absurd q (by decide)) (fun _ => ?_)
  refine j_aload_n (i := 0) rfl (by decide +kernel) ?_
  refine j_getR (idx := 78) (ci := 11) (k := 13) (nest := false) (show (11, 78, 11, 13, false) ∈ jFT by decide +kernel) rfl (by show 0 < 135; decide) (show jKt.getD 0 99 = 11 by decide +kernel) (a := 93) hq (by decide +kernel) ?_
  refine j_iload_n (i := 1) rfl (by decide +kernel) ?_
  refine j_new (idx := 68) (ci := 4) (by decide) rfl (by show 135 < 1000; decide) (show jKt.getD 135 99 = 4 by decide +kernel) (fun j hj => (slotN (show jKt.getD 135 99 = 4 by decide +kernel) (by decide) (fun i => f0 _ _ (by show 135 ≤ 135; decide)) (fun j => hz _ (by show 134 < 135; decide) j)).trans (d4_new j hj)) (jlkT (jtb2 114 rfl) rfl) (jlkT (jtb1 76 rfl) rfl) (jlkT (jtb1 4 rfl) rfl) ⟨Nat.le_of_ble_eq_true rfl, Nat.le_of_ble_eq_true rfl⟩ (by decide +kernel) ?_
  refine j_dup rfl (by decide +kernel) ?_
  refine j_callIN (M' := nX4) (As := []) (r := 135) (n := 0) (nX4_ok (t := 135) (S := S) (by decide) (show jKt.getD 135 99 = 4 by decide +kernel) (show jKt.getD 136 99 = 14 by decide +kernel) (show jLt.getD 136 0 = 10 by decide +kernel) (fun c hc j => hz c (by omega) j)) jmade_nt (jTbl (jtb2 115 rfl)) snX4 knX4 rfl rfl rfl ⟨by decide +kernel, by decide +kernel, by decide +kernel⟩ rfl ⟨by decide, by decide⟩ (Nat.le_of_ble_eq_true rfl) ⟨Nat.le_of_ble_eq_true rfl, Nat.le_of_ble_eq_true rfl⟩ (by decide +kernel) ?_
  rintro r0 _ h ⟨e, rfl, rfl⟩
  cases e
  have f1 : jfree 137 ((135, 0, 136) :: S) := (f0.up (by decide)).put (by decide)
  refine j_aastR (by show 93 < 137; decide) (show jKt.getD 93 99 = 15 by decide +kernel) (by show 135 < 137; decide) (show jKt.getD 135 99 = 4 by decide +kernel) (show vp_in (nI 18) 30 from vp_in_nI (by decide) (by decide)) (by decide +kernel) ?_
  have f2 : jfree 137 ((93, 18, 135) :: (135, 0, 136) :: S) := (f1.up (by decide)).put (by decide)
  refine j_iinc (i := 1) (n := 1) rfl (by decide +kernel) (by decide) ?_
  refine j_eqlv [some (.ref 0), some (.int 19)] (by rfl) ?_
  refine j_goto (off := -25) 184 (by decide +kernel) (by decide) ?_
  exact kk (fun c hc j => hz c (by omega) j) f2 hq
set_option maxRecDepth 100000 in
theorem b11_184_19 {Q : jQ} (ao : jAO) (hz : ∀ c, 136 < c → ∀ j, h c j = 0) (hS : jfree 137 S) (hq : jFind S 0 13 = some 93) (kk : (∀ c, 138 < c → ∀ j, (h) c j = 0) → jfree 139 (t11_184_19 S) → jFind (t11_184_19 S) 0 13 = some 93 → WP nX11 Q 184 [some (.ref 0), some (.int 20)] [] (jW 139 (t11_184_19 S) sc) (h) (138, 8982)) : WP nX11 Q 184 [some (.ref 0), some (.int 19)] [] (jW 137 S sc) h (136, 8970) := by
  have f0 : jfree 137 S := hS
  refine j_iload_n (i := 1) rfl (by decide +kernel) ?_
  refine j_aload_n (i := 0) rfl (by decide +kernel) ?_
  refine j_getR (idx := 78) (ci := 11) (k := 13) (nest := false) (show (11, 78, 11, 13, false) ∈ jFT by decide +kernel) rfl (by show 0 < 137; decide) (show jKt.getD 0 99 = 11 by decide +kernel) (a := 93) hq (by decide +kernel) ?_
  refine j_alen (by show 93 < 137; decide) (show jKt.getD 93 99 = 15 by decide +kernel) rfl 30 (show Int32.ofNat (jLt.getD 93 0) = 30 by decide +kernel) (by decide +kernel) ?_
  refine j_icmp_ge (off := 22) 212 (by decide +kernel) (by decide) (fun q => absurd q (by decide)) (fun _ => ?_)
  refine j_aload_n (i := 0) rfl (by decide +kernel) ?_
  refine j_getR (idx := 78) (ci := 11) (k := 13) (nest := false) (show (11, 78, 11, 13, false) ∈ jFT by decide +kernel) rfl (by show 0 < 137; decide) (show jKt.getD 0 99 = 11 by decide +kernel) (a := 93) hq (by decide +kernel) ?_
  refine j_iload_n (i := 1) rfl (by decide +kernel) ?_
  refine j_new (idx := 68) (ci := 4) (by decide) rfl (by show 137 < 1000; decide) (show jKt.getD 137 99 = 4 by decide +kernel) (fun j hj => (slotN (show jKt.getD 137 99 = 4 by decide +kernel) (by decide) (fun i => f0 _ _ (by show 137 ≤ 137; decide)) (fun j => hz _ (by show 136 < 137; decide) j)).trans (d4_new j hj)) (jlkT (jtb2 114 rfl) rfl) (jlkT (jtb1 76 rfl) rfl) (jlkT (jtb1 4 rfl) rfl) ⟨Nat.le_of_ble_eq_true rfl, Nat.le_of_ble_eq_true rfl⟩ (by decide +kernel) ?_
  refine j_dup rfl (by decide +kernel) ?_
  refine j_callIN (M' := nX4) (As := []) (r := 137) (n := 0) (nX4_ok (t := 137) (S := S) (by decide) (show jKt.getD 137 99 = 4 by decide +kernel) (show jKt.getD 138 99 = 14 by decide +kernel) (show jLt.getD 138 0 = 10 by decide +kernel) (fun c hc j => hz c (by omega) j)) jmade_nt (jTbl (jtb2 115 rfl)) snX4 knX4 rfl rfl rfl ⟨by decide +kernel, by decide +kernel, by decide +kernel⟩ rfl ⟨by decide, by decide⟩ (Nat.le_of_ble_eq_true rfl) ⟨Nat.le_of_ble_eq_true rfl, Nat.le_of_ble_eq_true rfl⟩ (by decide +kernel) ?_
  rintro r0 _ h ⟨e, rfl, rfl⟩
  cases e
  have f1 : jfree 139 ((137, 0, 138) :: S) := (f0.up (by decide)).put (by decide)
  refine j_aastR (by show 93 < 139; decide) (show jKt.getD 93 99 = 15 by decide +kernel) (by show 137 < 139; decide) (show jKt.getD 137 99 = 4 by decide +kernel) (show vp_in (nI 19) 30 from vp_in_nI (by decide) (by decide)) (by decide +kernel) ?_
  have f2 : jfree 139 ((93, 19, 137) :: (137, 0, 138) :: S) := (f1.up (by decide)).put (by decide)
  refine j_iinc (i := 1) (n := 1) rfl (by decide +kernel) (by decide) ?_
  refine j_eqlv [some (.ref 0), some (.int 20)] (by rfl) ?_
  refine j_goto (off := -25) 184 (by decide +kernel) (by decide) ?_
  exact kk (fun c hc j => hz c (by omega) j) f2 hq
set_option maxRecDepth 100000 in
theorem b11_184_20 {Q : jQ} (ao : jAO) (hz : ∀ c, 138 < c → ∀ j, h c j = 0) (hS : jfree 139 S) (hq : jFind S 0 13 = some 93) (kk : (∀ c, 140 < c → ∀ j, (h) c j = 0) → jfree 141 (t11_184_20 S) → jFind (t11_184_20 S) 0 13 = some 93 → WP nX11 Q 184 [some (.ref 0), some (.int 21)] [] (jW 141 (t11_184_20 S) sc) (h) (140, 8994)) : WP nX11 Q 184 [some (.ref 0), some (.int 20)] [] (jW 139 S sc) h (138, 8982) := by
  have f0 : jfree 139 S := hS
  refine j_iload_n (i := 1) rfl (by decide +kernel) ?_
  refine j_aload_n (i := 0) rfl (by decide +kernel) ?_
  refine j_getR (idx := 78) (ci := 11) (k := 13) (nest := false) (show (11, 78, 11, 13, false) ∈ jFT by decide +kernel) rfl (by show 0 < 139; decide) (show jKt.getD 0 99 = 11 by decide +kernel) (a := 93) hq (by decide +kernel) ?_
  refine j_alen (by show 93 < 139; decide) (show jKt.getD 93 99 = 15 by decide +kernel) rfl 30 (show Int32.ofNat (jLt.getD 93 0) = 30 by decide +kernel) (by decide +kernel) ?_
  refine j_icmp_ge (off := 22) 212 (by decide +kernel) (by decide) (fun q => absurd q (by decide)) (fun _ => ?_)
  refine j_aload_n (i := 0) rfl (by decide +kernel) ?_
  refine j_getR (idx := 78) (ci := 11) (k := 13) (nest := false) (show (11, 78, 11, 13, false) ∈ jFT by decide +kernel) rfl (by show 0 < 139; decide) (show jKt.getD 0 99 = 11 by decide +kernel) (a := 93) hq (by decide +kernel) ?_
  refine j_iload_n (i := 1) rfl (by decide +kernel) ?_
  refine j_new (idx := 68) (ci := 4) (by decide) rfl (by show 139 < 1000; decide) (show jKt.getD 139 99 = 4 by decide +kernel) (fun j hj => (slotN (show jKt.getD 139 99 = 4 by decide +kernel) (by decide) (fun i => f0 _ _ (by show 139 ≤ 139; decide)) (fun j => hz _ (by show 138 < 139; decide) j)).trans (d4_new j hj)) (jlkT (jtb2 114 rfl) rfl) (jlkT (jtb1 76 rfl) rfl) (jlkT (jtb1 4 rfl) rfl) ⟨Nat.le_of_ble_eq_true rfl, Nat.le_of_ble_eq_true rfl⟩ (by decide +kernel) ?_
  refine j_dup rfl (by decide +kernel) ?_
  refine j_callIN (M' := nX4) (As := []) (r := 139) (n := 0) (nX4_ok (t := 139) (S := S) (by decide) (show jKt.getD 139 99 = 4 by decide +kernel) (show jKt.getD 140 99 = 14 by decide +kernel) (show jLt.getD 140 0 = 10 by decide +kernel) (fun c hc j => hz c (by omega) j)) jmade_nt (jTbl (jtb2 115 rfl)) snX4 knX4 rfl rfl rfl ⟨by decide +kernel, by decide +kernel, by decide +kernel⟩ rfl ⟨by decide, by decide⟩ (Nat.le_of_ble_eq_true rfl) ⟨Nat.le_of_ble_eq_true rfl, Nat.le_of_ble_eq_true rfl⟩ (by decide +kernel) ?_
  rintro r0 _ h ⟨e, rfl, rfl⟩
  cases e
  have f1 : jfree 141 ((139, 0, 140) :: S) := (f0.up (by decide)).put (by decide)
  refine j_aastR (by show 93 < 141; decide) (show jKt.getD 93 99 = 15 by decide +kernel) (by show 139 < 141; decide) (show jKt.getD 139 99 = 4 by decide +kernel) (show vp_in (nI 20) 30 from vp_in_nI (by decide) (by decide)) (by decide +kernel) ?_
  have f2 : jfree 141 ((93, 20, 139) :: (139, 0, 140) :: S) := (f1.up (by decide)).put (by decide)
  refine j_iinc (i := 1) (n := 1) rfl (by decide +kernel) (by decide) ?_
  refine j_eqlv [some (.ref 0), some (.int 21)] (by rfl) ?_
  refine j_goto (off := -25) 184 (by decide +kernel) (by decide) ?_
  exact kk (fun c hc j => hz c (by omega) j) f2 hq
set_option maxRecDepth 100000 in
theorem b11_184_21 {Q : jQ} (ao : jAO) (hz : ∀ c, 140 < c → ∀ j, h c j = 0) (hS : jfree 141 S) (hq : jFind S 0 13 = some 93) (kk : (∀ c, 142 < c → ∀ j, (h) c j = 0) → jfree 143 (t11_184_21 S) → jFind (t11_184_21 S) 0 13 = some 93 → WP nX11 Q 184 [some (.ref 0), some (.int 22)] [] (jW 143 (t11_184_21 S) sc) (h) (142, 9006)) : WP nX11 Q 184 [some (.ref 0), some (.int 21)] [] (jW 141 S sc) h (140, 8994) := by
  have f0 : jfree 141 S := hS
  refine j_iload_n (i := 1) rfl (by decide +kernel) ?_
  refine j_aload_n (i := 0) rfl (by decide +kernel) ?_
  refine j_getR (idx := 78) (ci := 11) (k := 13) (nest := false) (show (11, 78, 11, 13, false) ∈ jFT by decide +kernel) rfl (by show 0 < 141; decide) (show jKt.getD 0 99 = 11 by decide +kernel) (a := 93) hq (by decide +kernel) ?_
  refine j_alen (by show 93 < 141; decide) (show jKt.getD 93 99 = 15 by decide +kernel) rfl 30 (show Int32.ofNat (jLt.getD 93 0) = 30 by decide +kernel) (by decide +kernel) ?_
  refine j_icmp_ge (off := 22) 212 (by decide +kernel) (by decide) (fun q => absurd q (by decide)) (fun _ => ?_)
  refine j_aload_n (i := 0) rfl (by decide +kernel) ?_
  refine j_getR (idx := 78) (ci := 11) (k := 13) (nest := false) (show (11, 78, 11, 13, false) ∈ jFT by decide +kernel) rfl (by show 0 < 141; decide) (show jKt.getD 0 99 = 11 by decide +kernel) (a := 93) hq (by decide +kernel) ?_
  refine j_iload_n (i := 1) rfl (by decide +kernel) ?_
  refine j_new (idx := 68) (ci := 4) (by decide) rfl (by show 141 < 1000; decide) (show jKt.getD 141 99 = 4 by decide +kernel) (fun j hj => (slotN (show jKt.getD 141 99 = 4 by decide +kernel) (by decide) (fun i => f0 _ _ (by show 141 ≤ 141; decide)) (fun j => hz _ (by show 140 < 141; decide) j)).trans (d4_new j hj)) (jlkT (jtb2 114 rfl) rfl) (jlkT (jtb1 76 rfl) rfl) (jlkT (jtb1 4 rfl) rfl) ⟨Nat.le_of_ble_eq_true rfl, Nat.le_of_ble_eq_true rfl⟩ (by decide +kernel) ?_
  refine j_dup rfl (by decide +kernel) ?_
  refine j_callIN (M' := nX4) (As := []) (r := 141) (n := 0) (nX4_ok (t := 141) (S := S) (by decide) (show jKt.getD 141 99 = 4 by decide +kernel) (show jKt.getD 142 99 = 14 by decide +kernel) (show jLt.getD 142 0 = 10 by decide +kernel) (fun c hc j => hz c (by omega) j)) jmade_nt (jTbl (jtb2 115 rfl)) snX4 knX4 rfl rfl rfl ⟨by decide +kernel, by decide +kernel, by decide +kernel⟩ rfl ⟨by decide, by decide⟩ (Nat.le_of_ble_eq_true rfl) ⟨Nat.le_of_ble_eq_true rfl, Nat.le_of_ble_eq_true rfl⟩ (by decide +kernel) ?_
  rintro r0 _ h ⟨e, rfl, rfl⟩
  cases e
  have f1 : jfree 143 ((141, 0, 142) :: S) := (f0.up (by decide)).put (by decide)
  refine j_aastR (by show 93 < 143; decide) (show jKt.getD 93 99 = 15 by decide +kernel) (by show 141 < 143; decide) (show jKt.getD 141 99 = 4 by decide +kernel) (show vp_in (nI 21) 30 from vp_in_nI (by decide) (by decide)) (by decide +kernel) ?_
  have f2 : jfree 143 ((93, 21, 141) :: (141, 0, 142) :: S) := (f1.up (by decide)).put (by decide)
  refine j_iinc (i := 1) (n := 1) rfl (by decide +kernel) (by decide) ?_
  refine j_eqlv [some (.ref 0), some (.int 22)] (by rfl) ?_
  refine j_goto (off := -25) 184 (by decide +kernel) (by decide) ?_
  exact kk (fun c hc j => hz c (by omega) j) f2 hq
set_option maxRecDepth 100000 in
theorem b11_184_22 {Q : jQ} (ao : jAO) (hz : ∀ c, 142 < c → ∀ j, h c j = 0) (hS : jfree 143 S) (hq : jFind S 0 13 = some 93) (kk : (∀ c, 144 < c → ∀ j, (h) c j = 0) → jfree 145 (t11_184_22 S) → jFind (t11_184_22 S) 0 13 = some 93 → WP nX11 Q 184 [some (.ref 0), some (.int 23)] [] (jW 145 (t11_184_22 S) sc) (h) (144, 9018)) : WP nX11 Q 184 [some (.ref 0), some (.int 22)] [] (jW 143 S sc) h (142, 9006) := by
  have f0 : jfree 143 S := hS
  refine j_iload_n (i := 1) rfl (by decide +kernel) ?_
  refine j_aload_n (i := 0) rfl (by decide +kernel) ?_
  refine j_getR (idx := 78) (ci := 11) (k := 13) (nest := false) (show (11, 78, 11, 13, false) ∈ jFT by decide +kernel) rfl (by show 0 < 143; decide) (show jKt.getD 0 99 = 11 by decide +kernel) (a := 93) hq (by decide +kernel) ?_
  refine j_alen (by show 93 < 143; decide) (show jKt.getD 93 99 = 15 by decide +kernel) rfl 30 (show Int32.ofNat (jLt.getD 93 0) = 30 by decide +kernel) (by decide +kernel) ?_
  refine j_icmp_ge (off := 22) 212 (by decide +kernel) (by decide) (fun q => absurd q (by decide)) (fun _ => ?_)
  refine j_aload_n (i := 0) rfl (by decide +kernel) ?_
  refine j_getR (idx := 78) (ci := 11) (k := 13) (nest := false) (show (11, 78, 11, 13, false) ∈ jFT by decide +kernel) rfl (by show 0 < 143; decide) (show jKt.getD 0 99 = 11 by decide +kernel) (a := 93) hq (by decide +kernel) ?_
  refine j_iload_n (i := 1) rfl (by decide +kernel) ?_
  refine j_new (idx := 68) (ci := 4) (by decide) rfl (by show 143 < 1000; decide) (show jKt.getD 143 99 = 4 by decide +kernel) (fun j hj => (slotN (show jKt.getD 143 99 = 4 by decide +kernel) (by decide) (fun i => f0 _ _ (by show 143 ≤ 143; decide)) (fun j => hz _ (by show 142 < 143; decide) j)).trans (d4_new j hj)) (jlkT (jtb2 114 rfl) rfl) (jlkT (jtb1 76 rfl) rfl) (jlkT (jtb1 4 rfl) rfl) ⟨Nat.le_of_ble_eq_true rfl, Nat.le_of_ble_eq_true rfl⟩ (by decide +kernel) ?_
  refine j_dup rfl (by decide +kernel) ?_
  refine j_callIN (M' := nX4) (As := []) (r := 143) (n := 0) (nX4_ok (t := 143) (S := S) (by decide) (show jKt.getD 143 99 = 4 by decide +kernel) (show jKt.getD 144 99 = 14 by decide +kernel) (show jLt.getD 144 0 = 10 by decide +kernel) (fun c hc j => hz c (by omega) j)) jmade_nt (jTbl (jtb2 115 rfl)) snX4 knX4 rfl rfl rfl ⟨by decide +kernel, by decide +kernel, by decide +kernel⟩ rfl ⟨by decide, by decide⟩ (Nat.le_of_ble_eq_true rfl) ⟨Nat.le_of_ble_eq_true rfl, Nat.le_of_ble_eq_true rfl⟩ (by decide +kernel) ?_
  rintro r0 _ h ⟨e, rfl, rfl⟩
  cases e
  have f1 : jfree 145 ((143, 0, 144) :: S) := (f0.up (by decide)).put (by decide)
  refine j_aastR (by show 93 < 145; decide) (show jKt.getD 93 99 = 15 by decide +kernel) (by show 143 < 145; decide) (show jKt.getD 143 99 = 4 by decide +kernel) (show vp_in (nI 22) 30 from vp_in_nI (by decide) (by decide)) (by decide +kernel) ?_
  have f2 : jfree 145 ((93, 22, 143) :: (143, 0, 144) :: S) := (f1.up (by decide)).put (by decide)
  refine j_iinc (i := 1) (n := 1) rfl (by decide +kernel) (by decide) ?_
  refine j_eqlv [some (.ref 0), some (.int 23)] (by rfl) ?_
  refine j_goto (off := -25) 184 (by decide +kernel) (by decide) ?_
  exact kk (fun c hc j => hz c (by omega) j) f2 hq
set_option maxRecDepth 100000 in
theorem b11_184_23 {Q : jQ} (ao : jAO) (hz : ∀ c, 144 < c → ∀ j, h c j = 0) (hS : jfree 145 S) (hq : jFind S 0 13 = some 93) (kk : (∀ c, 146 < c → ∀ j, (h) c j = 0) → jfree 147 (t11_184_23 S) → jFind (t11_184_23 S) 0 13 = some 93 → WP nX11 Q 184 [some (.ref 0), some (.int 24)] [] (jW 147 (t11_184_23 S) sc) (h) (146, 9030)) : WP nX11 Q 184 [some (.ref 0), some (.int 23)] [] (jW 145 S sc) h (144, 9018) := by
  have f0 : jfree 145 S := hS
  refine j_iload_n (i := 1) rfl (by decide +kernel) ?_
  refine j_aload_n (i := 0) rfl (by decide +kernel) ?_
  refine j_getR (idx := 78) (ci := 11) (k := 13) (nest := false) (show (11, 78, 11, 13, false) ∈ jFT by decide +kernel) rfl (by show 0 < 145; decide) (show jKt.getD 0 99 = 11 by decide +kernel) (a := 93) hq (by decide +kernel) ?_
  refine j_alen (by show 93 < 145; decide) (show jKt.getD 93 99 = 15 by decide +kernel) rfl 30 (show Int32.ofNat (jLt.getD 93 0) = 30 by decide +kernel) (by decide +kernel) ?_
  refine j_icmp_ge (off := 22) 212 (by decide +kernel) (by decide) (fun q => absurd q (by decide)) (fun _ => ?_)
  refine j_aload_n (i := 0) rfl (by decide +kernel) ?_
  refine j_getR (idx := 78) (ci := 11) (k := 13) (nest := false) (show (11, 78, 11, 13, false) ∈ jFT by decide +kernel) rfl (by show 0 < 145; decide) (show jKt.getD 0 99 = 11 by decide +kernel) (a := 93) hq (by decide +kernel) ?_
  refine j_iload_n (i := 1) rfl (by decide +kernel) ?_
  refine j_new (idx := 68) (ci := 4) (by decide) rfl (by show 145 < 1000; decide) (show jKt.getD 145 99 = 4 by decide +kernel) (fun j hj => (slotN (show jKt.getD 145 99 = 4 by decide +kernel) (by decide) (fun i => f0 _ _ (by show 145 ≤ 145; decide)) (fun j => hz _ (by show 144 < 145; decide) j)).trans (d4_new j hj)) (jlkT (jtb2 114 rfl) rfl) (jlkT (jtb1 76 rfl) rfl) (jlkT (jtb1 4 rfl) rfl) ⟨Nat.le_of_ble_eq_true rfl, Nat.le_of_ble_eq_true rfl⟩ (by decide +kernel) ?_
  refine j_dup rfl (by decide +kernel) ?_
  refine j_callIN (M' := nX4) (As := []) (r := 145) (n := 0) (nX4_ok (t := 145) (S := S) (by decide) (show jKt.getD 145 99 = 4 by decide +kernel) (show jKt.getD 146 99 = 14 by decide +kernel) (show jLt.getD 146 0 = 10 by decide +kernel) (fun c hc j => hz c (by omega) j)) jmade_nt (jTbl (jtb2 115 rfl)) snX4 knX4 rfl rfl rfl ⟨by decide +kernel, by decide +kernel, by decide +kernel⟩ rfl ⟨by decide, by decide⟩ (Nat.le_of_ble_eq_true rfl) ⟨Nat.le_of_ble_eq_true rfl, Nat.le_of_ble_eq_true rfl⟩ (by decide +kernel) ?_
  rintro r0 _ h ⟨e, rfl, rfl⟩
  cases e
  have f1 : jfree 147 ((145, 0, 146) :: S) := (f0.up (by decide)).put (by decide)
  refine j_aastR (by show 93 < 147; decide) (show jKt.getD 93 99 = 15 by decide +kernel) (by show 145 < 147; decide) (show jKt.getD 145 99 = 4 by decide +kernel) (show vp_in (nI 23) 30 from vp_in_nI (by decide) (by decide)) (by decide +kernel) ?_
  have f2 : jfree 147 ((93, 23, 145) :: (145, 0, 146) :: S) := (f1.up (by decide)).put (by decide)
  refine j_iinc (i := 1) (n := 1) rfl (by decide +kernel) (by decide) ?_
  refine j_eqlv [some (.ref 0), some (.int 24)] (by rfl) ?_
  refine j_goto (off := -25) 184 (by decide +kernel) (by decide) ?_
  exact kk (fun c hc j => hz c (by omega) j) f2 hq
set_option maxRecDepth 100000 in
theorem b11_184_24 {Q : jQ} (ao : jAO) (hz : ∀ c, 146 < c → ∀ j, h c j = 0) (hS : jfree 147 S) (hq : jFind S 0 13 = some 93) (kk : (∀ c, 148 < c → ∀ j, (h) c j = 0) → jfree 149 (t11_184_24 S) → jFind (t11_184_24 S) 0 13 = some 93 → WP nX11 Q 184 [some (.ref 0), some (.int 25)] [] (jW 149 (t11_184_24 S) sc) (h) (148, 9042)) : WP nX11 Q 184 [some (.ref 0), some (.int 24)] [] (jW 147 S sc) h (146, 9030) := by
  have f0 : jfree 147 S := hS
  refine j_iload_n (i := 1) rfl (by decide +kernel) ?_
  refine j_aload_n (i := 0) rfl (by decide +kernel) ?_
  refine j_getR (idx := 78) (ci := 11) (k := 13) (nest := false) (show (11, 78, 11, 13, false) ∈ jFT by decide +kernel) rfl (by show 0 < 147; decide) (show jKt.getD 0 99 = 11 by decide +kernel) (a := 93) hq (by decide +kernel) ?_
  refine j_alen (by show 93 < 147; decide) (show jKt.getD 93 99 = 15 by decide +kernel) rfl 30 (show Int32.ofNat (jLt.getD 93 0) = 30 by decide +kernel) (by decide +kernel) ?_
  refine j_icmp_ge (off := 22) 212 (by decide +kernel) (by decide) (fun q => absurd q (by decide)) (fun _ => ?_)
  refine j_aload_n (i := 0) rfl (by decide +kernel) ?_
  refine j_getR (idx := 78) (ci := 11) (k := 13) (nest := false) (show (11, 78, 11, 13, false) ∈ jFT by decide +kernel) rfl (by show 0 < 147; decide) (show jKt.getD 0 99 = 11 by decide +kernel) (a := 93) hq (by decide +kernel) ?_
  refine j_iload_n (i := 1) rfl (by decide +kernel) ?_
  refine j_new (idx := 68) (ci := 4) (by decide) rfl (by show 147 < 1000; decide) (show jKt.getD 147 99 = 4 by decide +kernel) (fun j hj => (slotN (show jKt.getD 147 99 = 4 by decide +kernel) (by decide) (fun i => f0 _ _ (by show 147 ≤ 147; decide)) (fun j => hz _ (by show 146 < 147; decide) j)).trans (d4_new j hj)) (jlkT (jtb2 114 rfl) rfl) (jlkT (jtb1 76 rfl) rfl) (jlkT (jtb1 4 rfl) rfl) ⟨Nat.le_of_ble_eq_true rfl, Nat.le_of_ble_eq_true rfl⟩ (by decide +kernel) ?_
  refine j_dup rfl (by decide +kernel) ?_
  refine j_callIN (M' := nX4) (As := []) (r := 147) (n := 0) (nX4_ok (t := 147) (S := S) (by decide) (show jKt.getD 147 99 = 4 by decide +kernel) (show jKt.getD 148 99 = 14 by decide +kernel) (show jLt.getD 148 0 = 10 by decide +kernel) (fun c hc j => hz c (by omega) j)) jmade_nt (jTbl (jtb2 115 rfl)) snX4 knX4 rfl rfl rfl ⟨by decide +kernel, by decide +kernel, by decide +kernel⟩ rfl ⟨by decide, by decide⟩ (Nat.le_of_ble_eq_true rfl) ⟨Nat.le_of_ble_eq_true rfl, Nat.le_of_ble_eq_true rfl⟩ (by decide +kernel) ?_
  rintro r0 _ h ⟨e, rfl, rfl⟩
  cases e
  have f1 : jfree 149 ((147, 0, 148) :: S) := (f0.up (by decide)).put (by decide)
  refine j_aastR (by show 93 < 149; decide) (show jKt.getD 93 99 = 15 by decide +kernel) (by show 147 < 149; decide) (show jKt.getD 147 99 = 4 by decide +kernel) (show vp_in (nI 24) 30 from vp_in_nI (by decide) (by decide)) (by decide +kernel) ?_
  have f2 : jfree 149 ((93, 24, 147) :: (147, 0, 148) :: S) := (f1.up (by decide)).put (by decide)
  refine j_iinc (i := 1) (n := 1) rfl (by decide +kernel) (by decide) ?_
  refine j_eqlv [some (.ref 0), some (.int 25)] (by rfl) ?_
  refine j_goto (off := -25) 184 (by decide +kernel) (by decide) ?_
  exact kk (fun c hc j => hz c (by omega) j) f2 hq
set_option maxRecDepth 100000 in
theorem b11_184_25 {Q : jQ} (ao : jAO) (hz : ∀ c, 148 < c → ∀ j, h c j = 0) (hS : jfree 149 S) (hq : jFind S 0 13 = some 93) (kk : (∀ c, 150 < c → ∀ j, (h) c j = 0) → jfree 151 (t11_184_25 S) → jFind (t11_184_25 S) 0 13 = some 93 → WP nX11 Q 184 [some (.ref 0), some (.int 26)] [] (jW 151 (t11_184_25 S) sc) (h) (150, 9054)) : WP nX11 Q 184 [some (.ref 0), some (.int 25)] [] (jW 149 S sc) h (148, 9042) := by
  have f0 : jfree 149 S := hS
  refine j_iload_n (i := 1) rfl (by decide +kernel) ?_
  refine j_aload_n (i := 0) rfl (by decide +kernel) ?_
  refine j_getR (idx := 78) (ci := 11) (k := 13) (nest := false) (show (11, 78, 11, 13, false) ∈ jFT by decide +kernel) rfl (by show 0 < 149; decide) (show jKt.getD 0 99 = 11 by decide +kernel) (a := 93) hq (by decide +kernel) ?_
  refine j_alen (by show 93 < 149; decide) (show jKt.getD 93 99 = 15 by decide +kernel) rfl 30 (show Int32.ofNat (jLt.getD 93 0) = 30 by decide +kernel) (by decide +kernel) ?_
  refine j_icmp_ge (off := 22) 212 (by decide +kernel) (by decide) (fun q => absurd q (by decide)) (fun _ => ?_)
  refine j_aload_n (i := 0) rfl (by decide +kernel) ?_
  refine j_getR (idx := 78) (ci := 11) (k := 13) (nest := false) (show (11, 78, 11, 13, false) ∈ jFT by decide +kernel) rfl (by show 0 < 149; decide) (show jKt.getD 0 99 = 11 by decide +kernel) (a := 93) hq (by decide +kernel) ?_
  refine j_iload_n (i := 1) rfl (by decide +kernel) ?_
  refine j_new (idx := 68) (ci := 4) (by decide) rfl (by show 149 < 1000; decide) (show jKt.getD 149 99 = 4 by decide +kernel) (fun j hj => (slotN (show jKt.getD 149 99 = 4 by decide +kernel) (by decide) (fun i => f0 _ _ (by show 149 ≤ 149; decide)) (fun j => hz _ (by show 148 < 149; decide) j)).trans (d4_new j hj)) (jlkT (jtb2 114 rfl) rfl) (jlkT (jtb1 76 rfl) rfl) (jlkT (jtb1 4 rfl) rfl) ⟨Nat.le_of_ble_eq_true rfl, Nat.le_of_ble_eq_true rfl⟩ (by decide +kernel) ?_
  refine j_dup rfl (by decide +kernel) ?_
  refine j_callIN (M' := nX4) (As := []) (r := 149) (n := 0) (nX4_ok (t := 149) (S := S) (by decide) (show jKt.getD 149 99 = 4 by decide +kernel) (show jKt.getD 150 99 = 14 by decide +kernel) (show jLt.getD 150 0 = 10 by decide +kernel) (fun c hc j => hz c (by omega) j)) jmade_nt (jTbl (jtb2 115 rfl)) snX4 knX4 rfl rfl rfl ⟨by decide +kernel, by decide +kernel, by decide +kernel⟩ rfl ⟨by decide, by decide⟩ (Nat.le_of_ble_eq_true rfl) ⟨Nat.le_of_ble_eq_true rfl, Nat.le_of_ble_eq_true rfl⟩ (by decide +kernel) ?_
  rintro r0 _ h ⟨e, rfl, rfl⟩
  cases e
  have f1 : jfree 151 ((149, 0, 150) :: S) := (f0.up (by decide)).put (by decide)
  refine j_aastR (by show 93 < 151; decide) (show jKt.getD 93 99 = 15 by decide +kernel) (by show 149 < 151; decide) (show jKt.getD 149 99 = 4 by decide +kernel) (show vp_in (nI 25) 30 from vp_in_nI (by decide) (by decide)) (by decide +kernel) ?_
  have f2 : jfree 151 ((93, 25, 149) :: (149, 0, 150) :: S) := (f1.up (by decide)).put (by decide)
  refine j_iinc (i := 1) (n := 1) rfl (by decide +kernel) (by decide) ?_
  refine j_eqlv [some (.ref 0), some (.int 26)] (by rfl) ?_
  refine j_goto (off := -25) 184 (by decide +kernel) (by decide) ?_
  exact kk (fun c hc j => hz c (by omega) j) f2 hq
set_option maxRecDepth 100000 in
theorem b11_184_26 {Q : jQ} (ao : jAO) (hz : ∀ c, 150 < c → ∀ j, h c j = 0) (hS : jfree 151 S) (hq : jFind S 0 13 = some 93) (kk : (∀ c, 152 < c → ∀ j, (h) c j = 0) → jfree 153 (t11_184_26 S) → jFind (t11_184_26 S) 0 13 = some 93 → WP nX11 Q 184 [some (.ref 0), some (.int 27)] [] (jW 153 (t11_184_26 S) sc) (h) (152, 9066)) : WP nX11 Q 184 [some (.ref 0), some (.int 26)] [] (jW 151 S sc) h (150, 9054) := by
  have f0 : jfree 151 S := hS
  refine j_iload_n (i := 1) rfl (by decide +kernel) ?_
  refine j_aload_n (i := 0) rfl (by decide +kernel) ?_
  refine j_getR (idx := 78) (ci := 11) (k := 13) (nest := false) (show (11, 78, 11, 13, false) ∈ jFT by decide +kernel) rfl (by show 0 < 151; decide) (show jKt.getD 0 99 = 11 by decide +kernel) (a := 93) hq (by decide +kernel) ?_
  refine j_alen (by show 93 < 151; decide) (show jKt.getD 93 99 = 15 by decide +kernel) rfl 30 (show Int32.ofNat (jLt.getD 93 0) = 30 by decide +kernel) (by decide +kernel) ?_
  refine j_icmp_ge (off := 22) 212 (by decide +kernel) (by decide) (fun q => absurd q (by decide)) (fun _ => ?_)
  refine j_aload_n (i := 0) rfl (by decide +kernel) ?_
  refine j_getR (idx := 78) (ci := 11) (k := 13) (nest := false) (show (11, 78, 11, 13, false) ∈ jFT by decide +kernel) rfl (by show 0 < 151; decide) (show jKt.getD 0 99 = 11 by decide +kernel) (a := 93) hq (by decide +kernel) ?_
  refine j_iload_n (i := 1) rfl (by decide +kernel) ?_
  refine j_new (idx := 68) (ci := 4) (by decide) rfl (by show 151 < 1000; decide) (show jKt.getD 151 99 = 4 by decide +kernel) (fun j hj => (slotN (show jKt.getD 151 99 = 4 by decide +kernel) (by decide) (fun i => f0 _ _ (by show 151 ≤ 151; decide)) (fun j => hz _ (by show 150 < 151; decide) j)).trans (d4_new j hj)) (jlkT (jtb2 114 rfl) rfl) (jlkT (jtb1 76 rfl) rfl) (jlkT (jtb1 4 rfl) rfl) ⟨Nat.le_of_ble_eq_true rfl, Nat.le_of_ble_eq_true rfl⟩ (by decide +kernel) ?_
  refine j_dup rfl (by decide +kernel) ?_
  refine j_callIN (M' := nX4) (As := []) (r := 151) (n := 0) (nX4_ok (t := 151) (S := S) (by decide) (show jKt.getD 151 99 = 4 by decide +kernel) (show jKt.getD 152 99 = 14 by decide +kernel) (show jLt.getD 152 0 = 10 by decide +kernel) (fun c hc j => hz c (by omega) j)) jmade_nt (jTbl (jtb2 115 rfl)) snX4 knX4 rfl rfl rfl ⟨by decide +kernel, by decide +kernel, by decide +kernel⟩ rfl ⟨by decide, by decide⟩ (Nat.le_of_ble_eq_true rfl) ⟨Nat.le_of_ble_eq_true rfl, Nat.le_of_ble_eq_true rfl⟩ (by decide +kernel) ?_
  rintro r0 _ h ⟨e, rfl, rfl⟩
  cases e
  have f1 : jfree 153 ((151, 0, 152) :: S) := (f0.up (by decide)).put (by decide)
  refine j_aastR (by show 93 < 153; decide) (show jKt.getD 93 99 = 15 by decide +kernel) (by show 151 < 153; decide) (show jKt.getD 151 99 = 4 by decide +kernel) (show vp_in (nI 26) 30 from vp_in_nI (by decide) (by decide)) (by decide +kernel) ?_
  have f2 : jfree 153 ((93, 26, 151) :: (151, 0, 152) :: S) := (f1.up (by decide)).put (by decide)
  refine j_iinc (i := 1) (n := 1) rfl (by decide +kernel) (by decide) ?_
  refine j_eqlv [some (.ref 0), some (.int 27)] (by rfl) ?_
  refine j_goto (off := -25) 184 (by decide +kernel) (by decide) ?_
  exact kk (fun c hc j => hz c (by omega) j) f2 hq
set_option maxRecDepth 100000 in
theorem b11_184_27 {Q : jQ} (ao : jAO) (hz : ∀ c, 152 < c → ∀ j, h c j = 0) (hS : jfree 153 S) (hq : jFind S 0 13 = some 93) (kk : (∀ c, 154 < c → ∀ j, (h) c j = 0) → jfree 155 (t11_184_27 S) → jFind (t11_184_27 S) 0 13 = some 93 → WP nX11 Q 184 [some (.ref 0), some (.int 28)] [] (jW 155 (t11_184_27 S) sc) (h) (154, 9078)) : WP nX11 Q 184 [some (.ref 0), some (.int 27)] [] (jW 153 S sc) h (152, 9066) := by
  have f0 : jfree 153 S := hS
  refine j_iload_n (i := 1) rfl (by decide +kernel) ?_
  refine j_aload_n (i := 0) rfl (by decide +kernel) ?_
  refine j_getR (idx := 78) (ci := 11) (k := 13) (nest := false) (show (11, 78, 11, 13, false) ∈ jFT by decide +kernel) rfl (by show 0 < 153; decide) (show jKt.getD 0 99 = 11 by decide +kernel) (a := 93) hq (by decide +kernel) ?_
  refine j_alen (by show 93 < 153; decide) (show jKt.getD 93 99 = 15 by decide +kernel) rfl 30 (show Int32.ofNat (jLt.getD 93 0) = 30 by decide +kernel) (by decide +kernel) ?_
  refine j_icmp_ge (off := 22) 212 (by decide +kernel) (by decide) (fun q => absurd q (by decide)) (fun _ => ?_)
  refine j_aload_n (i := 0) rfl (by decide +kernel) ?_
  refine j_getR (idx := 78) (ci := 11) (k := 13) (nest := false) (show (11, 78, 11, 13, false) ∈ jFT by decide +kernel) rfl (by show 0 < 153; decide) (show jKt.getD 0 99 = 11 by decide +kernel) (a := 93) hq (by decide +kernel) ?_
  refine j_iload_n (i := 1) rfl (by decide +kernel) ?_
  refine j_new (idx := 68) (ci := 4) (by decide) rfl (by show 153 < 1000; decide) (show jKt.getD 153 99 = 4 by decide +kernel) (fun j hj => (slotN (show jKt.getD 153 99 = 4 by decide +kernel) (by decide) (fun i => f0 _ _ (by show 153 ≤ 153; decide)) (fun j => hz _ (by show 152 < 153; decide) j)).trans (d4_new j hj)) (jlkT (jtb2 114 rfl) rfl) (jlkT (jtb1 76 rfl) rfl) (jlkT (jtb1 4 rfl) rfl) ⟨Nat.le_of_ble_eq_true rfl, Nat.le_of_ble_eq_true rfl⟩ (by decide +kernel) ?_
  refine j_dup rfl (by decide +kernel) ?_
  refine j_callIN (M' := nX4) (As := []) (r := 153) (n := 0) (nX4_ok (t := 153) (S := S) (by decide) (show jKt.getD 153 99 = 4 by decide +kernel) (show jKt.getD 154 99 = 14 by decide +kernel) (show jLt.getD 154 0 = 10 by decide +kernel) (fun c hc j => hz c (by omega) j)) jmade_nt (jTbl (jtb2 115 rfl)) snX4 knX4 rfl rfl rfl ⟨by decide +kernel, by decide +kernel, by decide +kernel⟩ rfl ⟨by decide, by decide⟩ (Nat.le_of_ble_eq_true rfl) ⟨Nat.le_of_ble_eq_true rfl, Nat.le_of_ble_eq_true rfl⟩ (by decide +kernel) ?_
  rintro r0 _ h ⟨e, rfl, rfl⟩
  cases e
  have f1 : jfree 155 ((153, 0, 154) :: S) := (f0.up (by decide)).put (by decide)
  refine j_aastR (by show 93 < 155; decide) (show jKt.getD 93 99 = 15 by decide +kernel) (by show 153 < 155; decide) (show jKt.getD 153 99 = 4 by decide +kernel) (show vp_in (nI 27) 30 from vp_in_nI (by decide) (by decide)) (by decide +kernel) ?_
  have f2 : jfree 155 ((93, 27, 153) :: (153, 0, 154) :: S) := (f1.up (by decide)).put (by decide)
  refine j_iinc (i := 1) (n := 1) rfl (by decide +kernel) (by decide) ?_
  refine j_eqlv [some (.ref 0), some (.int 28)] (by rfl) ?_
  refine j_goto (off := -25) 184 (by decide +kernel) (by decide) ?_
  exact kk (fun c hc j => hz c (by omega) j) f2 hq
set_option maxRecDepth 100000 in
theorem b11_184_28 {Q : jQ} (ao : jAO) (hz : ∀ c, 154 < c → ∀ j, h c j = 0) (hS : jfree 155 S) (hq : jFind S 0 13 = some 93) (kk : (∀ c, 156 < c → ∀ j, (h) c j = 0) → jfree 157 (t11_184_28 S) → jFind (t11_184_28 S) 0 13 = some 93 → WP nX11 Q 184 [some (.ref 0), some (.int 29)] [] (jW 157 (t11_184_28 S) sc) (h) (156, 9090)) : WP nX11 Q 184 [some (.ref 0), some (.int 28)] [] (jW 155 S sc) h (154, 9078) := by
  have f0 : jfree 155 S := hS
  refine j_iload_n (i := 1) rfl (by decide +kernel) ?_
  refine j_aload_n (i := 0) rfl (by decide +kernel) ?_
  refine j_getR (idx := 78) (ci := 11) (k := 13) (nest := false) (show (11, 78, 11, 13, false) ∈ jFT by decide +kernel) rfl (by show 0 < 155; decide) (show jKt.getD 0 99 = 11 by decide +kernel) (a := 93) hq (by decide +kernel) ?_
  refine j_alen (by show 93 < 155; decide) (show jKt.getD 93 99 = 15 by decide +kernel) rfl 30 (show Int32.ofNat (jLt.getD 93 0) = 30 by decide +kernel) (by decide +kernel) ?_
  refine j_icmp_ge (off := 22) 212 (by decide +kernel) (by decide) (fun q => absurd q (by decide)) (fun _ => ?_)
  refine j_aload_n (i := 0) rfl (by decide +kernel) ?_
  refine j_getR (idx := 78) (ci := 11) (k := 13) (nest := false) (show (11, 78, 11, 13, false) ∈ jFT by decide +kernel) rfl (by show 0 < 155; decide) (show jKt.getD 0 99 = 11 by decide +kernel) (a := 93) hq (by decide +kernel) ?_
  refine j_iload_n (i := 1) rfl (by decide +kernel) ?_
  refine j_new (idx := 68) (ci := 4) (by decide) rfl (by show 155 < 1000; decide) (show jKt.getD 155 99 = 4 by decide +kernel) (fun j hj => (slotN (show jKt.getD 155 99 = 4 by decide +kernel) (by decide) (fun i => f0 _ _ (by show 155 ≤ 155; decide)) (fun j => hz _ (by show 154 < 155; decide) j)).trans (d4_new j hj)) (jlkT (jtb2 114 rfl) rfl) (jlkT (jtb1 76 rfl) rfl) (jlkT (jtb1 4 rfl) rfl) ⟨Nat.le_of_ble_eq_true rfl, Nat.le_of_ble_eq_true rfl⟩ (by decide +kernel) ?_
  refine j_dup rfl (by decide +kernel) ?_
  refine j_callIN (M' := nX4) (As := []) (r := 155) (n := 0) (nX4_ok (t := 155) (S := S) (by decide) (show jKt.getD 155 99 = 4 by decide +kernel) (show jKt.getD 156 99 = 14 by decide +kernel) (show jLt.getD 156 0 = 10 by decide +kernel) (fun c hc j => hz c (by omega) j)) jmade_nt (jTbl (jtb2 115 rfl)) snX4 knX4 rfl rfl rfl ⟨by decide +kernel, by decide +kernel, by decide +kernel⟩ rfl ⟨by decide, by decide⟩ (Nat.le_of_ble_eq_true rfl) ⟨Nat.le_of_ble_eq_true rfl, Nat.le_of_ble_eq_true rfl⟩ (by decide +kernel) ?_
  rintro r0 _ h ⟨e, rfl, rfl⟩
  cases e
  have f1 : jfree 157 ((155, 0, 156) :: S) := (f0.up (by decide)).put (by decide)
  refine j_aastR (by show 93 < 157; decide) (show jKt.getD 93 99 = 15 by decide +kernel) (by show 155 < 157; decide) (show jKt.getD 155 99 = 4 by decide +kernel) (show vp_in (nI 28) 30 from vp_in_nI (by decide) (by decide)) (by decide +kernel) ?_
  have f2 : jfree 157 ((93, 28, 155) :: (155, 0, 156) :: S) := (f1.up (by decide)).put (by decide)
  refine j_iinc (i := 1) (n := 1) rfl (by decide +kernel) (by decide) ?_
  refine j_eqlv [some (.ref 0), some (.int 29)] (by rfl) ?_
  refine j_goto (off := -25) 184 (by decide +kernel) (by decide) ?_
  exact kk (fun c hc j => hz c (by omega) j) f2 hq
set_option maxRecDepth 100000 in
theorem b11_184_29 {Q : jQ} (ao : jAO) (hz : ∀ c, 156 < c → ∀ j, h c j = 0) (hS : jfree 157 S) (hq : jFind S 0 13 = some 93) (kk : (∀ c, 158 < c → ∀ j, (h) c j = 0) → jfree 159 (t11_184_29 S) → jFind (t11_184_29 S) 0 13 = some 93 → WP nX11 Q 184 [some (.ref 0), some (.int 30)] [] (jW 159 (t11_184_29 S) sc) (h) (158, 9102)) : WP nX11 Q 184 [some (.ref 0), some (.int 29)] [] (jW 157 S sc) h (156, 9090) := by
  have f0 : jfree 157 S := hS
  refine j_iload_n (i := 1) rfl (by decide +kernel) ?_
  refine j_aload_n (i := 0) rfl (by decide +kernel) ?_
  refine j_getR (idx := 78) (ci := 11) (k := 13) (nest := false) (show (11, 78, 11, 13, false) ∈ jFT by decide +kernel) rfl (by show 0 < 157; decide) (show jKt.getD 0 99 = 11 by decide +kernel) (a := 93) hq (by decide +kernel) ?_
  refine j_alen (by show 93 < 157; decide) (show jKt.getD 93 99 = 15 by decide +kernel) rfl 30 (show Int32.ofNat (jLt.getD 93 0) = 30 by decide +kernel) (by decide +kernel) ?_
  refine j_icmp_ge (off := 22) 212 (by decide +kernel) (by decide) (fun q => absurd q (by decide)) (fun _ => ?_)
  refine j_aload_n (i := 0) rfl (by decide +kernel) ?_
  refine j_getR (idx := 78) (ci := 11) (k := 13) (nest := false) (show (11, 78, 11, 13, false) ∈ jFT by decide +kernel) rfl (by show 0 < 157; decide) (show jKt.getD 0 99 = 11 by decide +kernel) (a := 93) hq (by decide +kernel) ?_
  refine j_iload_n (i := 1) rfl (by decide +kernel) ?_
  refine j_new (idx := 68) (ci := 4) (by decide) rfl (by show 157 < 1000; decide) (show jKt.getD 157 99 = 4 by decide +kernel) (fun j hj => (slotN (show jKt.getD 157 99 = 4 by decide +kernel) (by decide) (fun i => f0 _ _ (by show 157 ≤ 157; decide)) (fun j => hz _ (by show 156 < 157; decide) j)).trans (d4_new j hj)) (jlkT (jtb2 114 rfl) rfl) (jlkT (jtb1 76 rfl) rfl) (jlkT (jtb1 4 rfl) rfl) ⟨Nat.le_of_ble_eq_true rfl, Nat.le_of_ble_eq_true rfl⟩ (by decide +kernel) ?_
  refine j_dup rfl (by decide +kernel) ?_
  refine j_callIN (M' := nX4) (As := []) (r := 157) (n := 0) (nX4_ok (t := 157) (S := S) (by decide) (show jKt.getD 157 99 = 4 by decide +kernel) (show jKt.getD 158 99 = 14 by decide +kernel) (show jLt.getD 158 0 = 10 by decide +kernel) (fun c hc j => hz c (by omega) j)) jmade_nt (jTbl (jtb2 115 rfl)) snX4 knX4 rfl rfl rfl ⟨by decide +kernel, by decide +kernel, by decide +kernel⟩ rfl ⟨by decide, by decide⟩ (Nat.le_of_ble_eq_true rfl) ⟨Nat.le_of_ble_eq_true rfl, Nat.le_of_ble_eq_true rfl⟩ (by decide +kernel) ?_
  rintro r0 _ h ⟨e, rfl, rfl⟩
  cases e
  have f1 : jfree 159 ((157, 0, 158) :: S) := (f0.up (by decide)).put (by decide)
  refine j_aastR (by show 93 < 159; decide) (show jKt.getD 93 99 = 15 by decide +kernel) (by show 157 < 159; decide) (show jKt.getD 157 99 = 4 by decide +kernel) (show vp_in (nI 29) 30 from vp_in_nI (by decide) (by decide)) (by decide +kernel) ?_
  have f2 : jfree 159 ((93, 29, 157) :: (157, 0, 158) :: S) := (f1.up (by decide)).put (by decide)
  refine j_iinc (i := 1) (n := 1) rfl (by decide +kernel) (by decide) ?_
  refine j_eqlv [some (.ref 0), some (.int 30)] (by rfl) ?_
  refine j_goto (off := -25) 184 (by decide +kernel) (by decide) ?_
  exact kk (fun c hc j => hz c (by omega) j) f2 hq
set_option maxRecDepth 100000 in
theorem b11_184_30 {Q : jQ} (ao : jAO) (hz : ∀ c, 158 < c → ∀ j, h c j = 0) (hS : jfree 159 S) (hq : jFind S 0 13 = some 93) (k0 : Q (.inl none) (jW 159 S sc) h) : WP nX11 Q 184 [some (.ref 0), some (.int 30)] [] (jW 159 S sc) h (158, 9102) := by
  have f0 : jfree 159 S := hS
  refine j_iload_n (i := 1) rfl (by decide +kernel) ?_
  refine j_aload_n (i := 0) rfl (by decide +kernel) ?_
  refine j_getR (idx := 78) (ci := 11) (k := 13) (nest := false) (show (11, 78, 11, 13, false) ∈ jFT by decide +kernel) rfl (by show 0 < 159; decide) (show jKt.getD 0 99 = 11 by decide +kernel) (a := 93) hq (by decide +kernel) ?_
  refine j_alen (by show 93 < 159; decide) (show jKt.getD 93 99 = 15 by decide +kernel) rfl 30 (show Int32.ofNat (jLt.getD 93 0) = 30 by decide +kernel) (by decide +kernel) ?_
  refine j_icmp_ge (off := 22) 212 (by decide +kernel) (by decide) (fun _ => ?_) (fun q => absurd (by decide) q)
  exact j_vret rfl (Nat.le_of_ble_eq_true rfl) (Nat.le_of_ble_eq_true rfl) (by decide +kernel) k0
set_option maxRecDepth 100000 in
theorem nX11_ok (ao : jAO) (hz : ∀ c, 0 < c → ∀ j, h c j = 0) (hS : jfree 1 S) : JM nX11 [.ref 0] (jW 1 S sc) h (jmade sc 159 (t11_184_29 (t11_184_28 (t11_184_27 (t11_184_26 (t11_184_25 (t11_184_24 (t11_184_23 (t11_184_22 (t11_184_21 (t11_184_20 (t11_184_19 (t11_184_18 (t11_184_17 (t11_184_16 (t11_184_15 (t11_184_14 (t11_184_13 (t11_184_12 (t11_184_11 (t11_184_10 (t11_184_9 (t11_184_8 (t11_184_7 (t11_184_6 (t11_184_5 (t11_184_4 (t11_184_3 (t11_184_2 (t11_184_1 (t11_184_0 (t11_182 (t11_173 (t11_164 (t11_155 (t11_147 (t11_139 (t11_130 (t11_119 (t11_108 (t11_97 (t11_86 (t11_75 (t11_64 (t11_53 (t11_42 (t11_31 (t11_20 (t11_15 (t11_0 (S)))))))))))))))))))))))))))))))))))))))))))))))))) ((((((((((((((((((((((((((((((((((((((((jput (jput ((jput (jput (((jput ((jput ((jput ((((jput (((h))) 0 1 (-1))))) 9 8 (7))) 39 8 (7))) 69 5 (-1)))) 75 7 (-1)) 75 8 (-1))) 82 7 (-1)) 82 8 (-1)))))))))))))))))))))))))))))))))))))))))) := by
  refine jM_of rfl (Nat.le_of_ble_eq_true rfl) (by decide +kernel) rfl ?_
  refine b11_0 ao hz hS (fun hz hS => ?_)
  refine b11_15 ao hz hS (fun hz hS => ?_)
  refine b11_20 ao hz hS (fun hz hS => ?_)
  refine b11_31 ao hz hS (fun hz hS => ?_)
  refine b11_42 ao hz hS (fun hz hS => ?_)
  refine b11_53 ao hz hS (fun hz hS => ?_)
  refine b11_64 ao hz hS (fun hz hS => ?_)
  refine b11_75 ao hz hS (fun hz hS => ?_)
  refine b11_86 ao hz hS (fun hz hS => ?_)
  refine b11_97 ao hz hS (fun hz hS => ?_)
  refine b11_108 ao hz hS (fun hz hS => ?_)
  refine b11_119 ao hz hS (fun hz hS => ?_)
  refine b11_130 ao hz hS (fun hz hS => ?_)
  refine b11_139 ao hz hS (fun hz hS => ?_)
  refine b11_147 ao hz hS (fun hz hS => ?_)
  refine b11_155 ao hz hS (fun hz hS => ?_)
  refine b11_164 ao hz hS (fun hz hS => ?_)
  refine b11_173 ao hz hS (fun hz hS => ?_)
  refine b11_182 ao hz hS (fun hz hS => ?_)
  have q0 := (rfl : jFind (t11_182 (t11_173 (t11_164 (t11_155 (t11_147 (t11_139 (t11_130 (t11_119 (t11_108 (t11_97 (t11_86 (t11_75 (t11_64 (t11_53 (t11_42 (t11_31 (t11_20 (t11_15 (t11_0 (S)))))))))))))))))))) 0 13 = some 93)
  refine b11_184_0 ao hz hS q0 (fun hz hS q0 => ?_)
  refine b11_184_1 ao hz hS q0 (fun hz hS q0 => ?_)
  refine b11_184_2 ao hz hS q0 (fun hz hS q0 => ?_)
  refine b11_184_3 ao hz hS q0 (fun hz hS q0 => ?_)
  refine b11_184_4 ao hz hS q0 (fun hz hS q0 => ?_)
  refine b11_184_5 ao hz hS q0 (fun hz hS q0 => ?_)
  refine b11_184_6 ao hz hS q0 (fun hz hS q0 => ?_)
  refine b11_184_7 ao hz hS q0 (fun hz hS q0 => ?_)
  refine b11_184_8 ao hz hS q0 (fun hz hS q0 => ?_)
  refine b11_184_9 ao hz hS q0 (fun hz hS q0 => ?_)
  refine b11_184_10 ao hz hS q0 (fun hz hS q0 => ?_)
  refine b11_184_11 ao hz hS q0 (fun hz hS q0 => ?_)
  refine b11_184_12 ao hz hS q0 (fun hz hS q0 => ?_)
  refine b11_184_13 ao hz hS q0 (fun hz hS q0 => ?_)
  refine b11_184_14 ao hz hS q0 (fun hz hS q0 => ?_)
  refine b11_184_15 ao hz hS q0 (fun hz hS q0 => ?_)
  refine b11_184_16 ao hz hS q0 (fun hz hS q0 => ?_)
  refine b11_184_17 ao hz hS q0 (fun hz hS q0 => ?_)
  refine b11_184_18 ao hz hS q0 (fun hz hS q0 => ?_)
  refine b11_184_19 ao hz hS q0 (fun hz hS q0 => ?_)
  refine b11_184_20 ao hz hS q0 (fun hz hS q0 => ?_)
  refine b11_184_21 ao hz hS q0 (fun hz hS q0 => ?_)
  refine b11_184_22 ao hz hS q0 (fun hz hS q0 => ?_)
  refine b11_184_23 ao hz hS q0 (fun hz hS q0 => ?_)
  refine b11_184_24 ao hz hS q0 (fun hz hS q0 => ?_)
  refine b11_184_25 ao hz hS q0 (fun hz hS q0 => ?_)
  refine b11_184_26 ao hz hS q0 (fun hz hS q0 => ?_)
  refine b11_184_27 ao hz hS q0 (fun hz hS q0 => ?_)
  refine b11_184_28 ao hz hS q0 (fun hz hS q0 => ?_)
  refine b11_184_29 ao hz hS q0 (fun hz hS q0 => ?_)
  refine b11_184_30 ao hz hS q0 ⟨rfl, rfl, rfl⟩
end CONS5
