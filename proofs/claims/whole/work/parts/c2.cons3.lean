/-! The reference's constructor. -/
section CONS3
variable {sc : Nat × (Nat → Int32)} {h : jH} {S : List (Nat × Nat × Nat)}
theorem slot13 {Γ : jS} {N j : Nat} (hk : jK Γ N = 13) (hz : h N j = 0) : jslot Γ h N j = .int 0 := by
  unfold jslot
  have e : ¬ jrefs 13 j = true := fun q => Bool.noConfusion (show false = true from q)
  rw [hk, if_neg e, if_neg (by decide), hz]
theorem jar_byte : jlk (.arrayClass .byte) := jlkT (jtb2 174 rfl) rfl
def nX12 : jM := (yX12_init, cX12_init, 1, none, 2, 19, 12164, [], 12)
theorem knX12 : jlk (jcw nX12) := jlkT (jtb6 69 rfl) rfl
theorem snX12 : ∀ w ∈ ([.instanceMethod (mY nX12), .initialized (mY nX12).cls] : List Cond), jlk w := j2 (jlkT (jtb6 68 rfl) rfl) (jlkT (jtb1 13 rfl) rfl)
theorem nX12_ok (hz : ∀ c, 159 < c → ∀ j, h c j = 0) : JM nX12 [.ref 159] (jW 160 S sc) h (jmade sc 179 ((159, 32, 178) :: (159, 31, 177) :: (159, 30, 176) :: (159, 29, 175) :: (159, 27, 174) :: (159, 25, 173) :: (159, 24, 172) :: (159, 23, 171) :: (159, 22, 170) :: (159, 18, 169) :: (159, 17, 168) :: (159, 16, 167) :: (159, 15, 166) :: (159, 14, 165) :: (159, 12, 164) :: (159, 11, 163) :: (159, 4, 162) :: (159, 2, 161) :: (159, 1, 160) :: S) (jput (jput h 159 10 (-1)) 160 285 7)) := by
  refine jM_of rfl (Nat.le_of_ble_eq_true rfl) (by decide +kernel) rfl ?_
  refine j_aload_n (i := 0) rfl (by decide +kernel) ?_
  refine j_obj (idx := 7) (jlkT (jtb6 70 rfl) rfl) (by decide) (by decide +kernel) ?_
  refine j_aload_n (i := 0) rfl (by decide +kernel) ?_
  refine j_sipush (n := 1454) 1454 (by decide) (by decide +kernel) ?_
  refine j_newA (at' := .int) (kd := 14) (n := 1454) (ty := .int) rfl rfl (by show 160 < 1000; decide) (show jKt.getD 160 99 = 14 by decide +kernel) (by decide) rfl (fun C q => by cases q) (show jLt.getD 160 0 = 1454 by decide +kernel) (fun j => slot14 (show jKt.getD 160 99 = 14 by decide +kernel) (hz _ (by show 159 < 160; decide) j)) (by decide) (by decide) (by decide) jar_int.1 jar_int.2 ⟨Nat.le_of_ble_eq_true rfl, Nat.le_of_ble_eq_true rfl⟩ (by decide +kernel) ?_
  refine j_putR (idx := 13) (ci := 12) (k := 1) (r := 159) (a := 160) (show (12, 13, 12, 1, false) ∈ jFT by decide +kernel) rfl rfl rfl rfl (fun _ => rfl) (fun _ => rfl) (by show 159 < 161; decide) (show jKt.getD 159 99 = 12 by decide +kernel) (by decide +kernel) ?_
  refine j_aload_n (i := 0) rfl (by decide +kernel) ?_
  refine j_sipush (n := 1454) 1454 (by decide) (by decide +kernel) ?_
  refine j_newA (at' := .int) (kd := 14) (n := 1454) (ty := .int) rfl rfl (by show 161 < 1000; decide) (show jKt.getD 161 99 = 14 by decide +kernel) (by decide) rfl (fun C q => by cases q) (show jLt.getD 161 0 = 1454 by decide +kernel) (fun j => slot14 (show jKt.getD 161 99 = 14 by decide +kernel) (hz _ (by show 159 < 161; decide) j)) (by decide) (by decide) (by decide) jar_int.1 jar_int.2 ⟨Nat.le_of_ble_eq_true rfl, Nat.le_of_ble_eq_true rfl⟩ (by decide +kernel) ?_
  refine j_putR (idx := 17) (ci := 12) (k := 2) (r := 159) (a := 161) (show (12, 17, 12, 2, false) ∈ jFT by decide +kernel) rfl rfl rfl rfl (fun _ => rfl) (fun _ => rfl) (by show 159 < 162; decide) (show jKt.getD 159 99 = 12 by decide +kernel) (by decide +kernel) ?_
  refine j_aload_n (i := 0) rfl (by decide +kernel) ?_
  refine j_sipush (n := 400) 400 (by decide) (by decide +kernel) ?_
  refine j_newA (at' := .byte) (kd := 13) (n := 400) (ty := .byte) rfl rfl (by show 162 < 1000; decide) (show jKt.getD 162 99 = 13 by decide +kernel) (by decide) rfl (fun C q => by cases q) (show jLt.getD 162 0 = 400 by decide +kernel) (fun j => slot13 (show jKt.getD 162 99 = 13 by decide +kernel) (hz _ (by show 159 < 162; decide) j)) (by decide) (by decide) (by decide) jar_byte.1 jar_byte.2 ⟨Nat.le_of_ble_eq_true rfl, Nat.le_of_ble_eq_true rfl⟩ (by decide +kernel) ?_
  refine j_putR (idx := 20) (ci := 12) (k := 4) (r := 159) (a := 162) (show (12, 20, 12, 4, false) ∈ jFT by decide +kernel) rfl rfl rfl rfl (fun _ => rfl) (fun _ => rfl) (by show 159 < 163; decide) (show jKt.getD 159 99 = 12 by decide +kernel) (by decide +kernel) ?_
  refine j_aload_n (i := 0) rfl (by decide +kernel) ?_
  refine j_iconst (n := -1) (-1) (by decide) (by decide +kernel) ?_
  refine j_putI (idx := 24) (ci := 12) (k := 10) (r := 159) (nest := false) (show (12, 24, 12, 10, false) ∈ jFT by decide +kernel) rfl rfl rfl rfl (by show 159 < 163; decide) (show jKt.getD 159 99 = 12 by decide +kernel) (by decide +kernel) ?_
  have hz2 : ∀ c, 159 < c → ∀ j, jput h 159 10 (-1) c j = 0 := fun c hc j => (congrFun (jput_ne (by omega)) j).trans (hz c hc j)
  refine j_aload_n (i := 0) rfl (by decide +kernel) ?_
  refine j_iconst (n := 5) (5) (by decide) (by decide +kernel) ?_
  refine j_newA (at' := .int) (kd := 14) (n := 5) (ty := .int) rfl rfl (by show 163 < 1000; decide) (show jKt.getD 163 99 = 14 by decide +kernel) (by decide) rfl (fun C q => by cases q) (show jLt.getD 163 0 = 5 by decide +kernel) (fun j => slot14 (show jKt.getD 163 99 = 14 by decide +kernel) (hz2 _ (by show 159 < 163; decide) j)) (by decide) (by decide) (by decide) jar_int.1 jar_int.2 ⟨Nat.le_of_ble_eq_true rfl, Nat.le_of_ble_eq_true rfl⟩ (by decide +kernel) ?_
  refine j_putR (idx := 27) (ci := 12) (k := 11) (r := 159) (a := 163) (show (12, 27, 12, 11, false) ∈ jFT by decide +kernel) rfl rfl rfl rfl (fun _ => rfl) (fun _ => rfl) (by show 159 < 164; decide) (show jKt.getD 159 99 = 12 by decide +kernel) (by decide +kernel) ?_
  refine j_aload_n (i := 0) rfl (by decide +kernel) ?_
  refine j_bipush (n := 61) 61 (by decide) (by decide +kernel) ?_
  refine j_newA (at' := .int) (kd := 14) (n := 61) (ty := .int) rfl rfl (by show 164 < 1000; decide) (show jKt.getD 164 99 = 14 by decide +kernel) (by decide) rfl (fun C q => by cases q) (show jLt.getD 164 0 = 61 by decide +kernel) (fun j => slot14 (show jKt.getD 164 99 = 14 by decide +kernel) (hz2 _ (by show 159 < 164; decide) j)) (by decide) (by decide) (by decide) jar_int.1 jar_int.2 ⟨Nat.le_of_ble_eq_true rfl, Nat.le_of_ble_eq_true rfl⟩ (by decide +kernel) ?_
  refine j_putR (idx := 30) (ci := 12) (k := 12) (r := 159) (a := 164) (show (12, 30, 12, 12, false) ∈ jFT by decide +kernel) rfl rfl rfl rfl (fun _ => rfl) (fun _ => rfl) (by show 159 < 165; decide) (show jKt.getD 159 99 = 12 by decide +kernel) (by decide +kernel) ?_
  refine j_aload_n (i := 0) rfl (by decide +kernel) ?_
  refine j_sipush (n := 800) 800 (by decide) (by decide +kernel) ?_
  refine j_newA (at' := .int) (kd := 14) (n := 800) (ty := .int) rfl rfl (by show 165 < 1000; decide) (show jKt.getD 165 99 = 14 by decide +kernel) (by decide) rfl (fun C q => by cases q) (show jLt.getD 165 0 = 800 by decide +kernel) (fun j => slot14 (show jKt.getD 165 99 = 14 by decide +kernel) (hz2 _ (by show 159 < 165; decide) j)) (by decide) (by decide) (by decide) jar_int.1 jar_int.2 ⟨Nat.le_of_ble_eq_true rfl, Nat.le_of_ble_eq_true rfl⟩ (by decide +kernel) ?_
  refine j_putR (idx := 33) (ci := 12) (k := 14) (r := 159) (a := 165) (show (12, 33, 12, 14, false) ∈ jFT by decide +kernel) rfl rfl rfl rfl (fun _ => rfl) (fun _ => rfl) (by show 159 < 166; decide) (show jKt.getD 159 99 = 12 by decide +kernel) (by decide +kernel) ?_
  refine j_aload_n (i := 0) rfl (by decide +kernel) ?_
  refine j_sipush (n := 400) 400 (by decide) (by decide +kernel) ?_
  refine j_newA (at' := .int) (kd := 14) (n := 400) (ty := .int) rfl rfl (by show 166 < 1000; decide) (show jKt.getD 166 99 = 14 by decide +kernel) (by decide) rfl (fun C q => by cases q) (show jLt.getD 166 0 = 400 by decide +kernel) (fun j => slot14 (show jKt.getD 166 99 = 14 by decide +kernel) (hz2 _ (by show 159 < 166; decide) j)) (by decide) (by decide) (by decide) jar_int.1 jar_int.2 ⟨Nat.le_of_ble_eq_true rfl, Nat.le_of_ble_eq_true rfl⟩ (by decide +kernel) ?_
  refine j_putR (idx := 36) (ci := 12) (k := 15) (r := 159) (a := 166) (show (12, 36, 12, 15, false) ∈ jFT by decide +kernel) rfl rfl rfl rfl (fun _ => rfl) (fun _ => rfl) (by show 159 < 167; decide) (show jKt.getD 159 99 = 12 by decide +kernel) (by decide +kernel) ?_
  refine j_aload_n (i := 0) rfl (by decide +kernel) ?_
  refine j_bipush (n := 61) 61 (by decide) (by decide +kernel) ?_
  refine j_newA (at' := .int) (kd := 14) (n := 61) (ty := .int) rfl rfl (by show 167 < 1000; decide) (show jKt.getD 167 99 = 14 by decide +kernel) (by decide) rfl (fun C q => by cases q) (show jLt.getD 167 0 = 61 by decide +kernel) (fun j => slot14 (show jKt.getD 167 99 = 14 by decide +kernel) (hz2 _ (by show 159 < 167; decide) j)) (by decide) (by decide) (by decide) jar_int.1 jar_int.2 ⟨Nat.le_of_ble_eq_true rfl, Nat.le_of_ble_eq_true rfl⟩ (by decide +kernel) ?_
  refine j_putR (idx := 39) (ci := 12) (k := 16) (r := 159) (a := 167) (show (12, 39, 12, 16, false) ∈ jFT by decide +kernel) rfl rfl rfl rfl (fun _ => rfl) (fun _ => rfl) (by show 159 < 168; decide) (show jKt.getD 159 99 = 12 by decide +kernel) (by decide +kernel) ?_
  refine j_aload_n (i := 0) rfl (by decide +kernel) ?_
  refine j_iconst (n := 4) (4) (by decide) (by decide +kernel) ?_
  refine j_newA (at' := .int) (kd := 14) (n := 4) (ty := .int) rfl rfl (by show 168 < 1000; decide) (show jKt.getD 168 99 = 14 by decide +kernel) (by decide) rfl (fun C q => by cases q) (show jLt.getD 168 0 = 4 by decide +kernel) (fun j => slot14 (show jKt.getD 168 99 = 14 by decide +kernel) (hz2 _ (by show 159 < 168; decide) j)) (by decide) (by decide) (by decide) jar_int.1 jar_int.2 ⟨Nat.le_of_ble_eq_true rfl, Nat.le_of_ble_eq_true rfl⟩ (by decide +kernel) ?_
  refine j_putR (idx := 42) (ci := 12) (k := 17) (r := 159) (a := 168) (show (12, 42, 12, 17, false) ∈ jFT by decide +kernel) rfl rfl rfl rfl (fun _ => rfl) (fun _ => rfl) (by show 159 < 169; decide) (show jKt.getD 159 99 = 12 by decide +kernel) (by decide +kernel) ?_
  refine j_aload_n (i := 0) rfl (by decide +kernel) ?_
  refine j_iconst (n := 4) (4) (by decide) (by decide +kernel) ?_
  refine j_newA (at' := .int) (kd := 14) (n := 4) (ty := .int) rfl rfl (by show 169 < 1000; decide) (show jKt.getD 169 99 = 14 by decide +kernel) (by decide) rfl (fun C q => by cases q) (show jLt.getD 169 0 = 4 by decide +kernel) (fun j => slot14 (show jKt.getD 169 99 = 14 by decide +kernel) (hz2 _ (by show 159 < 169; decide) j)) (by decide) (by decide) (by decide) jar_int.1 jar_int.2 ⟨Nat.le_of_ble_eq_true rfl, Nat.le_of_ble_eq_true rfl⟩ (by decide +kernel) ?_
  refine j_putR (idx := 45) (ci := 12) (k := 18) (r := 159) (a := 169) (show (12, 45, 12, 18, false) ∈ jFT by decide +kernel) rfl rfl rfl rfl (fun _ => rfl) (fun _ => rfl) (by show 159 < 170; decide) (show jKt.getD 159 99 = 12 by decide +kernel) (by decide +kernel) ?_
  refine j_aload_n (i := 0) rfl (by decide +kernel) ?_
  refine j_bipush (n := 61) 61 (by decide) (by decide +kernel) ?_
  refine j_newA (at' := .int) (kd := 14) (n := 61) (ty := .int) rfl rfl (by show 170 < 1000; decide) (show jKt.getD 170 99 = 14 by decide +kernel) (by decide) rfl (fun C q => by cases q) (show jLt.getD 170 0 = 61 by decide +kernel) (fun j => slot14 (show jKt.getD 170 99 = 14 by decide +kernel) (hz2 _ (by show 159 < 170; decide) j)) (by decide) (by decide) (by decide) jar_int.1 jar_int.2 ⟨Nat.le_of_ble_eq_true rfl, Nat.le_of_ble_eq_true rfl⟩ (by decide +kernel) ?_
  refine j_putR (idx := 48) (ci := 12) (k := 22) (r := 159) (a := 170) (show (12, 48, 12, 22, false) ∈ jFT by decide +kernel) rfl rfl rfl rfl (fun _ => rfl) (fun _ => rfl) (by show 159 < 171; decide) (show jKt.getD 159 99 = 12 by decide +kernel) (by decide +kernel) ?_
  refine j_aload_n (i := 0) rfl (by decide +kernel) ?_
  refine j_sipush (n := 400) 400 (by decide) (by decide +kernel) ?_
  refine j_newA (at' := .int) (kd := 14) (n := 400) (ty := .int) rfl rfl (by show 171 < 1000; decide) (show jKt.getD 171 99 = 14 by decide +kernel) (by decide) rfl (fun C q => by cases q) (show jLt.getD 171 0 = 400 by decide +kernel) (fun j => slot14 (show jKt.getD 171 99 = 14 by decide +kernel) (hz2 _ (by show 159 < 171; decide) j)) (by decide) (by decide) (by decide) jar_int.1 jar_int.2 ⟨Nat.le_of_ble_eq_true rfl, Nat.le_of_ble_eq_true rfl⟩ (by decide +kernel) ?_
  refine j_putR (idx := 51) (ci := 12) (k := 23) (r := 159) (a := 171) (show (12, 51, 12, 23, false) ∈ jFT by decide +kernel) rfl rfl rfl rfl (fun _ => rfl) (fun _ => rfl) (by show 159 < 172; decide) (show jKt.getD 159 99 = 12 by decide +kernel) (by decide +kernel) ?_
  refine j_aload_n (i := 0) rfl (by decide +kernel) ?_
  refine j_sipush (n := 400) 400 (by decide) (by decide +kernel) ?_
  refine j_newA (at' := .int) (kd := 14) (n := 400) (ty := .int) rfl rfl (by show 172 < 1000; decide) (show jKt.getD 172 99 = 14 by decide +kernel) (by decide) rfl (fun C q => by cases q) (show jLt.getD 172 0 = 400 by decide +kernel) (fun j => slot14 (show jKt.getD 172 99 = 14 by decide +kernel) (hz2 _ (by show 159 < 172; decide) j)) (by decide) (by decide) (by decide) jar_int.1 jar_int.2 ⟨Nat.le_of_ble_eq_true rfl, Nat.le_of_ble_eq_true rfl⟩ (by decide +kernel) ?_
  refine j_putR (idx := 54) (ci := 12) (k := 24) (r := 159) (a := 172) (show (12, 54, 12, 24, false) ∈ jFT by decide +kernel) rfl rfl rfl rfl (fun _ => rfl) (fun _ => rfl) (by show 159 < 173; decide) (show jKt.getD 159 99 = 12 by decide +kernel) (by decide +kernel) ?_
  refine j_aload_n (i := 0) rfl (by decide +kernel) ?_
  refine j_sipush (n := 2400) 2400 (by decide) (by decide +kernel) ?_
  refine j_newA (at' := .int) (kd := 14) (n := 2400) (ty := .int) rfl rfl (by show 173 < 1000; decide) (show jKt.getD 173 99 = 14 by decide +kernel) (by decide) rfl (fun C q => by cases q) (show jLt.getD 173 0 = 2400 by decide +kernel) (fun j => slot14 (show jKt.getD 173 99 = 14 by decide +kernel) (hz2 _ (by show 159 < 173; decide) j)) (by decide) (by decide) (by decide) jar_int.1 jar_int.2 ⟨Nat.le_of_ble_eq_true rfl, Nat.le_of_ble_eq_true rfl⟩ (by decide +kernel) ?_
  refine j_putR (idx := 57) (ci := 12) (k := 25) (r := 159) (a := 173) (show (12, 57, 12, 25, false) ∈ jFT by decide +kernel) rfl rfl rfl rfl (fun _ => rfl) (fun _ => rfl) (by show 159 < 174; decide) (show jKt.getD 159 99 = 12 by decide +kernel) (by decide +kernel) ?_
  refine j_aload_n (i := 0) rfl (by decide +kernel) ?_
  refine j_bipush (n := 30) 30 (by decide) (by decide +kernel) ?_
  refine j_newA (at' := .int) (kd := 14) (n := 30) (ty := .int) rfl rfl (by show 174 < 1000; decide) (show jKt.getD 174 99 = 14 by decide +kernel) (by decide) rfl (fun C q => by cases q) (show jLt.getD 174 0 = 30 by decide +kernel) (fun j => slot14 (show jKt.getD 174 99 = 14 by decide +kernel) (hz2 _ (by show 159 < 174; decide) j)) (by decide) (by decide) (by decide) jar_int.1 jar_int.2 ⟨Nat.le_of_ble_eq_true rfl, Nat.le_of_ble_eq_true rfl⟩ (by decide +kernel) ?_
  refine j_putR (idx := 60) (ci := 12) (k := 27) (r := 159) (a := 174) (show (12, 60, 12, 27, false) ∈ jFT by decide +kernel) rfl rfl rfl rfl (fun _ => rfl) (fun _ => rfl) (by show 159 < 175; decide) (show jKt.getD 159 99 = 12 by decide +kernel) (by decide +kernel) ?_
  refine j_aload_n (i := 0) rfl (by decide +kernel) ?_
  refine j_sipush (n := 4096) 4096 (by decide) (by decide +kernel) ?_
  refine j_newA (at' := .int) (kd := 14) (n := 4096) (ty := .int) rfl rfl (by show 175 < 1000; decide) (show jKt.getD 175 99 = 14 by decide +kernel) (by decide) rfl (fun C q => by cases q) (show jLt.getD 175 0 = 4096 by decide +kernel) (fun j => slot14 (show jKt.getD 175 99 = 14 by decide +kernel) (hz2 _ (by show 159 < 175; decide) j)) (by decide) (by decide) (by decide) jar_int.1 jar_int.2 ⟨Nat.le_of_ble_eq_true rfl, Nat.le_of_ble_eq_true rfl⟩ (by decide +kernel) ?_
  refine j_putR (idx := 63) (ci := 12) (k := 29) (r := 159) (a := 175) (show (12, 63, 12, 29, false) ∈ jFT by decide +kernel) rfl rfl rfl rfl (fun _ => rfl) (fun _ => rfl) (by show 159 < 176; decide) (show jKt.getD 159 99 = 12 by decide +kernel) (by decide +kernel) ?_
  refine j_aload_n (i := 0) rfl (by decide +kernel) ?_
  refine j_bipush (n := 61) 61 (by decide) (by decide +kernel) ?_
  refine j_newA (at' := .int) (kd := 14) (n := 61) (ty := .int) rfl rfl (by show 176 < 1000; decide) (show jKt.getD 176 99 = 14 by decide +kernel) (by decide) rfl (fun C q => by cases q) (show jLt.getD 176 0 = 61 by decide +kernel) (fun j => slot14 (show jKt.getD 176 99 = 14 by decide +kernel) (hz2 _ (by show 159 < 176; decide) j)) (by decide) (by decide) (by decide) jar_int.1 jar_int.2 ⟨Nat.le_of_ble_eq_true rfl, Nat.le_of_ble_eq_true rfl⟩ (by decide +kernel) ?_
  refine j_putR (idx := 66) (ci := 12) (k := 30) (r := 159) (a := 176) (show (12, 66, 12, 30, false) ∈ jFT by decide +kernel) rfl rfl rfl rfl (fun _ => rfl) (fun _ => rfl) (by show 159 < 177; decide) (show jKt.getD 159 99 = 12 by decide +kernel) (by decide +kernel) ?_
  refine j_aload_n (i := 0) rfl (by decide +kernel) ?_
  refine j_bipush (n := 61) 61 (by decide) (by decide +kernel) ?_
  refine j_newA (at' := .int) (kd := 14) (n := 61) (ty := .int) rfl rfl (by show 177 < 1000; decide) (show jKt.getD 177 99 = 14 by decide +kernel) (by decide) rfl (fun C q => by cases q) (show jLt.getD 177 0 = 61 by decide +kernel) (fun j => slot14 (show jKt.getD 177 99 = 14 by decide +kernel) (hz2 _ (by show 159 < 177; decide) j)) (by decide) (by decide) (by decide) jar_int.1 jar_int.2 ⟨Nat.le_of_ble_eq_true rfl, Nat.le_of_ble_eq_true rfl⟩ (by decide +kernel) ?_
  refine j_putR (idx := 69) (ci := 12) (k := 31) (r := 159) (a := 177) (show (12, 69, 12, 31, false) ∈ jFT by decide +kernel) rfl rfl rfl rfl (fun _ => rfl) (fun _ => rfl) (by show 159 < 178; decide) (show jKt.getD 159 99 = 12 by decide +kernel) (by decide +kernel) ?_
  refine j_aload_n (i := 0) rfl (by decide +kernel) ?_
  refine j_bipush (n := 12) 12 (by decide) (by decide +kernel) ?_
  refine j_newA (at' := .int) (kd := 14) (n := 12) (ty := .int) rfl rfl (by show 178 < 1000; decide) (show jKt.getD 178 99 = 14 by decide +kernel) (by decide) rfl (fun C q => by cases q) (show jLt.getD 178 0 = 12 by decide +kernel) (fun j => slot14 (show jKt.getD 178 99 = 14 by decide +kernel) (hz2 _ (by show 159 < 178; decide) j)) (by decide) (by decide) (by decide) jar_int.1 jar_int.2 ⟨Nat.le_of_ble_eq_true rfl, Nat.le_of_ble_eq_true rfl⟩ (by decide +kernel) ?_
  refine j_putR (idx := 72) (ci := 12) (k := 32) (r := 159) (a := 178) (show (12, 72, 12, 32, false) ∈ jFT by decide +kernel) rfl rfl rfl rfl (fun _ => rfl) (fun _ => rfl) (by show 159 < 179; decide) (show jKt.getD 159 99 = 12 by decide +kernel) (by decide +kernel) ?_
  refine j_aload_n (i := 0) rfl (by decide +kernel) ?_
  refine j_getR (idx := 13) (ci := 12) (k := 1) (nest := false) (show (12, 13, 12, 1, false) ∈ jFT by decide +kernel) rfl (by show 159 < 179; decide) (show jKt.getD 159 99 = 12 by decide +kernel) (a := 160) rfl (by decide +kernel) ?_
  refine j_sipush (n := 285) 285 (by decide) (by decide +kernel) ?_
  refine j_bipush (n := 7) 7 (by decide) (by decide +kernel) ?_
  refine j_iast (by show 160 < 179; decide) (show jKt.getD 160 99 = 14 by decide +kernel) (show vp_in (nI 285) 1454 from vp_in_nI (by decide) (by decide)) (by decide +kernel) ?_
  exact j_vret rfl (Nat.le_of_ble_eq_true rfl) (Nat.le_of_ble_eq_true rfl) (by decide +kernel) ⟨rfl, rfl, rfl⟩
end CONS3
