/-! State's constructor. -/
section CONS4
variable {sc : Nat × (Nat → Int32)} {h : jH} {S : List (Nat × Nat × Nat)}
/-- nothing is stored in the cells from N on -/
def jfree (N : Nat) (S : List (Nat × Nat × Nat)) : Prop := ∀ x i, N ≤ x → jFind S x i = none
theorem jfree.up {N N' : Nat} (k : jfree N S) (h : N ≤ N') : jfree N' S := fun x i hx => k x i (Nat.le_trans h hx)
theorem jfree.put {N r k a : Nat} (f : jfree N S) (h : r < N) : jfree N ((r, k, a) :: S) := fun x i hx => (if_neg (fun z => by have : x = r := z.1; omega)).trans (f x i hx)
theorem d5_new : ∀ j, j < jTN 5 → (if jrefs 5 j = true then Value.null else .int 0) = defaultValue (jTy 5 j) := fun j hj => by
  match j, hj with
  | 0, _ => rfl
  | 1, _ => rfl
  | 2, _ => rfl
  | 3, _ => rfl
theorem d9_new : ∀ j, j < jTN 9 → (if jrefs 9 j = true then Value.null else .int 0) = defaultValue (jTy 9 j) := fun j hj => by
  match j, hj with
  | 0, _ => rfl
  | 1, _ => rfl
  | 2, _ => rfl
  | 3, _ => rfl
  | 4, _ => rfl
  | 5, _ => rfl
  | 6, _ => rfl
  | 7, _ => rfl
  | 8, _ => rfl
  | 9, _ => rfl

def nX6 : jM := (yX6_init, cX6_init, 2, none, 3, 29, 614, [], 6)
theorem knX6 : jlk (jcw nX6) := jlkT (jtb1 127 rfl) rfl
theorem snX6 : ∀ w ∈ ([.instanceMethod (mY nX6), .initialized (mY nX6).cls] : List Cond), jlk w := j2 (jlkT (jtb1 126 rfl) rfl) (jlkT (jtb1 7 rfl) rfl)
theorem nX6_9 (ao : jAO) (hz : ∀ c, 9 < c → ∀ j, h c j = 0) (hS : jfree 10 S) : JM nX6 [.ref 9] (jW 10 S sc) h (jmade sc 39 ((26, 5, 37) :: (37, 0, 38) :: (26, 4, 35) :: (35, 0, 36) :: (26, 3, 33) :: (33, 0, 34) :: (26, 2, 31) :: (31, 0, 32) :: (26, 1, 29) :: (29, 0, 30) :: (26, 0, 27) :: (27, 0, 28) :: (9, 6, 26) :: (9, 5, 25) :: (9, 4, 20) :: (20, 8, 24) :: (20, 7, 23) :: (20, 6, 22) :: (20, 0, 21) :: (9, 3, 18) :: (18, 0, 19) :: (9, 2, 14) :: (14, 2, 17) :: (14, 1, 16) :: (14, 0, 15) :: (9, 1, 12) :: (12, 0, 13) :: (9, 0, 10) :: (10, 0, 11) :: S) (jput (h) 9 8 7)) := by
  refine jM_of rfl (Nat.le_of_ble_eq_true rfl) (by decide +kernel) rfl ?_
  have f0 : jfree 10 S := hS
  refine j_aload_n (i := 0) rfl (by decide +kernel) ?_
  refine j_obj (idx := 3) (jlkT (jtb1 128 rfl) rfl) (Nat.le_of_ble_eq_true rfl) (by decide +kernel) ?_
  refine j_aload_n (i := 0) rfl (by decide +kernel) ?_
  refine j_new (idx := 9) (ci := 4) (by decide) rfl (by show 10 < 1000; decide) (show jKt.getD 10 99 = 4 by decide +kernel) (fun j hj => (slotN (show jKt.getD 10 99 = 4 by decide +kernel) (by decide) (fun i => f0 _ _ (by show 10 ≤ 10; decide)) (fun j => hz _ (by show 9 < 10; decide) j)).trans (d4_new j hj)) (jlkT (jtb1 129 rfl) rfl) (jlkT (jtb1 76 rfl) rfl) (jlkT (jtb1 4 rfl) rfl) ⟨Nat.le_of_ble_eq_true rfl, Nat.le_of_ble_eq_true rfl⟩ (by decide +kernel) ?_
  refine j_dup rfl (by decide +kernel) ?_
  refine j_callIN (M' := nX4) (As := []) (r := 10) (n := 0) (nX4_ok (t := 10) (S := S) (by decide) (show jKt.getD 10 99 = 4 by decide +kernel) (show jKt.getD 11 99 = 14 by decide +kernel) (show jLt.getD 11 0 = 10 by decide +kernel) (fun c hc j => hz c (by omega) j)) jmade_nt (jTbl (jtb1 130 rfl)) snX4 knX4 rfl rfl rfl ⟨by decide +kernel, by decide +kernel, by decide +kernel⟩ rfl ⟨by decide, by decide⟩ (Nat.le_of_ble_eq_true rfl) ⟨Nat.le_of_ble_eq_true rfl, Nat.le_of_ble_eq_true rfl⟩ (by decide +kernel) ?_
  rintro r0 _ h ⟨e, rfl, rfl⟩
  cases e
  have f1 : jfree 12 ((10, 0, 11) :: S) := (f0.up (by decide)).put (by decide)
  refine j_putR (idx := 12) (ci := 6) (k := 0) (r := 9) (a := 10) (show (6, 12, 6, 0, false) ∈ jFT by decide +kernel) rfl rfl rfl rfl (fun _ => rfl) (fun _ => rfl) (by show 9 < 12; decide) (show jKt.getD 9 99 = 6 by decide +kernel) (by decide +kernel) ?_
  have f2 : jfree 12 ((9, 0, 10) :: (10, 0, 11) :: S) := (f1.up (by decide)).put (by decide)
  refine j_aload_n (i := 0) rfl (by decide +kernel) ?_
  refine j_new (idx := 9) (ci := 4) (by decide) rfl (by show 12 < 1000; decide) (show jKt.getD 12 99 = 4 by decide +kernel) (fun j hj => (slotN (show jKt.getD 12 99 = 4 by decide +kernel) (by decide) (fun i => f2 _ _ (by show 12 ≤ 12; decide)) (fun j => hz _ (by show 9 < 12; decide) j)).trans (d4_new j hj)) (jlkT (jtb1 129 rfl) rfl) (jlkT (jtb1 76 rfl) rfl) (jlkT (jtb1 4 rfl) rfl) ⟨Nat.le_of_ble_eq_true rfl, Nat.le_of_ble_eq_true rfl⟩ (by decide +kernel) ?_
  refine j_dup rfl (by decide +kernel) ?_
  refine j_callIN (M' := nX4) (As := []) (r := 12) (n := 0) (nX4_ok (t := 12) (S := (9, 0, 10) :: (10, 0, 11) :: S) (by decide) (show jKt.getD 12 99 = 4 by decide +kernel) (show jKt.getD 13 99 = 14 by decide +kernel) (show jLt.getD 13 0 = 10 by decide +kernel) (fun c hc j => hz c (by omega) j)) jmade_nt (jTbl (jtb1 130 rfl)) snX4 knX4 rfl rfl rfl ⟨by decide +kernel, by decide +kernel, by decide +kernel⟩ rfl ⟨by decide, by decide⟩ (Nat.le_of_ble_eq_true rfl) ⟨Nat.le_of_ble_eq_true rfl, Nat.le_of_ble_eq_true rfl⟩ (by decide +kernel) ?_
  rintro r2 _ h ⟨e, rfl, rfl⟩
  cases e
  have f3 : jfree 14 ((12, 0, 13) :: (9, 0, 10) :: (10, 0, 11) :: S) := (f2.up (by decide)).put (by decide)
  refine j_putR (idx := 18) (ci := 6) (k := 1) (r := 9) (a := 12) (show (6, 18, 6, 1, false) ∈ jFT by decide +kernel) rfl rfl rfl rfl (fun _ => rfl) (fun _ => rfl) (by show 9 < 14; decide) (show jKt.getD 9 99 = 6 by decide +kernel) (by decide +kernel) ?_
  have f4 : jfree 14 ((9, 1, 12) :: (12, 0, 13) :: (9, 0, 10) :: (10, 0, 11) :: S) := (f3.up (by decide)).put (by decide)
  refine j_aload_n (i := 0) rfl (by decide +kernel) ?_
  refine j_new (idx := 21) (ci := 5) (by decide) rfl (by show 14 < 1000; decide) (show jKt.getD 14 99 = 5 by decide +kernel) (fun j hj => (slotN (show jKt.getD 14 99 = 5 by decide +kernel) (by decide) (fun i => f4 _ _ (by show 14 ≤ 14; decide)) (fun j => hz _ (by show 9 < 14; decide) j)).trans (d5_new j hj)) (jlkT (jtb1 131 rfl) rfl) (jlkT (jtb1 132 rfl) rfl) (jlkT (jtb1 8 rfl) rfl) ⟨Nat.le_of_ble_eq_true rfl, Nat.le_of_ble_eq_true rfl⟩ (by decide +kernel) ?_
  refine j_dup rfl (by decide +kernel) ?_
  refine j_callIN (M' := nX5) (As := []) (r := 14) (n := 0) (nX5_ok (t := 14) (S := (9, 1, 12) :: (12, 0, 13) :: (9, 0, 10) :: (10, 0, 11) :: S) (by decide) (show jKt.getD 14 99 = 5 by decide +kernel) (show jKt.getD 15 99 = 14 by decide +kernel) (show jLt.getD 15 0 = 12 by decide +kernel) (show jKt.getD 16 99 = 14 by decide +kernel) (show jLt.getD 16 0 = 12 by decide +kernel) (show jKt.getD 17 99 = 14 by decide +kernel) (show jLt.getD 17 0 = 12 by decide +kernel) (fun c hc j => hz c (by omega) j)) jmade_nt (jTbl (jtb1 133 rfl)) snX5 knX5 rfl rfl rfl ⟨by decide +kernel, by decide +kernel, by decide +kernel⟩ rfl ⟨by decide, by decide⟩ (Nat.le_of_ble_eq_true rfl) ⟨Nat.le_of_ble_eq_true rfl, Nat.le_of_ble_eq_true rfl⟩ (by decide +kernel) ?_
  rintro r4 _ h ⟨e, rfl, rfl⟩
  cases e
  have f5 : jfree 18 ((14, 2, 17) :: (14, 1, 16) :: (14, 0, 15) :: (9, 1, 12) :: (12, 0, 13) :: (9, 0, 10) :: (10, 0, 11) :: S) := (((f4.up (by decide)).put (by decide)).put (by decide)).put (by decide)
  refine j_putR (idx := 24) (ci := 6) (k := 2) (r := 9) (a := 14) (show (6, 24, 6, 2, false) ∈ jFT by decide +kernel) rfl rfl rfl rfl (fun _ => rfl) (fun _ => rfl) (by show 9 < 18; decide) (show jKt.getD 9 99 = 6 by decide +kernel) (by decide +kernel) ?_
  have f6 : jfree 18 ((9, 2, 14) :: (14, 2, 17) :: (14, 1, 16) :: (14, 0, 15) :: (9, 1, 12) :: (12, 0, 13) :: (9, 0, 10) :: (10, 0, 11) :: S) := (f5.up (by decide)).put (by decide)
  refine j_aload_n (i := 0) rfl (by decide +kernel) ?_
  refine j_new (idx := 28) (ci := 1) (by decide) rfl (by show 18 < 1000; decide) (show jKt.getD 18 99 = 1 by decide +kernel) (fun j hj => (slotN (show jKt.getD 18 99 = 1 by decide +kernel) (by decide) (fun i => f6 _ _ (by show 18 ≤ 18; decide)) (fun j => hz _ (by show 9 < 18; decide) j)).trans (d1_new j hj)) (jlkT (jtb1 158 rfl) rfl) (jlkT (jtb1 104 rfl) rfl) (jlkT (jtb1 6 rfl) rfl) ⟨Nat.le_of_ble_eq_true rfl, Nat.le_of_ble_eq_true rfl⟩ (by decide +kernel) ?_
  refine j_dup rfl (by decide +kernel) ?_
  refine j_callIN (M' := nX1) (As := []) (r := 18) (n := 0) (nX1_ok (t := 18) (S := (9, 2, 14) :: (14, 2, 17) :: (14, 1, 16) :: (14, 0, 15) :: (9, 1, 12) :: (12, 0, 13) :: (9, 0, 10) :: (10, 0, 11) :: S) (by decide) (show jKt.getD 18 99 = 1 by decide +kernel) (show jKt.getD 19 99 = 14 by decide +kernel) (show jLt.getD 19 0 = 400 by decide +kernel) (fun c hc j => hz c (by omega) j)) jmade_nt (jTbl (jtb1 159 rfl)) snX1 knX1 rfl rfl rfl ⟨by decide +kernel, by decide +kernel, by decide +kernel⟩ rfl ⟨by decide, by decide⟩ (Nat.le_of_ble_eq_true rfl) ⟨Nat.le_of_ble_eq_true rfl, Nat.le_of_ble_eq_true rfl⟩ (by decide +kernel) ?_
  rintro r6 _ h ⟨e, rfl, rfl⟩
  cases e
  have f7 : jfree 20 ((18, 0, 19) :: (9, 2, 14) :: (14, 2, 17) :: (14, 1, 16) :: (14, 0, 15) :: (9, 1, 12) :: (12, 0, 13) :: (9, 0, 10) :: (10, 0, 11) :: S) := (f6.up (by decide)).put (by decide)
  refine j_putR (idx := 31) (ci := 6) (k := 3) (r := 9) (a := 18) (show (6, 31, 6, 3, false) ∈ jFT by decide +kernel) rfl rfl rfl rfl (fun _ => rfl) (fun _ => rfl) (by show 9 < 20; decide) (show jKt.getD 9 99 = 6 by decide +kernel) (by decide +kernel) ?_
  have f8 : jfree 20 ((9, 3, 18) :: (18, 0, 19) :: (9, 2, 14) :: (14, 2, 17) :: (14, 1, 16) :: (14, 0, 15) :: (9, 1, 12) :: (12, 0, 13) :: (9, 0, 10) :: (10, 0, 11) :: S) := (f7.up (by decide)).put (by decide)
  refine j_aload_n (i := 0) rfl (by decide +kernel) ?_
  refine j_new (idx := 35) (ci := 9) (by decide) rfl (by show 20 < 1000; decide) (show jKt.getD 20 99 = 9 by decide +kernel) (fun j hj => (slotN (show jKt.getD 20 99 = 9 by decide +kernel) (by decide) (fun i => f8 _ _ (by show 20 ≤ 20; decide)) (fun j => hz _ (by show 9 < 20; decide) j)).trans (d9_new j hj)) (jlkT (jtb1 160 rfl) rfl) (jlkT (jtb1 161 rfl) rfl) (jlkT (jtb1 9 rfl) rfl) ⟨Nat.le_of_ble_eq_true rfl, Nat.le_of_ble_eq_true rfl⟩ (by decide +kernel) ?_
  refine j_dup rfl (by decide +kernel) ?_
  refine j_callIN (M' := nX9) (As := []) (r := 20) (n := 0) (nX9_ok (t := 20) (S := (9, 3, 18) :: (18, 0, 19) :: (9, 2, 14) :: (14, 2, 17) :: (14, 1, 16) :: (14, 0, 15) :: (9, 1, 12) :: (12, 0, 13) :: (9, 0, 10) :: (10, 0, 11) :: S) (by decide) (show jKt.getD 20 99 = 9 by decide +kernel) (show jKt.getD 21 99 = 14 by decide +kernel) (show jLt.getD 21 0 = 30 by decide +kernel) (show jKt.getD 22 99 = 14 by decide +kernel) (show jLt.getD 22 0 = 8 by decide +kernel) (show jKt.getD 23 99 = 14 by decide +kernel) (show jLt.getD 23 0 = 8 by decide +kernel) (show jKt.getD 24 99 = 14 by decide +kernel) (show jLt.getD 24 0 = 8 by decide +kernel) (fun c hc j => hz c (by omega) j)) jmade_nt (jTbl (jtb1 162 rfl)) snX9 knX9 rfl rfl rfl ⟨by decide +kernel, by decide +kernel, by decide +kernel⟩ rfl ⟨by decide, by decide⟩ (Nat.le_of_ble_eq_true rfl) ⟨Nat.le_of_ble_eq_true rfl, Nat.le_of_ble_eq_true rfl⟩ (by decide +kernel) ?_
  rintro r8 _ h ⟨e, rfl, rfl⟩
  cases e
  have f9 : jfree 25 ((20, 8, 24) :: (20, 7, 23) :: (20, 6, 22) :: (20, 0, 21) :: (9, 3, 18) :: (18, 0, 19) :: (9, 2, 14) :: (14, 2, 17) :: (14, 1, 16) :: (14, 0, 15) :: (9, 1, 12) :: (12, 0, 13) :: (9, 0, 10) :: (10, 0, 11) :: S) := ((((f8.up (by decide)).put (by decide)).put (by decide)).put (by decide)).put (by decide)
  refine j_putR (idx := 38) (ci := 6) (k := 4) (r := 9) (a := 20) (show (6, 38, 6, 4, false) ∈ jFT by decide +kernel) rfl rfl rfl rfl (fun _ => rfl) (fun _ => rfl) (by show 9 < 25; decide) (show jKt.getD 9 99 = 6 by decide +kernel) (by decide +kernel) ?_
  have f10 : jfree 25 ((9, 4, 20) :: (20, 8, 24) :: (20, 7, 23) :: (20, 6, 22) :: (20, 0, 21) :: (9, 3, 18) :: (18, 0, 19) :: (9, 2, 14) :: (14, 2, 17) :: (14, 1, 16) :: (14, 0, 15) :: (9, 1, 12) :: (12, 0, 13) :: (9, 0, 10) :: (10, 0, 11) :: S) := (f9.up (by decide)).put (by decide)
  refine j_aload_n (i := 0) rfl (by decide +kernel) ?_
  refine j_bipush (n := 6) 6 (by decide) (by decide +kernel) ?_
  refine j_newA (at' := .int) (kd := 14) (n := 6) (ty := .int) rfl rfl (by show 25 < 1000; decide) (show jKt.getD 25 99 = 14 by decide +kernel) (by decide) rfl (fun C q => by cases q) (show jLt.getD 25 0 = 6 by decide +kernel) (fun j => slot14 (show jKt.getD 25 99 = 14 by decide +kernel) (hz _ (by show 9 < 25; decide) j)) (by decide) (by decide) (by decide) jar_int.1 jar_int.2 ⟨Nat.le_of_ble_eq_true rfl, Nat.le_of_ble_eq_true rfl⟩ (by decide +kernel) ?_
  refine j_putR (idx := 42) (ci := 6) (k := 5) (r := 9) (a := 25) (show (6, 42, 6, 5, false) ∈ jFT by decide +kernel) rfl rfl rfl rfl (fun _ => rfl) (fun _ => rfl) (by show 9 < 26; decide) (show jKt.getD 9 99 = 6 by decide +kernel) (by decide +kernel) ?_
  have f11 : jfree 26 ((9, 5, 25) :: (9, 4, 20) :: (20, 8, 24) :: (20, 7, 23) :: (20, 6, 22) :: (20, 0, 21) :: (9, 3, 18) :: (18, 0, 19) :: (9, 2, 14) :: (14, 2, 17) :: (14, 1, 16) :: (14, 0, 15) :: (9, 1, 12) :: (12, 0, 13) :: (9, 0, 10) :: (10, 0, 11) :: S) := (f10.up (by decide)).put (by decide)
  refine j_aload_n (i := 0) rfl (by decide +kernel) ?_
  refine j_bipush (n := 6) 6 (by decide) (by decide +kernel) ?_
  refine j_anew ao (idx := 9) (n := 6) rfl (by show 26 < 1000; decide) (show jKt.getD 26 99 = 15 by decide +kernel) (show jLt.getD 26 0 = 6 by decide +kernel) (fun j => f11 26 j (Nat.le_refl 26)) (by decide) (by decide) (by decide) (jlkT (jtb1 129 rfl) rfl) ⟨Nat.le_of_ble_eq_true rfl, Nat.le_of_ble_eq_true rfl⟩ (by decide +kernel) ?_
  refine j_putR (idx := 46) (ci := 6) (k := 6) (r := 9) (a := 26) (show (6, 46, 6, 6, false) ∈ jFT by decide +kernel) rfl rfl rfl rfl (fun _ => rfl) (fun _ => rfl) (by show 9 < 27; decide) (show jKt.getD 9 99 = 6 by decide +kernel) (by decide +kernel) ?_
  have f12 : jfree 27 ((9, 6, 26) :: (9, 5, 25) :: (9, 4, 20) :: (20, 8, 24) :: (20, 7, 23) :: (20, 6, 22) :: (20, 0, 21) :: (9, 3, 18) :: (18, 0, 19) :: (9, 2, 14) :: (14, 2, 17) :: (14, 1, 16) :: (14, 0, 15) :: (9, 1, 12) :: (12, 0, 13) :: (9, 0, 10) :: (10, 0, 11) :: S) := (f11.up (by decide)).put (by decide)
  refine j_aload_n (i := 0) rfl (by decide +kernel) ?_
  refine j_bipush (n := 7) 7 (by decide) (by decide +kernel) ?_
  refine j_putI (idx := 50) (ci := 6) (k := 8) (r := 9) (nest := false) (show (6, 50, 6, 8, false) ∈ jFT by decide +kernel) rfl rfl rfl rfl (by show 9 < 27; decide) (show jKt.getD 9 99 = 6 by decide +kernel) (by decide +kernel) ?_
  replace hz : ∀ c, 9 < c → ∀ j, jput h 9 8 7 c j = 0 := fun c hc j => (congrFun (jput_ne (by omega)) j).trans (hz c hc j)
  refine j_iconst (n := 0) (0) (by decide) (by decide +kernel) ?_
  refine j_istore_n (i := 1) (by decide +kernel) (by decide) ?_
  refine j_eqlv [some (.ref 9), some (.int 0)] (by rfl) ?_
  refine j_iload_n (i := 1) rfl (by decide +kernel) ?_
  refine j_aload_n (i := 0) rfl (by decide +kernel) ?_
  refine j_getR (idx := 46) (ci := 6) (k := 6) (nest := false) (show (6, 46, 6, 6, false) ∈ jFT by decide +kernel) rfl (by show 9 < 27; decide) (show jKt.getD 9 99 = 6 by decide +kernel) (a := 26) rfl (by decide +kernel) ?_
  refine j_alen (by show 26 < 27; decide) (show jKt.getD 26 99 = 15 by decide +kernel) rfl 6 (show Int32.ofNat (jLt.getD 26 0) = 6 by decide +kernel) (by decide +kernel) ?_
  refine j_icmp_ge (off := 22) 112 (by decide +kernel) (by decide) (fun q => absurd q (by decide)) (fun _ => ?_)
  refine j_aload_n (i := 0) rfl (by decide +kernel) ?_
  refine j_getR (idx := 46) (ci := 6) (k := 6) (nest := false) (show (6, 46, 6, 6, false) ∈ jFT by decide +kernel) rfl (by show 9 < 27; decide) (show jKt.getD 9 99 = 6 by decide +kernel) (a := 26) rfl (by decide +kernel) ?_
  refine j_iload_n (i := 1) rfl (by decide +kernel) ?_
  refine j_new (idx := 9) (ci := 4) (by decide) rfl (by show 27 < 1000; decide) (show jKt.getD 27 99 = 4 by decide +kernel) (fun j hj => (slotN (show jKt.getD 27 99 = 4 by decide +kernel) (by decide) (fun i => f12 _ _ (by show 27 ≤ 27; decide)) (fun j => hz _ (by show 9 < 27; decide) j)).trans (d4_new j hj)) (jlkT (jtb1 129 rfl) rfl) (jlkT (jtb1 76 rfl) rfl) (jlkT (jtb1 4 rfl) rfl) ⟨Nat.le_of_ble_eq_true rfl, Nat.le_of_ble_eq_true rfl⟩ (by decide +kernel) ?_
  refine j_dup rfl (by decide +kernel) ?_
  refine j_callIN (M' := nX4) (As := []) (r := 27) (n := 0) (nX4_ok (t := 27) (S := (9, 6, 26) :: (9, 5, 25) :: (9, 4, 20) :: (20, 8, 24) :: (20, 7, 23) :: (20, 6, 22) :: (20, 0, 21) :: (9, 3, 18) :: (18, 0, 19) :: (9, 2, 14) :: (14, 2, 17) :: (14, 1, 16) :: (14, 0, 15) :: (9, 1, 12) :: (12, 0, 13) :: (9, 0, 10) :: (10, 0, 11) :: S) (by decide) (show jKt.getD 27 99 = 4 by decide +kernel) (show jKt.getD 28 99 = 14 by decide +kernel) (show jLt.getD 28 0 = 10 by decide +kernel) (fun c hc j => hz c (by omega) j)) jmade_nt (jTbl (jtb1 130 rfl)) snX4 knX4 rfl rfl rfl ⟨by decide +kernel, by decide +kernel, by decide +kernel⟩ rfl ⟨by decide, by decide⟩ (Nat.le_of_ble_eq_true rfl) ⟨Nat.le_of_ble_eq_true rfl, Nat.le_of_ble_eq_true rfl⟩ (by decide +kernel) ?_
  rintro r12 _ h ⟨e, rfl, rfl⟩
  cases e
  have f13 : jfree 29 ((27, 0, 28) :: (9, 6, 26) :: (9, 5, 25) :: (9, 4, 20) :: (20, 8, 24) :: (20, 7, 23) :: (20, 6, 22) :: (20, 0, 21) :: (9, 3, 18) :: (18, 0, 19) :: (9, 2, 14) :: (14, 2, 17) :: (14, 1, 16) :: (14, 0, 15) :: (9, 1, 12) :: (12, 0, 13) :: (9, 0, 10) :: (10, 0, 11) :: S) := (f12.up (by decide)).put (by decide)
  refine j_aastR (by show 26 < 29; decide) (show jKt.getD 26 99 = 15 by decide +kernel) (by show 27 < 29; decide) (show jKt.getD 27 99 = 4 by decide +kernel) (show vp_in (nI 0) 6 from vp_in_nI (by decide) (by decide)) (by decide +kernel) ?_
  have f14 : jfree 29 ((26, 0, 27) :: (27, 0, 28) :: (9, 6, 26) :: (9, 5, 25) :: (9, 4, 20) :: (20, 8, 24) :: (20, 7, 23) :: (20, 6, 22) :: (20, 0, 21) :: (9, 3, 18) :: (18, 0, 19) :: (9, 2, 14) :: (14, 2, 17) :: (14, 1, 16) :: (14, 0, 15) :: (9, 1, 12) :: (12, 0, 13) :: (9, 0, 10) :: (10, 0, 11) :: S) := (f13.up (by decide)).put (by decide)
  refine j_iinc (i := 1) (n := 1) rfl (by decide +kernel) (by decide) ?_
  refine j_eqlv [some (.ref 9), some (.int 1)] (by rfl) ?_
  refine j_goto (off := -25) 84 (by decide +kernel) (by decide) ?_
  refine j_iload_n (i := 1) rfl (by decide +kernel) ?_
  refine j_aload_n (i := 0) rfl (by decide +kernel) ?_
  refine j_getR (idx := 46) (ci := 6) (k := 6) (nest := false) (show (6, 46, 6, 6, false) ∈ jFT by decide +kernel) rfl (by show 9 < 29; decide) (show jKt.getD 9 99 = 6 by decide +kernel) (a := 26) rfl (by decide +kernel) ?_
  refine j_alen (by show 26 < 29; decide) (show jKt.getD 26 99 = 15 by decide +kernel) rfl 6 (show Int32.ofNat (jLt.getD 26 0) = 6 by decide +kernel) (by decide +kernel) ?_
  refine j_icmp_ge (off := 22) 112 (by decide +kernel) (by decide) (fun q => absurd q (by decide)) (fun _ => ?_)
  refine j_aload_n (i := 0) rfl (by decide +kernel) ?_
  refine j_getR (idx := 46) (ci := 6) (k := 6) (nest := false) (show (6, 46, 6, 6, false) ∈ jFT by decide +kernel) rfl (by show 9 < 29; decide) (show jKt.getD 9 99 = 6 by decide +kernel) (a := 26) rfl (by decide +kernel) ?_
  refine j_iload_n (i := 1) rfl (by decide +kernel) ?_
  refine j_new (idx := 9) (ci := 4) (by decide) rfl (by show 29 < 1000; decide) (show jKt.getD 29 99 = 4 by decide +kernel) (fun j hj => (slotN (show jKt.getD 29 99 = 4 by decide +kernel) (by decide) (fun i => f14 _ _ (by show 29 ≤ 29; decide)) (fun j => hz _ (by show 9 < 29; decide) j)).trans (d4_new j hj)) (jlkT (jtb1 129 rfl) rfl) (jlkT (jtb1 76 rfl) rfl) (jlkT (jtb1 4 rfl) rfl) ⟨Nat.le_of_ble_eq_true rfl, Nat.le_of_ble_eq_true rfl⟩ (by decide +kernel) ?_
  refine j_dup rfl (by decide +kernel) ?_
  refine j_callIN (M' := nX4) (As := []) (r := 29) (n := 0) (nX4_ok (t := 29) (S := (26, 0, 27) :: (27, 0, 28) :: (9, 6, 26) :: (9, 5, 25) :: (9, 4, 20) :: (20, 8, 24) :: (20, 7, 23) :: (20, 6, 22) :: (20, 0, 21) :: (9, 3, 18) :: (18, 0, 19) :: (9, 2, 14) :: (14, 2, 17) :: (14, 1, 16) :: (14, 0, 15) :: (9, 1, 12) :: (12, 0, 13) :: (9, 0, 10) :: (10, 0, 11) :: S) (by decide) (show jKt.getD 29 99 = 4 by decide +kernel) (show jKt.getD 30 99 = 14 by decide +kernel) (show jLt.getD 30 0 = 10 by decide +kernel) (fun c hc j => hz c (by omega) j)) jmade_nt (jTbl (jtb1 130 rfl)) snX4 knX4 rfl rfl rfl ⟨by decide +kernel, by decide +kernel, by decide +kernel⟩ rfl ⟨by decide, by decide⟩ (Nat.le_of_ble_eq_true rfl) ⟨Nat.le_of_ble_eq_true rfl, Nat.le_of_ble_eq_true rfl⟩ (by decide +kernel) ?_
  rintro r14 _ h ⟨e, rfl, rfl⟩
  cases e
  have f15 : jfree 31 ((29, 0, 30) :: (26, 0, 27) :: (27, 0, 28) :: (9, 6, 26) :: (9, 5, 25) :: (9, 4, 20) :: (20, 8, 24) :: (20, 7, 23) :: (20, 6, 22) :: (20, 0, 21) :: (9, 3, 18) :: (18, 0, 19) :: (9, 2, 14) :: (14, 2, 17) :: (14, 1, 16) :: (14, 0, 15) :: (9, 1, 12) :: (12, 0, 13) :: (9, 0, 10) :: (10, 0, 11) :: S) := (f14.up (by decide)).put (by decide)
  refine j_aastR (by show 26 < 31; decide) (show jKt.getD 26 99 = 15 by decide +kernel) (by show 29 < 31; decide) (show jKt.getD 29 99 = 4 by decide +kernel) (show vp_in (nI 1) 6 from vp_in_nI (by decide) (by decide)) (by decide +kernel) ?_
  have f16 : jfree 31 ((26, 1, 29) :: (29, 0, 30) :: (26, 0, 27) :: (27, 0, 28) :: (9, 6, 26) :: (9, 5, 25) :: (9, 4, 20) :: (20, 8, 24) :: (20, 7, 23) :: (20, 6, 22) :: (20, 0, 21) :: (9, 3, 18) :: (18, 0, 19) :: (9, 2, 14) :: (14, 2, 17) :: (14, 1, 16) :: (14, 0, 15) :: (9, 1, 12) :: (12, 0, 13) :: (9, 0, 10) :: (10, 0, 11) :: S) := (f15.up (by decide)).put (by decide)
  refine j_iinc (i := 1) (n := 1) rfl (by decide +kernel) (by decide) ?_
  refine j_eqlv [some (.ref 9), some (.int 2)] (by rfl) ?_
  refine j_goto (off := -25) 84 (by decide +kernel) (by decide) ?_
  refine j_iload_n (i := 1) rfl (by decide +kernel) ?_
  refine j_aload_n (i := 0) rfl (by decide +kernel) ?_
  refine j_getR (idx := 46) (ci := 6) (k := 6) (nest := false) (show (6, 46, 6, 6, false) ∈ jFT by decide +kernel) rfl (by show 9 < 31; decide) (show jKt.getD 9 99 = 6 by decide +kernel) (a := 26) rfl (by decide +kernel) ?_
  refine j_alen (by show 26 < 31; decide) (show jKt.getD 26 99 = 15 by decide +kernel) rfl 6 (show Int32.ofNat (jLt.getD 26 0) = 6 by decide +kernel) (by decide +kernel) ?_
  refine j_icmp_ge (off := 22) 112 (by decide +kernel) (by decide) (fun q => absurd q (by decide)) (fun _ => ?_)
  refine j_aload_n (i := 0) rfl (by decide +kernel) ?_
  refine j_getR (idx := 46) (ci := 6) (k := 6) (nest := false) (show (6, 46, 6, 6, false) ∈ jFT by decide +kernel) rfl (by show 9 < 31; decide) (show jKt.getD 9 99 = 6 by decide +kernel) (a := 26) rfl (by decide +kernel) ?_
  refine j_iload_n (i := 1) rfl (by decide +kernel) ?_
  refine j_new (idx := 9) (ci := 4) (by decide) rfl (by show 31 < 1000; decide) (show jKt.getD 31 99 = 4 by decide +kernel) (fun j hj => (slotN (show jKt.getD 31 99 = 4 by decide +kernel) (by decide) (fun i => f16 _ _ (by show 31 ≤ 31; decide)) (fun j => hz _ (by show 9 < 31; decide) j)).trans (d4_new j hj)) (jlkT (jtb1 129 rfl) rfl) (jlkT (jtb1 76 rfl) rfl) (jlkT (jtb1 4 rfl) rfl) ⟨Nat.le_of_ble_eq_true rfl, Nat.le_of_ble_eq_true rfl⟩ (by decide +kernel) ?_
  refine j_dup rfl (by decide +kernel) ?_
  refine j_callIN (M' := nX4) (As := []) (r := 31) (n := 0) (nX4_ok (t := 31) (S := (26, 1, 29) :: (29, 0, 30) :: (26, 0, 27) :: (27, 0, 28) :: (9, 6, 26) :: (9, 5, 25) :: (9, 4, 20) :: (20, 8, 24) :: (20, 7, 23) :: (20, 6, 22) :: (20, 0, 21) :: (9, 3, 18) :: (18, 0, 19) :: (9, 2, 14) :: (14, 2, 17) :: (14, 1, 16) :: (14, 0, 15) :: (9, 1, 12) :: (12, 0, 13) :: (9, 0, 10) :: (10, 0, 11) :: S) (by decide) (show jKt.getD 31 99 = 4 by decide +kernel) (show jKt.getD 32 99 = 14 by decide +kernel) (show jLt.getD 32 0 = 10 by decide +kernel) (fun c hc j => hz c (by omega) j)) jmade_nt (jTbl (jtb1 130 rfl)) snX4 knX4 rfl rfl rfl ⟨by decide +kernel, by decide +kernel, by decide +kernel⟩ rfl ⟨by decide, by decide⟩ (Nat.le_of_ble_eq_true rfl) ⟨Nat.le_of_ble_eq_true rfl, Nat.le_of_ble_eq_true rfl⟩ (by decide +kernel) ?_
  rintro r16 _ h ⟨e, rfl, rfl⟩
  cases e
  have f17 : jfree 33 ((31, 0, 32) :: (26, 1, 29) :: (29, 0, 30) :: (26, 0, 27) :: (27, 0, 28) :: (9, 6, 26) :: (9, 5, 25) :: (9, 4, 20) :: (20, 8, 24) :: (20, 7, 23) :: (20, 6, 22) :: (20, 0, 21) :: (9, 3, 18) :: (18, 0, 19) :: (9, 2, 14) :: (14, 2, 17) :: (14, 1, 16) :: (14, 0, 15) :: (9, 1, 12) :: (12, 0, 13) :: (9, 0, 10) :: (10, 0, 11) :: S) := (f16.up (by decide)).put (by decide)
  refine j_aastR (by show 26 < 33; decide) (show jKt.getD 26 99 = 15 by decide +kernel) (by show 31 < 33; decide) (show jKt.getD 31 99 = 4 by decide +kernel) (show vp_in (nI 2) 6 from vp_in_nI (by decide) (by decide)) (by decide +kernel) ?_
  have f18 : jfree 33 ((26, 2, 31) :: (31, 0, 32) :: (26, 1, 29) :: (29, 0, 30) :: (26, 0, 27) :: (27, 0, 28) :: (9, 6, 26) :: (9, 5, 25) :: (9, 4, 20) :: (20, 8, 24) :: (20, 7, 23) :: (20, 6, 22) :: (20, 0, 21) :: (9, 3, 18) :: (18, 0, 19) :: (9, 2, 14) :: (14, 2, 17) :: (14, 1, 16) :: (14, 0, 15) :: (9, 1, 12) :: (12, 0, 13) :: (9, 0, 10) :: (10, 0, 11) :: S) := (f17.up (by decide)).put (by decide)
  refine j_iinc (i := 1) (n := 1) rfl (by decide +kernel) (by decide) ?_
  refine j_eqlv [some (.ref 9), some (.int 3)] (by rfl) ?_
  refine j_goto (off := -25) 84 (by decide +kernel) (by decide) ?_
  refine j_iload_n (i := 1) rfl (by decide +kernel) ?_
  refine j_aload_n (i := 0) rfl (by decide +kernel) ?_
  refine j_getR (idx := 46) (ci := 6) (k := 6) (nest := false) (show (6, 46, 6, 6, false) ∈ jFT by decide +kernel) rfl (by show 9 < 33; decide) (show jKt.getD 9 99 = 6 by decide +kernel) (a := 26) rfl (by decide +kernel) ?_
  refine j_alen (by show 26 < 33; decide) (show jKt.getD 26 99 = 15 by decide +kernel) rfl 6 (show Int32.ofNat (jLt.getD 26 0) = 6 by decide +kernel) (by decide +kernel) ?_
  refine j_icmp_ge (off := 22) 112 (by decide +kernel) (by decide) (fun q => absurd q (by decide)) (fun _ => ?_)
  refine j_aload_n (i := 0) rfl (by decide +kernel) ?_
  refine j_getR (idx := 46) (ci := 6) (k := 6) (nest := false) (show (6, 46, 6, 6, false) ∈ jFT by decide +kernel) rfl (by show 9 < 33; decide) (show jKt.getD 9 99 = 6 by decide +kernel) (a := 26) rfl (by decide +kernel) ?_
  refine j_iload_n (i := 1) rfl (by decide +kernel) ?_
  refine j_new (idx := 9) (ci := 4) (by decide) rfl (by show 33 < 1000; decide) (show jKt.getD 33 99 = 4 by decide +kernel) (fun j hj => (slotN (show jKt.getD 33 99 = 4 by decide +kernel) (by decide) (fun i => f18 _ _ (by show 33 ≤ 33; decide)) (fun j => hz _ (by show 9 < 33; decide) j)).trans (d4_new j hj)) (jlkT (jtb1 129 rfl) rfl) (jlkT (jtb1 76 rfl) rfl) (jlkT (jtb1 4 rfl) rfl) ⟨Nat.le_of_ble_eq_true rfl, Nat.le_of_ble_eq_true rfl⟩ (by decide +kernel) ?_
  refine j_dup rfl (by decide +kernel) ?_
  refine j_callIN (M' := nX4) (As := []) (r := 33) (n := 0) (nX4_ok (t := 33) (S := (26, 2, 31) :: (31, 0, 32) :: (26, 1, 29) :: (29, 0, 30) :: (26, 0, 27) :: (27, 0, 28) :: (9, 6, 26) :: (9, 5, 25) :: (9, 4, 20) :: (20, 8, 24) :: (20, 7, 23) :: (20, 6, 22) :: (20, 0, 21) :: (9, 3, 18) :: (18, 0, 19) :: (9, 2, 14) :: (14, 2, 17) :: (14, 1, 16) :: (14, 0, 15) :: (9, 1, 12) :: (12, 0, 13) :: (9, 0, 10) :: (10, 0, 11) :: S) (by decide) (show jKt.getD 33 99 = 4 by decide +kernel) (show jKt.getD 34 99 = 14 by decide +kernel) (show jLt.getD 34 0 = 10 by decide +kernel) (fun c hc j => hz c (by omega) j)) jmade_nt (jTbl (jtb1 130 rfl)) snX4 knX4 rfl rfl rfl ⟨by decide +kernel, by decide +kernel, by decide +kernel⟩ rfl ⟨by decide, by decide⟩ (Nat.le_of_ble_eq_true rfl) ⟨Nat.le_of_ble_eq_true rfl, Nat.le_of_ble_eq_true rfl⟩ (by decide +kernel) ?_
  rintro r18 _ h ⟨e, rfl, rfl⟩
  cases e
  have f19 : jfree 35 ((33, 0, 34) :: (26, 2, 31) :: (31, 0, 32) :: (26, 1, 29) :: (29, 0, 30) :: (26, 0, 27) :: (27, 0, 28) :: (9, 6, 26) :: (9, 5, 25) :: (9, 4, 20) :: (20, 8, 24) :: (20, 7, 23) :: (20, 6, 22) :: (20, 0, 21) :: (9, 3, 18) :: (18, 0, 19) :: (9, 2, 14) :: (14, 2, 17) :: (14, 1, 16) :: (14, 0, 15) :: (9, 1, 12) :: (12, 0, 13) :: (9, 0, 10) :: (10, 0, 11) :: S) := (f18.up (by decide)).put (by decide)
  refine j_aastR (by show 26 < 35; decide) (show jKt.getD 26 99 = 15 by decide +kernel) (by show 33 < 35; decide) (show jKt.getD 33 99 = 4 by decide +kernel) (show vp_in (nI 3) 6 from vp_in_nI (by decide) (by decide)) (by decide +kernel) ?_
  have f20 : jfree 35 ((26, 3, 33) :: (33, 0, 34) :: (26, 2, 31) :: (31, 0, 32) :: (26, 1, 29) :: (29, 0, 30) :: (26, 0, 27) :: (27, 0, 28) :: (9, 6, 26) :: (9, 5, 25) :: (9, 4, 20) :: (20, 8, 24) :: (20, 7, 23) :: (20, 6, 22) :: (20, 0, 21) :: (9, 3, 18) :: (18, 0, 19) :: (9, 2, 14) :: (14, 2, 17) :: (14, 1, 16) :: (14, 0, 15) :: (9, 1, 12) :: (12, 0, 13) :: (9, 0, 10) :: (10, 0, 11) :: S) := (f19.up (by decide)).put (by decide)
  refine j_iinc (i := 1) (n := 1) rfl (by decide +kernel) (by decide) ?_
  refine j_eqlv [some (.ref 9), some (.int 4)] (by rfl) ?_
  refine j_goto (off := -25) 84 (by decide +kernel) (by decide) ?_
  refine j_iload_n (i := 1) rfl (by decide +kernel) ?_
  refine j_aload_n (i := 0) rfl (by decide +kernel) ?_
  refine j_getR (idx := 46) (ci := 6) (k := 6) (nest := false) (show (6, 46, 6, 6, false) ∈ jFT by decide +kernel) rfl (by show 9 < 35; decide) (show jKt.getD 9 99 = 6 by decide +kernel) (a := 26) rfl (by decide +kernel) ?_
  refine j_alen (by show 26 < 35; decide) (show jKt.getD 26 99 = 15 by decide +kernel) rfl 6 (show Int32.ofNat (jLt.getD 26 0) = 6 by decide +kernel) (by decide +kernel) ?_
  refine j_icmp_ge (off := 22) 112 (by decide +kernel) (by decide) (fun q => absurd q (by decide)) (fun _ => ?_)
  refine j_aload_n (i := 0) rfl (by decide +kernel) ?_
  refine j_getR (idx := 46) (ci := 6) (k := 6) (nest := false) (show (6, 46, 6, 6, false) ∈ jFT by decide +kernel) rfl (by show 9 < 35; decide) (show jKt.getD 9 99 = 6 by decide +kernel) (a := 26) rfl (by decide +kernel) ?_
  refine j_iload_n (i := 1) rfl (by decide +kernel) ?_
  refine j_new (idx := 9) (ci := 4) (by decide) rfl (by show 35 < 1000; decide) (show jKt.getD 35 99 = 4 by decide +kernel) (fun j hj => (slotN (show jKt.getD 35 99 = 4 by decide +kernel) (by decide) (fun i => f20 _ _ (by show 35 ≤ 35; decide)) (fun j => hz _ (by show 9 < 35; decide) j)).trans (d4_new j hj)) (jlkT (jtb1 129 rfl) rfl) (jlkT (jtb1 76 rfl) rfl) (jlkT (jtb1 4 rfl) rfl) ⟨Nat.le_of_ble_eq_true rfl, Nat.le_of_ble_eq_true rfl⟩ (by decide +kernel) ?_
  refine j_dup rfl (by decide +kernel) ?_
  refine j_callIN (M' := nX4) (As := []) (r := 35) (n := 0) (nX4_ok (t := 35) (S := (26, 3, 33) :: (33, 0, 34) :: (26, 2, 31) :: (31, 0, 32) :: (26, 1, 29) :: (29, 0, 30) :: (26, 0, 27) :: (27, 0, 28) :: (9, 6, 26) :: (9, 5, 25) :: (9, 4, 20) :: (20, 8, 24) :: (20, 7, 23) :: (20, 6, 22) :: (20, 0, 21) :: (9, 3, 18) :: (18, 0, 19) :: (9, 2, 14) :: (14, 2, 17) :: (14, 1, 16) :: (14, 0, 15) :: (9, 1, 12) :: (12, 0, 13) :: (9, 0, 10) :: (10, 0, 11) :: S) (by decide) (show jKt.getD 35 99 = 4 by decide +kernel) (show jKt.getD 36 99 = 14 by decide +kernel) (show jLt.getD 36 0 = 10 by decide +kernel) (fun c hc j => hz c (by omega) j)) jmade_nt (jTbl (jtb1 130 rfl)) snX4 knX4 rfl rfl rfl ⟨by decide +kernel, by decide +kernel, by decide +kernel⟩ rfl ⟨by decide, by decide⟩ (Nat.le_of_ble_eq_true rfl) ⟨Nat.le_of_ble_eq_true rfl, Nat.le_of_ble_eq_true rfl⟩ (by decide +kernel) ?_
  rintro r20 _ h ⟨e, rfl, rfl⟩
  cases e
  have f21 : jfree 37 ((35, 0, 36) :: (26, 3, 33) :: (33, 0, 34) :: (26, 2, 31) :: (31, 0, 32) :: (26, 1, 29) :: (29, 0, 30) :: (26, 0, 27) :: (27, 0, 28) :: (9, 6, 26) :: (9, 5, 25) :: (9, 4, 20) :: (20, 8, 24) :: (20, 7, 23) :: (20, 6, 22) :: (20, 0, 21) :: (9, 3, 18) :: (18, 0, 19) :: (9, 2, 14) :: (14, 2, 17) :: (14, 1, 16) :: (14, 0, 15) :: (9, 1, 12) :: (12, 0, 13) :: (9, 0, 10) :: (10, 0, 11) :: S) := (f20.up (by decide)).put (by decide)
  refine j_aastR (by show 26 < 37; decide) (show jKt.getD 26 99 = 15 by decide +kernel) (by show 35 < 37; decide) (show jKt.getD 35 99 = 4 by decide +kernel) (show vp_in (nI 4) 6 from vp_in_nI (by decide) (by decide)) (by decide +kernel) ?_
  have f22 : jfree 37 ((26, 4, 35) :: (35, 0, 36) :: (26, 3, 33) :: (33, 0, 34) :: (26, 2, 31) :: (31, 0, 32) :: (26, 1, 29) :: (29, 0, 30) :: (26, 0, 27) :: (27, 0, 28) :: (9, 6, 26) :: (9, 5, 25) :: (9, 4, 20) :: (20, 8, 24) :: (20, 7, 23) :: (20, 6, 22) :: (20, 0, 21) :: (9, 3, 18) :: (18, 0, 19) :: (9, 2, 14) :: (14, 2, 17) :: (14, 1, 16) :: (14, 0, 15) :: (9, 1, 12) :: (12, 0, 13) :: (9, 0, 10) :: (10, 0, 11) :: S) := (f21.up (by decide)).put (by decide)
  refine j_iinc (i := 1) (n := 1) rfl (by decide +kernel) (by decide) ?_
  refine j_eqlv [some (.ref 9), some (.int 5)] (by rfl) ?_
  refine j_goto (off := -25) 84 (by decide +kernel) (by decide) ?_
  refine j_iload_n (i := 1) rfl (by decide +kernel) ?_
  refine j_aload_n (i := 0) rfl (by decide +kernel) ?_
  refine j_getR (idx := 46) (ci := 6) (k := 6) (nest := false) (show (6, 46, 6, 6, false) ∈ jFT by decide +kernel) rfl (by show 9 < 37; decide) (show jKt.getD 9 99 = 6 by decide +kernel) (a := 26) rfl (by decide +kernel) ?_
  refine j_alen (by show 26 < 37; decide) (show jKt.getD 26 99 = 15 by decide +kernel) rfl 6 (show Int32.ofNat (jLt.getD 26 0) = 6 by decide +kernel) (by decide +kernel) ?_
  refine j_icmp_ge (off := 22) 112 (by decide +kernel) (by decide) (fun q => absurd q (by decide)) (fun _ => ?_)
  refine j_aload_n (i := 0) rfl (by decide +kernel) ?_
  refine j_getR (idx := 46) (ci := 6) (k := 6) (nest := false) (show (6, 46, 6, 6, false) ∈ jFT by decide +kernel) rfl (by show 9 < 37; decide) (show jKt.getD 9 99 = 6 by decide +kernel) (a := 26) rfl (by decide +kernel) ?_
  refine j_iload_n (i := 1) rfl (by decide +kernel) ?_
  refine j_new (idx := 9) (ci := 4) (by decide) rfl (by show 37 < 1000; decide) (show jKt.getD 37 99 = 4 by decide +kernel) (fun j hj => (slotN (show jKt.getD 37 99 = 4 by decide +kernel) (by decide) (fun i => f22 _ _ (by show 37 ≤ 37; decide)) (fun j => hz _ (by show 9 < 37; decide) j)).trans (d4_new j hj)) (jlkT (jtb1 129 rfl) rfl) (jlkT (jtb1 76 rfl) rfl) (jlkT (jtb1 4 rfl) rfl) ⟨Nat.le_of_ble_eq_true rfl, Nat.le_of_ble_eq_true rfl⟩ (by decide +kernel) ?_
  refine j_dup rfl (by decide +kernel) ?_
  refine j_callIN (M' := nX4) (As := []) (r := 37) (n := 0) (nX4_ok (t := 37) (S := (26, 4, 35) :: (35, 0, 36) :: (26, 3, 33) :: (33, 0, 34) :: (26, 2, 31) :: (31, 0, 32) :: (26, 1, 29) :: (29, 0, 30) :: (26, 0, 27) :: (27, 0, 28) :: (9, 6, 26) :: (9, 5, 25) :: (9, 4, 20) :: (20, 8, 24) :: (20, 7, 23) :: (20, 6, 22) :: (20, 0, 21) :: (9, 3, 18) :: (18, 0, 19) :: (9, 2, 14) :: (14, 2, 17) :: (14, 1, 16) :: (14, 0, 15) :: (9, 1, 12) :: (12, 0, 13) :: (9, 0, 10) :: (10, 0, 11) :: S) (by decide) (show jKt.getD 37 99 = 4 by decide +kernel) (show jKt.getD 38 99 = 14 by decide +kernel) (show jLt.getD 38 0 = 10 by decide +kernel) (fun c hc j => hz c (by omega) j)) jmade_nt (jTbl (jtb1 130 rfl)) snX4 knX4 rfl rfl rfl ⟨by decide +kernel, by decide +kernel, by decide +kernel⟩ rfl ⟨by decide, by decide⟩ (Nat.le_of_ble_eq_true rfl) ⟨Nat.le_of_ble_eq_true rfl, Nat.le_of_ble_eq_true rfl⟩ (by decide +kernel) ?_
  rintro r22 _ h ⟨e, rfl, rfl⟩
  cases e
  have f23 : jfree 39 ((37, 0, 38) :: (26, 4, 35) :: (35, 0, 36) :: (26, 3, 33) :: (33, 0, 34) :: (26, 2, 31) :: (31, 0, 32) :: (26, 1, 29) :: (29, 0, 30) :: (26, 0, 27) :: (27, 0, 28) :: (9, 6, 26) :: (9, 5, 25) :: (9, 4, 20) :: (20, 8, 24) :: (20, 7, 23) :: (20, 6, 22) :: (20, 0, 21) :: (9, 3, 18) :: (18, 0, 19) :: (9, 2, 14) :: (14, 2, 17) :: (14, 1, 16) :: (14, 0, 15) :: (9, 1, 12) :: (12, 0, 13) :: (9, 0, 10) :: (10, 0, 11) :: S) := (f22.up (by decide)).put (by decide)
  refine j_aastR (by show 26 < 39; decide) (show jKt.getD 26 99 = 15 by decide +kernel) (by show 37 < 39; decide) (show jKt.getD 37 99 = 4 by decide +kernel) (show vp_in (nI 5) 6 from vp_in_nI (by decide) (by decide)) (by decide +kernel) ?_
  have f24 : jfree 39 ((26, 5, 37) :: (37, 0, 38) :: (26, 4, 35) :: (35, 0, 36) :: (26, 3, 33) :: (33, 0, 34) :: (26, 2, 31) :: (31, 0, 32) :: (26, 1, 29) :: (29, 0, 30) :: (26, 0, 27) :: (27, 0, 28) :: (9, 6, 26) :: (9, 5, 25) :: (9, 4, 20) :: (20, 8, 24) :: (20, 7, 23) :: (20, 6, 22) :: (20, 0, 21) :: (9, 3, 18) :: (18, 0, 19) :: (9, 2, 14) :: (14, 2, 17) :: (14, 1, 16) :: (14, 0, 15) :: (9, 1, 12) :: (12, 0, 13) :: (9, 0, 10) :: (10, 0, 11) :: S) := (f23.up (by decide)).put (by decide)
  refine j_iinc (i := 1) (n := 1) rfl (by decide +kernel) (by decide) ?_
  refine j_eqlv [some (.ref 9), some (.int 6)] (by rfl) ?_
  refine j_goto (off := -25) 84 (by decide +kernel) (by decide) ?_
  refine j_iload_n (i := 1) rfl (by decide +kernel) ?_
  refine j_aload_n (i := 0) rfl (by decide +kernel) ?_
  refine j_getR (idx := 46) (ci := 6) (k := 6) (nest := false) (show (6, 46, 6, 6, false) ∈ jFT by decide +kernel) rfl (by show 9 < 39; decide) (show jKt.getD 9 99 = 6 by decide +kernel) (a := 26) rfl (by decide +kernel) ?_
  refine j_alen (by show 26 < 39; decide) (show jKt.getD 26 99 = 15 by decide +kernel) rfl 6 (show Int32.ofNat (jLt.getD 26 0) = 6 by decide +kernel) (by decide +kernel) ?_
  refine j_icmp_ge (off := 22) 112 (by decide +kernel) (by decide) (fun _ => ?_) (fun q => absurd (by decide) q)
  exact j_vret rfl (Nat.le_of_ble_eq_true rfl) (Nat.le_of_ble_eq_true rfl) (by decide +kernel) ⟨rfl, rfl, rfl⟩
theorem nX6_39 (ao : jAO) (hz : ∀ c, 39 < c → ∀ j, h c j = 0) (hS : jfree 40 S) : JM nX6 [.ref 39] (jW 40 S sc) h (jmade sc 69 ((56, 5, 67) :: (67, 0, 68) :: (56, 4, 65) :: (65, 0, 66) :: (56, 3, 63) :: (63, 0, 64) :: (56, 2, 61) :: (61, 0, 62) :: (56, 1, 59) :: (59, 0, 60) :: (56, 0, 57) :: (57, 0, 58) :: (39, 6, 56) :: (39, 5, 55) :: (39, 4, 50) :: (50, 8, 54) :: (50, 7, 53) :: (50, 6, 52) :: (50, 0, 51) :: (39, 3, 48) :: (48, 0, 49) :: (39, 2, 44) :: (44, 2, 47) :: (44, 1, 46) :: (44, 0, 45) :: (39, 1, 42) :: (42, 0, 43) :: (39, 0, 40) :: (40, 0, 41) :: S) (jput (h) 39 8 7)) := by
  refine jM_of rfl (Nat.le_of_ble_eq_true rfl) (by decide +kernel) rfl ?_
  have f0 : jfree 40 S := hS
  refine j_aload_n (i := 0) rfl (by decide +kernel) ?_
  refine j_obj (idx := 3) (jlkT (jtb1 128 rfl) rfl) (Nat.le_of_ble_eq_true rfl) (by decide +kernel) ?_
  refine j_aload_n (i := 0) rfl (by decide +kernel) ?_
  refine j_new (idx := 9) (ci := 4) (by decide) rfl (by show 40 < 1000; decide) (show jKt.getD 40 99 = 4 by decide +kernel) (fun j hj => (slotN (show jKt.getD 40 99 = 4 by decide +kernel) (by decide) (fun i => f0 _ _ (by show 40 ≤ 40; decide)) (fun j => hz _ (by show 39 < 40; decide) j)).trans (d4_new j hj)) (jlkT (jtb1 129 rfl) rfl) (jlkT (jtb1 76 rfl) rfl) (jlkT (jtb1 4 rfl) rfl) ⟨Nat.le_of_ble_eq_true rfl, Nat.le_of_ble_eq_true rfl⟩ (by decide +kernel) ?_
  refine j_dup rfl (by decide +kernel) ?_
  refine j_callIN (M' := nX4) (As := []) (r := 40) (n := 0) (nX4_ok (t := 40) (S := S) (by decide) (show jKt.getD 40 99 = 4 by decide +kernel) (show jKt.getD 41 99 = 14 by decide +kernel) (show jLt.getD 41 0 = 10 by decide +kernel) (fun c hc j => hz c (by omega) j)) jmade_nt (jTbl (jtb1 130 rfl)) snX4 knX4 rfl rfl rfl ⟨by decide +kernel, by decide +kernel, by decide +kernel⟩ rfl ⟨by decide, by decide⟩ (Nat.le_of_ble_eq_true rfl) ⟨Nat.le_of_ble_eq_true rfl, Nat.le_of_ble_eq_true rfl⟩ (by decide +kernel) ?_
  rintro r0 _ h ⟨e, rfl, rfl⟩
  cases e
  have f1 : jfree 42 ((40, 0, 41) :: S) := (f0.up (by decide)).put (by decide)
  refine j_putR (idx := 12) (ci := 6) (k := 0) (r := 39) (a := 40) (show (6, 12, 6, 0, false) ∈ jFT by decide +kernel) rfl rfl rfl rfl (fun _ => rfl) (fun _ => rfl) (by show 39 < 42; decide) (show jKt.getD 39 99 = 6 by decide +kernel) (by decide +kernel) ?_
  have f2 : jfree 42 ((39, 0, 40) :: (40, 0, 41) :: S) := (f1.up (by decide)).put (by decide)
  refine j_aload_n (i := 0) rfl (by decide +kernel) ?_
  refine j_new (idx := 9) (ci := 4) (by decide) rfl (by show 42 < 1000; decide) (show jKt.getD 42 99 = 4 by decide +kernel) (fun j hj => (slotN (show jKt.getD 42 99 = 4 by decide +kernel) (by decide) (fun i => f2 _ _ (by show 42 ≤ 42; decide)) (fun j => hz _ (by show 39 < 42; decide) j)).trans (d4_new j hj)) (jlkT (jtb1 129 rfl) rfl) (jlkT (jtb1 76 rfl) rfl) (jlkT (jtb1 4 rfl) rfl) ⟨Nat.le_of_ble_eq_true rfl, Nat.le_of_ble_eq_true rfl⟩ (by decide +kernel) ?_
  refine j_dup rfl (by decide +kernel) ?_
  refine j_callIN (M' := nX4) (As := []) (r := 42) (n := 0) (nX4_ok (t := 42) (S := (39, 0, 40) :: (40, 0, 41) :: S) (by decide) (show jKt.getD 42 99 = 4 by decide +kernel) (show jKt.getD 43 99 = 14 by decide +kernel) (show jLt.getD 43 0 = 10 by decide +kernel) (fun c hc j => hz c (by omega) j)) jmade_nt (jTbl (jtb1 130 rfl)) snX4 knX4 rfl rfl rfl ⟨by decide +kernel, by decide +kernel, by decide +kernel⟩ rfl ⟨by decide, by decide⟩ (Nat.le_of_ble_eq_true rfl) ⟨Nat.le_of_ble_eq_true rfl, Nat.le_of_ble_eq_true rfl⟩ (by decide +kernel) ?_
  rintro r2 _ h ⟨e, rfl, rfl⟩
  cases e
  have f3 : jfree 44 ((42, 0, 43) :: (39, 0, 40) :: (40, 0, 41) :: S) := (f2.up (by decide)).put (by decide)
  refine j_putR (idx := 18) (ci := 6) (k := 1) (r := 39) (a := 42) (show (6, 18, 6, 1, false) ∈ jFT by decide +kernel) rfl rfl rfl rfl (fun _ => rfl) (fun _ => rfl) (by show 39 < 44; decide) (show jKt.getD 39 99 = 6 by decide +kernel) (by decide +kernel) ?_
  have f4 : jfree 44 ((39, 1, 42) :: (42, 0, 43) :: (39, 0, 40) :: (40, 0, 41) :: S) := (f3.up (by decide)).put (by decide)
  refine j_aload_n (i := 0) rfl (by decide +kernel) ?_
  refine j_new (idx := 21) (ci := 5) (by decide) rfl (by show 44 < 1000; decide) (show jKt.getD 44 99 = 5 by decide +kernel) (fun j hj => (slotN (show jKt.getD 44 99 = 5 by decide +kernel) (by decide) (fun i => f4 _ _ (by show 44 ≤ 44; decide)) (fun j => hz _ (by show 39 < 44; decide) j)).trans (d5_new j hj)) (jlkT (jtb1 131 rfl) rfl) (jlkT (jtb1 132 rfl) rfl) (jlkT (jtb1 8 rfl) rfl) ⟨Nat.le_of_ble_eq_true rfl, Nat.le_of_ble_eq_true rfl⟩ (by decide +kernel) ?_
  refine j_dup rfl (by decide +kernel) ?_
  refine j_callIN (M' := nX5) (As := []) (r := 44) (n := 0) (nX5_ok (t := 44) (S := (39, 1, 42) :: (42, 0, 43) :: (39, 0, 40) :: (40, 0, 41) :: S) (by decide) (show jKt.getD 44 99 = 5 by decide +kernel) (show jKt.getD 45 99 = 14 by decide +kernel) (show jLt.getD 45 0 = 12 by decide +kernel) (show jKt.getD 46 99 = 14 by decide +kernel) (show jLt.getD 46 0 = 12 by decide +kernel) (show jKt.getD 47 99 = 14 by decide +kernel) (show jLt.getD 47 0 = 12 by decide +kernel) (fun c hc j => hz c (by omega) j)) jmade_nt (jTbl (jtb1 133 rfl)) snX5 knX5 rfl rfl rfl ⟨by decide +kernel, by decide +kernel, by decide +kernel⟩ rfl ⟨by decide, by decide⟩ (Nat.le_of_ble_eq_true rfl) ⟨Nat.le_of_ble_eq_true rfl, Nat.le_of_ble_eq_true rfl⟩ (by decide +kernel) ?_
  rintro r4 _ h ⟨e, rfl, rfl⟩
  cases e
  have f5 : jfree 48 ((44, 2, 47) :: (44, 1, 46) :: (44, 0, 45) :: (39, 1, 42) :: (42, 0, 43) :: (39, 0, 40) :: (40, 0, 41) :: S) := (((f4.up (by decide)).put (by decide)).put (by decide)).put (by decide)
  refine j_putR (idx := 24) (ci := 6) (k := 2) (r := 39) (a := 44) (show (6, 24, 6, 2, false) ∈ jFT by decide +kernel) rfl rfl rfl rfl (fun _ => rfl) (fun _ => rfl) (by show 39 < 48; decide) (show jKt.getD 39 99 = 6 by decide +kernel) (by decide +kernel) ?_
  have f6 : jfree 48 ((39, 2, 44) :: (44, 2, 47) :: (44, 1, 46) :: (44, 0, 45) :: (39, 1, 42) :: (42, 0, 43) :: (39, 0, 40) :: (40, 0, 41) :: S) := (f5.up (by decide)).put (by decide)
  refine j_aload_n (i := 0) rfl (by decide +kernel) ?_
  refine j_new (idx := 28) (ci := 1) (by decide) rfl (by show 48 < 1000; decide) (show jKt.getD 48 99 = 1 by decide +kernel) (fun j hj => (slotN (show jKt.getD 48 99 = 1 by decide +kernel) (by decide) (fun i => f6 _ _ (by show 48 ≤ 48; decide)) (fun j => hz _ (by show 39 < 48; decide) j)).trans (d1_new j hj)) (jlkT (jtb1 158 rfl) rfl) (jlkT (jtb1 104 rfl) rfl) (jlkT (jtb1 6 rfl) rfl) ⟨Nat.le_of_ble_eq_true rfl, Nat.le_of_ble_eq_true rfl⟩ (by decide +kernel) ?_
  refine j_dup rfl (by decide +kernel) ?_
  refine j_callIN (M' := nX1) (As := []) (r := 48) (n := 0) (nX1_ok (t := 48) (S := (39, 2, 44) :: (44, 2, 47) :: (44, 1, 46) :: (44, 0, 45) :: (39, 1, 42) :: (42, 0, 43) :: (39, 0, 40) :: (40, 0, 41) :: S) (by decide) (show jKt.getD 48 99 = 1 by decide +kernel) (show jKt.getD 49 99 = 14 by decide +kernel) (show jLt.getD 49 0 = 400 by decide +kernel) (fun c hc j => hz c (by omega) j)) jmade_nt (jTbl (jtb1 159 rfl)) snX1 knX1 rfl rfl rfl ⟨by decide +kernel, by decide +kernel, by decide +kernel⟩ rfl ⟨by decide, by decide⟩ (Nat.le_of_ble_eq_true rfl) ⟨Nat.le_of_ble_eq_true rfl, Nat.le_of_ble_eq_true rfl⟩ (by decide +kernel) ?_
  rintro r6 _ h ⟨e, rfl, rfl⟩
  cases e
  have f7 : jfree 50 ((48, 0, 49) :: (39, 2, 44) :: (44, 2, 47) :: (44, 1, 46) :: (44, 0, 45) :: (39, 1, 42) :: (42, 0, 43) :: (39, 0, 40) :: (40, 0, 41) :: S) := (f6.up (by decide)).put (by decide)
  refine j_putR (idx := 31) (ci := 6) (k := 3) (r := 39) (a := 48) (show (6, 31, 6, 3, false) ∈ jFT by decide +kernel) rfl rfl rfl rfl (fun _ => rfl) (fun _ => rfl) (by show 39 < 50; decide) (show jKt.getD 39 99 = 6 by decide +kernel) (by decide +kernel) ?_
  have f8 : jfree 50 ((39, 3, 48) :: (48, 0, 49) :: (39, 2, 44) :: (44, 2, 47) :: (44, 1, 46) :: (44, 0, 45) :: (39, 1, 42) :: (42, 0, 43) :: (39, 0, 40) :: (40, 0, 41) :: S) := (f7.up (by decide)).put (by decide)
  refine j_aload_n (i := 0) rfl (by decide +kernel) ?_
  refine j_new (idx := 35) (ci := 9) (by decide) rfl (by show 50 < 1000; decide) (show jKt.getD 50 99 = 9 by decide +kernel) (fun j hj => (slotN (show jKt.getD 50 99 = 9 by decide +kernel) (by decide) (fun i => f8 _ _ (by show 50 ≤ 50; decide)) (fun j => hz _ (by show 39 < 50; decide) j)).trans (d9_new j hj)) (jlkT (jtb1 160 rfl) rfl) (jlkT (jtb1 161 rfl) rfl) (jlkT (jtb1 9 rfl) rfl) ⟨Nat.le_of_ble_eq_true rfl, Nat.le_of_ble_eq_true rfl⟩ (by decide +kernel) ?_
  refine j_dup rfl (by decide +kernel) ?_
  refine j_callIN (M' := nX9) (As := []) (r := 50) (n := 0) (nX9_ok (t := 50) (S := (39, 3, 48) :: (48, 0, 49) :: (39, 2, 44) :: (44, 2, 47) :: (44, 1, 46) :: (44, 0, 45) :: (39, 1, 42) :: (42, 0, 43) :: (39, 0, 40) :: (40, 0, 41) :: S) (by decide) (show jKt.getD 50 99 = 9 by decide +kernel) (show jKt.getD 51 99 = 14 by decide +kernel) (show jLt.getD 51 0 = 30 by decide +kernel) (show jKt.getD 52 99 = 14 by decide +kernel) (show jLt.getD 52 0 = 8 by decide +kernel) (show jKt.getD 53 99 = 14 by decide +kernel) (show jLt.getD 53 0 = 8 by decide +kernel) (show jKt.getD 54 99 = 14 by decide +kernel) (show jLt.getD 54 0 = 8 by decide +kernel) (fun c hc j => hz c (by omega) j)) jmade_nt (jTbl (jtb1 162 rfl)) snX9 knX9 rfl rfl rfl ⟨by decide +kernel, by decide +kernel, by decide +kernel⟩ rfl ⟨by decide, by decide⟩ (Nat.le_of_ble_eq_true rfl) ⟨Nat.le_of_ble_eq_true rfl, Nat.le_of_ble_eq_true rfl⟩ (by decide +kernel) ?_
  rintro r8 _ h ⟨e, rfl, rfl⟩
  cases e
  have f9 : jfree 55 ((50, 8, 54) :: (50, 7, 53) :: (50, 6, 52) :: (50, 0, 51) :: (39, 3, 48) :: (48, 0, 49) :: (39, 2, 44) :: (44, 2, 47) :: (44, 1, 46) :: (44, 0, 45) :: (39, 1, 42) :: (42, 0, 43) :: (39, 0, 40) :: (40, 0, 41) :: S) := ((((f8.up (by decide)).put (by decide)).put (by decide)).put (by decide)).put (by decide)
  refine j_putR (idx := 38) (ci := 6) (k := 4) (r := 39) (a := 50) (show (6, 38, 6, 4, false) ∈ jFT by decide +kernel) rfl rfl rfl rfl (fun _ => rfl) (fun _ => rfl) (by show 39 < 55; decide) (show jKt.getD 39 99 = 6 by decide +kernel) (by decide +kernel) ?_
  have f10 : jfree 55 ((39, 4, 50) :: (50, 8, 54) :: (50, 7, 53) :: (50, 6, 52) :: (50, 0, 51) :: (39, 3, 48) :: (48, 0, 49) :: (39, 2, 44) :: (44, 2, 47) :: (44, 1, 46) :: (44, 0, 45) :: (39, 1, 42) :: (42, 0, 43) :: (39, 0, 40) :: (40, 0, 41) :: S) := (f9.up (by decide)).put (by decide)
  refine j_aload_n (i := 0) rfl (by decide +kernel) ?_
  refine j_bipush (n := 6) 6 (by decide) (by decide +kernel) ?_
  refine j_newA (at' := .int) (kd := 14) (n := 6) (ty := .int) rfl rfl (by show 55 < 1000; decide) (show jKt.getD 55 99 = 14 by decide +kernel) (by decide) rfl (fun C q => by cases q) (show jLt.getD 55 0 = 6 by decide +kernel) (fun j => slot14 (show jKt.getD 55 99 = 14 by decide +kernel) (hz _ (by show 39 < 55; decide) j)) (by decide) (by decide) (by decide) jar_int.1 jar_int.2 ⟨Nat.le_of_ble_eq_true rfl, Nat.le_of_ble_eq_true rfl⟩ (by decide +kernel) ?_
  refine j_putR (idx := 42) (ci := 6) (k := 5) (r := 39) (a := 55) (show (6, 42, 6, 5, false) ∈ jFT by decide +kernel) rfl rfl rfl rfl (fun _ => rfl) (fun _ => rfl) (by show 39 < 56; decide) (show jKt.getD 39 99 = 6 by decide +kernel) (by decide +kernel) ?_
  have f11 : jfree 56 ((39, 5, 55) :: (39, 4, 50) :: (50, 8, 54) :: (50, 7, 53) :: (50, 6, 52) :: (50, 0, 51) :: (39, 3, 48) :: (48, 0, 49) :: (39, 2, 44) :: (44, 2, 47) :: (44, 1, 46) :: (44, 0, 45) :: (39, 1, 42) :: (42, 0, 43) :: (39, 0, 40) :: (40, 0, 41) :: S) := (f10.up (by decide)).put (by decide)
  refine j_aload_n (i := 0) rfl (by decide +kernel) ?_
  refine j_bipush (n := 6) 6 (by decide) (by decide +kernel) ?_
  refine j_anew ao (idx := 9) (n := 6) rfl (by show 56 < 1000; decide) (show jKt.getD 56 99 = 15 by decide +kernel) (show jLt.getD 56 0 = 6 by decide +kernel) (fun j => f11 56 j (Nat.le_refl 56)) (by decide) (by decide) (by decide) (jlkT (jtb1 129 rfl) rfl) ⟨Nat.le_of_ble_eq_true rfl, Nat.le_of_ble_eq_true rfl⟩ (by decide +kernel) ?_
  refine j_putR (idx := 46) (ci := 6) (k := 6) (r := 39) (a := 56) (show (6, 46, 6, 6, false) ∈ jFT by decide +kernel) rfl rfl rfl rfl (fun _ => rfl) (fun _ => rfl) (by show 39 < 57; decide) (show jKt.getD 39 99 = 6 by decide +kernel) (by decide +kernel) ?_
  have f12 : jfree 57 ((39, 6, 56) :: (39, 5, 55) :: (39, 4, 50) :: (50, 8, 54) :: (50, 7, 53) :: (50, 6, 52) :: (50, 0, 51) :: (39, 3, 48) :: (48, 0, 49) :: (39, 2, 44) :: (44, 2, 47) :: (44, 1, 46) :: (44, 0, 45) :: (39, 1, 42) :: (42, 0, 43) :: (39, 0, 40) :: (40, 0, 41) :: S) := (f11.up (by decide)).put (by decide)
  refine j_aload_n (i := 0) rfl (by decide +kernel) ?_
  refine j_bipush (n := 7) 7 (by decide) (by decide +kernel) ?_
  refine j_putI (idx := 50) (ci := 6) (k := 8) (r := 39) (nest := false) (show (6, 50, 6, 8, false) ∈ jFT by decide +kernel) rfl rfl rfl rfl (by show 39 < 57; decide) (show jKt.getD 39 99 = 6 by decide +kernel) (by decide +kernel) ?_
  replace hz : ∀ c, 39 < c → ∀ j, jput h 39 8 7 c j = 0 := fun c hc j => (congrFun (jput_ne (by omega)) j).trans (hz c hc j)
  refine j_iconst (n := 0) (0) (by decide) (by decide +kernel) ?_
  refine j_istore_n (i := 1) (by decide +kernel) (by decide) ?_
  refine j_eqlv [some (.ref 39), some (.int 0)] (by rfl) ?_
  refine j_iload_n (i := 1) rfl (by decide +kernel) ?_
  refine j_aload_n (i := 0) rfl (by decide +kernel) ?_
  refine j_getR (idx := 46) (ci := 6) (k := 6) (nest := false) (show (6, 46, 6, 6, false) ∈ jFT by decide +kernel) rfl (by show 39 < 57; decide) (show jKt.getD 39 99 = 6 by decide +kernel) (a := 56) rfl (by decide +kernel) ?_
  refine j_alen (by show 56 < 57; decide) (show jKt.getD 56 99 = 15 by decide +kernel) rfl 6 (show Int32.ofNat (jLt.getD 56 0) = 6 by decide +kernel) (by decide +kernel) ?_
  refine j_icmp_ge (off := 22) 112 (by decide +kernel) (by decide) (fun q => absurd q (by decide)) (fun _ => ?_)
  refine j_aload_n (i := 0) rfl (by decide +kernel) ?_
  refine j_getR (idx := 46) (ci := 6) (k := 6) (nest := false) (show (6, 46, 6, 6, false) ∈ jFT by decide +kernel) rfl (by show 39 < 57; decide) (show jKt.getD 39 99 = 6 by decide +kernel) (a := 56) rfl (by decide +kernel) ?_
  refine j_iload_n (i := 1) rfl (by decide +kernel) ?_
  refine j_new (idx := 9) (ci := 4) (by decide) rfl (by show 57 < 1000; decide) (show jKt.getD 57 99 = 4 by decide +kernel) (fun j hj => (slotN (show jKt.getD 57 99 = 4 by decide +kernel) (by decide) (fun i => f12 _ _ (by show 57 ≤ 57; decide)) (fun j => hz _ (by show 39 < 57; decide) j)).trans (d4_new j hj)) (jlkT (jtb1 129 rfl) rfl) (jlkT (jtb1 76 rfl) rfl) (jlkT (jtb1 4 rfl) rfl) ⟨Nat.le_of_ble_eq_true rfl, Nat.le_of_ble_eq_true rfl⟩ (by decide +kernel) ?_
  refine j_dup rfl (by decide +kernel) ?_
  refine j_callIN (M' := nX4) (As := []) (r := 57) (n := 0) (nX4_ok (t := 57) (S := (39, 6, 56) :: (39, 5, 55) :: (39, 4, 50) :: (50, 8, 54) :: (50, 7, 53) :: (50, 6, 52) :: (50, 0, 51) :: (39, 3, 48) :: (48, 0, 49) :: (39, 2, 44) :: (44, 2, 47) :: (44, 1, 46) :: (44, 0, 45) :: (39, 1, 42) :: (42, 0, 43) :: (39, 0, 40) :: (40, 0, 41) :: S) (by decide) (show jKt.getD 57 99 = 4 by decide +kernel) (show jKt.getD 58 99 = 14 by decide +kernel) (show jLt.getD 58 0 = 10 by decide +kernel) (fun c hc j => hz c (by omega) j)) jmade_nt (jTbl (jtb1 130 rfl)) snX4 knX4 rfl rfl rfl ⟨by decide +kernel, by decide +kernel, by decide +kernel⟩ rfl ⟨by decide, by decide⟩ (Nat.le_of_ble_eq_true rfl) ⟨Nat.le_of_ble_eq_true rfl, Nat.le_of_ble_eq_true rfl⟩ (by decide +kernel) ?_
  rintro r12 _ h ⟨e, rfl, rfl⟩
  cases e
  have f13 : jfree 59 ((57, 0, 58) :: (39, 6, 56) :: (39, 5, 55) :: (39, 4, 50) :: (50, 8, 54) :: (50, 7, 53) :: (50, 6, 52) :: (50, 0, 51) :: (39, 3, 48) :: (48, 0, 49) :: (39, 2, 44) :: (44, 2, 47) :: (44, 1, 46) :: (44, 0, 45) :: (39, 1, 42) :: (42, 0, 43) :: (39, 0, 40) :: (40, 0, 41) :: S) := (f12.up (by decide)).put (by decide)
  refine j_aastR (by show 56 < 59; decide) (show jKt.getD 56 99 = 15 by decide +kernel) (by show 57 < 59; decide) (show jKt.getD 57 99 = 4 by decide +kernel) (show vp_in (nI 0) 6 from vp_in_nI (by decide) (by decide)) (by decide +kernel) ?_
  have f14 : jfree 59 ((56, 0, 57) :: (57, 0, 58) :: (39, 6, 56) :: (39, 5, 55) :: (39, 4, 50) :: (50, 8, 54) :: (50, 7, 53) :: (50, 6, 52) :: (50, 0, 51) :: (39, 3, 48) :: (48, 0, 49) :: (39, 2, 44) :: (44, 2, 47) :: (44, 1, 46) :: (44, 0, 45) :: (39, 1, 42) :: (42, 0, 43) :: (39, 0, 40) :: (40, 0, 41) :: S) := (f13.up (by decide)).put (by decide)
  refine j_iinc (i := 1) (n := 1) rfl (by decide +kernel) (by decide) ?_
  refine j_eqlv [some (.ref 39), some (.int 1)] (by rfl) ?_
  refine j_goto (off := -25) 84 (by decide +kernel) (by decide) ?_
  refine j_iload_n (i := 1) rfl (by decide +kernel) ?_
  refine j_aload_n (i := 0) rfl (by decide +kernel) ?_
  refine j_getR (idx := 46) (ci := 6) (k := 6) (nest := false) (show (6, 46, 6, 6, false) ∈ jFT by decide +kernel) rfl (by show 39 < 59; decide) (show jKt.getD 39 99 = 6 by decide +kernel) (a := 56) rfl (by decide +kernel) ?_
  refine j_alen (by show 56 < 59; decide) (show jKt.getD 56 99 = 15 by decide +kernel) rfl 6 (show Int32.ofNat (jLt.getD 56 0) = 6 by decide +kernel) (by decide +kernel) ?_
  refine j_icmp_ge (off := 22) 112 (by decide +kernel) (by decide) (fun q => absurd q (by decide)) (fun _ => ?_)
  refine j_aload_n (i := 0) rfl (by decide +kernel) ?_
  refine j_getR (idx := 46) (ci := 6) (k := 6) (nest := false) (show (6, 46, 6, 6, false) ∈ jFT by decide +kernel) rfl (by show 39 < 59; decide) (show jKt.getD 39 99 = 6 by decide +kernel) (a := 56) rfl (by decide +kernel) ?_
  refine j_iload_n (i := 1) rfl (by decide +kernel) ?_
  refine j_new (idx := 9) (ci := 4) (by decide) rfl (by show 59 < 1000; decide) (show jKt.getD 59 99 = 4 by decide +kernel) (fun j hj => (slotN (show jKt.getD 59 99 = 4 by decide +kernel) (by decide) (fun i => f14 _ _ (by show 59 ≤ 59; decide)) (fun j => hz _ (by show 39 < 59; decide) j)).trans (d4_new j hj)) (jlkT (jtb1 129 rfl) rfl) (jlkT (jtb1 76 rfl) rfl) (jlkT (jtb1 4 rfl) rfl) ⟨Nat.le_of_ble_eq_true rfl, Nat.le_of_ble_eq_true rfl⟩ (by decide +kernel) ?_
  refine j_dup rfl (by decide +kernel) ?_
  refine j_callIN (M' := nX4) (As := []) (r := 59) (n := 0) (nX4_ok (t := 59) (S := (56, 0, 57) :: (57, 0, 58) :: (39, 6, 56) :: (39, 5, 55) :: (39, 4, 50) :: (50, 8, 54) :: (50, 7, 53) :: (50, 6, 52) :: (50, 0, 51) :: (39, 3, 48) :: (48, 0, 49) :: (39, 2, 44) :: (44, 2, 47) :: (44, 1, 46) :: (44, 0, 45) :: (39, 1, 42) :: (42, 0, 43) :: (39, 0, 40) :: (40, 0, 41) :: S) (by decide) (show jKt.getD 59 99 = 4 by decide +kernel) (show jKt.getD 60 99 = 14 by decide +kernel) (show jLt.getD 60 0 = 10 by decide +kernel) (fun c hc j => hz c (by omega) j)) jmade_nt (jTbl (jtb1 130 rfl)) snX4 knX4 rfl rfl rfl ⟨by decide +kernel, by decide +kernel, by decide +kernel⟩ rfl ⟨by decide, by decide⟩ (Nat.le_of_ble_eq_true rfl) ⟨Nat.le_of_ble_eq_true rfl, Nat.le_of_ble_eq_true rfl⟩ (by decide +kernel) ?_
  rintro r14 _ h ⟨e, rfl, rfl⟩
  cases e
  have f15 : jfree 61 ((59, 0, 60) :: (56, 0, 57) :: (57, 0, 58) :: (39, 6, 56) :: (39, 5, 55) :: (39, 4, 50) :: (50, 8, 54) :: (50, 7, 53) :: (50, 6, 52) :: (50, 0, 51) :: (39, 3, 48) :: (48, 0, 49) :: (39, 2, 44) :: (44, 2, 47) :: (44, 1, 46) :: (44, 0, 45) :: (39, 1, 42) :: (42, 0, 43) :: (39, 0, 40) :: (40, 0, 41) :: S) := (f14.up (by decide)).put (by decide)
  refine j_aastR (by show 56 < 61; decide) (show jKt.getD 56 99 = 15 by decide +kernel) (by show 59 < 61; decide) (show jKt.getD 59 99 = 4 by decide +kernel) (show vp_in (nI 1) 6 from vp_in_nI (by decide) (by decide)) (by decide +kernel) ?_
  have f16 : jfree 61 ((56, 1, 59) :: (59, 0, 60) :: (56, 0, 57) :: (57, 0, 58) :: (39, 6, 56) :: (39, 5, 55) :: (39, 4, 50) :: (50, 8, 54) :: (50, 7, 53) :: (50, 6, 52) :: (50, 0, 51) :: (39, 3, 48) :: (48, 0, 49) :: (39, 2, 44) :: (44, 2, 47) :: (44, 1, 46) :: (44, 0, 45) :: (39, 1, 42) :: (42, 0, 43) :: (39, 0, 40) :: (40, 0, 41) :: S) := (f15.up (by decide)).put (by decide)
  refine j_iinc (i := 1) (n := 1) rfl (by decide +kernel) (by decide) ?_
  refine j_eqlv [some (.ref 39), some (.int 2)] (by rfl) ?_
  refine j_goto (off := -25) 84 (by decide +kernel) (by decide) ?_
  refine j_iload_n (i := 1) rfl (by decide +kernel) ?_
  refine j_aload_n (i := 0) rfl (by decide +kernel) ?_
  refine j_getR (idx := 46) (ci := 6) (k := 6) (nest := false) (show (6, 46, 6, 6, false) ∈ jFT by decide +kernel) rfl (by show 39 < 61; decide) (show jKt.getD 39 99 = 6 by decide +kernel) (a := 56) rfl (by decide +kernel) ?_
  refine j_alen (by show 56 < 61; decide) (show jKt.getD 56 99 = 15 by decide +kernel) rfl 6 (show Int32.ofNat (jLt.getD 56 0) = 6 by decide +kernel) (by decide +kernel) ?_
  refine j_icmp_ge (off := 22) 112 (by decide +kernel) (by decide) (fun q => absurd q (by decide)) (fun _ => ?_)
  refine j_aload_n (i := 0) rfl (by decide +kernel) ?_
  refine j_getR (idx := 46) (ci := 6) (k := 6) (nest := false) (show (6, 46, 6, 6, false) ∈ jFT by decide +kernel) rfl (by show 39 < 61; decide) (show jKt.getD 39 99 = 6 by decide +kernel) (a := 56) rfl (by decide +kernel) ?_
  refine j_iload_n (i := 1) rfl (by decide +kernel) ?_
  refine j_new (idx := 9) (ci := 4) (by decide) rfl (by show 61 < 1000; decide) (show jKt.getD 61 99 = 4 by decide +kernel) (fun j hj => (slotN (show jKt.getD 61 99 = 4 by decide +kernel) (by decide) (fun i => f16 _ _ (by show 61 ≤ 61; decide)) (fun j => hz _ (by show 39 < 61; decide) j)).trans (d4_new j hj)) (jlkT (jtb1 129 rfl) rfl) (jlkT (jtb1 76 rfl) rfl) (jlkT (jtb1 4 rfl) rfl) ⟨Nat.le_of_ble_eq_true rfl, Nat.le_of_ble_eq_true rfl⟩ (by decide +kernel) ?_
  refine j_dup rfl (by decide +kernel) ?_
  refine j_callIN (M' := nX4) (As := []) (r := 61) (n := 0) (nX4_ok (t := 61) (S := (56, 1, 59) :: (59, 0, 60) :: (56, 0, 57) :: (57, 0, 58) :: (39, 6, 56) :: (39, 5, 55) :: (39, 4, 50) :: (50, 8, 54) :: (50, 7, 53) :: (50, 6, 52) :: (50, 0, 51) :: (39, 3, 48) :: (48, 0, 49) :: (39, 2, 44) :: (44, 2, 47) :: (44, 1, 46) :: (44, 0, 45) :: (39, 1, 42) :: (42, 0, 43) :: (39, 0, 40) :: (40, 0, 41) :: S) (by decide) (show jKt.getD 61 99 = 4 by decide +kernel) (show jKt.getD 62 99 = 14 by decide +kernel) (show jLt.getD 62 0 = 10 by decide +kernel) (fun c hc j => hz c (by omega) j)) jmade_nt (jTbl (jtb1 130 rfl)) snX4 knX4 rfl rfl rfl ⟨by decide +kernel, by decide +kernel, by decide +kernel⟩ rfl ⟨by decide, by decide⟩ (Nat.le_of_ble_eq_true rfl) ⟨Nat.le_of_ble_eq_true rfl, Nat.le_of_ble_eq_true rfl⟩ (by decide +kernel) ?_
  rintro r16 _ h ⟨e, rfl, rfl⟩
  cases e
  have f17 : jfree 63 ((61, 0, 62) :: (56, 1, 59) :: (59, 0, 60) :: (56, 0, 57) :: (57, 0, 58) :: (39, 6, 56) :: (39, 5, 55) :: (39, 4, 50) :: (50, 8, 54) :: (50, 7, 53) :: (50, 6, 52) :: (50, 0, 51) :: (39, 3, 48) :: (48, 0, 49) :: (39, 2, 44) :: (44, 2, 47) :: (44, 1, 46) :: (44, 0, 45) :: (39, 1, 42) :: (42, 0, 43) :: (39, 0, 40) :: (40, 0, 41) :: S) := (f16.up (by decide)).put (by decide)
  refine j_aastR (by show 56 < 63; decide) (show jKt.getD 56 99 = 15 by decide +kernel) (by show 61 < 63; decide) (show jKt.getD 61 99 = 4 by decide +kernel) (show vp_in (nI 2) 6 from vp_in_nI (by decide) (by decide)) (by decide +kernel) ?_
  have f18 : jfree 63 ((56, 2, 61) :: (61, 0, 62) :: (56, 1, 59) :: (59, 0, 60) :: (56, 0, 57) :: (57, 0, 58) :: (39, 6, 56) :: (39, 5, 55) :: (39, 4, 50) :: (50, 8, 54) :: (50, 7, 53) :: (50, 6, 52) :: (50, 0, 51) :: (39, 3, 48) :: (48, 0, 49) :: (39, 2, 44) :: (44, 2, 47) :: (44, 1, 46) :: (44, 0, 45) :: (39, 1, 42) :: (42, 0, 43) :: (39, 0, 40) :: (40, 0, 41) :: S) := (f17.up (by decide)).put (by decide)
  refine j_iinc (i := 1) (n := 1) rfl (by decide +kernel) (by decide) ?_
  refine j_eqlv [some (.ref 39), some (.int 3)] (by rfl) ?_
  refine j_goto (off := -25) 84 (by decide +kernel) (by decide) ?_
  refine j_iload_n (i := 1) rfl (by decide +kernel) ?_
  refine j_aload_n (i := 0) rfl (by decide +kernel) ?_
  refine j_getR (idx := 46) (ci := 6) (k := 6) (nest := false) (show (6, 46, 6, 6, false) ∈ jFT by decide +kernel) rfl (by show 39 < 63; decide) (show jKt.getD 39 99 = 6 by decide +kernel) (a := 56) rfl (by decide +kernel) ?_
  refine j_alen (by show 56 < 63; decide) (show jKt.getD 56 99 = 15 by decide +kernel) rfl 6 (show Int32.ofNat (jLt.getD 56 0) = 6 by decide +kernel) (by decide +kernel) ?_
  refine j_icmp_ge (off := 22) 112 (by decide +kernel) (by decide) (fun q => absurd q (by decide)) (fun _ => ?_)
  refine j_aload_n (i := 0) rfl (by decide +kernel) ?_
  refine j_getR (idx := 46) (ci := 6) (k := 6) (nest := false) (show (6, 46, 6, 6, false) ∈ jFT by decide +kernel) rfl (by show 39 < 63; decide) (show jKt.getD 39 99 = 6 by decide +kernel) (a := 56) rfl (by decide +kernel) ?_
  refine j_iload_n (i := 1) rfl (by decide +kernel) ?_
  refine j_new (idx := 9) (ci := 4) (by decide) rfl (by show 63 < 1000; decide) (show jKt.getD 63 99 = 4 by decide +kernel) (fun j hj => (slotN (show jKt.getD 63 99 = 4 by decide +kernel) (by decide) (fun i => f18 _ _ (by show 63 ≤ 63; decide)) (fun j => hz _ (by show 39 < 63; decide) j)).trans (d4_new j hj)) (jlkT (jtb1 129 rfl) rfl) (jlkT (jtb1 76 rfl) rfl) (jlkT (jtb1 4 rfl) rfl) ⟨Nat.le_of_ble_eq_true rfl, Nat.le_of_ble_eq_true rfl⟩ (by decide +kernel) ?_
  refine j_dup rfl (by decide +kernel) ?_
  refine j_callIN (M' := nX4) (As := []) (r := 63) (n := 0) (nX4_ok (t := 63) (S := (56, 2, 61) :: (61, 0, 62) :: (56, 1, 59) :: (59, 0, 60) :: (56, 0, 57) :: (57, 0, 58) :: (39, 6, 56) :: (39, 5, 55) :: (39, 4, 50) :: (50, 8, 54) :: (50, 7, 53) :: (50, 6, 52) :: (50, 0, 51) :: (39, 3, 48) :: (48, 0, 49) :: (39, 2, 44) :: (44, 2, 47) :: (44, 1, 46) :: (44, 0, 45) :: (39, 1, 42) :: (42, 0, 43) :: (39, 0, 40) :: (40, 0, 41) :: S) (by decide) (show jKt.getD 63 99 = 4 by decide +kernel) (show jKt.getD 64 99 = 14 by decide +kernel) (show jLt.getD 64 0 = 10 by decide +kernel) (fun c hc j => hz c (by omega) j)) jmade_nt (jTbl (jtb1 130 rfl)) snX4 knX4 rfl rfl rfl ⟨by decide +kernel, by decide +kernel, by decide +kernel⟩ rfl ⟨by decide, by decide⟩ (Nat.le_of_ble_eq_true rfl) ⟨Nat.le_of_ble_eq_true rfl, Nat.le_of_ble_eq_true rfl⟩ (by decide +kernel) ?_
  rintro r18 _ h ⟨e, rfl, rfl⟩
  cases e
  have f19 : jfree 65 ((63, 0, 64) :: (56, 2, 61) :: (61, 0, 62) :: (56, 1, 59) :: (59, 0, 60) :: (56, 0, 57) :: (57, 0, 58) :: (39, 6, 56) :: (39, 5, 55) :: (39, 4, 50) :: (50, 8, 54) :: (50, 7, 53) :: (50, 6, 52) :: (50, 0, 51) :: (39, 3, 48) :: (48, 0, 49) :: (39, 2, 44) :: (44, 2, 47) :: (44, 1, 46) :: (44, 0, 45) :: (39, 1, 42) :: (42, 0, 43) :: (39, 0, 40) :: (40, 0, 41) :: S) := (f18.up (by decide)).put (by decide)
  refine j_aastR (by show 56 < 65; decide) (show jKt.getD 56 99 = 15 by decide +kernel) (by show 63 < 65; decide) (show jKt.getD 63 99 = 4 by decide +kernel) (show vp_in (nI 3) 6 from vp_in_nI (by decide) (by decide)) (by decide +kernel) ?_
  have f20 : jfree 65 ((56, 3, 63) :: (63, 0, 64) :: (56, 2, 61) :: (61, 0, 62) :: (56, 1, 59) :: (59, 0, 60) :: (56, 0, 57) :: (57, 0, 58) :: (39, 6, 56) :: (39, 5, 55) :: (39, 4, 50) :: (50, 8, 54) :: (50, 7, 53) :: (50, 6, 52) :: (50, 0, 51) :: (39, 3, 48) :: (48, 0, 49) :: (39, 2, 44) :: (44, 2, 47) :: (44, 1, 46) :: (44, 0, 45) :: (39, 1, 42) :: (42, 0, 43) :: (39, 0, 40) :: (40, 0, 41) :: S) := (f19.up (by decide)).put (by decide)
  refine j_iinc (i := 1) (n := 1) rfl (by decide +kernel) (by decide) ?_
  refine j_eqlv [some (.ref 39), some (.int 4)] (by rfl) ?_
  refine j_goto (off := -25) 84 (by decide +kernel) (by decide) ?_
  refine j_iload_n (i := 1) rfl (by decide +kernel) ?_
  refine j_aload_n (i := 0) rfl (by decide +kernel) ?_
  refine j_getR (idx := 46) (ci := 6) (k := 6) (nest := false) (show (6, 46, 6, 6, false) ∈ jFT by decide +kernel) rfl (by show 39 < 65; decide) (show jKt.getD 39 99 = 6 by decide +kernel) (a := 56) rfl (by decide +kernel) ?_
  refine j_alen (by show 56 < 65; decide) (show jKt.getD 56 99 = 15 by decide +kernel) rfl 6 (show Int32.ofNat (jLt.getD 56 0) = 6 by decide +kernel) (by decide +kernel) ?_
  refine j_icmp_ge (off := 22) 112 (by decide +kernel) (by decide) (fun q => absurd q (by decide)) (fun _ => ?_)
  refine j_aload_n (i := 0) rfl (by decide +kernel) ?_
  refine j_getR (idx := 46) (ci := 6) (k := 6) (nest := false) (show (6, 46, 6, 6, false) ∈ jFT by decide +kernel) rfl (by show 39 < 65; decide) (show jKt.getD 39 99 = 6 by decide +kernel) (a := 56) rfl (by decide +kernel) ?_
  refine j_iload_n (i := 1) rfl (by decide +kernel) ?_
  refine j_new (idx := 9) (ci := 4) (by decide) rfl (by show 65 < 1000; decide) (show jKt.getD 65 99 = 4 by decide +kernel) (fun j hj => (slotN (show jKt.getD 65 99 = 4 by decide +kernel) (by decide) (fun i => f20 _ _ (by show 65 ≤ 65; decide)) (fun j => hz _ (by show 39 < 65; decide) j)).trans (d4_new j hj)) (jlkT (jtb1 129 rfl) rfl) (jlkT (jtb1 76 rfl) rfl) (jlkT (jtb1 4 rfl) rfl) ⟨Nat.le_of_ble_eq_true rfl, Nat.le_of_ble_eq_true rfl⟩ (by decide +kernel) ?_
  refine j_dup rfl (by decide +kernel) ?_
  refine j_callIN (M' := nX4) (As := []) (r := 65) (n := 0) (nX4_ok (t := 65) (S := (56, 3, 63) :: (63, 0, 64) :: (56, 2, 61) :: (61, 0, 62) :: (56, 1, 59) :: (59, 0, 60) :: (56, 0, 57) :: (57, 0, 58) :: (39, 6, 56) :: (39, 5, 55) :: (39, 4, 50) :: (50, 8, 54) :: (50, 7, 53) :: (50, 6, 52) :: (50, 0, 51) :: (39, 3, 48) :: (48, 0, 49) :: (39, 2, 44) :: (44, 2, 47) :: (44, 1, 46) :: (44, 0, 45) :: (39, 1, 42) :: (42, 0, 43) :: (39, 0, 40) :: (40, 0, 41) :: S) (by decide) (show jKt.getD 65 99 = 4 by decide +kernel) (show jKt.getD 66 99 = 14 by decide +kernel) (show jLt.getD 66 0 = 10 by decide +kernel) (fun c hc j => hz c (by omega) j)) jmade_nt (jTbl (jtb1 130 rfl)) snX4 knX4 rfl rfl rfl ⟨by decide +kernel, by decide +kernel, by decide +kernel⟩ rfl ⟨by decide, by decide⟩ (Nat.le_of_ble_eq_true rfl) ⟨Nat.le_of_ble_eq_true rfl, Nat.le_of_ble_eq_true rfl⟩ (by decide +kernel) ?_
  rintro r20 _ h ⟨e, rfl, rfl⟩
  cases e
  have f21 : jfree 67 ((65, 0, 66) :: (56, 3, 63) :: (63, 0, 64) :: (56, 2, 61) :: (61, 0, 62) :: (56, 1, 59) :: (59, 0, 60) :: (56, 0, 57) :: (57, 0, 58) :: (39, 6, 56) :: (39, 5, 55) :: (39, 4, 50) :: (50, 8, 54) :: (50, 7, 53) :: (50, 6, 52) :: (50, 0, 51) :: (39, 3, 48) :: (48, 0, 49) :: (39, 2, 44) :: (44, 2, 47) :: (44, 1, 46) :: (44, 0, 45) :: (39, 1, 42) :: (42, 0, 43) :: (39, 0, 40) :: (40, 0, 41) :: S) := (f20.up (by decide)).put (by decide)
  refine j_aastR (by show 56 < 67; decide) (show jKt.getD 56 99 = 15 by decide +kernel) (by show 65 < 67; decide) (show jKt.getD 65 99 = 4 by decide +kernel) (show vp_in (nI 4) 6 from vp_in_nI (by decide) (by decide)) (by decide +kernel) ?_
  have f22 : jfree 67 ((56, 4, 65) :: (65, 0, 66) :: (56, 3, 63) :: (63, 0, 64) :: (56, 2, 61) :: (61, 0, 62) :: (56, 1, 59) :: (59, 0, 60) :: (56, 0, 57) :: (57, 0, 58) :: (39, 6, 56) :: (39, 5, 55) :: (39, 4, 50) :: (50, 8, 54) :: (50, 7, 53) :: (50, 6, 52) :: (50, 0, 51) :: (39, 3, 48) :: (48, 0, 49) :: (39, 2, 44) :: (44, 2, 47) :: (44, 1, 46) :: (44, 0, 45) :: (39, 1, 42) :: (42, 0, 43) :: (39, 0, 40) :: (40, 0, 41) :: S) := (f21.up (by decide)).put (by decide)
  refine j_iinc (i := 1) (n := 1) rfl (by decide +kernel) (by decide) ?_
  refine j_eqlv [some (.ref 39), some (.int 5)] (by rfl) ?_
  refine j_goto (off := -25) 84 (by decide +kernel) (by decide) ?_
  refine j_iload_n (i := 1) rfl (by decide +kernel) ?_
  refine j_aload_n (i := 0) rfl (by decide +kernel) ?_
  refine j_getR (idx := 46) (ci := 6) (k := 6) (nest := false) (show (6, 46, 6, 6, false) ∈ jFT by decide +kernel) rfl (by show 39 < 67; decide) (show jKt.getD 39 99 = 6 by decide +kernel) (a := 56) rfl (by decide +kernel) ?_
  refine j_alen (by show 56 < 67; decide) (show jKt.getD 56 99 = 15 by decide +kernel) rfl 6 (show Int32.ofNat (jLt.getD 56 0) = 6 by decide +kernel) (by decide +kernel) ?_
  refine j_icmp_ge (off := 22) 112 (by decide +kernel) (by decide) (fun q => absurd q (by decide)) (fun _ => ?_)
  refine j_aload_n (i := 0) rfl (by decide +kernel) ?_
  refine j_getR (idx := 46) (ci := 6) (k := 6) (nest := false) (show (6, 46, 6, 6, false) ∈ jFT by decide +kernel) rfl (by show 39 < 67; decide) (show jKt.getD 39 99 = 6 by decide +kernel) (a := 56) rfl (by decide +kernel) ?_
  refine j_iload_n (i := 1) rfl (by decide +kernel) ?_
  refine j_new (idx := 9) (ci := 4) (by decide) rfl (by show 67 < 1000; decide) (show jKt.getD 67 99 = 4 by decide +kernel) (fun j hj => (slotN (show jKt.getD 67 99 = 4 by decide +kernel) (by decide) (fun i => f22 _ _ (by show 67 ≤ 67; decide)) (fun j => hz _ (by show 39 < 67; decide) j)).trans (d4_new j hj)) (jlkT (jtb1 129 rfl) rfl) (jlkT (jtb1 76 rfl) rfl) (jlkT (jtb1 4 rfl) rfl) ⟨Nat.le_of_ble_eq_true rfl, Nat.le_of_ble_eq_true rfl⟩ (by decide +kernel) ?_
  refine j_dup rfl (by decide +kernel) ?_
  refine j_callIN (M' := nX4) (As := []) (r := 67) (n := 0) (nX4_ok (t := 67) (S := (56, 4, 65) :: (65, 0, 66) :: (56, 3, 63) :: (63, 0, 64) :: (56, 2, 61) :: (61, 0, 62) :: (56, 1, 59) :: (59, 0, 60) :: (56, 0, 57) :: (57, 0, 58) :: (39, 6, 56) :: (39, 5, 55) :: (39, 4, 50) :: (50, 8, 54) :: (50, 7, 53) :: (50, 6, 52) :: (50, 0, 51) :: (39, 3, 48) :: (48, 0, 49) :: (39, 2, 44) :: (44, 2, 47) :: (44, 1, 46) :: (44, 0, 45) :: (39, 1, 42) :: (42, 0, 43) :: (39, 0, 40) :: (40, 0, 41) :: S) (by decide) (show jKt.getD 67 99 = 4 by decide +kernel) (show jKt.getD 68 99 = 14 by decide +kernel) (show jLt.getD 68 0 = 10 by decide +kernel) (fun c hc j => hz c (by omega) j)) jmade_nt (jTbl (jtb1 130 rfl)) snX4 knX4 rfl rfl rfl ⟨by decide +kernel, by decide +kernel, by decide +kernel⟩ rfl ⟨by decide, by decide⟩ (Nat.le_of_ble_eq_true rfl) ⟨Nat.le_of_ble_eq_true rfl, Nat.le_of_ble_eq_true rfl⟩ (by decide +kernel) ?_
  rintro r22 _ h ⟨e, rfl, rfl⟩
  cases e
  have f23 : jfree 69 ((67, 0, 68) :: (56, 4, 65) :: (65, 0, 66) :: (56, 3, 63) :: (63, 0, 64) :: (56, 2, 61) :: (61, 0, 62) :: (56, 1, 59) :: (59, 0, 60) :: (56, 0, 57) :: (57, 0, 58) :: (39, 6, 56) :: (39, 5, 55) :: (39, 4, 50) :: (50, 8, 54) :: (50, 7, 53) :: (50, 6, 52) :: (50, 0, 51) :: (39, 3, 48) :: (48, 0, 49) :: (39, 2, 44) :: (44, 2, 47) :: (44, 1, 46) :: (44, 0, 45) :: (39, 1, 42) :: (42, 0, 43) :: (39, 0, 40) :: (40, 0, 41) :: S) := (f22.up (by decide)).put (by decide)
  refine j_aastR (by show 56 < 69; decide) (show jKt.getD 56 99 = 15 by decide +kernel) (by show 67 < 69; decide) (show jKt.getD 67 99 = 4 by decide +kernel) (show vp_in (nI 5) 6 from vp_in_nI (by decide) (by decide)) (by decide +kernel) ?_
  have f24 : jfree 69 ((56, 5, 67) :: (67, 0, 68) :: (56, 4, 65) :: (65, 0, 66) :: (56, 3, 63) :: (63, 0, 64) :: (56, 2, 61) :: (61, 0, 62) :: (56, 1, 59) :: (59, 0, 60) :: (56, 0, 57) :: (57, 0, 58) :: (39, 6, 56) :: (39, 5, 55) :: (39, 4, 50) :: (50, 8, 54) :: (50, 7, 53) :: (50, 6, 52) :: (50, 0, 51) :: (39, 3, 48) :: (48, 0, 49) :: (39, 2, 44) :: (44, 2, 47) :: (44, 1, 46) :: (44, 0, 45) :: (39, 1, 42) :: (42, 0, 43) :: (39, 0, 40) :: (40, 0, 41) :: S) := (f23.up (by decide)).put (by decide)
  refine j_iinc (i := 1) (n := 1) rfl (by decide +kernel) (by decide) ?_
  refine j_eqlv [some (.ref 39), some (.int 6)] (by rfl) ?_
  refine j_goto (off := -25) 84 (by decide +kernel) (by decide) ?_
  refine j_iload_n (i := 1) rfl (by decide +kernel) ?_
  refine j_aload_n (i := 0) rfl (by decide +kernel) ?_
  refine j_getR (idx := 46) (ci := 6) (k := 6) (nest := false) (show (6, 46, 6, 6, false) ∈ jFT by decide +kernel) rfl (by show 39 < 69; decide) (show jKt.getD 39 99 = 6 by decide +kernel) (a := 56) rfl (by decide +kernel) ?_
  refine j_alen (by show 56 < 69; decide) (show jKt.getD 56 99 = 15 by decide +kernel) rfl 6 (show Int32.ofNat (jLt.getD 56 0) = 6 by decide +kernel) (by decide +kernel) ?_
  refine j_icmp_ge (off := 22) 112 (by decide +kernel) (by decide) (fun _ => ?_) (fun q => absurd (by decide) q)
  exact j_vret rfl (Nat.le_of_ble_eq_true rfl) (Nat.le_of_ble_eq_true rfl) (by decide +kernel) ⟨rfl, rfl, rfl⟩
end CONS4
