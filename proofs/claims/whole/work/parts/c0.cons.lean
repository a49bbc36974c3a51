/-! Constructors that make rows of ints only. -/
def jFind : List (Nat × Nat × Nat) → Nat → Nat → Option Nat
  | [], _, _ => none
  | q :: S, x, i => if x = q.1 ∧ i = q.2.1 then some q.2.2 else jFind S x i
/-- the world while it is made: N cells, the references stored -/
def jW (N : Nat) (S : List (Nat × Nat × Nat)) (sc : Nat × (Nat → Int32)) : jS := (N, true, fun a => jKt.getD a 99, fun a => jLt.getD a 0, jFind S, sc)
section CONS
variable {sc : Nat × (Nat → Int32)} {h : jH} {t : Nat} {S : List (Nat × Nat × Nat)}
theorem jW_up {N : Nat} : jUp (jW N S sc) = jW (N + 1) S sc := rfl
theorem jW_set {N r k a : Nat} : jRset (jW N S sc) r k a = jW N ((r, k, a) :: S) sc := rfl
theorem slot14 {Γ : jS} {N j : Nat} (hk : jK Γ N = 14) (hz : h N j = 0) : jslot Γ h N j = .int 0 := by
  unfold jslot
  have e : ¬ jrefs 14 j = true := fun q => Bool.noConfusion (show false = true from q)
  rw [hk, if_neg e, if_neg (by decide), hz]
theorem jar_int : jlk (.arrayClass .int) := jlkT (jtb1 68 rfl) rfl
/-- the end of a constructor -/
def jmade (sc : Nat × (Nat → Int32)) (N : Nat) (S : List (Nat × Nat × Nat)) (h1 : jH) : jQ := fun o Γ' h' => o = .inl none ∧ Γ' = jW N S sc ∧ h' = h1
theorem jmade_nt {N : Nat} {h1 : jH} : ∀ E Γ' h', ¬ jmade sc N S h1 (.inr E) Γ' h' := fun _ _ _ q => by cases q.1

def nX4 : jM := (yX4_init, cX4_init, 1, none, 2, 1, 10, [], 4)
theorem knX4 : jlk (jcw nX4) := jlkT (jtb1 79 rfl) rfl
theorem snX4 : ∀ w ∈ ([.instanceMethod (mY nX4), .initialized (mY nX4).cls] : List Cond), jlk w := j2 (jlkT (jtb1 78 rfl) rfl) (jlkT (jtb1 4 rfl) rfl)
theorem nX4_ok (lt : t + 2 < 1000) (k0 : jKt.getD t 99 = 4) (k1 : jKt.getD (t + 1) 99 = 14) (l1 : jLt.getD (t + 1) 0 = 10) (hz : ∀ c, t < c → ∀ j, h c j = 0) : JM nX4 [.ref t] (jW (t + 1) S sc) h (jmade sc (t + 2) ((t, 0, t + 1) :: S) (h)) := by
  refine jM_of rfl (Nat.le_of_ble_eq_true rfl) (by decide +kernel) rfl ?_
  refine j_aload_n (i := 0) rfl (by decide +kernel) ?_
  refine j_obj (idx := 3) (jlkT (jtb1 80 rfl) rfl) (by decide) (by decide +kernel) ?_
  refine j_aload_n (i := 0) rfl (by decide +kernel) ?_
  refine j_bipush (n := 10) 10 (by decide) (by decide +kernel) ?_
  refine j_newA (at' := .int) (kd := 14) (n := 10) (ty := .int) rfl rfl (by show t + 1 < 1000; omega) k1 (by decide) rfl (fun C q => by cases q) l1 (fun j => slot14 k1 (hz _ (by show t < t + 1; omega) j)) (by decide) (by decide) (by decide) jar_int.1 jar_int.2 ⟨by decide, by decide⟩ (by decide +kernel) ?_
  refine j_putR (idx := 9) (ci := 4) (k := 0) (r := t) (a := t + 1) (show (4, 9, 4, 0, false) ∈ jFT by decide) rfl rfl rfl rfl (fun _ => rfl) (fun _ => rfl) (by show t < t + 1 + 1; omega) k0 (by decide +kernel) ?_
  exact j_vret rfl (by decide) (by decide) (by decide +kernel) ⟨rfl, rfl, rfl⟩
def nX5 : jM := (yX5_init, cX5_init, 1, none, 2, 3, 36, [], 5)
theorem knX5 : jlk (jcw nX5) := jlkT (jtb1 135 rfl) rfl
theorem snX5 : ∀ w ∈ ([.instanceMethod (mY nX5), .initialized (mY nX5).cls] : List Cond), jlk w := j2 (jlkT (jtb1 134 rfl) rfl) (jlkT (jtb1 8 rfl) rfl)
theorem nX5_ok (lt : t + 4 < 1000) (k0 : jKt.getD t 99 = 5) (k1 : jKt.getD (t + 1) 99 = 14) (l1 : jLt.getD (t + 1) 0 = 12) (k2 : jKt.getD (t + 2) 99 = 14) (l2 : jLt.getD (t + 2) 0 = 12) (k3 : jKt.getD (t + 3) 99 = 14) (l3 : jLt.getD (t + 3) 0 = 12) (hz : ∀ c, t < c → ∀ j, h c j = 0) : JM nX5 [.ref t] (jW (t + 1) S sc) h (jmade sc (t + 4) ((t, 2, t + 3) :: (t, 1, t + 2) :: (t, 0, t + 1) :: S) (h)) := by
  refine jM_of rfl (Nat.le_of_ble_eq_true rfl) (by decide +kernel) rfl ?_
  refine j_aload_n (i := 0) rfl (by decide +kernel) ?_
  refine j_obj (idx := 3) (jlkT (jtb1 136 rfl) rfl) (by decide) (by decide +kernel) ?_
  refine j_aload_n (i := 0) rfl (by decide +kernel) ?_
  refine j_bipush (n := 12) 12 (by decide) (by decide +kernel) ?_
  refine j_newA (at' := .int) (kd := 14) (n := 12) (ty := .int) rfl rfl (by show t + 1 < 1000; omega) k1 (by decide) rfl (fun C q => by cases q) l1 (fun j => slot14 k1 (hz _ (by show t < t + 1; omega) j)) (by decide) (by decide) (by decide) jar_int.1 jar_int.2 ⟨by decide, by decide⟩ (by decide +kernel) ?_
  refine j_putR (idx := 9) (ci := 5) (k := 0) (r := t) (a := t + 1) (show (5, 9, 5, 0, false) ∈ jFT by decide) rfl rfl rfl rfl (fun _ => rfl) (fun _ => rfl) (by show t < t + 1 + 1; omega) k0 (by decide +kernel) ?_
  refine j_aload_n (i := 0) rfl (by decide +kernel) ?_
  refine j_bipush (n := 12) 12 (by decide) (by decide +kernel) ?_
  refine j_newA (at' := .int) (kd := 14) (n := 12) (ty := .int) rfl rfl (by show t + 2 < 1000; omega) k2 (by decide) rfl (fun C q => by cases q) l2 (fun j => slot14 k2 (hz _ (by show t < t + 2; omega) j)) (by decide) (by decide) (by decide) jar_int.1 jar_int.2 ⟨by decide, by decide⟩ (by decide +kernel) ?_
  refine j_putR (idx := 15) (ci := 5) (k := 1) (r := t) (a := t + 2) (show (5, 15, 5, 1, false) ∈ jFT by decide) rfl rfl rfl rfl (fun _ => rfl) (fun _ => rfl) (by show t < t + 2 + 1; omega) k0 (by decide +kernel) ?_
  refine j_aload_n (i := 0) rfl (by decide +kernel) ?_
  refine j_bipush (n := 12) 12 (by decide) (by decide +kernel) ?_
  refine j_newA (at' := .int) (kd := 14) (n := 12) (ty := .int) rfl rfl (by show t + 3 < 1000; omega) k3 (by decide) rfl (fun C q => by cases q) l3 (fun j => slot14 k3 (hz _ (by show t < t + 3; omega) j)) (by decide) (by decide) (by decide) jar_int.1 jar_int.2 ⟨by decide, by decide⟩ (by decide +kernel) ?_
  refine j_putR (idx := 18) (ci := 5) (k := 2) (r := t) (a := t + 3) (show (5, 18, 5, 2, false) ∈ jFT by decide) rfl rfl rfl rfl (fun _ => rfl) (fun _ => rfl) (by show t < t + 3 + 1; omega) k0 (by decide +kernel) ?_
  exact j_vret rfl (by decide) (by decide) (by decide +kernel) ⟨rfl, rfl, rfl⟩
def nX1 : jM := (yX1_init, cX1_init, 1, none, 2, 1, 400, [], 1)
theorem knX1 : jlk (jcw nX1) := jlkT (jtb1 107 rfl) rfl
theorem snX1 : ∀ w ∈ ([.instanceMethod (mY nX1), .initialized (mY nX1).cls] : List Cond), jlk w := j2 (jlkT (jtb1 106 rfl) rfl) (jlkT (jtb1 6 rfl) rfl)
theorem nX1_ok (lt : t + 2 < 1000) (k0 : jKt.getD t 99 = 1) (k1 : jKt.getD (t + 1) 99 = 14) (l1 : jLt.getD (t + 1) 0 = 400) (hz : ∀ c, t < c → ∀ j, h c j = 0) : JM nX1 [.ref t] (jW (t + 1) S sc) h (jmade sc (t + 2) ((t, 0, t + 1) :: S) (h)) := by
  refine jM_of rfl (Nat.le_of_ble_eq_true rfl) (by decide +kernel) rfl ?_
  refine j_aload_n (i := 0) rfl (by decide +kernel) ?_
  refine j_obj (idx := 3) (jlkT (jtb1 108 rfl) rfl) (by decide) (by decide +kernel) ?_
  refine j_aload_n (i := 0) rfl (by decide +kernel) ?_
  refine j_sipush (n := 400) 400 (by decide) (by decide +kernel) ?_
  refine j_newA (at' := .int) (kd := 14) (n := 400) (ty := .int) rfl rfl (by show t + 1 < 1000; omega) k1 (by decide) rfl (fun C q => by cases q) l1 (fun j => slot14 k1 (hz _ (by show t < t + 1; omega) j)) (by decide) (by decide) (by decide) jar_int.1 jar_int.2 ⟨by decide, by decide⟩ (by decide +kernel) ?_
  refine j_putR (idx := 9) (ci := 1) (k := 0) (r := t) (a := t + 1) (show (1, 9, 1, 0, false) ∈ jFT by decide) rfl rfl rfl rfl (fun _ => rfl) (fun _ => rfl) (by show t < t + 1 + 1; omega) k0 (by decide +kernel) ?_
  exact j_vret rfl (by decide) (by decide) (by decide +kernel) ⟨rfl, rfl, rfl⟩
def nX9 : jM := (yX9_init, cX9_init, 1, none, 2, 4, 54, [], 9)
theorem knX9 : jlk (jcw nX9) := jlkT (jtb1 164 rfl) rfl
theorem snX9 : ∀ w ∈ ([.instanceMethod (mY nX9), .initialized (mY nX9).cls] : List Cond), jlk w := j2 (jlkT (jtb1 163 rfl) rfl) (jlkT (jtb1 9 rfl) rfl)
theorem nX9_ok (lt : t + 5 < 1000) (k0 : jKt.getD t 99 = 9) (k1 : jKt.getD (t + 1) 99 = 14) (l1 : jLt.getD (t + 1) 0 = 30) (k2 : jKt.getD (t + 2) 99 = 14) (l2 : jLt.getD (t + 2) 0 = 8) (k3 : jKt.getD (t + 3) 99 = 14) (l3 : jLt.getD (t + 3) 0 = 8) (k4 : jKt.getD (t + 4) 99 = 14) (l4 : jLt.getD (t + 4) 0 = 8) (hz : ∀ c, t < c → ∀ j, h c j = 0) : JM nX9 [.ref t] (jW (t + 1) S sc) h (jmade sc (t + 5) ((t, 8, t + 4) :: (t, 7, t + 3) :: (t, 6, t + 2) :: (t, 0, t + 1) :: S) (h)) := by
  refine jM_of rfl (Nat.le_of_ble_eq_true rfl) (by decide +kernel) rfl ?_
  refine j_aload_n (i := 0) rfl (by decide +kernel) ?_
  refine j_obj (idx := 3) (jlkT (jtb1 165 rfl) rfl) (by decide) (by decide +kernel) ?_
  refine j_aload_n (i := 0) rfl (by decide +kernel) ?_
  refine j_bipush (n := 30) 30 (by decide) (by decide +kernel) ?_
  refine j_newA (at' := .int) (kd := 14) (n := 30) (ty := .int) rfl rfl (by show t + 1 < 1000; omega) k1 (by decide) rfl (fun C q => by cases q) l1 (fun j => slot14 k1 (hz _ (by show t < t + 1; omega) j)) (by decide) (by decide) (by decide) jar_int.1 jar_int.2 ⟨by decide, by decide⟩ (by decide +kernel) ?_
  refine j_putR (idx := 9) (ci := 9) (k := 0) (r := t) (a := t + 1) (show (9, 9, 9, 0, false) ∈ jFT by decide) rfl rfl rfl rfl (fun _ => rfl) (fun _ => rfl) (by show t < t + 1 + 1; omega) k0 (by decide +kernel) ?_
  refine j_aload_n (i := 0) rfl (by decide +kernel) ?_
  refine j_bipush (n := 8) 8 (by decide) (by decide +kernel) ?_
  refine j_newA (at' := .int) (kd := 14) (n := 8) (ty := .int) rfl rfl (by show t + 2 < 1000; omega) k2 (by decide) rfl (fun C q => by cases q) l2 (fun j => slot14 k2 (hz _ (by show t < t + 2; omega) j)) (by decide) (by decide) (by decide) jar_int.1 jar_int.2 ⟨by decide, by decide⟩ (by decide +kernel) ?_
  refine j_putR (idx := 15) (ci := 9) (k := 6) (r := t) (a := t + 2) (show (9, 15, 9, 6, false) ∈ jFT by decide) rfl rfl rfl rfl (fun _ => rfl) (fun _ => rfl) (by show t < t + 2 + 1; omega) k0 (by decide +kernel) ?_
  refine j_aload_n (i := 0) rfl (by decide +kernel) ?_
  refine j_bipush (n := 8) 8 (by decide) (by decide +kernel) ?_
  refine j_newA (at' := .int) (kd := 14) (n := 8) (ty := .int) rfl rfl (by show t + 3 < 1000; omega) k3 (by decide) rfl (fun C q => by cases q) l3 (fun j => slot14 k3 (hz _ (by show t < t + 3; omega) j)) (by decide) (by decide) (by decide) jar_int.1 jar_int.2 ⟨by decide, by decide⟩ (by decide +kernel) ?_
  refine j_putR (idx := 18) (ci := 9) (k := 7) (r := t) (a := t + 3) (show (9, 18, 9, 7, false) ∈ jFT by decide) rfl rfl rfl rfl (fun _ => rfl) (fun _ => rfl) (by show t < t + 3 + 1; omega) k0 (by decide +kernel) ?_
  refine j_aload_n (i := 0) rfl (by decide +kernel) ?_
  refine j_bipush (n := 8) 8 (by decide) (by decide +kernel) ?_
  refine j_newA (at' := .int) (kd := 14) (n := 8) (ty := .int) rfl rfl (by show t + 4 < 1000; omega) k4 (by decide) rfl (fun C q => by cases q) l4 (fun j => slot14 k4 (hz _ (by show t < t + 4; omega) j)) (by decide) (by decide) (by decide) jar_int.1 jar_int.2 ⟨by decide, by decide⟩ (by decide +kernel) ?_
  refine j_putR (idx := 21) (ci := 9) (k := 8) (r := t) (a := t + 4) (show (9, 21, 9, 8, false) ∈ jFT by decide) rfl rfl rfl rfl (fun _ => rfl) (fun _ => rfl) (by show t < t + 4 + 1; omega) k0 (by decide +kernel) ?_
  exact j_vret rfl (by decide) (by decide) (by decide +kernel) ⟨rfl, rfl, rfl⟩
def nX8 : jM := (yX8_init, cX8_init, 1, none, 2, 1, 400, [], 8)
theorem knX8 : jlk (jcw nX8) := jlkT (jtb1 40 rfl) rfl
theorem snX8 : ∀ w ∈ ([.instanceMethod (mY nX8), .initialized (mY nX8).cls] : List Cond), jlk w := j2 (jlkT (jtb1 39 rfl) rfl) (jlkT (jtb1 2 rfl) rfl)
theorem nX8_ok (lt : t + 2 < 1000) (k0 : jKt.getD t 99 = 8) (k1 : jKt.getD (t + 1) 99 = 14) (l1 : jLt.getD (t + 1) 0 = 400) (hz : ∀ c, t < c → ∀ j, h c j = 0) : JM nX8 [.ref t] (jW (t + 1) S sc) h (jmade sc (t + 2) ((t, 0, t + 1) :: S) (h)) := by
  refine jM_of rfl (Nat.le_of_ble_eq_true rfl) (by decide +kernel) rfl ?_
  refine j_aload_n (i := 0) rfl (by decide +kernel) ?_
  refine j_obj (idx := 3) (jlkT (jtb1 41 rfl) rfl) (by decide) (by decide +kernel) ?_
  refine j_aload_n (i := 0) rfl (by decide +kernel) ?_
  refine j_sipush (n := 400) 400 (by decide) (by decide +kernel) ?_
  refine j_newA (at' := .int) (kd := 14) (n := 400) (ty := .int) rfl rfl (by show t + 1 < 1000; omega) k1 (by decide) rfl (fun C q => by cases q) l1 (fun j => slot14 k1 (hz _ (by show t < t + 1; omega) j)) (by decide) (by decide) (by decide) jar_int.1 jar_int.2 ⟨by decide, by decide⟩ (by decide +kernel) ?_
  refine j_putR (idx := 9) (ci := 8) (k := 0) (r := t) (a := t + 1) (show (8, 9, 8, 0, false) ∈ jFT by decide) rfl rfl rfl rfl (fun _ => rfl) (fun _ => rfl) (by show t < t + 1 + 1; omega) k0 (by decide +kernel) ?_
  exact j_vret rfl (by decide) (by decide) (by decide +kernel) ⟨rfl, rfl, rfl⟩
def nX7 : jM := (yX7_init, cX7_init, 1, none, 2, 2, 24, [], 7)
theorem knX7 : jlk (jcw nX7) := jlkT (jtb2 57 rfl) rfl
theorem snX7 : ∀ w ∈ ([.instanceMethod (mY nX7), .initialized (mY nX7).cls] : List Cond), jlk w := j2 (jlkT (jtb2 56 rfl) rfl) (jlkT (jtb1 11 rfl) rfl)
theorem nX7_ok (lt : t + 3 < 1000) (k0 : jKt.getD t 99 = 7) (k1 : jKt.getD (t + 1) 99 = 14) (l1 : jLt.getD (t + 1) 0 = 12) (k2 : jKt.getD (t + 2) 99 = 14) (l2 : jLt.getD (t + 2) 0 = 12) (hz : ∀ c, t < c → ∀ j, h c j = 0) : JM nX7 [.ref t] (jW (t + 1) S sc) h (jmade sc (t + 3) ((t, 1, t + 2) :: (t, 0, t + 1) :: S) (h)) := by
  refine jM_of rfl (Nat.le_of_ble_eq_true rfl) (by decide +kernel) rfl ?_
  refine j_aload_n (i := 0) rfl (by decide +kernel) ?_
  refine j_obj (idx := 3) (jlkT (jtb2 58 rfl) rfl) (by decide) (by decide +kernel) ?_
  refine j_aload_n (i := 0) rfl (by decide +kernel) ?_
  refine j_bipush (n := 12) 12 (by decide) (by decide +kernel) ?_
  refine j_newA (at' := .int) (kd := 14) (n := 12) (ty := .int) rfl rfl (by show t + 1 < 1000; omega) k1 (by decide) rfl (fun C q => by cases q) l1 (fun j => slot14 k1 (hz _ (by show t < t + 1; omega) j)) (by decide) (by decide) (by decide) jar_int.1 jar_int.2 ⟨by decide, by decide⟩ (by decide +kernel) ?_
  refine j_putR (idx := 9) (ci := 7) (k := 0) (r := t) (a := t + 1) (show (7, 9, 7, 0, false) ∈ jFT by decide) rfl rfl rfl rfl (fun _ => rfl) (fun _ => rfl) (by show t < t + 1 + 1; omega) k0 (by decide +kernel) ?_
  refine j_aload_n (i := 0) rfl (by decide +kernel) ?_
  refine j_bipush (n := 12) 12 (by decide) (by decide +kernel) ?_
  refine j_newA (at' := .int) (kd := 14) (n := 12) (ty := .int) rfl rfl (by show t + 2 < 1000; omega) k2 (by decide) rfl (fun C q => by cases q) l2 (fun j => slot14 k2 (hz _ (by show t < t + 2; omega) j)) (by decide) (by decide) (by decide) jar_int.1 jar_int.2 ⟨by decide, by decide⟩ (by decide +kernel) ?_
  refine j_putR (idx := 15) (ci := 7) (k := 1) (r := t) (a := t + 2) (show (7, 15, 7, 1, false) ∈ jFT by decide) rfl rfl rfl rfl (fun _ => rfl) (fun _ => rfl) (by show t < t + 2 + 1; omega) k0 (by decide +kernel) ?_
  exact j_vret rfl (by decide) (by decide) (by decide +kernel) ⟨rfl, rfl, rfl⟩
def nX10 : jM := (yX10_init, cX10_init, 1, none, 2, 2, 8, [], 10)
theorem knX10 : jlk (jcw nX10) := jlkT (jtb2 8 rfl) rfl
theorem snX10 : ∀ w ∈ ([.instanceMethod (mY nX10), .initialized (mY nX10).cls] : List Cond), jlk w := j2 (jlkT (jtb2 7 rfl) rfl) (jlkT (jtb1 10 rfl) rfl)
theorem nX10_ok (lt : t + 3 < 1000) (k0 : jKt.getD t 99 = 10) (k1 : jKt.getD (t + 1) 99 = 14) (l1 : jLt.getD (t + 1) 0 = 4) (k2 : jKt.getD (t + 2) 99 = 14) (l2 : jLt.getD (t + 2) 0 = 4) (hz : ∀ c, t < c → ∀ j, h c j = 0) : JM nX10 [.ref t] (jW (t + 1) S sc) h (jmade sc (t + 3) ((t, 1, t + 2) :: (t, 0, t + 1) :: S) (jput (h) t 5 (-1))) := by
  refine jM_of rfl (Nat.le_of_ble_eq_true rfl) (by decide +kernel) rfl ?_
  refine j_aload_n (i := 0) rfl (by decide +kernel) ?_
  refine j_obj (idx := 3) (jlkT (jtb2 9 rfl) rfl) (by decide) (by decide +kernel) ?_
  refine j_aload_n (i := 0) rfl (by decide +kernel) ?_
  refine j_iconst (n := 4) (4) (by decide) (by decide +kernel) ?_
  refine j_newA (at' := .int) (kd := 14) (n := 4) (ty := .int) rfl rfl (by show t + 1 < 1000; omega) k1 (by decide) rfl (fun C q => by cases q) l1 (fun j => slot14 k1 (hz _ (by show t < t + 1; omega) j)) (by decide) (by decide) (by decide) jar_int.1 jar_int.2 ⟨by decide, by decide⟩ (by decide +kernel) ?_
  refine j_putR (idx := 9) (ci := 10) (k := 0) (r := t) (a := t + 1) (show (10, 9, 10, 0, false) ∈ jFT by decide) rfl rfl rfl rfl (fun _ => rfl) (fun _ => rfl) (by show t < t + 1 + 1; omega) k0 (by decide +kernel) ?_
  refine j_aload_n (i := 0) rfl (by decide +kernel) ?_
  refine j_iconst (n := 4) (4) (by decide) (by decide +kernel) ?_
  refine j_newA (at' := .int) (kd := 14) (n := 4) (ty := .int) rfl rfl (by show t + 2 < 1000; omega) k2 (by decide) rfl (fun C q => by cases q) l2 (fun j => slot14 k2 (hz _ (by show t < t + 2; omega) j)) (by decide) (by decide) (by decide) jar_int.1 jar_int.2 ⟨by decide, by decide⟩ (by decide +kernel) ?_
  refine j_putR (idx := 15) (ci := 10) (k := 1) (r := t) (a := t + 2) (show (10, 15, 10, 1, false) ∈ jFT by decide) rfl rfl rfl rfl (fun _ => rfl) (fun _ => rfl) (by show t < t + 2 + 1; omega) k0 (by decide +kernel) ?_
  refine j_aload_n (i := 0) rfl (by decide +kernel) ?_
  refine j_iconst (n := -1) (-1) (by decide) (by decide +kernel) ?_
  refine j_putI (idx := 18) (ci := 10) (k := 5) (r := t) (nest := false) (show (10, 18, 10, 5, false) ∈ jFT by decide) rfl rfl rfl rfl (by show t < t + 2 + 1; omega) k0 (by decide +kernel) ?_
  exact j_vret rfl (by decide) (by decide) (by decide +kernel) ⟨rfl, rfl, rfl⟩
def nX3 : jM := (yX3_init, cX3_init, 1, none, 2, 6, 930, [], 3)
theorem knX3 : jlk (jcw nX3) := jlkT (jtb2 79 rfl) rfl
theorem snX3 : ∀ w ∈ ([.instanceMethod (mY nX3), .initialized (mY nX3).cls] : List Cond), jlk w := j2 (jlkT (jtb2 78 rfl) rfl) (jlkT (jtb1 12 rfl) rfl)
theorem nX3_ok (lt : t + 7 < 1000) (k0 : jKt.getD t 99 = 3) (k1 : jKt.getD (t + 1) 99 = 14) (l1 : jLt.getD (t + 1) 0 = 300) (k2 : jKt.getD (t + 2) 99 = 14) (l2 : jLt.getD (t + 2) 0 = 300) (k3 : jKt.getD (t + 3) 99 = 14) (l3 : jLt.getD (t + 3) 0 = 300) (k4 : jKt.getD (t + 4) 99 = 14) (l4 : jLt.getD (t + 4) 0 = 10) (k5 : jKt.getD (t + 5) 99 = 14) (l5 : jLt.getD (t + 5) 0 = 10) (k6 : jKt.getD (t + 6) 99 = 14) (l6 : jLt.getD (t + 6) 0 = 10) (hz : ∀ c, t < c → ∀ j, h c j = 0) : JM nX3 [.ref t] (jW (t + 1) S sc) h (jmade sc (t + 7) ((t, 5, t + 6) :: (t, 4, t + 5) :: (t, 3, t + 4) :: (t, 2, t + 3) :: (t, 1, t + 2) :: (t, 0, t + 1) :: S) (jput (jput (h) t 7 (-1)) t 8 (-1))) := by
  refine jM_of rfl (Nat.le_of_ble_eq_true rfl) (by decide +kernel) rfl ?_
  refine j_aload_n (i := 0) rfl (by decide +kernel) ?_
  refine j_obj (idx := 3) (jlkT (jtb2 80 rfl) rfl) (by decide) (by decide +kernel) ?_
  refine j_aload_n (i := 0) rfl (by decide +kernel) ?_
  refine j_sipush (n := 300) 300 (by decide) (by decide +kernel) ?_
  refine j_newA (at' := .int) (kd := 14) (n := 300) (ty := .int) rfl rfl (by show t + 1 < 1000; omega) k1 (by decide) rfl (fun C q => by cases q) l1 (fun j => slot14 k1 (hz _ (by show t < t + 1; omega) j)) (by decide) (by decide) (by decide) jar_int.1 jar_int.2 ⟨by decide, by decide⟩ (by decide +kernel) ?_
  refine j_putR (idx := 9) (ci := 3) (k := 0) (r := t) (a := t + 1) (show (3, 9, 3, 0, false) ∈ jFT by decide) rfl rfl rfl rfl (fun _ => rfl) (fun _ => rfl) (by show t < t + 1 + 1; omega) k0 (by decide +kernel) ?_
  refine j_aload_n (i := 0) rfl (by decide +kernel) ?_
  refine j_sipush (n := 300) 300 (by decide) (by decide +kernel) ?_
  refine j_newA (at' := .int) (kd := 14) (n := 300) (ty := .int) rfl rfl (by show t + 2 < 1000; omega) k2 (by decide) rfl (fun C q => by cases q) l2 (fun j => slot14 k2 (hz _ (by show t < t + 2; omega) j)) (by decide) (by decide) (by decide) jar_int.1 jar_int.2 ⟨by decide, by decide⟩ (by decide +kernel) ?_
  refine j_putR (idx := 15) (ci := 3) (k := 1) (r := t) (a := t + 2) (show (3, 15, 3, 1, false) ∈ jFT by decide) rfl rfl rfl rfl (fun _ => rfl) (fun _ => rfl) (by show t < t + 2 + 1; omega) k0 (by decide +kernel) ?_
  refine j_aload_n (i := 0) rfl (by decide +kernel) ?_
  refine j_sipush (n := 300) 300 (by decide) (by decide +kernel) ?_
  refine j_newA (at' := .int) (kd := 14) (n := 300) (ty := .int) rfl rfl (by show t + 3 < 1000; omega) k3 (by decide) rfl (fun C q => by cases q) l3 (fun j => slot14 k3 (hz _ (by show t < t + 3; omega) j)) (by decide) (by decide) (by decide) jar_int.1 jar_int.2 ⟨by decide, by decide⟩ (by decide +kernel) ?_
  refine j_putR (idx := 18) (ci := 3) (k := 2) (r := t) (a := t + 3) (show (3, 18, 3, 2, false) ∈ jFT by decide) rfl rfl rfl rfl (fun _ => rfl) (fun _ => rfl) (by show t < t + 3 + 1; omega) k0 (by decide +kernel) ?_
  refine j_aload_n (i := 0) rfl (by decide +kernel) ?_
  refine j_bipush (n := 10) 10 (by decide) (by decide +kernel) ?_
  refine j_newA (at' := .int) (kd := 14) (n := 10) (ty := .int) rfl rfl (by show t + 4 < 1000; omega) k4 (by decide) rfl (fun C q => by cases q) l4 (fun j => slot14 k4 (hz _ (by show t < t + 4; omega) j)) (by decide) (by decide) (by decide) jar_int.1 jar_int.2 ⟨by decide, by decide⟩ (by decide +kernel) ?_
  refine j_putR (idx := 21) (ci := 3) (k := 3) (r := t) (a := t + 4) (show (3, 21, 3, 3, false) ∈ jFT by decide) rfl rfl rfl rfl (fun _ => rfl) (fun _ => rfl) (by show t < t + 4 + 1; omega) k0 (by decide +kernel) ?_
  refine j_aload_n (i := 0) rfl (by decide +kernel) ?_
  refine j_bipush (n := 10) 10 (by decide) (by decide +kernel) ?_
  refine j_newA (at' := .int) (kd := 14) (n := 10) (ty := .int) rfl rfl (by show t + 5 < 1000; omega) k5 (by decide) rfl (fun C q => by cases q) l5 (fun j => slot14 k5 (hz _ (by show t < t + 5; omega) j)) (by decide) (by decide) (by decide) jar_int.1 jar_int.2 ⟨by decide, by decide⟩ (by decide +kernel) ?_
  refine j_putR (idx := 24) (ci := 3) (k := 4) (r := t) (a := t + 5) (show (3, 24, 3, 4, false) ∈ jFT by decide) rfl rfl rfl rfl (fun _ => rfl) (fun _ => rfl) (by show t < t + 5 + 1; omega) k0 (by decide +kernel) ?_
  refine j_aload_n (i := 0) rfl (by decide +kernel) ?_
  refine j_bipush (n := 10) 10 (by decide) (by decide +kernel) ?_
  refine j_newA (at' := .int) (kd := 14) (n := 10) (ty := .int) rfl rfl (by show t + 6 < 1000; omega) k6 (by decide) rfl (fun C q => by cases q) l6 (fun j => slot14 k6 (hz _ (by show t < t + 6; omega) j)) (by decide) (by decide) (by decide) jar_int.1 jar_int.2 ⟨by decide, by decide⟩ (by decide +kernel) ?_
  refine j_putR (idx := 27) (ci := 3) (k := 5) (r := t) (a := t + 6) (show (3, 27, 3, 5, false) ∈ jFT by decide) rfl rfl rfl rfl (fun _ => rfl) (fun _ => rfl) (by show t < t + 6 + 1; omega) k0 (by decide +kernel) ?_
  refine j_aload_n (i := 0) rfl (by decide +kernel) ?_
  refine j_iconst (n := -1) (-1) (by decide) (by decide +kernel) ?_
  refine j_putI (idx := 30) (ci := 3) (k := 7) (r := t) (nest := false) (show (3, 30, 3, 7, false) ∈ jFT by decide) rfl rfl rfl rfl (by show t < t + 6 + 1; omega) k0 (by decide +kernel) ?_
  refine j_aload_n (i := 0) rfl (by decide +kernel) ?_
  refine j_iconst (n := -1) (-1) (by decide) (by decide +kernel) ?_
  refine j_putI (idx := 34) (ci := 3) (k := 8) (r := t) (nest := false) (show (3, 34, 3, 8, false) ∈ jFT by decide) rfl rfl rfl rfl (by show t < t + 6 + 1; omega) k0 (by decide +kernel) ?_
  exact j_vret rfl (by decide) (by decide) (by decide +kernel) ⟨rfl, rfl, rfl⟩
end CONS
