/-! The made world: 0 the class's object, 159 the reference's, 179 the law's row of longs; and the methods. -/
def jKt : List Nat := [11, 8, 14, 0, 4, 14, 2, 1, 14, 6, 4, 14, 4, 14, 5, 14, 14, 14, 1, 14, 9, 14, 14, 14, 14, 14, 15, 4, 14, 4, 14, 4, 14, 4, 14, 4, 14, 4, 14, 6, 4, 14, 4, 14, 5, 14, 14, 14, 1, 14, 9, 14, 14, 14, 14, 14, 15, 4, 14, 4, 14, 4, 14, 4, 14, 4, 14, 4, 14, 10, 14, 14, 7, 14, 14, 3, 14, 14, 14, 14, 14, 14, 3, 14, 14, 14, 14, 14, 14, 4, 14, 4, 14, 15, 14, 14, 14, 14, 13, 4, 14, 4, 14, 4, 14, 4, 14, 4, 14, 4, 14, 4, 14, 4, 14, 4, 14, 4, 14, 4, 14, 4, 14, 4, 14, 4, 14, 4, 14, 4, 14, 4, 14, 4, 14, 4, 14, 4, 14, 4, 14, 4, 14, 4, 14, 4, 14, 4, 14, 4, 14, 4, 14, 4, 14, 4, 14, 4, 14, 12, 14, 14, 13, 14, 14, 14, 14, 14, 14, 14, 14, 14, 14, 14, 14, 14, 14, 14, 14, 16]
def jLt : List Nat := [0, 0, 400, 0, 0, 10, 0, 0, 400, 0, 0, 10, 0, 10, 0, 12, 12, 12, 0, 400, 0, 30, 8, 8, 8, 6, 6, 0, 10, 0, 10, 0, 10, 0, 10, 0, 10, 0, 10, 0, 0, 10, 0, 10, 0, 12, 12, 12, 0, 400, 0, 30, 8, 8, 8, 6, 6, 0, 10, 0, 10, 0, 10, 0, 10, 0, 10, 0, 10, 0, 4, 4, 0, 12, 12, 0, 300, 300, 300, 10, 10, 10, 0, 300, 300, 300, 10, 10, 10, 0, 10, 0, 10, 30, 30, 12, 256, 300, 4096, 0, 10, 0, 10, 0, 10, 0, 10, 0, 10, 0, 10, 0, 10, 0, 10, 0, 10, 0, 10, 0, 10, 0, 10, 0, 10, 0, 10, 0, 10, 0, 10, 0, 10, 0, 10, 0, 10, 0, 10, 0, 10, 0, 10, 0, 10, 0, 10, 0, 10, 0, 10, 0, 10, 0, 10, 0, 10, 0, 10, 0, 1454, 1454, 400, 5, 61, 800, 400, 61, 4, 4, 61, 400, 400, 2400, 30, 4096, 61, 61, 12, 1]
def jRt : List (List (Option Nat)) := [[some 1, none, some 3, some 6, some 9, some 39, none, some 69, some 72, some 75, some 82, some 89, some 91, some 93, some 94, some 95, some 96, some 97, some 98], [some 2], [], [some 4], [some 5], [], [some 7], [some 8], [], [some 10, some 12, some 14, some 18, some 20, some 25, some 26], [some 11], [], [some 13], [], [some 15, some 16, some 17], [], [], [], [some 19], [], [some 21, none, none, none, none, none, some 22, some 23, some 24], [], [], [], [], [], [some 27, some 29, some 31, some 33, some 35, some 37], [some 28], [], [some 30], [], [some 32], [], [some 34], [], [some 36], [], [some 38], [], [some 40, some 42, some 44, some 48, some 50, some 55, some 56], [some 41], [], [some 43], [], [some 45, some 46, some 47], [], [], [], [some 49], [], [some 51, none, none, none, none, none, some 52, some 53, some 54], [], [], [], [], [], [some 57, some 59, some 61, some 63, some 65, some 67], [some 58], [], [some 60], [], [some 62], [], [some 64], [], [some 66], [], [some 68], [], [some 70, some 71], [], [], [some 73, some 74], [], [], [some 76, some 77, some 78, some 79, some 80, some 81], [], [], [], [], [], [], [some 83, some 84, some 85, some 86, some 87, some 88], [], [], [], [], [], [], [some 90], [], [some 92], [], [some 99, some 101, some 103, some 105, some 107, some 109, some 111, some 113, some 115, some 117, some 119, some 121, some 123, some 125, some 127, some 129, some 131, some 133, some 135, some 137, some 139, some 141, some 143, some 145, some 147, some 149, some 151, some 153, some 155, some 157], [], [], [], [], [], [some 100], [], [some 102], [], [some 104], [], [some 106], [], [some 108], [], [some 110], [], [some 112], [], [some 114], [], [some 116], [], [some 118], [], [some 120], [], [some 122], [], [some 124], [], [some 126], [], [some 128], [], [some 130], [], [some 132], [], [some 134], [], [some 136], [], [some 138], [], [some 140], [], [some 142], [], [some 144], [], [some 146], [], [some 148], [], [some 150], [], [some 152], [], [some 154], [], [some 156], [], [some 158], [], [none, some 160, some 161, none, some 162, none, none, none, none, none, none, some 163, some 164, none, some 165, some 166, some 167, some 168, some 169, none, none, none, some 170, some 171, some 172, some 173, none, some 174, none, some 175, some 176, some 177, some 178], [], [], [], [], [], [], [], [], [], [], [], [], [], [], [], [], [], [], [], []]
def jG0 (sc : Nat × (Nat → Int32)) : jS := (180, false, fun a => jKt.getD a 99, fun a => jLt.getD a 0, fun a j => (jRt.getD a []).getD j none, sc)
/-- results: an int, a long, nothing; the shape stays -/
def jint (sc : Nat × (Nat → Int32)) (P : Int32 → jH → Prop) : jQ := fun o Γ' h' => ∃ x, o = .inl (some (.int x)) ∧ Γ' = jG0 sc ∧ P x h'
def jlong (sc : Nat × (Nat → Int32)) (P : Int64 → jH → Prop) : jQ := fun o Γ' h' => ∃ x, o = .inl (some (.long x)) ∧ Γ' = jG0 sc ∧ P x h'
def jvoid (sc : Nat × (Nat → Int32)) (P : jH → Prop) : jQ := fun o Γ' h' => o = .inl none ∧ Γ' = jG0 sc ∧ P h'
theorem jint_nt {sc : Nat × (Nat → Int32)} {P : Int32 → jH → Prop} : ∀ E Γ' h', ¬ jint sc P (.inr E) Γ' h' := fun _ _ _ ⟨_, h, _⟩ => by cases h
theorem jlong_nt {sc : Nat × (Nat → Int32)} {P : Int64 → jH → Prop} : ∀ E Γ' h', ¬ jlong sc P (.inr E) Γ' h' := fun _ _ _ ⟨_, h, _⟩ => by cases h
theorem jvoid_nt {sc : Nat × (Nat → Int32)} {P : jH → Prop} : ∀ E Γ' h', ¬ jvoid sc P (.inr E) Γ' h' := fun _ _ _ ⟨h, _⟩ => by cases h
theorem jlkT {w : Cond} (h : w ∈ tables_1) (hg : goodWord w = true) : jlk w := ⟨jTbl h, hg⟩
theorem jlkS (i : Nat) {w : Cond} (h : (k2_sels lw_privs)[i]? = some w) (hg : goodWord w = true) : jlk w := ⟨List.mem_append_left _ (List.mem_of_getElem? h), hg⟩
theorem jtb1 (i : Nat) {w : Cond} (h : tables_1_1[i]? = some w) : w ∈ tables_1 := List.mem_append_left _ (List.mem_of_getElem? h)
theorem jtb2 (i : Nat) {w : Cond} (h : tables_1_2[i]? = some w) : w ∈ tables_1 := List.mem_append_right _ (List.mem_append_left _ (List.mem_of_getElem? h))
theorem jtb3 (i : Nat) {w : Cond} (h : tables_1_3[i]? = some w) : w ∈ tables_1 := List.mem_append_right _ (List.mem_append_right _ (List.mem_append_left _ (List.mem_of_getElem? h)))
theorem jtb4 (i : Nat) {w : Cond} (h : tables_1_4[i]? = some w) : w ∈ tables_1 := List.mem_append_right _ (List.mem_append_right _ (List.mem_append_right _ (List.mem_append_left _ (List.mem_of_getElem? h))))
theorem jtb5 (i : Nat) {w : Cond} (h : tables_1_5[i]? = some w) : w ∈ tables_1 := List.mem_append_right _ (List.mem_append_right _ (List.mem_append_right _ (List.mem_append_right _ (List.mem_append_left _ (List.mem_of_getElem? h)))))
theorem jtb6 (i : Nat) {w : Cond} (h : tables_1_6[i]? = some w) : w ∈ tables_1 := List.mem_append_right _ (List.mem_append_right _ (List.mem_append_right _ (List.mem_append_right _ (List.mem_append_right _ (List.mem_append_left _ (List.mem_of_getElem? h))))))
theorem jtb7 (i : Nat) {w : Cond} (h : tables_1_7[i]? = some w) : w ∈ tables_1 := List.mem_append_right _ (List.mem_append_right _ (List.mem_append_right _ (List.mem_append_right _ (List.mem_append_right _ (List.mem_append_right _ (List.mem_append_left _ (List.mem_of_getElem? h)))))))
theorem jtb8 (i : Nat) {w : Cond} (h : tables_1_8[i]? = some w) : w ∈ tables_1 := List.mem_append_right _ (List.mem_append_right _ (List.mem_append_right _ (List.mem_append_right _ (List.mem_append_right _ (List.mem_append_right _ (List.mem_append_right _ (List.mem_of_getElem? h)))))))
theorem j3 {a b c : Cond} (h1 : jlk a) (h2 : jlk b) (h3 : jlk c) : ∀ w ∈ ([a, b, c] : List Cond), jlk w := by
  intro w h
  simp only [List.mem_cons, List.not_mem_nil, or_false] at h
  rcases h with rfl | rfl | rfl
  · exact h1
  · exact h2
  · exact h3
theorem j2 {a b : Cond} (h1 : jlk a) (h2 : jlk b) : ∀ w ∈ ([a, b] : List Cond), jlk w := by
  intro w h
  simp only [List.mem_cons, List.not_mem_nil, or_false] at h
  rcases h with rfl | rfl
  · exact h1
  · exact h2
theorem jinl {i : Int32} {n : Nat} (h : (!(decide (i < 0)) && Nat.blt i.toNatClampNeg n) = true) : vp_in i n := by
  rw [Bool.and_eq_true, Bool.not_eq_true'] at h
  rintro (q | q)
  · exact absurd q (of_decide_eq_false h.1)
  · have := Nat.blt_eq.mp h.2
    omega
/-- objects that stand at several places: what is known of the one at t -/
def jI1 (t : Nat) : Prop := t + 1 < 180 ∧ jKt.getD t 99 = 1 ∧ (jRt.getD t []).getD 0 none = some (t + 1) ∧ jKt.getD (t + 1) 99 = 14 ∧ jLt.getD (t + 1) 0 = 400
def jI4 (t : Nat) : Prop := t + 1 < 180 ∧ jKt.getD t 99 = 4 ∧ (jRt.getD t []).getD 0 none = some (t + 1) ∧ jKt.getD (t + 1) 99 = 14 ∧ jLt.getD (t + 1) 0 = 10
def jI5 (t : Nat) : Prop := t + 3 < 180 ∧ jKt.getD t 99 = 5 ∧ (jRt.getD t []).getD 0 none = some (t + 1) ∧ jKt.getD (t + 1) 99 = 14 ∧ jLt.getD (t + 1) 0 = 12 ∧ (jRt.getD t []).getD 1 none = some (t + 2) ∧ jKt.getD (t + 2) 99 = 14 ∧ jLt.getD (t + 2) 0 = 12 ∧ (jRt.getD t []).getD 2 none = some (t + 3) ∧ jKt.getD (t + 3) 99 = 14 ∧ jLt.getD (t + 3) 0 = 12
def jI9 (t : Nat) : Prop := t + 4 < 180 ∧ jKt.getD t 99 = 9 ∧ (jRt.getD t []).getD 0 none = some (t + 1) ∧ jKt.getD (t + 1) 99 = 14 ∧ jLt.getD (t + 1) 0 = 30 ∧ (jRt.getD t []).getD 6 none = some (t + 2) ∧ jKt.getD (t + 2) 99 = 14 ∧ jLt.getD (t + 2) 0 = 8 ∧ (jRt.getD t []).getD 7 none = some (t + 3) ∧ jKt.getD (t + 3) 99 = 14 ∧ jLt.getD (t + 3) 0 = 8 ∧ (jRt.getD t []).getD 8 none = some (t + 4) ∧ jKt.getD (t + 4) 99 = 14 ∧ jLt.getD (t + 4) 0 = 8
def jI3 (t : Nat) : Prop := t + 6 < 180 ∧ jKt.getD t 99 = 3 ∧ (jRt.getD t []).getD 0 none = some (t + 1) ∧ jKt.getD (t + 1) 99 = 14 ∧ jLt.getD (t + 1) 0 = 300 ∧ (jRt.getD t []).getD 1 none = some (t + 2) ∧ jKt.getD (t + 2) 99 = 14 ∧ jLt.getD (t + 2) 0 = 300 ∧ (jRt.getD t []).getD 2 none = some (t + 3) ∧ jKt.getD (t + 3) 99 = 14 ∧ jLt.getD (t + 3) 0 = 300 ∧ (jRt.getD t []).getD 3 none = some (t + 4) ∧ jKt.getD (t + 4) 99 = 14 ∧ jLt.getD (t + 4) 0 = 10 ∧ (jRt.getD t []).getD 4 none = some (t + 5) ∧ jKt.getD (t + 5) 99 = 14 ∧ jLt.getD (t + 5) 0 = 10 ∧ (jRt.getD t []).getD 5 none = some (t + 6) ∧ jKt.getD (t + 6) 99 = 14 ∧ jLt.getD (t + 6) 0 = 10
def jIA (t n : Nat) : Prop := t < 180 ∧ jKt.getD t 99 = 14 ∧ jLt.getD t 0 = n
def jI6 (t : Nat) : Prop := t + 29 < 180 ∧ jKt.getD t 99 = 6 ∧ (jRt.getD t []).getD 0 none = some (t + 1) ∧ (jRt.getD t []).getD 1 none = some (t + 3) ∧ (jRt.getD t []).getD 2 none = some (t + 5) ∧ (jRt.getD t []).getD 3 none = some (t + 9) ∧ (jRt.getD t []).getD 4 none = some (t + 11) ∧ (jRt.getD t []).getD 5 none = some (t + 16) ∧ (jRt.getD t []).getD 6 none = some (t + 17) ∧ jKt.getD (t + 16) 99 = 14 ∧ jLt.getD (t + 16) 0 = 6 ∧ jKt.getD (t + 17) 99 = 15 ∧ jLt.getD (t + 17) 0 = 6 ∧ jKt.getD (t + 1) 99 = 4 ∧ jKt.getD (t + 3) 99 = 4 ∧ jKt.getD (t + 5) 99 = 5 ∧ jKt.getD (t + 9) 99 = 1 ∧ jKt.getD (t + 11) 99 = 9
def mX0_init : jM := (yX0_init, cX0_init, 1, none, 3, 0, 0, [], 0)
def mX0_wrongIn : jM := (yX0_wrongIn, cX0_wrongIn, 3, (some .int), 10, 0, 0, [], 0)
def mX0_readLine : jM := (yX0_readLine, cX0_readLine, 2, (some .boolean), 9, 0, 0, [], 0)
def mX0_readSet : jM := (yX0_readSet, cX0_readSet, 3, (some .boolean), 8, 0, 0, [], 0)
def mX0_readSum : jM := (yX0_readSum, cX0_readSum, 7, (some .boolean), 7, 0, 0, [], 0)
def mX0_readJump : jM := (yX0_readJump, cX0_readJump, 7, (some .boolean), 7, 0, 0, [], 0)
def mX0_atom : jM := (yX0_atom, cX0_atom, 2, (some .int), 6, 0, 0, [], 0)
def mX1_init : jM := (yX1_init, cX1_init, 1, none, 2, 0, 0, [], 1)
def mX1_add : jM := (yX1_add, cX1_add, 2, none, 2, 0, 0, [], 1)
def mX1_comparison : jM := (yX1_comparison, cX1_comparison, 3, (some .int), 2, 0, 0, [], 1)
def mX1_holds : jM := (yX1_holds, cX1_holds, 8, (some .boolean), 4, 0, 0, [], 1)
def mX1_compares : jM := (yX1_compares, cX1_compares, 7, (some .boolean), 3, 0, 0, [], 1)
def mX1_valueOf : jM := (yX1_valueOf, cX1_valueOf, 4, (some .int), 2, 0, 0, [], 1)
def mX1_copyOf : jM := (yX1_copyOf, cX1_copyOf, 3, none, 2, 0, 0, [], 1)
def mX2_init : jM := (yX2_init, cX2_init, 1, none, 3, 0, 0, [], 2)
def mX2_wrongIn : jM := (yX2_wrongIn, cX2_wrongIn, 2, (some .int), 60, 0, 0, [], 2)
def mX2_readCondition (z : Nat) : jM := (yX2_readCondition, cX2_readCondition, 4, (some .boolean), z, 0, 0, [], 2)
def mX2_readAll (z : Nat) : jM := (yX2_readAll, cX2_readAll, 4, (some .boolean), z, 0, 0, [], 2)
def mX2_readItem (z : Nat) : jM := (yX2_readItem, cX2_readItem, 4, (some .boolean), z, 0, 0, [], 2)
def mX2_readComparison : jM := (yX2_readComparison, cX2_readComparison, 5, (some .boolean), 7, 0, 0, [], 2)
def mX2_lawAtom : jM := (yX2_lawAtom, cX2_lawAtom, 2, (some .int), 6, 0, 0, [], 2)
def mX3_init : jM := (yX3_init, cX3_init, 1, none, 2, 0, 0, [], 3)
def mX3_of : jM := (yX3_of, cX3_of, 3, none, 4, 0, 0, [], 3)
def mX3_add : jM := (yX3_add, cX3_add, 4, none, 2, 0, 0, [], 3)
def mX3_addNames : jM := (yX3_addNames, cX3_addNames, 6, none, 3, 0, 0, [], 3)
def mX3_addSigns : jM := (yX3_addSigns, cX3_addSigns, 7, none, 3, 0, 0, [], 3)
def mX3_addBounds : jM := (yX3_addBounds, cX3_addBounds, 7, none, 3, 0, 0, [], 3)
def mX3_isNumberAtom : jM := (yX3_isNumberAtom, cX3_isNumberAtom, 1, (some .boolean), 2, 0, 0, [], 3)
def mX3_addWhole : jM := (yX3_addWhole, cX3_addWhole, 5, none, 3, 0, 0, [], 3)
def mX3_plainBehind : jM := (yX3_plainBehind, cX3_plainBehind, 4, (some .int), 2, 0, 0, [], 3)
def mX3_pairs : jM := (yX3_pairs, cX3_pairs, 3, (some .int), 3, 0, 0, [], 3)
def mX3_part : jM := (yX3_part, cX3_part, 5, (some .boolean), 3, 0, 0, [], 3)
def mX3_plainFrom : jM := (yX3_plainFrom, cX3_plainFrom, 6, (some .int), 2, 0, 0, [], 3)
def mX3_shape : jM := (yX3_shape, cX3_shape, 5, (some .boolean), 4, 0, 0, [], 3)
def mX3_change : jM := (yX3_change, cX3_change, 5, none, 3, 0, 0, [], 3)
def mX4_init : jM := (yX4_init, cX4_init, 1, none, 2, 0, 0, [], 4)
def mX4_lineAt : jM := (yX4_lineAt, cX4_lineAt, 2, (some .int), 2, 0, 0, [], 4)
def mX4_putLine : jM := (yX4_putLine, cX4_putLine, 3, none, 2, 0, 0, [], 4)
def mX4_add : jM := (yX4_add, cX4_add, 2, none, 2, 0, 0, [], 4)
def mX4_copyOf : jM := (yX4_copyOf, cX4_copyOf, 3, none, 2, 0, 0, [], 4)
def mX5_init : jM := (yX5_init, cX5_init, 1, none, 2, 0, 0, [], 5)
def mX5_add : jM := (yX5_add, cX5_add, 4, none, 2, 0, 0, [], 5)
def mX5_stepsTo : jM := (yX5_stepsTo, cX5_stepsTo, 5, (some .int), 2, 0, 0, [], 5)
def mX5_copyOf : jM := (yX5_copyOf, cX5_copyOf, 3, none, 2, 0, 0, [], 5)
def mX6_init : jM := (yX6_init, cX6_init, 2, none, 3, 0, 0, [], 6)
def mX6_pushBody : jM := (yX6_pushBody, cX6_pushBody, 2, none, 3, 0, 0, [], 6)
def mX6_popBody : jM := (yX6_popBody, cX6_popBody, 1, (some .boolean), 3, 0, 0, [], 6)
def mX6_copyOf : jM := (yX6_copyOf, cX6_copyOf, 3, none, 3, 0, 0, [], 6)
def mX7_init : jM := (yX7_init, cX7_init, 1, none, 2, 0, 0, [], 7)
def mX7_of : jM := (yX7_of, cX7_of, 5, none, 6, 0, 0, [], 7)
def mX7_doneIn : jM := (yX7_doneIn, cX7_doneIn, 5, (some .int), 2, 0, 0, [], 7)
def mX7_sharedSlice : jM := (yX7_sharedSlice, cX7_sharedSlice, 3, (some .int), 2, 0, 0, [], 7)
def mX8_init : jM := (yX8_init, cX8_init, 1, none, 2, 0, 0, [], 8)
def mX8_add : jM := (yX8_add, cX8_add, 3, none, 2, 0, 0, [], 8)
def mX8_open : jM := (yX8_open, cX8_open, 1, none, 3, 0, 0, [], 8)
def mX8_next : jM := (yX8_next, cX8_next, 2, none, 2, 0, 0, [], 8)
def mX8_isNumber : jM := (yX8_isNumber, cX8_isNumber, 2, (some .boolean), 2, 0, 0, [], 8)
def mX8_isMark : jM := (yX8_isMark, cX8_isMark, 2, (some .boolean), 2, 0, 0, [], 8)
def mX8_isWord : jM := (yX8_isWord, cX8_isWord, 3, (some .boolean), 5, 0, 0, [], 8)
def mX8_letterOf : jM := (yX8_letterOf, cX8_letterOf, 3, (some .int), 5, 0, 0, [], 8)
def mX8_sign : jM := (yX8_sign, cX8_sign, 1, (some .int), 2, 0, 0, [], 8)
def mX9_init : jM := (yX9_init, cX9_init, 1, none, 2, 0, 0, [], 9)
def mX9_forget : jM := (yX9_forget, cX9_forget, 1, none, 2, 0, 0, [], 9)
def mX9_add : jM := (yX9_add, cX9_add, 2, none, 3, 0, 0, [], 9)
def mX9_dropOldest : jM := (yX9_dropOldest, cX9_dropOldest, 2, none, 2, 0, 0, [], 9)
def mX9_copyOf : jM := (yX9_copyOf, cX9_copyOf, 3, none, 2, 0, 0, [], 9)
def mX10_init : jM := (yX10_init, cX10_init, 1, none, 2, 0, 0, [], 10)
def mX10_through : jM := (yX10_through, cX10_through, 6, (some .int), 5, 0, 0, [], 10)
def mX10_begin : jM := (yX10_begin, cX10_begin, 4, none, 2, 0, 0, [], 10)
def mX10_step : jM := (yX10_step, cX10_step, 9, (some .int), 4, 0, 0, [], 10)
def mX10_jump : jM := (yX10_jump, cX10_jump, 3, (some .int), 2, 0, 0, [], 10)
def mX10_restsOf : jM := (yX10_restsOf, cX10_restsOf, 2, (some .int), 2, 0, 0, [], 10)
def mX10_valueOf : jM := (yX10_valueOf, cX10_valueOf, 2, (some .int), 2, 0, 0, [], 10)
def mX10_holds : jM := (yX10_holds, cX10_holds, 6, (some .boolean), 3, 0, 0, [], 10)
def mX10_sumOf : jM := (yX10_sumOf, cX10_sumOf, 10, (some .int), 3, 0, 0, [], 10)
def mX11_init : jM := (yX11_init, cX11_init, 2, none, 4, 0, 0, [], 11)
def mX11_feed : jM := (yX11_feed, cX11_feed, 6, (some .int), 3, 0, 0, [], 11)
def mX11_end : jM := (yX11_end, cX11_end, 2, (some .boolean), 2, 0, 0, [], 11)
def mX11_body : jM := (yX11_body, cX11_body, 2, (some .int), 11, 1, 6, [], 11)
def mX11_law : jM := (yX11_law, cX11_law, 1, (some .boolean), 61, 1, 6, [], 11)
def mX11_fault : jM := (yX11_fault, cX11_fault, 1, (some .int), 2, 0, 0, [], 11)
def mX11_beginAnew : jM := (yX11_beginAnew, cX11_beginAnew, 1, none, 5, 0, 0, [], 11)
def mX11_hasBody : jM := (yX11_hasBody, cX11_hasBody, 1, (some .boolean), 2, 0, 0, [], 11)
def mX11_run : jM := (yX11_run, cX11_run, 4, (some .int), 7, 1, 6, [], 11)
def mX11_putOutPleased : jM := (yX11_putOutPleased, cX11_putOutPleased, 8, none, 6, 0, 0, [], 11)
def mX11_ends : jM := (yX11_ends, cX11_ends, 5, (some .int), 6, 1, 6, [], 11)
def mX11_look : jM := (yX11_look, cX11_look, 5, (some .int), 6, 1, 6, [], 11)
def mX11_done : jM := (yX11_done, cX11_done, 3, (some .int), 7, 1, 6, [], 11)
def mX11_where : jM := (yX11_where, cX11_where, 2, (some .int), 8, 1, 6, [], 11)
def mX11_blameBits : jM := (yX11_blameBits, cX11_blameBits, 7, (some .int), 3, 0, 0, [], 11)
def mX11_freeBits : jM := (yX11_freeBits, cX11_freeBits, 5, (some .int), 7, 0, 0, [], 11)
def mX11_canFree : jM := (yX11_canFree, cX11_canFree, 6, (some .boolean), 6, 0, 0, [], 11)
def mX11_mend : jM := (yX11_mend, cX11_mend, 5, (some .int), 7, 1, 6, [], 11)
def mX11_line : jM := (yX11_line, cX11_line, 5, (some .int), 5, 1, 6, [], 11)
def mX11_tries : jM := (yX11_tries, cX11_tries, 4, (some .int), 7, 1, 6, [], 11)
def mX11_alive : jM := (yX11_alive, cX11_alive, 4, (some .int), 4, 1, 6, [], 11)
def mX11_aliveEnds : jM := (yX11_aliveEnds, cX11_aliveEnds, 5, (some .int), 6, 1, 6, [], 11)
def mX11_keptNumber : jM := (yX11_keptNumber, cX11_keptNumber, 3, (some .int), 2, 0, 0, [], 11)
def mX11_rightBits : jM := (yX11_rightBits, cX11_rightBits, 5, (some .int), 6, 0, 0, [], 11)
def mX11_firstWrong : jM := (yX11_firstWrong, cX11_firstWrong, 4, (some .int), 6, 0, 0, [], 11)
def mX11_teach : jM := (yX11_teach, cX11_teach, 2, (some .int), 2, 1, 6, [], 11)
def mX11_first : jM := (yX11_first, cX11_first, 7, (some .int), 7, 1, 6, [], 11)
def mX11_mostTaught : jM := (yX11_mostTaught, cX11_mostTaught, 5, (some .int), 2, 0, 0, [], 11)
def mX11_box : jM := (yX11_box, cX11_box, 2, none, 2, 1, 6, [], 11)
def mX11_input : jM := (yX11_input, cX11_input, 3, (some .int), 8, 0, 0, [], 11)
def mX11_nearInput : jM := (yX11_nearInput, cX11_nearInput, 6, (some .int), 7, 0, 0, [], 11)
def mX11_endApart : jM := (yX11_endApart, cX11_endApart, 5, (some .boolean), 6, 0, 0, [], 11)
def mX11_askedInput : jM := (yX11_askedInput, cX11_askedInput, 8, (some .int), 7, 0, 0, [], 11)
def mX11_mostAlike : jM := (yX11_mostAlike, cX11_mostAlike, 7, (some .int), 6, 0, 0, [], 11)
def mX11_prove : jM := (yX11_prove, cX11_prove, 4, (some .int), 8, 1, 6, [], 11)
def mX11_breaks : jM := (yX11_breaks, cX11_breaks, 5, (some .int), 7, 0, 0, [], 11)
def mX11_firstBreak : jM := (yX11_firstBreak, cX11_firstBreak, 4, (some .int), 7, 0, 0, [], 11)
def mX11_breaksOn : jM := (yX11_breaksOn, cX11_breaksOn, 5, (some .boolean), 6, 0, 0, [], 11)
def mX11_bar : jM := (yX11_bar, cX11_bar, 5, (some .int), 8, 1, 6, [], 11)
def mX11_otherwise : jM := (yX11_otherwise, cX11_otherwise, 6, (some .int), 6, 1, 6, [], 11)
def mX11_heaps : jM := (yX11_heaps, cX11_heaps, 6, (some .int), 8, 1, 6, [], 11)
def mX11_listGains : jM := (yX11_listGains, cX11_listGains, 8, (some .int), 7, 0, 0, [], 11)
def mX11_fewestMends : jM := (yX11_fewestMends, cX11_fewestMends, 4, (some .int), 3, 0, 0, [], 11)
def mX11_lowestBit : jM := (yX11_lowestBit, cX11_lowestBit, 1, (some .int), 2, 0, 0, [], 11)
def mX11_addGains : jM := (yX11_addGains, cX11_addGains, 7, none, 2, 0, 0, [], 11)
def mX11_putIn : jM := (yX11_putIn, cX11_putIn, 5, (some .int), 8, 1, 6, [], 11)
def mX11_judgeFault : jM := (yX11_judgeFault, cX11_judgeFault, 5, (some .int), 7, 0, 0, [], 11)
def mX11_endsAsAsked : jM := (yX11_endsAsAsked, cX11_endsAsAsked, 4, (some .boolean), 6, 0, 0, [], 11)
def mX11_endsAsBody : jM := (yX11_endsAsBody, cX11_endsAsBody, 4, (some .boolean), 6, 0, 0, [], 11)
def mX11_isNumber : jM := (yX11_isNumber, cX11_isNumber, 1, (some .boolean), 2, 0, 0, [], 11)
def mX11_make : jM := (yX11_make, cX11_make, 3, (some .int), 6, 1, 6, [], 11)
def mX11_takeBack : jM := (yX11_takeBack, cX11_takeBack, 1, (some .boolean), 6, 0, 0, [], 11)
def mX11_row : jM := (yX11_row, cX11_row, 4, (some .int), 2, 1, 6, [], 11)
def mX11_tear : jM := (yX11_tear, cX11_tear, 4, (some .int), 2, 1, 6, [], 11)
def mX11_check : jM := (yX11_check, cX11_check, 3, (some .int), 2, 0, 0, [], 11)
def mX11_image : jM := (yX11_image, cX11_image, 1, none, 4, 0, 0, [], 11)
def mX11_back : jM := (yX11_back, cX11_back, 1, (some .boolean), 5, 0, 0, [], 11)
def mX11_count : jM := (yX11_count, cX11_count, 3, (some .int), 7, 0, 0, [], 11)
def mX11_packed : jM := (yX11_packed, cX11_packed, 6, (some .int), 2, 0, 0, [], 11)
def mX11_kindOf : jM := (yX11_kindOf, cX11_kindOf, 1, (some .int), 2, 0, 0, [], 11)
def mX11_madeOf : jM := (yX11_madeOf, cX11_madeOf, 1, (some .int), 2, 0, 0, [], 11)
def mX11_firstOf : jM := (yX11_firstOf, cX11_firstOf, 1, (some .int), 2, 0, 0, [], 11)
def mX11_signOf : jM := (yX11_signOf, cX11_signOf, 1, (some .int), 2, 0, 0, [], 11)
def mX11_secondOf : jM := (yX11_secondOf, cX11_secondOf, 1, (some .int), 2, 0, 0, [], 11)
def mX11_countOf : jM := (yX11_countOf, cX11_countOf, 1, (some .int), 2, 0, 0, [], 11)
def mX11_withMade : jM := (yX11_withMade, cX11_withMade, 2, (some .int), 2, 0, 0, [], 11)
def mX11_withFirst : jM := (yX11_withFirst, cX11_withFirst, 2, (some .int), 2, 0, 0, [], 11)
def mX11_withSign : jM := (yX11_withSign, cX11_withSign, 2, (some .int), 2, 0, 0, [], 11)
def mX11_withSecond : jM := (yX11_withSecond, cX11_withSecond, 2, (some .int), 2, 0, 0, [], 11)
def mX11_withCount : jM := (yX11_withCount, cX11_withCount, 2, (some .int), 2, 0, 0, [], 11)
def mX12_thrown : jM := (yX12_thrown, cX12_thrown, 1, (some .int), 2, 0, 0, [], 12)
def mX12_throwsIf : jM := (yX12_throwsIf, cX12_throwsIf, 3, (some .boolean), 2, 0, 0, [], 12)
def mX12_in : jM := (yX12_in, cX12_in, 3, (some .boolean), 2, 0, 0, [], 12)
def mX12_init : jM := (yX12_init, cX12_init, 1, none, 2, 0, 0, [], 12)
def mX12_image : jM := (yX12_image, cX12_image, 2, none, 2, 0, 0, [], 12)
def mX12_back : jM := (yX12_back, cX12_back, 2, (some .boolean), 2, 0, 0, [], 12)
def mX12_feed : jM := (yX12_feed, cX12_feed, 7, (some .int), 2, 0, 0, [], 12)
def mX12_end : jM := (yX12_end, cX12_end, 2, (some .boolean), 2, 0, 0, [], 12)
def mX12_uses : jM := (yX12_uses, cX12_uses, 1, none, 2, 0, 0, [], 12)
def mX12_isAt : jM := (yX12_isAt, cX12_isAt, 3, (some .boolean), 2, 0, 0, [], 12)
def mX12_blanks : jM := (yX12_blanks, cX12_blanks, 1, none, 3, 0, 0, [], 12)
def mX12_letters : jM := (yX12_letters, cX12_letters, 1, none, 4, 0, 0, [], 12)
def mX12_isWord : jM := (yX12_isWord, cX12_isWord, 4, (some .boolean), 5, 0, 0, [], 12)
def mX12_passes : jM := (yX12_passes, cX12_passes, 2, (some .boolean), 6, 0, 0, [], 12)
def mX12_needs : jM := (yX12_needs, cX12_needs, 2, (some .boolean), 6, 0, 0, [], 12)
def mX12_sign : jM := (yX12_sign, cX12_sign, 2, (some .boolean), 4, 0, 0, [], 12)
def mX12_number : jM := (yX12_number, cX12_number, 4, (some .int), 4, 0, 0, [], 12)
def mX12_fault : jM := (yX12_fault, cX12_fault, 1, (some .int), 2, 0, 0, [], 12)
def mX12_readAtom : jM := (yX12_readAtom, cX12_readAtom, 2, (some .int), 5, 0, 0, [], 12)
def mX12_readSum : jM := (yX12_readSum, cX12_readSum, 3, (some .boolean), 6, 0, 0, [], 12)
def mX12_readTest : jM := (yX12_readTest, cX12_readTest, 2, (some .boolean), 6, 0, 0, [], 12)
def mX12_clears : jM := (yX12_clears, cX12_clears, 2, none, 2, 0, 0, [], 12)
def mX12_readLine : jM := (yX12_readLine, cX12_readLine, 3, (some .boolean), 7, 0, 0, [], 12)
def mX12_readAll : jM := (yX12_readAll, cX12_readAll, 2, (some .int), 8, 0, 0, [], 12)
def mX12_forgets : jM := (yX12_forgets, cX12_forgets, 1, none, 2, 0, 0, [], 12)
def mX12_body : jM := (yX12_body, cX12_body, 4, (some .int), 9, 0, 0, [], 12)
def mX12_emits : jM := (yX12_emits, cX12_emits, 3, none, 2, 0, 0, [], 12)
def mX12_readLawAtom : jM := (yX12_readLawAtom, cX12_readLawAtom, 2, (some .boolean), 6, 0, 0, [], 12)
def mX12_readItem (z : Nat) : jM := (yX12_readItem, cX12_readItem, 2, (some .boolean), z, 0, 0, [], 12)
def mX12_readAllOf (z : Nat) : jM := (yX12_readAllOf, cX12_readAllOf, 1, (some .boolean), z, 0, 0, [], 12)
def mX12_readCond (z : Nat) : jM := (yX12_readCond, cX12_readCond, 1, (some .boolean), z, 0, 0, [], 12)
def mX12_readLaw : jM := (yX12_readLaw, cX12_readLaw, 1, (some .boolean), 60, 0, 0, [], 12)
def mX12_law : jM := (yX12_law, cX12_law, 3, (some .boolean), 61, 0, 0, [], 12)
def mX12_keeps : jM := (yX12_keeps, cX12_keeps, 10, (some .boolean), 2, 0, 0, [], 12)
def mX12_atomOf : jM := (yX12_atomOf, cX12_atomOf, 4, (some .int), 2, 0, 0, [], 12)
def mX12_restOf : jM := (yX12_restOf, cX12_restOf, 2, (some .int), 3, 0, 0, [], 12)
def mX12_sumOf : jM := (yX12_sumOf, cX12_sumOf, 11, (some .long), 3, 0, 0, [], 12)
def mX12_meets : jM := (yX12_meets, cX12_meets, 7, (some .boolean), 3, 0, 0, [], 12)
def mX12_goes : jM := (yX12_goes, cX12_goes, 11, (some .int), 4, 0, 0, [], 12)
def mX12_lays : jM := (yX12_lays, cX12_lays, 3, none, 2, 0, 0, [], 12)
def mX12_endOn : jM := (yX12_endOn, cX12_endOn, 2, (some .int), 6, 0, 0, [], 12)
def mX12_endAt : jM := (yX12_endAt, cX12_endAt, 3, (some .int), 5, 0, 0, [], 12)
def mX12_isRight : jM := (yX12_isRight, cX12_isRight, 2, (some .boolean), 7, 0, 0, [], 12)
def mX12_lines : jM := (yX12_lines, cX12_lines, 1, (some .int), 2, 0, 0, [], 12)
def mX12_noRun : jM := (yX12_noRun, cX12_noRun, 2, (some .boolean), 3, 0, 0, [], 12)
def mX12_ends : jM := (yX12_ends, cX12_ends, 4, (some .int), 6, 0, 0, [], 12)
def mX12_look : jM := (yX12_look, cX12_look, 4, (some .int), 7, 0, 0, [], 12)
def mX12_doneIn : jM := (yX12_doneIn, cX12_doneIn, 5, (some .int), 8, 0, 0, [], 12)
def mX12_done : jM := (yX12_done, cX12_done, 3, (some .int), 9, 0, 0, [], 12)
def mX12_wrongMany : jM := (yX12_wrongMany, cX12_wrongMany, 3, (some .int), 8, 0, 0, [], 12)
def mX12_blame : jM := (yX12_blame, cX12_blame, 7, (some .int), 9, 0, 0, [], 12)
def mX12_canBeRight : jM := (yX12_canBeRight, cX12_canBeRight, 5, (some .boolean), 5, 0, 0, [], 12)
def mX12_free : jM := (yX12_free, cX12_free, 5, (some .int), 9, 0, 0, [], 12)
def mX12_slices : jM := (yX12_slices, cX12_slices, 3, (some .int), 8, 0, 0, [], 12)
def mX12_where : jM := (yX12_where, cX12_where, 2, (some .int), 10, 0, 0, [], 12)
def mX12_mends : jM := (yX12_mends, cX12_mends, 7, none, 2, 0, 0, [], 12)
def mX12_isUnlike : jM := (yX12_isUnlike, cX12_isUnlike, 5, (some .boolean), 2, 0, 0, [], 12)
def mX12_each : jM := (yX12_each, cX12_each, 7, none, 3, 0, 0, [], 12)
def mX12_beside : jM := (yX12_beside, cX12_beside, 6, none, 3, 0, 0, [], 12)
def mX12_lists : jM := (yX12_lists, cX12_lists, 7, none, 4, 0, 0, [], 12)
def mX12_mendsBy : jM := (yX12_mendsBy, cX12_mendsBy, 4, none, 2, 0, 0, [], 12)
def mX12_plain : jM := (yX12_plain, cX12_plain, 2, none, 2, 0, 0, [], 12)
def mX12_laysBy : jM := (yX12_laysBy, cX12_laysBy, 3, none, 3, 0, 0, [], 12)
def mX12_allRight : jM := (yX12_allRight, cX12_allRight, 2, (some .int), 8, 0, 0, [], 12)
def mX12_listsBody : jM := (yX12_listsBody, cX12_listsBody, 1, none, 5, 0, 0, [], 12)
def mX12_noMend : jM := (yX12_noMend, cX12_noMend, 2, (some .boolean), 3, 0, 0, [], 12)
def mX12_turned : jM := (yX12_turned, cX12_turned, 6, (some .int), 8, 0, 0, [], 12)
def mX12_mend : jM := (yX12_mend, cX12_mend, 3, (some .int), 9, 0, 0, [], 12)
def mX12_line : jM := (yX12_line, cX12_line, 4, (some .int), 6, 0, 0, [], 12)
def mX12_canPair : jM := (yX12_canPair, cX12_canPair, 3, (some .boolean), 2, 0, 0, [], 12)
def mX12_doubles : jM := (yX12_doubles, cX12_doubles, 4, (some .int), 3, 0, 0, [], 12)
def mX12_notes : jM := (yX12_notes, cX12_notes, 4, none, 2, 0, 0, [], 12)
def mX12_attempt : jM := (yX12_attempt, cX12_attempt, 6, none, 9, 0, 0, [], 12)
def mX12_tries : jM := (yX12_tries, cX12_tries, 7, (some .int), 10, 0, 0, [], 12)
def mX12_laysAlive : jM := (yX12_laysAlive, cX12_laysAlive, 2, none, 4, 0, 0, [], 12)
def mX12_noAlive : jM := (yX12_noAlive, cX12_noAlive, 2, (some .boolean), 3, 0, 0, [], 12)
def mX12_putsOut : jM := (yX12_putsOut, cX12_putsOut, 3, none, 2, 0, 0, [], 12)
def mX12_run : jM := (yX12_run, cX12_run, 6, (some .int), 8, 0, 0, [], 12)
def mX12_alive : jM := (yX12_alive, cX12_alive, 3, (some .int), 4, 0, 0, [], 12)
def mX12_aliveEnds : jM := (yX12_aliveEnds, cX12_aliveEnds, 4, (some .int), 6, 0, 0, [], 12)
def mX12_teach : jM := (yX12_teach, cX12_teach, 2, (some .int), 3, 0, 0, [], 12)
def mX12_isAhead : jM := (yX12_isAhead, cX12_isAhead, 3, (some .boolean), 2, 0, 0, [], 12)
def mX12_first : jM := (yX12_first, cX12_first, 5, (some .int), 9, 0, 0, [], 12)
def mX12_box : jM := (yX12_box, cX12_box, 2, none, 3, 0, 0, [], 12)
def mX12_endsOfAll : jM := (yX12_endsOfAll, cX12_endsOfAll, 4, none, 6, 0, 0, [], 12)
def mX12_mostAlike : jM := (yX12_mostAlike, cX12_mostAlike, 5, (some .int), 2, 0, 0, [], 12)
def mX12_nearest : jM := (yX12_nearest, cX12_nearest, 6, (some .int), 2, 0, 0, [], 12)
def mX12_input : jM := (yX12_input, cX12_input, 8, (some .int), 7, 0, 0, [], 12)
def mX12_broken : jM := (yX12_broken, cX12_broken, 5, (some .int), 6, 0, 0, [], 12)
def mX12_prove : jM := (yX12_prove, cX12_prove, 4, (some .int), 7, 0, 0, [], 12)
def mX12_bar : jM := (yX12_bar, cX12_bar, 3, (some .int), 7, 0, 0, [], 12)
def mX12_otherwise : jM := (yX12_otherwise, cX12_otherwise, 6, (some .int), 6, 0, 0, [], 12)
def mX12_heaps : jM := (yX12_heaps, cX12_heaps, 6, (some .int), 9, 0, 0, [], 12)
def mX12_isAsBody : jM := (yX12_isAsBody, cX12_isAsBody, 8, (some .boolean), 6, 0, 0, [], 12)
def mX12_endsAsDue : jM := (yX12_endsAsDue, cX12_endsAsDue, 3, (some .boolean), 7, 0, 0, [], 12)
def mX12_putIn : jM := (yX12_putIn, cX12_putIn, 5, (some .int), 8, 0, 0, [], 12)
def mX12_make : jM := (yX12_make, cX12_make, 3, (some .int), 6, 0, 0, [], 12)
def mX12_takeBack : jM := (yX12_takeBack, cX12_takeBack, 2, (some .boolean), 3, 0, 0, [], 12)
def mX12_noRow : jM := (yX12_noRow, cX12_noRow, 2, (some .boolean), 3, 0, 0, [], 12)
def mX12_row : jM := (yX12_row, cX12_row, 3, (some .int), 4, 0, 0, [], 12)
def mX12_tear : jM := (yX12_tear, cX12_tear, 3, (some .int), 4, 0, 0, [], 12)
def mX12_check : jM := (yX12_check, cX12_check, 2, (some .int), 2, 0, 0, [], 12)
def mX12_count : jM := (yX12_count, cX12_count, 2, (some .int), 9, 0, 0, [], 12)
set_option maxRecDepth 100000 in
theorem kX0_wrongIn : jlk (jcw mX0_wrongIn) := jlkT (jtb3 209 rfl) rfl
set_option maxRecDepth 100000 in
theorem sX0_wrongIn : ∀ w ∈ ([.instanceMethod yX0_wrongIn, .selects (jCn 0) yX0_wrongIn yX0_wrongIn, .initialized (jCn 0)] : List Cond), jlk w := j3 (jlkT (jtb3 208 rfl) rfl) (jlkS 38 rfl rfl) (jlkT (jtb1 3 rfl) rfl)
set_option maxRecDepth 100000 in
theorem kX0_readLine : jlk (jcw mX0_readLine) := jlkT (jtb3 221 rfl) rfl
set_option maxRecDepth 100000 in
theorem sX0_readLine : ∀ w ∈ ([.instanceMethod yX0_readLine, .selects (jCn 0) yX0_readLine yX0_readLine, .initialized (jCn 0)] : List Cond), jlk w := j3 (jlkT (jtb3 220 rfl) rfl) (jlkS 41 rfl rfl) (jlkT (jtb1 3 rfl) rfl)
set_option maxRecDepth 100000 in
theorem kX0_readSet : jlk (jcw mX0_readSet) := jlkT (jtb4 38 rfl) rfl
set_option maxRecDepth 100000 in
theorem sX0_readSet : ∀ w ∈ ([.instanceMethod yX0_readSet, .selects (jCn 0) yX0_readSet yX0_readSet, .initialized (jCn 0)] : List Cond), jlk w := j3 (jlkT (jtb4 37 rfl) rfl) (jlkS 43 rfl rfl) (jlkT (jtb1 3 rfl) rfl)
set_option maxRecDepth 100000 in
theorem kX0_readSum : jlk (jcw mX0_readSum) := jlkT (jtb4 52 rfl) rfl
set_option maxRecDepth 100000 in
theorem sX0_readSum : ∀ w ∈ ([.instanceMethod yX0_readSum, .selects (jCn 0) yX0_readSum yX0_readSum, .initialized (jCn 0)] : List Cond), jlk w := j3 (jlkT (jtb4 51 rfl) rfl) (jlkS 46 rfl rfl) (jlkT (jtb1 3 rfl) rfl)
set_option maxRecDepth 100000 in
theorem kX0_readJump : jlk (jcw mX0_readJump) := jlkT (jtb4 77 rfl) rfl
set_option maxRecDepth 100000 in
theorem sX0_readJump : ∀ w ∈ ([.instanceMethod yX0_readJump, .selects (jCn 0) yX0_readJump yX0_readJump, .initialized (jCn 0)] : List Cond), jlk w := j3 (jlkT (jtb4 76 rfl) rfl) (jlkS 51 rfl rfl) (jlkT (jtb1 3 rfl) rfl)
set_option maxRecDepth 100000 in
theorem kX0_atom : jlk (jcw mX0_atom) := jlkT (jtb4 56 rfl) rfl
set_option maxRecDepth 100000 in
theorem sX0_atom : ∀ w ∈ ([.instanceMethod yX0_atom, .selects (jCn 0) yX0_atom yX0_atom, .initialized (jCn 0)] : List Cond), jlk w := j3 (jlkT (jtb4 55 rfl) rfl) (jlkS 47 rfl rfl) (jlkT (jtb1 3 rfl) rfl)
set_option maxRecDepth 100000 in
theorem kX1_add : jlk (jcw mX1_add) := jlkT (jtb4 197 rfl) rfl
set_option maxRecDepth 100000 in
theorem sX1_add : ∀ w ∈ ([.instanceMethod yX1_add, .selects (jCn 1) yX1_add yX1_add, .initialized (jCn 1)] : List Cond), jlk w := j3 (jlkT (jtb4 196 rfl) rfl) (jlkS 59 rfl rfl) (jlkT (jtb1 6 rfl) rfl)
set_option maxRecDepth 100000 in
theorem kX1_comparison : jlk (jcw mX1_comparison) := jlkT (jtb4 193 rfl) rfl
set_option maxRecDepth 100000 in
theorem sX1_comparison : ∀ w ∈ ([.static yX1_comparison, .initialized yX1_comparison.cls] : List Cond), jlk w := j2 (jlkT (jtb4 192 rfl) rfl) (jlkT (jtb1 6 rfl) rfl)
set_option maxRecDepth 100000 in
theorem kX1_holds : jlk (jcw mX1_holds) := jlkT (jtb5 208 rfl) rfl
set_option maxRecDepth 100000 in
theorem sX1_holds : ∀ w ∈ ([.instanceMethod yX1_holds, .selects (jCn 1) yX1_holds yX1_holds, .initialized (jCn 1)] : List Cond), jlk w := j3 (jlkT (jtb5 207 rfl) rfl) (jlkS 74 rfl rfl) (jlkT (jtb1 6 rfl) rfl)
set_option maxRecDepth 100000 in
theorem kX1_compares : jlk (jcw mX1_compares) := jlkT (jtb5 211 rfl) rfl
set_option maxRecDepth 100000 in
theorem sX1_compares : ∀ w ∈ ([.static yX1_compares, .initialized yX1_compares.cls] : List Cond), jlk w := j2 (jlkT (jtb5 210 rfl) rfl) (jlkT (jtb1 6 rfl) rfl)
set_option maxRecDepth 100000 in
theorem kX1_valueOf : jlk (jcw mX1_valueOf) := jlkT (jtb5 214 rfl) rfl
set_option maxRecDepth 100000 in
theorem sX1_valueOf : ∀ w ∈ ([.static yX1_valueOf, .initialized yX1_valueOf.cls] : List Cond), jlk w := j2 (jlkT (jtb5 213 rfl) rfl) (jlkT (jtb1 6 rfl) rfl)
set_option maxRecDepth 100000 in
theorem kX1_copyOf : jlk (jcw mX1_copyOf) := jlkT (jtb3 167 rfl) rfl
set_option maxRecDepth 100000 in
theorem sX1_copyOf : ∀ w ∈ ([.instanceMethod yX1_copyOf, .selects (jCn 1) yX1_copyOf yX1_copyOf, .initialized (jCn 1)] : List Cond), jlk w := j3 (jlkT (jtb3 166 rfl) rfl) (jlkS 33 rfl rfl) (jlkT (jtb1 6 rfl) rfl)
set_option maxRecDepth 100000 in
theorem kX2_wrongIn : jlk (jcw mX2_wrongIn) := jlkT (jtb4 161 rfl) rfl
set_option maxRecDepth 100000 in
theorem sX2_wrongIn : ∀ w ∈ ([.instanceMethod yX2_wrongIn, .selects (jCn 2) yX2_wrongIn yX2_wrongIn, .initialized (jCn 2)] : List Cond), jlk w := j3 (jlkT (jtb4 160 rfl) rfl) (jlkS 53 rfl rfl) (jlkT (jtb1 5 rfl) rfl)
set_option maxRecDepth 100000 in
theorem kX2_readCondition {z : Nat} : jlk (jcw (mX2_readCondition z)) := jlkT (jtb4 166 rfl) rfl
set_option maxRecDepth 100000 in
theorem sX2_readCondition : ∀ w ∈ ([.instanceMethod yX2_readCondition, .selects (jCn 2) yX2_readCondition yX2_readCondition, .initialized (jCn 2)] : List Cond), jlk w := j3 (jlkT (jtb4 165 rfl) rfl) (jlkS 54 rfl rfl) (jlkT (jtb1 5 rfl) rfl)
set_option maxRecDepth 100000 in
theorem kX2_readAll {z : Nat} : jlk (jcw (mX2_readAll z)) := jlkT (jtb4 170 rfl) rfl
set_option maxRecDepth 100000 in
theorem sX2_readAll : ∀ w ∈ ([.instanceMethod yX2_readAll, .selects (jCn 2) yX2_readAll yX2_readAll, .initialized (jCn 2)] : List Cond), jlk w := j3 (jlkT (jtb4 169 rfl) rfl) (jlkS 55 rfl rfl) (jlkT (jtb1 5 rfl) rfl)
set_option maxRecDepth 100000 in
theorem kX2_readItem {z : Nat} : jlk (jcw (mX2_readItem z)) := jlkT (jtb4 174 rfl) rfl
set_option maxRecDepth 100000 in
theorem sX2_readItem : ∀ w ∈ ([.instanceMethod yX2_readItem, .selects (jCn 2) yX2_readItem yX2_readItem, .initialized (jCn 2)] : List Cond), jlk w := j3 (jlkT (jtb4 173 rfl) rfl) (jlkS 56 rfl rfl) (jlkT (jtb1 5 rfl) rfl)
set_option maxRecDepth 100000 in
theorem kX2_readComparison : jlk (jcw mX2_readComparison) := jlkT (jtb4 181 rfl) rfl
set_option maxRecDepth 100000 in
theorem sX2_readComparison : ∀ w ∈ ([.instanceMethod yX2_readComparison, .selects (jCn 2) yX2_readComparison yX2_readComparison, .initialized (jCn 2)] : List Cond), jlk w := j3 (jlkT (jtb4 180 rfl) rfl) (jlkS 57 rfl rfl) (jlkT (jtb1 5 rfl) rfl)
set_option maxRecDepth 100000 in
theorem kX2_lawAtom : jlk (jcw mX2_lawAtom) := jlkT (jtb4 185 rfl) rfl
set_option maxRecDepth 100000 in
theorem sX2_lawAtom : ∀ w ∈ ([.instanceMethod yX2_lawAtom, .selects (jCn 2) yX2_lawAtom yX2_lawAtom, .initialized (jCn 2)] : List Cond), jlk w := j3 (jlkT (jtb4 184 rfl) rfl) (jlkS 58 rfl rfl) (jlkT (jtb1 5 rfl) rfl)
set_option maxRecDepth 100000 in
theorem kX3_of : jlk (jcw mX3_of) := jlkT (jtb3 100 rfl) rfl
set_option maxRecDepth 100000 in
theorem sX3_of : ∀ w ∈ ([.instanceMethod yX3_of, .selects (jCn 3) yX3_of yX3_of, .initialized (jCn 3)] : List Cond), jlk w := j3 (jlkT (jtb3 99 rfl) rfl) (jlkS 25 rfl rfl) (jlkT (jtb1 12 rfl) rfl)
set_option maxRecDepth 100000 in
theorem kX3_add : jlk (jcw mX3_add) := jlkT (jtb3 113 rfl) rfl
set_option maxRecDepth 100000 in
theorem sX3_add : ∀ w ∈ ([.instanceMethod yX3_add, .selects (jCn 3) yX3_add yX3_add, .initialized (jCn 3)] : List Cond), jlk w := j3 (jlkT (jtb3 112 rfl) rfl) (jlkS 27 rfl rfl) (jlkT (jtb1 12 rfl) rfl)
set_option maxRecDepth 100000 in
theorem kX3_addNames : jlk (jcw mX3_addNames) := jlkT (jtb3 104 rfl) rfl
set_option maxRecDepth 100000 in
theorem sX3_addNames : ∀ w ∈ ([.instanceMethod yX3_addNames, .selects (jCn 3) yX3_addNames yX3_addNames, .initialized (jCn 3)] : List Cond), jlk w := j3 (jlkT (jtb3 103 rfl) rfl) (jlkS 26 rfl rfl) (jlkT (jtb1 12 rfl) rfl)
set_option maxRecDepth 100000 in
theorem kX3_addSigns : jlk (jcw mX3_addSigns) := jlkT (jtb3 126 rfl) rfl
set_option maxRecDepth 100000 in
theorem sX3_addSigns : ∀ w ∈ ([.instanceMethod yX3_addSigns, .selects (jCn 3) yX3_addSigns yX3_addSigns, .initialized (jCn 3)] : List Cond), jlk w := j3 (jlkT (jtb3 125 rfl) rfl) (jlkS 28 rfl rfl) (jlkT (jtb1 12 rfl) rfl)
set_option maxRecDepth 100000 in
theorem kX3_addBounds : jlk (jcw mX3_addBounds) := jlkT (jtb3 135 rfl) rfl
set_option maxRecDepth 100000 in
theorem sX3_addBounds : ∀ w ∈ ([.instanceMethod yX3_addBounds, .selects (jCn 3) yX3_addBounds yX3_addBounds, .initialized (jCn 3)] : List Cond), jlk w := j3 (jlkT (jtb3 134 rfl) rfl) (jlkS 29 rfl rfl) (jlkT (jtb1 12 rfl) rfl)
set_option maxRecDepth 100000 in
theorem kX3_isNumberAtom : jlk (jcw mX3_isNumberAtom) := jlkT (jtb3 139 rfl) rfl
set_option maxRecDepth 100000 in
theorem sX3_isNumberAtom : ∀ w ∈ ([.static yX3_isNumberAtom, .initialized yX3_isNumberAtom.cls] : List Cond), jlk w := j2 (jlkT (jtb3 138 rfl) rfl) (jlkT (jtb1 12 rfl) rfl)
set_option maxRecDepth 100000 in
theorem kX3_addWhole : jlk (jcw mX3_addWhole) := jlkT (jtb3 147 rfl) rfl
set_option maxRecDepth 100000 in
theorem sX3_addWhole : ∀ w ∈ ([.instanceMethod yX3_addWhole, .selects (jCn 3) yX3_addWhole yX3_addWhole, .initialized (jCn 3)] : List Cond), jlk w := j3 (jlkT (jtb3 146 rfl) rfl) (jlkS 30 rfl rfl) (jlkT (jtb1 12 rfl) rfl)
set_option maxRecDepth 100000 in
theorem kX3_plainBehind : jlk (jcw mX3_plainBehind) := jlkT (jtb2 214 rfl) rfl
set_option maxRecDepth 100000 in
theorem sX3_plainBehind : ∀ w ∈ ([.instanceMethod yX3_plainBehind, .selects (jCn 3) yX3_plainBehind yX3_plainBehind, .initialized (jCn 3)] : List Cond), jlk w := j3 (jlkT (jtb2 213 rfl) rfl) (jlkS 5 rfl rfl) (jlkT (jtb1 12 rfl) rfl)
set_option maxRecDepth 100000 in
theorem kX3_pairs : jlk (jcw mX3_pairs) := jlkT (jtb3 197 rfl) rfl
set_option maxRecDepth 100000 in
theorem sX3_pairs : ∀ w ∈ ([.instanceMethod yX3_pairs, .selects (jCn 3) yX3_pairs yX3_pairs, .initialized (jCn 3)] : List Cond), jlk w := j3 (jlkT (jtb3 196 rfl) rfl) (jlkS 37 rfl rfl) (jlkT (jtb1 12 rfl) rfl)
set_option maxRecDepth 100000 in
theorem kX3_part : jlk (jcw mX3_part) := jlkT (jtb2 210 rfl) rfl
set_option maxRecDepth 100000 in
theorem sX3_part : ∀ w ∈ ([.instanceMethod yX3_part, .selects (jCn 3) yX3_part yX3_part, .initialized (jCn 3)] : List Cond), jlk w := j3 (jlkT (jtb2 209 rfl) rfl) (jlkS 4 rfl rfl) (jlkT (jtb1 12 rfl) rfl)
set_option maxRecDepth 100000 in
theorem kX3_plainFrom : jlk (jcw mX3_plainFrom) := jlkT (jtb2 218 rfl) rfl
set_option maxRecDepth 100000 in
theorem sX3_plainFrom : ∀ w ∈ ([.instanceMethod yX3_plainFrom, .selects (jCn 3) yX3_plainFrom yX3_plainFrom, .initialized (jCn 3)] : List Cond), jlk w := j3 (jlkT (jtb2 217 rfl) rfl) (jlkS 6 rfl rfl) (jlkT (jtb1 12 rfl) rfl)
set_option maxRecDepth 100000 in
theorem kX3_shape : jlk (jcw mX3_shape) := jlkT (jtb2 202 rfl) rfl
set_option maxRecDepth 100000 in
theorem sX3_shape : ∀ w ∈ ([.instanceMethod yX3_shape, .selects (jCn 3) yX3_shape yX3_shape, .initialized (jCn 3)] : List Cond), jlk w := j3 (jlkT (jtb2 201 rfl) rfl) (jlkS 2 rfl rfl) (jlkT (jtb1 12 rfl) rfl)
set_option maxRecDepth 100000 in
theorem kX3_change : jlk (jcw mX3_change) := jlkT (jtb2 222 rfl) rfl
set_option maxRecDepth 100000 in
theorem sX3_change : ∀ w ∈ ([.instanceMethod yX3_change, .selects (jCn 3) yX3_change yX3_change, .initialized (jCn 3)] : List Cond), jlk w := j3 (jlkT (jtb2 221 rfl) rfl) (jlkS 7 rfl rfl) (jlkT (jtb1 12 rfl) rfl)
set_option maxRecDepth 100000 in
theorem kX4_lineAt : jlk (jcw mX4_lineAt) := jlkT (jtb2 226 rfl) rfl
set_option maxRecDepth 100000 in
theorem sX4_lineAt : ∀ w ∈ ([.instanceMethod yX4_lineAt, .selects (jCn 4) yX4_lineAt yX4_lineAt, .initialized (jCn 4)] : List Cond), jlk w := j3 (jlkT (jtb2 225 rfl) rfl) (jlkS 8 rfl rfl) (jlkT (jtb1 4 rfl) rfl)
set_option maxRecDepth 100000 in
theorem kX4_putLine : jlk (jcw mX4_putLine) := jlkT (jtb2 230 rfl) rfl
set_option maxRecDepth 100000 in
theorem sX4_putLine : ∀ w ∈ ([.instanceMethod yX4_putLine, .selects (jCn 4) yX4_putLine yX4_putLine, .initialized (jCn 4)] : List Cond), jlk w := j3 (jlkT (jtb2 229 rfl) rfl) (jlkS 9 rfl rfl) (jlkT (jtb1 4 rfl) rfl)
set_option maxRecDepth 100000 in
theorem kX4_add : jlk (jcw mX4_add) := jlkT (jtb4 72 rfl) rfl
set_option maxRecDepth 100000 in
theorem sX4_add : ∀ w ∈ ([.instanceMethod yX4_add, .selects (jCn 4) yX4_add yX4_add, .initialized (jCn 4)] : List Cond), jlk w := j3 (jlkT (jtb4 71 rfl) rfl) (jlkS 50 rfl rfl) (jlkT (jtb1 4 rfl) rfl)
set_option maxRecDepth 100000 in
theorem kX4_copyOf : jlk (jcw mX4_copyOf) := jlkT (jtb2 206 rfl) rfl
set_option maxRecDepth 100000 in
theorem sX4_copyOf : ∀ w ∈ ([.instanceMethod yX4_copyOf, .selects (jCn 4) yX4_copyOf yX4_copyOf, .initialized (jCn 4)] : List Cond), jlk w := j3 (jlkT (jtb2 205 rfl) rfl) (jlkS 3 rfl rfl) (jlkT (jtb1 4 rfl) rfl)
set_option maxRecDepth 100000 in
theorem kX5_add : jlk (jcw mX5_add) := jlkT (jtb4 232 rfl) rfl
set_option maxRecDepth 100000 in
theorem sX5_add : ∀ w ∈ ([.instanceMethod yX5_add, .selects (jCn 5) yX5_add yX5_add, .initialized (jCn 5)] : List Cond), jlk w := j3 (jlkT (jtb4 231 rfl) rfl) (jlkS 60 rfl rfl) (jlkT (jtb1 8 rfl) rfl)
set_option maxRecDepth 100000 in
theorem kX5_stepsTo : jlk (jcw mX5_stepsTo) := jlkT (jtb2 238 rfl) rfl
set_option maxRecDepth 100000 in
theorem sX5_stepsTo : ∀ w ∈ ([.instanceMethod yX5_stepsTo, .selects (jCn 5) yX5_stepsTo yX5_stepsTo, .initialized (jCn 5)] : List Cond), jlk w := j3 (jlkT (jtb2 237 rfl) rfl) (jlkS 11 rfl rfl) (jlkT (jtb1 8 rfl) rfl)
set_option maxRecDepth 100000 in
theorem kX5_copyOf : jlk (jcw mX5_copyOf) := jlkT (jtb3 163 rfl) rfl
set_option maxRecDepth 100000 in
theorem sX5_copyOf : ∀ w ∈ ([.instanceMethod yX5_copyOf, .selects (jCn 5) yX5_copyOf yX5_copyOf, .initialized (jCn 5)] : List Cond), jlk w := j3 (jlkT (jtb3 162 rfl) rfl) (jlkS 32 rfl rfl) (jlkT (jtb1 8 rfl) rfl)
set_option maxRecDepth 100000 in
theorem kX6_pushBody : jlk (jcw mX6_pushBody) := jlkT (jtb6 45 rfl) rfl
set_option maxRecDepth 100000 in
theorem sX6_pushBody : ∀ w ∈ ([.instanceMethod yX6_pushBody, .selects (jCn 6) yX6_pushBody yX6_pushBody, .initialized (jCn 6)] : List Cond), jlk w := j3 (jlkT (jtb6 44 rfl) rfl) (jlkS 82 rfl rfl) (jlkT (jtb1 7 rfl) rfl)
set_option maxRecDepth 100000 in
theorem kX6_popBody : jlk (jcw mX6_popBody) := jlkT (jtb3 87 rfl) rfl
set_option maxRecDepth 100000 in
theorem sX6_popBody : ∀ w ∈ ([.instanceMethod yX6_popBody, .selects (jCn 6) yX6_popBody yX6_popBody, .initialized (jCn 6)] : List Cond), jlk w := j3 (jlkT (jtb3 86 rfl) rfl) (jlkS 22 rfl rfl) (jlkT (jtb1 7 rfl) rfl)
set_option maxRecDepth 100000 in
theorem kX6_copyOf : jlk (jcw mX6_copyOf) := jlkT (jtb3 159 rfl) rfl
set_option maxRecDepth 100000 in
theorem sX6_copyOf : ∀ w ∈ ([.instanceMethod yX6_copyOf, .selects (jCn 6) yX6_copyOf yX6_copyOf, .initialized (jCn 6)] : List Cond), jlk w := j3 (jlkT (jtb3 158 rfl) rfl) (jlkS 31 rfl rfl) (jlkT (jtb1 7 rfl) rfl)
set_option maxRecDepth 100000 in
theorem kX7_of : jlk (jcw mX7_of) := jlkT (jtb5 74 rfl) rfl
set_option maxRecDepth 100000 in
theorem sX7_of : ∀ w ∈ ([.instanceMethod yX7_of, .selects (jCn 7) yX7_of yX7_of, .initialized (jCn 7)] : List Cond), jlk w := j3 (jlkT (jtb5 73 rfl) rfl) (jlkS 62 rfl rfl) (jlkT (jtb1 11 rfl) rfl)
set_option maxRecDepth 100000 in
theorem kX7_doneIn : jlk (jcw mX7_doneIn) := jlkT (jtb5 79 rfl) rfl
set_option maxRecDepth 100000 in
theorem sX7_doneIn : ∀ w ∈ ([.instanceMethod yX7_doneIn, .selects (jCn 7) yX7_doneIn yX7_doneIn, .initialized (jCn 7)] : List Cond), jlk w := j3 (jlkT (jtb5 78 rfl) rfl) (jlkS 63 rfl rfl) (jlkT (jtb1 11 rfl) rfl)
set_option maxRecDepth 100000 in
theorem kX7_sharedSlice : jlk (jcw mX7_sharedSlice) := jlkT (jtb5 104 rfl) rfl
set_option maxRecDepth 100000 in
theorem sX7_sharedSlice : ∀ w ∈ ([.instanceMethod yX7_sharedSlice, .selects (jCn 7) yX7_sharedSlice yX7_sharedSlice, .initialized (jCn 7)] : List Cond), jlk w := j3 (jlkT (jtb5 103 rfl) rfl) (jlkS 67 rfl rfl) (jlkT (jtb1 11 rfl) rfl)
set_option maxRecDepth 100000 in
theorem kX8_add : jlk (jcw mX8_add) := jlkT (jtb2 182 rfl) rfl
set_option maxRecDepth 100000 in
theorem sX8_add : ∀ w ∈ ([.instanceMethod yX8_add, .selects (jCn 8) yX8_add yX8_add, .initialized (jCn 8)] : List Cond), jlk w := j3 (jlkT (jtb2 181 rfl) rfl) (jlkS 0 rfl rfl) (jlkT (jtb1 2 rfl) rfl)
set_option maxRecDepth 100000 in
theorem kX8_open : jlk (jcw mX8_open) := jlkT (jtb3 213 rfl) rfl
set_option maxRecDepth 100000 in
theorem sX8_open : ∀ w ∈ ([.instanceMethod yX8_open, .selects (jCn 8) yX8_open yX8_open, .initialized (jCn 8)] : List Cond), jlk w := j3 (jlkT (jtb3 212 rfl) rfl) (jlkS 39 rfl rfl) (jlkT (jtb1 2 rfl) rfl)
set_option maxRecDepth 100000 in
theorem kX8_next : jlk (jcw mX8_next) := jlkT (jtb3 217 rfl) rfl
set_option maxRecDepth 100000 in
theorem sX8_next : ∀ w ∈ ([.instanceMethod yX8_next, .selects (jCn 8) yX8_next yX8_next, .initialized (jCn 8)] : List Cond), jlk w := j3 (jlkT (jtb3 216 rfl) rfl) (jlkS 40 rfl rfl) (jlkT (jtb1 2 rfl) rfl)
set_option maxRecDepth 100000 in
theorem kX8_isNumber : jlk (jcw mX8_isNumber) := jlkT (jtb4 60 rfl) rfl
set_option maxRecDepth 100000 in
theorem sX8_isNumber : ∀ w ∈ ([.instanceMethod yX8_isNumber, .selects (jCn 8) yX8_isNumber yX8_isNumber, .initialized (jCn 8)] : List Cond), jlk w := j3 (jlkT (jtb4 59 rfl) rfl) (jlkS 48 rfl rfl) (jlkT (jtb1 2 rfl) rfl)
set_option maxRecDepth 100000 in
theorem kX8_isMark : jlk (jcw mX8_isMark) := jlkT (jtb4 48 rfl) rfl
set_option maxRecDepth 100000 in
theorem sX8_isMark : ∀ w ∈ ([.instanceMethod yX8_isMark, .selects (jCn 8) yX8_isMark yX8_isMark, .initialized (jCn 8)] : List Cond), jlk w := j3 (jlkT (jtb4 47 rfl) rfl) (jlkS 45 rfl rfl) (jlkT (jtb1 2 rfl) rfl)
set_option maxRecDepth 100000 in
theorem kX8_isWord : jlk (jcw mX8_isWord) := jlkT (jtb3 226 rfl) rfl
set_option maxRecDepth 100000 in
theorem sX8_isWord : ∀ w ∈ ([.instanceMethod yX8_isWord, .selects (jCn 8) yX8_isWord yX8_isWord, .initialized (jCn 8)] : List Cond), jlk w := j3 (jlkT (jtb3 225 rfl) rfl) (jlkS 42 rfl rfl) (jlkT (jtb1 2 rfl) rfl)
set_option maxRecDepth 100000 in
theorem kX8_letterOf : jlk (jcw mX8_letterOf) := jlkT (jtb4 44 rfl) rfl
set_option maxRecDepth 100000 in
theorem sX8_letterOf : ∀ w ∈ ([.instanceMethod yX8_letterOf, .selects (jCn 8) yX8_letterOf yX8_letterOf, .initialized (jCn 8)] : List Cond), jlk w := j3 (jlkT (jtb4 43 rfl) rfl) (jlkS 44 rfl rfl) (jlkT (jtb1 2 rfl) rfl)
set_option maxRecDepth 100000 in
theorem kX8_sign : jlk (jcw mX8_sign) := jlkT (jtb4 65 rfl) rfl
set_option maxRecDepth 100000 in
theorem sX8_sign : ∀ w ∈ ([.instanceMethod yX8_sign, .selects (jCn 8) yX8_sign yX8_sign, .initialized (jCn 8)] : List Cond), jlk w := j3 (jlkT (jtb4 64 rfl) rfl) (jlkS 49 rfl rfl) (jlkT (jtb1 2 rfl) rfl)
set_option maxRecDepth 100000 in
theorem kX9_forget : jlk (jcw mX9_forget) := jlkT (jtb3 96 rfl) rfl
set_option maxRecDepth 100000 in
theorem sX9_forget : ∀ w ∈ ([.instanceMethod yX9_forget, .selects (jCn 9) yX9_forget yX9_forget, .initialized (jCn 9)] : List Cond), jlk w := j3 (jlkT (jtb3 95 rfl) rfl) (jlkS 24 rfl rfl) (jlkT (jtb1 9 rfl) rfl)
set_option maxRecDepth 100000 in
theorem kX9_add : jlk (jcw mX9_add) := jlkT (jtb5 140 rfl) rfl
set_option maxRecDepth 100000 in
theorem sX9_add : ∀ w ∈ ([.instanceMethod yX9_add, .selects (jCn 9) yX9_add yX9_add, .initialized (jCn 9)] : List Cond), jlk w := j3 (jlkT (jtb5 139 rfl) rfl) (jlkS 69 rfl rfl) (jlkT (jtb1 9 rfl) rfl)
set_option maxRecDepth 100000 in
theorem kX9_dropOldest : jlk (jcw mX9_dropOldest) := jlkT (jtb5 144 rfl) rfl
set_option maxRecDepth 100000 in
theorem sX9_dropOldest : ∀ w ∈ ([.instanceMethod yX9_dropOldest, .selects (jCn 9) yX9_dropOldest yX9_dropOldest, .initialized (jCn 9)] : List Cond), jlk w := j3 (jlkT (jtb5 143 rfl) rfl) (jlkS 70 rfl rfl) (jlkT (jtb1 9 rfl) rfl)
set_option maxRecDepth 100000 in
theorem kX9_copyOf : jlk (jcw mX9_copyOf) := jlkT (jtb3 171 rfl) rfl
set_option maxRecDepth 100000 in
theorem sX9_copyOf : ∀ w ∈ ([.instanceMethod yX9_copyOf, .selects (jCn 9) yX9_copyOf yX9_copyOf, .initialized (jCn 9)] : List Cond), jlk w := j3 (jlkT (jtb3 170 rfl) rfl) (jlkS 34 rfl rfl) (jlkT (jtb1 9 rfl) rfl)
set_option maxRecDepth 100000 in
theorem kX10_through : jlk (jcw mX10_through) := jlkT (jtb3 12 rfl) rfl
set_option maxRecDepth 100000 in
theorem sX10_through : ∀ w ∈ ([.instanceMethod yX10_through, .selects (jCn 10) yX10_through yX10_through, .initialized (jCn 10)] : List Cond), jlk w := j3 (jlkT (jtb3 11 rfl) rfl) (jlkS 13 rfl rfl) (jlkT (jtb1 10 rfl) rfl)
set_option maxRecDepth 100000 in
theorem kX10_begin : jlk (jcw mX10_begin) := jlkT (jtb3 16 rfl) rfl
set_option maxRecDepth 100000 in
theorem sX10_begin : ∀ w ∈ ([.instanceMethod yX10_begin, .selects (jCn 10) yX10_begin yX10_begin, .initialized (jCn 10)] : List Cond), jlk w := j3 (jlkT (jtb3 15 rfl) rfl) (jlkS 14 rfl rfl) (jlkT (jtb1 10 rfl) rfl)
set_option maxRecDepth 100000 in
theorem kX10_step : jlk (jcw mX10_step) := jlkT (jtb3 21 rfl) rfl
set_option maxRecDepth 100000 in
theorem sX10_step : ∀ w ∈ ([.instanceMethod yX10_step, .selects (jCn 10) yX10_step yX10_step, .initialized (jCn 10)] : List Cond), jlk w := j3 (jlkT (jtb3 20 rfl) rfl) (jlkS 15 rfl rfl) (jlkT (jtb1 10 rfl) rfl)
set_option maxRecDepth 100000 in
theorem kX10_jump : jlk (jcw mX10_jump) := jlkT (jtb3 51 rfl) rfl
set_option maxRecDepth 100000 in
theorem sX10_jump : ∀ w ∈ ([.static yX10_jump, .initialized yX10_jump.cls] : List Cond), jlk w := j2 (jlkT (jtb3 50 rfl) rfl) (jlkT (jtb1 10 rfl) rfl)
set_option maxRecDepth 100000 in
theorem kX10_restsOf : jlk (jcw mX10_restsOf) := jlkT (jtb3 34 rfl) rfl
set_option maxRecDepth 100000 in
theorem sX10_restsOf : ∀ w ∈ ([.instanceMethod yX10_restsOf, .selects (jCn 10) yX10_restsOf yX10_restsOf, .initialized (jCn 10)] : List Cond), jlk w := j3 (jlkT (jtb3 33 rfl) rfl) (jlkS 16 rfl rfl) (jlkT (jtb1 10 rfl) rfl)
set_option maxRecDepth 100000 in
theorem kX10_valueOf : jlk (jcw mX10_valueOf) := jlkT (jtb3 45 rfl) rfl
set_option maxRecDepth 100000 in
theorem sX10_valueOf : ∀ w ∈ ([.instanceMethod yX10_valueOf, .selects (jCn 10) yX10_valueOf yX10_valueOf, .initialized (jCn 10)] : List Cond), jlk w := j3 (jlkT (jtb3 44 rfl) rfl) (jlkS 18 rfl rfl) (jlkT (jtb1 10 rfl) rfl)
set_option maxRecDepth 100000 in
theorem kX10_holds : jlk (jcw mX10_holds) := jlkT (jtb3 41 rfl) rfl
set_option maxRecDepth 100000 in
theorem sX10_holds : ∀ w ∈ ([.instanceMethod yX10_holds, .selects (jCn 10) yX10_holds yX10_holds, .initialized (jCn 10)] : List Cond), jlk w := j3 (jlkT (jtb3 40 rfl) rfl) (jlkS 17 rfl rfl) (jlkT (jtb1 10 rfl) rfl)
set_option maxRecDepth 100000 in
theorem kX10_sumOf : jlk (jcw mX10_sumOf) := jlkT (jtb3 58 rfl) rfl
set_option maxRecDepth 100000 in
theorem sX10_sumOf : ∀ w ∈ ([.instanceMethod yX10_sumOf, .selects (jCn 10) yX10_sumOf yX10_sumOf, .initialized (jCn 10)] : List Cond), jlk w := j3 (jlkT (jtb3 57 rfl) rfl) (jlkS 19 rfl rfl) (jlkT (jtb1 10 rfl) rfl)
set_option maxRecDepth 100000 in
theorem kX11_feed : jlk (jcw mX11_feed) := jlkT (jtb2 178 rfl) rfl
set_option maxRecDepth 100000 in
theorem sX11_feed : ∀ w ∈ ([.instanceMethod yX11_feed, .selects (jCn 11) yX11_feed yX11_feed, .initialized (jCn 11)] : List Cond), jlk w := j3 (jlkT (jtb2 176 rfl) rfl) (jlkT (jtb2 177 rfl) rfl) (jlkT (jtb1 1 rfl) rfl)
set_option maxRecDepth 100000 in
theorem kX11_end : jlk (jcw mX11_end) := jlkT (jtb2 186 rfl) rfl
set_option maxRecDepth 100000 in
theorem sX11_end : ∀ w ∈ ([.instanceMethod yX11_end, .selects (jCn 11) yX11_end yX11_end, .initialized (jCn 11)] : List Cond), jlk w := j3 (jlkT (jtb2 184 rfl) rfl) (jlkT (jtb2 185 rfl) rfl) (jlkT (jtb1 1 rfl) rfl)
set_option maxRecDepth 100000 in
theorem kX11_body : jlk (jcw mX11_body) := jlkT (jtb3 205 rfl) rfl
set_option maxRecDepth 100000 in
theorem sX11_body : ∀ w ∈ ([.instanceMethod yX11_body, .selects (jCn 11) yX11_body yX11_body, .initialized (jCn 11)] : List Cond), jlk w := j3 (jlkT (jtb3 203 rfl) rfl) (jlkT (jtb3 204 rfl) rfl) (jlkT (jtb1 1 rfl) rfl)
set_option maxRecDepth 100000 in
theorem kX11_law : jlk (jcw mX11_law) := jlkT (jtb4 157 rfl) rfl
set_option maxRecDepth 100000 in
theorem sX11_law : ∀ w ∈ ([.instanceMethod yX11_law, .selects (jCn 11) yX11_law yX11_law, .initialized (jCn 11)] : List Cond), jlk w := j3 (jlkT (jtb4 155 rfl) rfl) (jlkT (jtb4 156 rfl) rfl) (jlkT (jtb1 1 rfl) rfl)
set_option maxRecDepth 100000 in
theorem kX11_fault : jlk (jcw mX11_fault) := jlkT (jtb2 190 rfl) rfl
set_option maxRecDepth 100000 in
theorem sX11_fault : ∀ w ∈ ([.instanceMethod yX11_fault, .selects (jCn 11) yX11_fault yX11_fault, .initialized (jCn 11)] : List Cond), jlk w := j3 (jlkT (jtb2 188 rfl) rfl) (jlkT (jtb2 189 rfl) rfl) (jlkT (jtb1 1 rfl) rfl)
set_option maxRecDepth 100000 in
theorem kX11_beginAnew : jlk (jcw mX11_beginAnew) := jlkT (jtb3 92 rfl) rfl
set_option maxRecDepth 100000 in
theorem sX11_beginAnew : ∀ w ∈ ([.instanceMethod yX11_beginAnew, .selects (jCn 11) yX11_beginAnew yX11_beginAnew, .initialized (jCn 11)] : List Cond), jlk w := j3 (jlkT (jtb3 91 rfl) rfl) (jlkS 23 rfl rfl) (jlkT (jtb1 1 rfl) rfl)
set_option maxRecDepth 100000 in
theorem kX11_hasBody : jlk (jcw mX11_hasBody) := jlkT (jtb3 183 rfl) rfl
set_option maxRecDepth 100000 in
theorem sX11_hasBody : ∀ w ∈ ([.instanceMethod yX11_hasBody, .selects (jCn 11) yX11_hasBody yX11_hasBody, .initialized (jCn 11)] : List Cond), jlk w := j3 (jlkT (jtb3 182 rfl) rfl) (jlkS 35 rfl rfl) (jlkT (jtb1 1 rfl) rfl)
set_option maxRecDepth 100000 in
theorem kX11_run : jlk (jcw mX11_run) := jlkT (jtb4 209 rfl) rfl
set_option maxRecDepth 100000 in
theorem sX11_run : ∀ w ∈ ([.instanceMethod yX11_run, .selects (jCn 11) yX11_run yX11_run, .initialized (jCn 11)] : List Cond), jlk w := j3 (jlkT (jtb4 207 rfl) rfl) (jlkT (jtb4 208 rfl) rfl) (jlkT (jtb1 1 rfl) rfl)
set_option maxRecDepth 100000 in
theorem kX11_putOutPleased : jlk (jcw mX11_putOutPleased) := jlkT (jtb4 236 rfl) rfl
set_option maxRecDepth 100000 in
theorem sX11_putOutPleased : ∀ w ∈ ([.instanceMethod yX11_putOutPleased, .selects (jCn 11) yX11_putOutPleased yX11_putOutPleased, .initialized (jCn 11)] : List Cond), jlk w := j3 (jlkT (jtb4 235 rfl) rfl) (jlkS 61 rfl rfl) (jlkT (jtb1 1 rfl) rfl)
set_option maxRecDepth 100000 in
theorem kX11_ends : jlk (jcw mX11_ends) := jlkT (jtb5 4 rfl) rfl
set_option maxRecDepth 100000 in
theorem sX11_ends : ∀ w ∈ ([.instanceMethod yX11_ends, .selects (jCn 11) yX11_ends yX11_ends, .initialized (jCn 11)] : List Cond), jlk w := j3 (jlkT (jtb5 2 rfl) rfl) (jlkT (jtb5 3 rfl) rfl) (jlkT (jtb1 1 rfl) rfl)
set_option maxRecDepth 100000 in
theorem kX11_look : jlk (jcw mX11_look) := jlkT (jtb5 29 rfl) rfl
set_option maxRecDepth 100000 in
theorem sX11_look : ∀ w ∈ ([.instanceMethod yX11_look, .selects (jCn 11) yX11_look yX11_look, .initialized (jCn 11)] : List Cond), jlk w := j3 (jlkT (jtb5 27 rfl) rfl) (jlkT (jtb5 28 rfl) rfl) (jlkT (jtb1 1 rfl) rfl)
set_option maxRecDepth 100000 in
theorem kX11_done : jlk (jcw mX11_done) := jlkT (jtb5 69 rfl) rfl
set_option maxRecDepth 100000 in
theorem sX11_done : ∀ w ∈ ([.instanceMethod yX11_done, .selects (jCn 11) yX11_done yX11_done, .initialized (jCn 11)] : List Cond), jlk w := j3 (jlkT (jtb5 67 rfl) rfl) (jlkT (jtb5 68 rfl) rfl) (jlkT (jtb1 1 rfl) rfl)
set_option maxRecDepth 100000 in
theorem kX11_where : jlk (jcw mX11_where) := jlkT (jtb5 86 rfl) rfl
set_option maxRecDepth 100000 in
theorem sX11_where : ∀ w ∈ ([.instanceMethod yX11_where, .selects (jCn 11) yX11_where yX11_where, .initialized (jCn 11)] : List Cond), jlk w := j3 (jlkT (jtb5 84 rfl) rfl) (jlkT (jtb5 85 rfl) rfl) (jlkT (jtb1 1 rfl) rfl)
set_option maxRecDepth 100000 in
theorem kX11_blameBits : jlk (jcw mX11_blameBits) := jlkT (jtb5 90 rfl) rfl
set_option maxRecDepth 100000 in
theorem sX11_blameBits : ∀ w ∈ ([.instanceMethod yX11_blameBits, .selects (jCn 11) yX11_blameBits yX11_blameBits, .initialized (jCn 11)] : List Cond), jlk w := j3 (jlkT (jtb5 89 rfl) rfl) (jlkS 64 rfl rfl) (jlkT (jtb1 1 rfl) rfl)
set_option maxRecDepth 100000 in
theorem kX11_freeBits : jlk (jcw mX11_freeBits) := jlkT (jtb5 94 rfl) rfl
set_option maxRecDepth 100000 in
theorem sX11_freeBits : ∀ w ∈ ([.instanceMethod yX11_freeBits, .selects (jCn 11) yX11_freeBits yX11_freeBits, .initialized (jCn 11)] : List Cond), jlk w := j3 (jlkT (jtb5 93 rfl) rfl) (jlkS 65 rfl rfl) (jlkT (jtb1 1 rfl) rfl)
set_option maxRecDepth 100000 in
theorem kX11_canFree : jlk (jcw mX11_canFree) := jlkT (jtb5 100 rfl) rfl
set_option maxRecDepth 100000 in
theorem sX11_canFree : ∀ w ∈ ([.instanceMethod yX11_canFree, .selects (jCn 11) yX11_canFree yX11_canFree, .initialized (jCn 11)] : List Cond), jlk w := j3 (jlkT (jtb5 99 rfl) rfl) (jlkS 66 rfl rfl) (jlkT (jtb1 1 rfl) rfl)
set_option maxRecDepth 100000 in
theorem kX11_mend : jlk (jcw mX11_mend) := jlkT (jtb5 111 rfl) rfl
set_option maxRecDepth 100000 in
theorem sX11_mend : ∀ w ∈ ([.instanceMethod yX11_mend, .selects (jCn 11) yX11_mend yX11_mend, .initialized (jCn 11)] : List Cond), jlk w := j3 (jlkT (jtb5 109 rfl) rfl) (jlkT (jtb5 110 rfl) rfl) (jlkT (jtb1 1 rfl) rfl)
set_option maxRecDepth 100000 in
theorem kX11_line : jlk (jcw mX11_line) := jlkT (jtb5 119 rfl) rfl
set_option maxRecDepth 100000 in
theorem sX11_line : ∀ w ∈ ([.instanceMethod yX11_line, .selects (jCn 11) yX11_line yX11_line, .initialized (jCn 11)] : List Cond), jlk w := j3 (jlkT (jtb5 117 rfl) rfl) (jlkT (jtb5 118 rfl) rfl) (jlkT (jtb1 1 rfl) rfl)
set_option maxRecDepth 100000 in
theorem kX11_tries : jlk (jcw mX11_tries) := jlkT (jtb5 131 rfl) rfl
set_option maxRecDepth 100000 in
theorem sX11_tries : ∀ w ∈ ([.instanceMethod yX11_tries, .selects (jCn 11) yX11_tries yX11_tries, .initialized (jCn 11)] : List Cond), jlk w := j3 (jlkT (jtb5 129 rfl) rfl) (jlkT (jtb5 130 rfl) rfl) (jlkT (jtb1 1 rfl) rfl)
set_option maxRecDepth 100000 in
theorem kX11_alive : jlk (jcw mX11_alive) := jlkT (jtb5 151 rfl) rfl
set_option maxRecDepth 100000 in
theorem sX11_alive : ∀ w ∈ ([.instanceMethod yX11_alive, .selects (jCn 11) yX11_alive yX11_alive, .initialized (jCn 11)] : List Cond), jlk w := j3 (jlkT (jtb5 149 rfl) rfl) (jlkT (jtb5 150 rfl) rfl) (jlkT (jtb1 1 rfl) rfl)
set_option maxRecDepth 100000 in
theorem kX11_aliveEnds : jlk (jcw mX11_aliveEnds) := jlkT (jtb5 160 rfl) rfl
set_option maxRecDepth 100000 in
theorem sX11_aliveEnds : ∀ w ∈ ([.instanceMethod yX11_aliveEnds, .selects (jCn 11) yX11_aliveEnds yX11_aliveEnds, .initialized (jCn 11)] : List Cond), jlk w := j3 (jlkT (jtb5 158 rfl) rfl) (jlkT (jtb5 159 rfl) rfl) (jlkT (jtb1 1 rfl) rfl)
set_option maxRecDepth 100000 in
theorem kX11_keptNumber : jlk (jcw mX11_keptNumber) := jlkT (jtb2 198 rfl) rfl
set_option maxRecDepth 100000 in
theorem sX11_keptNumber : ∀ w ∈ ([.instanceMethod yX11_keptNumber, .selects (jCn 11) yX11_keptNumber yX11_keptNumber, .initialized (jCn 11)] : List Cond), jlk w := j3 (jlkT (jtb2 197 rfl) rfl) (jlkS 1 rfl rfl) (jlkT (jtb1 1 rfl) rfl)
set_option maxRecDepth 100000 in
theorem kX11_rightBits : jlk (jcw mX11_rightBits) := jlkT (jtb3 187 rfl) rfl
set_option maxRecDepth 100000 in
theorem sX11_rightBits : ∀ w ∈ ([.instanceMethod yX11_rightBits, .selects (jCn 11) yX11_rightBits yX11_rightBits, .initialized (jCn 11)] : List Cond), jlk w := j3 (jlkT (jtb3 186 rfl) rfl) (jlkS 36 rfl rfl) (jlkT (jtb1 1 rfl) rfl)
set_option maxRecDepth 100000 in
theorem kX11_firstWrong : jlk (jcw mX11_firstWrong) := jlkT (jtb5 136 rfl) rfl
set_option maxRecDepth 100000 in
theorem sX11_firstWrong : ∀ w ∈ ([.instanceMethod yX11_firstWrong, .selects (jCn 11) yX11_firstWrong yX11_firstWrong, .initialized (jCn 11)] : List Cond), jlk w := j3 (jlkT (jtb5 135 rfl) rfl) (jlkS 68 rfl rfl) (jlkT (jtb1 1 rfl) rfl)
set_option maxRecDepth 100000 in
theorem kX11_teach : jlk (jcw mX11_teach) := jlkT (jtb5 167 rfl) rfl
set_option maxRecDepth 100000 in
theorem sX11_teach : ∀ w ∈ ([.instanceMethod yX11_teach, .selects (jCn 11) yX11_teach yX11_teach, .initialized (jCn 11)] : List Cond), jlk w := j3 (jlkT (jtb5 165 rfl) rfl) (jlkT (jtb5 166 rfl) rfl) (jlkT (jtb1 1 rfl) rfl)
set_option maxRecDepth 100000 in
theorem kX11_first : jlk (jcw mX11_first) := jlkT (jtb5 175 rfl) rfl
set_option maxRecDepth 100000 in
theorem sX11_first : ∀ w ∈ ([.instanceMethod yX11_first, .selects (jCn 11) yX11_first yX11_first, .initialized (jCn 11)] : List Cond), jlk w := j3 (jlkT (jtb5 173 rfl) rfl) (jlkT (jtb5 174 rfl) rfl) (jlkT (jtb1 1 rfl) rfl)
set_option maxRecDepth 100000 in
theorem kX11_mostTaught : jlk (jcw mX11_mostTaught) := jlkT (jtb5 179 rfl) rfl
set_option maxRecDepth 100000 in
theorem sX11_mostTaught : ∀ w ∈ ([.instanceMethod yX11_mostTaught, .selects (jCn 11) yX11_mostTaught yX11_mostTaught, .initialized (jCn 11)] : List Cond), jlk w := j3 (jlkT (jtb5 178 rfl) rfl) (jlkS 71 rfl rfl) (jlkT (jtb1 1 rfl) rfl)
set_option maxRecDepth 100000 in
theorem kX11_box : jlk (jcw mX11_box) := jlkT (jtb5 186 rfl) rfl
set_option maxRecDepth 100000 in
theorem sX11_box : ∀ w ∈ ([.instanceMethod yX11_box, .selects (jCn 11) yX11_box yX11_box, .initialized (jCn 11)] : List Cond), jlk w := j3 (jlkT (jtb5 184 rfl) rfl) (jlkT (jtb5 185 rfl) rfl) (jlkT (jtb1 1 rfl) rfl)
set_option maxRecDepth 100000 in
theorem kX11_input : jlk (jcw mX11_input) := jlkT (jtb2 194 rfl) rfl
set_option maxRecDepth 100000 in
theorem sX11_input : ∀ w ∈ ([.instanceMethod yX11_input, .selects (jCn 11) yX11_input yX11_input, .initialized (jCn 11)] : List Cond), jlk w := j3 (jlkT (jtb2 192 rfl) rfl) (jlkT (jtb2 193 rfl) rfl) (jlkT (jtb1 1 rfl) rfl)
set_option maxRecDepth 100000 in
theorem kX11_nearInput : jlk (jcw mX11_nearInput) := jlkT (jtb3 75 rfl) rfl
set_option maxRecDepth 100000 in
theorem sX11_nearInput : ∀ w ∈ ([.instanceMethod yX11_nearInput, .selects (jCn 11) yX11_nearInput yX11_nearInput, .initialized (jCn 11)] : List Cond), jlk w := j3 (jlkT (jtb3 74 rfl) rfl) (jlkS 20 rfl rfl) (jlkT (jtb1 1 rfl) rfl)
set_option maxRecDepth 100000 in
theorem kX11_endApart : jlk (jcw mX11_endApart) := jlkT (jtb3 79 rfl) rfl
set_option maxRecDepth 100000 in
theorem sX11_endApart : ∀ w ∈ ([.instanceMethod yX11_endApart, .selects (jCn 11) yX11_endApart yX11_endApart, .initialized (jCn 11)] : List Cond), jlk w := j3 (jlkT (jtb3 78 rfl) rfl) (jlkS 21 rfl rfl) (jlkT (jtb1 1 rfl) rfl)
set_option maxRecDepth 100000 in
theorem kX11_askedInput : jlk (jcw mX11_askedInput) := jlkT (jtb2 234 rfl) rfl
set_option maxRecDepth 100000 in
theorem sX11_askedInput : ∀ w ∈ ([.instanceMethod yX11_askedInput, .selects (jCn 11) yX11_askedInput yX11_askedInput, .initialized (jCn 11)] : List Cond), jlk w := j3 (jlkT (jtb2 233 rfl) rfl) (jlkS 10 rfl rfl) (jlkT (jtb1 1 rfl) rfl)
set_option maxRecDepth 100000 in
theorem kX11_mostAlike : jlk (jcw mX11_mostAlike) := jlkT (jtb3 8 rfl) rfl
set_option maxRecDepth 100000 in
theorem sX11_mostAlike : ∀ w ∈ ([.instanceMethod yX11_mostAlike, .selects (jCn 11) yX11_mostAlike yX11_mostAlike, .initialized (jCn 11)] : List Cond), jlk w := j3 (jlkT (jtb3 7 rfl) rfl) (jlkS 12 rfl rfl) (jlkT (jtb1 1 rfl) rfl)
set_option maxRecDepth 100000 in
theorem kX11_prove : jlk (jcw mX11_prove) := jlkT (jtb5 194 rfl) rfl
set_option maxRecDepth 100000 in
theorem sX11_prove : ∀ w ∈ ([.instanceMethod yX11_prove, .selects (jCn 11) yX11_prove yX11_prove, .initialized (jCn 11)] : List Cond), jlk w := j3 (jlkT (jtb5 192 rfl) rfl) (jlkT (jtb5 193 rfl) rfl) (jlkT (jtb1 1 rfl) rfl)
set_option maxRecDepth 100000 in
theorem kX11_breaks : jlk (jcw mX11_breaks) := jlkT (jtb5 218 rfl) rfl
set_option maxRecDepth 100000 in
theorem sX11_breaks : ∀ w ∈ ([.instanceMethod yX11_breaks, .selects (jCn 11) yX11_breaks yX11_breaks, .initialized (jCn 11)] : List Cond), jlk w := j3 (jlkT (jtb5 217 rfl) rfl) (jlkS 75 rfl rfl) (jlkT (jtb1 1 rfl) rfl)
set_option maxRecDepth 100000 in
theorem kX11_firstBreak : jlk (jcw mX11_firstBreak) := jlkT (jtb5 199 rfl) rfl
set_option maxRecDepth 100000 in
theorem sX11_firstBreak : ∀ w ∈ ([.instanceMethod yX11_firstBreak, .selects (jCn 11) yX11_firstBreak yX11_firstBreak, .initialized (jCn 11)] : List Cond), jlk w := j3 (jlkT (jtb5 198 rfl) rfl) (jlkS 72 rfl rfl) (jlkT (jtb1 1 rfl) rfl)
set_option maxRecDepth 100000 in
theorem kX11_breaksOn : jlk (jcw mX11_breaksOn) := jlkT (jtb5 203 rfl) rfl
set_option maxRecDepth 100000 in
theorem sX11_breaksOn : ∀ w ∈ ([.instanceMethod yX11_breaksOn, .selects (jCn 11) yX11_breaksOn yX11_breaksOn, .initialized (jCn 11)] : List Cond), jlk w := j3 (jlkT (jtb5 202 rfl) rfl) (jlkS 73 rfl rfl) (jlkT (jtb1 1 rfl) rfl)
set_option maxRecDepth 100000 in
theorem kX11_bar : jlk (jcw mX11_bar) := jlkT (jtb5 225 rfl) rfl
set_option maxRecDepth 100000 in
theorem sX11_bar : ∀ w ∈ ([.instanceMethod yX11_bar, .selects (jCn 11) yX11_bar yX11_bar, .initialized (jCn 11)] : List Cond), jlk w := j3 (jlkT (jtb5 223 rfl) rfl) (jlkT (jtb5 224 rfl) rfl) (jlkT (jtb1 1 rfl) rfl)
set_option maxRecDepth 100000 in
theorem kX11_otherwise : jlk (jcw mX11_otherwise) := jlkT (jtb5 232 rfl) rfl
set_option maxRecDepth 100000 in
theorem sX11_otherwise : ∀ w ∈ ([.instanceMethod yX11_otherwise, .selects (jCn 11) yX11_otherwise yX11_otherwise, .initialized (jCn 11)] : List Cond), jlk w := j3 (jlkT (jtb5 230 rfl) rfl) (jlkT (jtb5 231 rfl) rfl) (jlkT (jtb1 1 rfl) rfl)
set_option maxRecDepth 100000 in
theorem kX11_heaps : jlk (jcw mX11_heaps) := jlkT (jtb6 0 rfl) rfl
set_option maxRecDepth 100000 in
theorem sX11_heaps : ∀ w ∈ ([.instanceMethod yX11_heaps, .selects (jCn 11) yX11_heaps yX11_heaps, .initialized (jCn 11)] : List Cond), jlk w := j3 (jlkT (jtb5 238 rfl) rfl) (jlkT (jtb5 239 rfl) rfl) (jlkT (jtb1 1 rfl) rfl)
set_option maxRecDepth 100000 in
theorem kX11_listGains : jlk (jcw mX11_listGains) := jlkT (jtb6 4 rfl) rfl
set_option maxRecDepth 100000 in
theorem sX11_listGains : ∀ w ∈ ([.instanceMethod yX11_listGains, .selects (jCn 11) yX11_listGains yX11_listGains, .initialized (jCn 11)] : List Cond), jlk w := j3 (jlkT (jtb6 3 rfl) rfl) (jlkS 76 rfl rfl) (jlkT (jtb1 1 rfl) rfl)
set_option maxRecDepth 100000 in
theorem kX11_fewestMends : jlk (jcw mX11_fewestMends) := jlkT (jtb6 8 rfl) rfl
set_option maxRecDepth 100000 in
theorem sX11_fewestMends : ∀ w ∈ ([.instanceMethod yX11_fewestMends, .selects (jCn 11) yX11_fewestMends yX11_fewestMends, .initialized (jCn 11)] : List Cond), jlk w := j3 (jlkT (jtb6 7 rfl) rfl) (jlkS 77 rfl rfl) (jlkT (jtb1 1 rfl) rfl)
set_option maxRecDepth 100000 in
theorem kX11_lowestBit : jlk (jcw mX11_lowestBit) := jlkT (jtb6 11 rfl) rfl
set_option maxRecDepth 100000 in
theorem sX11_lowestBit : ∀ w ∈ ([.static yX11_lowestBit, .initialized yX11_lowestBit.cls] : List Cond), jlk w := j2 (jlkT (jtb6 10 rfl) rfl) (jlkT (jtb1 1 rfl) rfl)
set_option maxRecDepth 100000 in
theorem kX11_addGains : jlk (jcw mX11_addGains) := jlkT (jtb6 15 rfl) rfl
set_option maxRecDepth 100000 in
theorem sX11_addGains : ∀ w ∈ ([.instanceMethod yX11_addGains, .selects (jCn 11) yX11_addGains yX11_addGains, .initialized (jCn 11)] : List Cond), jlk w := j3 (jlkT (jtb6 14 rfl) rfl) (jlkS 78 rfl rfl) (jlkT (jtb1 1 rfl) rfl)
set_option maxRecDepth 100000 in
theorem kX11_putIn : jlk (jcw mX11_putIn) := jlkT (jtb6 22 rfl) rfl
set_option maxRecDepth 100000 in
theorem sX11_putIn : ∀ w ∈ ([.instanceMethod yX11_putIn, .selects (jCn 11) yX11_putIn yX11_putIn, .initialized (jCn 11)] : List Cond), jlk w := j3 (jlkT (jtb6 20 rfl) rfl) (jlkT (jtb6 21 rfl) rfl) (jlkT (jtb1 1 rfl) rfl)
set_option maxRecDepth 100000 in
theorem kX11_judgeFault : jlk (jcw mX11_judgeFault) := jlkT (jtb6 30 rfl) rfl
set_option maxRecDepth 100000 in
theorem sX11_judgeFault : ∀ w ∈ ([.instanceMethod yX11_judgeFault, .selects (jCn 11) yX11_judgeFault yX11_judgeFault, .initialized (jCn 11)] : List Cond), jlk w := j3 (jlkT (jtb6 29 rfl) rfl) (jlkS 80 rfl rfl) (jlkT (jtb1 1 rfl) rfl)
set_option maxRecDepth 100000 in
theorem kX11_endsAsAsked : jlk (jcw mX11_endsAsAsked) := jlkT (jtb6 26 rfl) rfl
set_option maxRecDepth 100000 in
theorem sX11_endsAsAsked : ∀ w ∈ ([.instanceMethod yX11_endsAsAsked, .selects (jCn 11) yX11_endsAsAsked yX11_endsAsAsked, .initialized (jCn 11)] : List Cond), jlk w := j3 (jlkT (jtb6 25 rfl) rfl) (jlkS 79 rfl rfl) (jlkT (jtb1 1 rfl) rfl)
set_option maxRecDepth 100000 in
theorem kX11_endsAsBody : jlk (jcw mX11_endsAsBody) := jlkT (jtb6 34 rfl) rfl
set_option maxRecDepth 100000 in
theorem sX11_endsAsBody : ∀ w ∈ ([.instanceMethod yX11_endsAsBody, .selects (jCn 11) yX11_endsAsBody yX11_endsAsBody, .initialized (jCn 11)] : List Cond), jlk w := j3 (jlkT (jtb6 33 rfl) rfl) (jlkS 81 rfl rfl) (jlkT (jtb1 1 rfl) rfl)
set_option maxRecDepth 100000 in
theorem kX11_isNumber : jlk (jcw mX11_isNumber) := jlkT (jtb3 65 rfl) rfl
set_option maxRecDepth 100000 in
theorem sX11_isNumber : ∀ w ∈ ([.static yX11_isNumber, .initialized yX11_isNumber.cls] : List Cond), jlk w := j2 (jlkT (jtb3 64 rfl) rfl) (jlkT (jtb1 1 rfl) rfl)
set_option maxRecDepth 100000 in
theorem kX11_make : jlk (jcw mX11_make) := jlkT (jtb6 41 rfl) rfl
set_option maxRecDepth 100000 in
theorem sX11_make : ∀ w ∈ ([.instanceMethod yX11_make, .selects (jCn 11) yX11_make yX11_make, .initialized (jCn 11)] : List Cond), jlk w := j3 (jlkT (jtb6 39 rfl) rfl) (jlkT (jtb6 40 rfl) rfl) (jlkT (jtb1 1 rfl) rfl)
set_option maxRecDepth 100000 in
theorem kX11_takeBack : jlk (jcw mX11_takeBack) := jlkT (jtb3 83 rfl) rfl
set_option maxRecDepth 100000 in
theorem sX11_takeBack : ∀ w ∈ ([.instanceMethod yX11_takeBack, .selects (jCn 11) yX11_takeBack yX11_takeBack, .initialized (jCn 11)] : List Cond), jlk w := j3 (jlkT (jtb3 81 rfl) rfl) (jlkT (jtb3 82 rfl) rfl) (jlkT (jtb1 1 rfl) rfl)
set_option maxRecDepth 100000 in
theorem kX11_row : jlk (jcw mX11_row) := jlkT (jtb6 52 rfl) rfl
set_option maxRecDepth 100000 in
theorem sX11_row : ∀ w ∈ ([.instanceMethod yX11_row, .selects (jCn 11) yX11_row yX11_row, .initialized (jCn 11)] : List Cond), jlk w := j3 (jlkT (jtb6 50 rfl) rfl) (jlkT (jtb6 51 rfl) rfl) (jlkT (jtb1 1 rfl) rfl)
set_option maxRecDepth 100000 in
theorem kX11_tear : jlk (jcw mX11_tear) := jlkT (jtb6 60 rfl) rfl
set_option maxRecDepth 100000 in
theorem sX11_tear : ∀ w ∈ ([.instanceMethod yX11_tear, .selects (jCn 11) yX11_tear yX11_tear, .initialized (jCn 11)] : List Cond), jlk w := j3 (jlkT (jtb6 58 rfl) rfl) (jlkT (jtb6 59 rfl) rfl) (jlkT (jtb1 1 rfl) rfl)
set_option maxRecDepth 100000 in
theorem kX11_check : jlk (jcw mX11_check) := jlkT (jtb3 151 rfl) rfl
set_option maxRecDepth 100000 in
theorem sX11_check : ∀ w ∈ ([.instanceMethod yX11_check, .selects (jCn 11) yX11_check yX11_check, .initialized (jCn 11)] : List Cond), jlk w := j3 (jlkT (jtb3 149 rfl) rfl) (jlkT (jtb3 150 rfl) rfl) (jlkT (jtb1 1 rfl) rfl)
set_option maxRecDepth 100000 in
theorem kX11_image : jlk (jcw mX11_image) := jlkT (jtb3 155 rfl) rfl
set_option maxRecDepth 100000 in
theorem sX11_image : ∀ w ∈ ([.instanceMethod yX11_image, .selects (jCn 11) yX11_image yX11_image, .initialized (jCn 11)] : List Cond), jlk w := j3 (jlkT (jtb3 153 rfl) rfl) (jlkT (jtb3 154 rfl) rfl) (jlkT (jtb1 1 rfl) rfl)
set_option maxRecDepth 100000 in
theorem kX11_back : jlk (jcw mX11_back) := jlkT (jtb3 175 rfl) rfl
set_option maxRecDepth 100000 in
theorem sX11_back : ∀ w ∈ ([.instanceMethod yX11_back, .selects (jCn 11) yX11_back yX11_back, .initialized (jCn 11)] : List Cond), jlk w := j3 (jlkT (jtb3 173 rfl) rfl) (jlkT (jtb3 174 rfl) rfl) (jlkT (jtb1 1 rfl) rfl)
set_option maxRecDepth 100000 in
theorem kX11_count : jlk (jcw mX11_count) := jlkT (jtb3 179 rfl) rfl
set_option maxRecDepth 100000 in
theorem sX11_count : ∀ w ∈ ([.instanceMethod yX11_count, .selects (jCn 11) yX11_count yX11_count, .initialized (jCn 11)] : List Cond), jlk w := j3 (jlkT (jtb3 177 rfl) rfl) (jlkT (jtb3 178 rfl) rfl) (jlkT (jtb1 1 rfl) rfl)
set_option maxRecDepth 100000 in
theorem kX11_packed : jlk (jcw mX11_packed) := jlkT (jtb4 68 rfl) rfl
set_option maxRecDepth 100000 in
theorem sX11_packed : ∀ w ∈ ([.static yX11_packed, .initialized yX11_packed.cls] : List Cond), jlk w := j2 (jlkT (jtb4 67 rfl) rfl) (jlkT (jtb1 1 rfl) rfl)
set_option maxRecDepth 100000 in
theorem kX11_kindOf : jlk (jcw mX11_kindOf) := jlkT (jtb3 24 rfl) rfl
set_option maxRecDepth 100000 in
theorem sX11_kindOf : ∀ w ∈ ([.static yX11_kindOf, .initialized yX11_kindOf.cls] : List Cond), jlk w := j2 (jlkT (jtb3 23 rfl) rfl) (jlkT (jtb1 1 rfl) rfl)
set_option maxRecDepth 100000 in
theorem kX11_madeOf : jlk (jcw mX11_madeOf) := jlkT (jtb3 69 rfl) rfl
set_option maxRecDepth 100000 in
theorem sX11_madeOf : ∀ w ∈ ([.static yX11_madeOf, .initialized yX11_madeOf.cls] : List Cond), jlk w := j2 (jlkT (jtb3 68 rfl) rfl) (jlkT (jtb1 1 rfl) rfl)
set_option maxRecDepth 100000 in
theorem kX11_firstOf : jlk (jcw mX11_firstOf) := jlkT (jtb3 27 rfl) rfl
set_option maxRecDepth 100000 in
theorem sX11_firstOf : ∀ w ∈ ([.static yX11_firstOf, .initialized yX11_firstOf.cls] : List Cond), jlk w := j2 (jlkT (jtb3 26 rfl) rfl) (jlkT (jtb1 1 rfl) rfl)
set_option maxRecDepth 100000 in
theorem kX11_signOf : jlk (jcw mX11_signOf) := jlkT (jtb3 37 rfl) rfl
set_option maxRecDepth 100000 in
theorem sX11_signOf : ∀ w ∈ ([.static yX11_signOf, .initialized yX11_signOf.cls] : List Cond), jlk w := j2 (jlkT (jtb3 36 rfl) rfl) (jlkT (jtb1 1 rfl) rfl)
set_option maxRecDepth 100000 in
theorem kX11_secondOf : jlk (jcw mX11_secondOf) := jlkT (jtb3 30 rfl) rfl
set_option maxRecDepth 100000 in
theorem sX11_secondOf : ∀ w ∈ ([.static yX11_secondOf, .initialized yX11_secondOf.cls] : List Cond), jlk w := j2 (jlkT (jtb3 29 rfl) rfl) (jlkT (jtb1 1 rfl) rfl)
set_option maxRecDepth 100000 in
theorem kX11_countOf : jlk (jcw mX11_countOf) := jlkT (jtb3 48 rfl) rfl
set_option maxRecDepth 100000 in
theorem sX11_countOf : ∀ w ∈ ([.static yX11_countOf, .initialized yX11_countOf.cls] : List Cond), jlk w := j2 (jlkT (jtb3 47 rfl) rfl) (jlkT (jtb1 1 rfl) rfl)
set_option maxRecDepth 100000 in
theorem kX11_withMade : jlk (jcw mX11_withMade) := jlkT (jtb3 122 rfl) rfl
set_option maxRecDepth 100000 in
theorem sX11_withMade : ∀ w ∈ ([.static yX11_withMade, .initialized yX11_withMade.cls] : List Cond), jlk w := j2 (jlkT (jtb3 121 rfl) rfl) (jlkT (jtb1 1 rfl) rfl)
set_option maxRecDepth 100000 in
theorem kX11_withFirst : jlk (jcw mX11_withFirst) := jlkT (jtb3 109 rfl) rfl
set_option maxRecDepth 100000 in
theorem sX11_withFirst : ∀ w ∈ ([.static yX11_withFirst, .initialized yX11_withFirst.cls] : List Cond), jlk w := j2 (jlkT (jtb3 108 rfl) rfl) (jlkT (jtb1 1 rfl) rfl)
set_option maxRecDepth 100000 in
theorem kX11_withSign : jlk (jcw mX11_withSign) := jlkT (jtb3 130 rfl) rfl
set_option maxRecDepth 100000 in
theorem sX11_withSign : ∀ w ∈ ([.static yX11_withSign, .initialized yX11_withSign.cls] : List Cond), jlk w := j2 (jlkT (jtb3 129 rfl) rfl) (jlkT (jtb1 1 rfl) rfl)
set_option maxRecDepth 100000 in
theorem kX11_withSecond : jlk (jcw mX11_withSecond) := jlkT (jtb3 116 rfl) rfl
set_option maxRecDepth 100000 in
theorem sX11_withSecond : ∀ w ∈ ([.static yX11_withSecond, .initialized yX11_withSecond.cls] : List Cond), jlk w := j2 (jlkT (jtb3 115 rfl) rfl) (jlkT (jtb1 1 rfl) rfl)
set_option maxRecDepth 100000 in
theorem kX11_withCount : jlk (jcw mX11_withCount) := jlkT (jtb3 142 rfl) rfl
set_option maxRecDepth 100000 in
theorem sX11_withCount : ∀ w ∈ ([.static yX11_withCount, .initialized yX11_withCount.cls] : List Cond), jlk w := j2 (jlkT (jtb3 141 rfl) rfl) (jlkT (jtb1 1 rfl) rfl)
set_option maxRecDepth 100000 in
theorem kX12_thrown : jlk (jcw mX12_thrown) := jlkT (jtb6 64 rfl) rfl
set_option maxRecDepth 100000 in
theorem sX12_thrown : ∀ w ∈ ([.instanceMethod yX12_thrown, .selects (jCn 12) yX12_thrown yX12_thrown, .initialized (jCn 12)] : List Cond), jlk w := j3 (jlkT (jtb6 62 rfl) rfl) (jlkT (jtb6 63 rfl) rfl) (jlkT (jtb1 13 rfl) rfl)
set_option maxRecDepth 100000 in
theorem kX12_throwsIf : jlk (jcw mX12_throwsIf) := jlkT (jtb7 20 rfl) rfl
set_option maxRecDepth 100000 in
theorem sX12_throwsIf : ∀ w ∈ ([.instanceMethod yX12_throwsIf, .selects (jCn 12) yX12_throwsIf yX12_throwsIf, .initialized (jCn 12)] : List Cond), jlk w := j3 (jlkT (jtb7 19 rfl) rfl) (jlkS 96 rfl rfl) (jlkT (jtb1 13 rfl) rfl)
set_option maxRecDepth 100000 in
theorem kX12_in : jlk (jcw mX12_in) := jlkT (jtb7 86 rfl) rfl
set_option maxRecDepth 100000 in
theorem sX12_in : ∀ w ∈ ([.static yX12_in, .initialized yX12_in.cls] : List Cond), jlk w := j2 (jlkT (jtb7 85 rfl) rfl) (jlkT (jtb1 13 rfl) rfl)
set_option maxRecDepth 100000 in
theorem kX12_image : jlk (jcw mX12_image) := jlkT (jtb6 174 rfl) rfl
set_option maxRecDepth 100000 in
theorem sX12_image : ∀ w ∈ ([.instanceMethod yX12_image, .selects (jCn 12) yX12_image yX12_image, .initialized (jCn 12)] : List Cond), jlk w := j3 (jlkT (jtb6 172 rfl) rfl) (jlkT (jtb6 173 rfl) rfl) (jlkT (jtb1 13 rfl) rfl)
set_option maxRecDepth 100000 in
theorem kX12_back : jlk (jcw mX12_back) := jlkT (jtb6 178 rfl) rfl
set_option maxRecDepth 100000 in
theorem sX12_back : ∀ w ∈ ([.instanceMethod yX12_back, .selects (jCn 12) yX12_back yX12_back, .initialized (jCn 12)] : List Cond), jlk w := j3 (jlkT (jtb6 176 rfl) rfl) (jlkT (jtb6 177 rfl) rfl) (jlkT (jtb1 13 rfl) rfl)
set_option maxRecDepth 100000 in
theorem kX12_feed : jlk (jcw mX12_feed) := jlkT (jtb6 182 rfl) rfl
set_option maxRecDepth 100000 in
theorem sX12_feed : ∀ w ∈ ([.instanceMethod yX12_feed, .selects (jCn 12) yX12_feed yX12_feed, .initialized (jCn 12)] : List Cond), jlk w := j3 (jlkT (jtb6 180 rfl) rfl) (jlkT (jtb6 181 rfl) rfl) (jlkT (jtb1 13 rfl) rfl)
set_option maxRecDepth 100000 in
theorem kX12_end : jlk (jcw mX12_end) := jlkT (jtb6 186 rfl) rfl
set_option maxRecDepth 100000 in
theorem sX12_end : ∀ w ∈ ([.instanceMethod yX12_end, .selects (jCn 12) yX12_end yX12_end, .initialized (jCn 12)] : List Cond), jlk w := j3 (jlkT (jtb6 184 rfl) rfl) (jlkT (jtb6 185 rfl) rfl) (jlkT (jtb1 13 rfl) rfl)
set_option maxRecDepth 100000 in
theorem kX12_uses : jlk (jcw mX12_uses) := jlkT (jtb6 198 rfl) rfl
set_option maxRecDepth 100000 in
theorem sX12_uses : ∀ w ∈ ([.instanceMethod yX12_uses, .selects (jCn 12) yX12_uses yX12_uses, .initialized (jCn 12)] : List Cond), jlk w := j3 (jlkT (jtb6 197 rfl) rfl) (jlkS 83 rfl rfl) (jlkT (jtb1 13 rfl) rfl)
set_option maxRecDepth 100000 in
theorem kX12_isAt : jlk (jcw mX12_isAt) := jlkT (jtb6 218 rfl) rfl
set_option maxRecDepth 100000 in
theorem sX12_isAt : ∀ w ∈ ([.instanceMethod yX12_isAt, .selects (jCn 12) yX12_isAt yX12_isAt, .initialized (jCn 12)] : List Cond), jlk w := j3 (jlkT (jtb6 217 rfl) rfl) (jlkS 88 rfl rfl) (jlkT (jtb1 13 rfl) rfl)
set_option maxRecDepth 100000 in
theorem kX12_blanks : jlk (jcw mX12_blanks) := jlkT (jtb6 214 rfl) rfl
set_option maxRecDepth 100000 in
theorem sX12_blanks : ∀ w ∈ ([.instanceMethod yX12_blanks, .selects (jCn 12) yX12_blanks yX12_blanks, .initialized (jCn 12)] : List Cond), jlk w := j3 (jlkT (jtb6 213 rfl) rfl) (jlkS 87 rfl rfl) (jlkT (jtb1 13 rfl) rfl)
set_option maxRecDepth 100000 in
theorem kX12_letters : jlk (jcw mX12_letters) := jlkT (jtb6 210 rfl) rfl
set_option maxRecDepth 100000 in
theorem sX12_letters : ∀ w ∈ ([.instanceMethod yX12_letters, .selects (jCn 12) yX12_letters yX12_letters, .initialized (jCn 12)] : List Cond), jlk w := j3 (jlkT (jtb6 209 rfl) rfl) (jlkS 86 rfl rfl) (jlkT (jtb1 13 rfl) rfl)
set_option maxRecDepth 100000 in
theorem kX12_isWord : jlk (jcw mX12_isWord) := jlkT (jtb6 226 rfl) rfl
set_option maxRecDepth 100000 in
theorem sX12_isWord : ∀ w ∈ ([.instanceMethod yX12_isWord, .selects (jCn 12) yX12_isWord yX12_isWord, .initialized (jCn 12)] : List Cond), jlk w := j3 (jlkT (jtb6 225 rfl) rfl) (jlkS 89 rfl rfl) (jlkT (jtb1 13 rfl) rfl)
set_option maxRecDepth 100000 in
theorem kX12_passes : jlk (jcw mX12_passes) := jlkT (jtb7 49 rfl) rfl
set_option maxRecDepth 100000 in
theorem sX12_passes : ∀ w ∈ ([.instanceMethod yX12_passes, .selects (jCn 12) yX12_passes yX12_passes, .initialized (jCn 12)] : List Cond), jlk w := j3 (jlkT (jtb7 48 rfl) rfl) (jlkS 102 rfl rfl) (jlkT (jtb1 13 rfl) rfl)
set_option maxRecDepth 100000 in
theorem kX12_needs : jlk (jcw mX12_needs) := jlkT (jtb7 12 rfl) rfl
set_option maxRecDepth 100000 in
theorem sX12_needs : ∀ w ∈ ([.instanceMethod yX12_needs, .selects (jCn 12) yX12_needs yX12_needs, .initialized (jCn 12)] : List Cond), jlk w := j3 (jlkT (jtb7 11 rfl) rfl) (jlkS 94 rfl rfl) (jlkT (jtb1 13 rfl) rfl)
set_option maxRecDepth 100000 in
theorem kX12_sign : jlk (jcw mX12_sign) := jlkT (jtb7 7 rfl) rfl
set_option maxRecDepth 100000 in
theorem sX12_sign : ∀ w ∈ ([.instanceMethod yX12_sign, .selects (jCn 12) yX12_sign yX12_sign, .initialized (jCn 12)] : List Cond), jlk w := j3 (jlkT (jtb7 6 rfl) rfl) (jlkS 93 rfl rfl) (jlkT (jtb1 13 rfl) rfl)
set_option maxRecDepth 100000 in
theorem kX12_number : jlk (jcw mX12_number) := jlkT (jtb7 3 rfl) rfl
set_option maxRecDepth 100000 in
theorem sX12_number : ∀ w ∈ ([.instanceMethod yX12_number, .selects (jCn 12) yX12_number yX12_number, .initialized (jCn 12)] : List Cond), jlk w := j3 (jlkT (jtb7 2 rfl) rfl) (jlkS 92 rfl rfl) (jlkT (jtb1 13 rfl) rfl)
set_option maxRecDepth 100000 in
theorem kX12_fault : jlk (jcw mX12_fault) := jlkT (jtb6 190 rfl) rfl
set_option maxRecDepth 100000 in
theorem sX12_fault : ∀ w ∈ ([.instanceMethod yX12_fault, .selects (jCn 12) yX12_fault yX12_fault, .initialized (jCn 12)] : List Cond), jlk w := j3 (jlkT (jtb6 188 rfl) rfl) (jlkT (jtb6 189 rfl) rfl) (jlkT (jtb1 13 rfl) rfl)
set_option maxRecDepth 100000 in
theorem kX12_readAtom : jlk (jcw mX12_readAtom) := jlkT (jtb6 239 rfl) rfl
set_option maxRecDepth 100000 in
theorem sX12_readAtom : ∀ w ∈ ([.instanceMethod yX12_readAtom, .selects (jCn 12) yX12_readAtom yX12_readAtom, .initialized (jCn 12)] : List Cond), jlk w := j3 (jlkT (jtb6 238 rfl) rfl) (jlkS 91 rfl rfl) (jlkT (jtb1 13 rfl) rfl)
set_option maxRecDepth 100000 in
theorem kX12_readSum : jlk (jcw mX12_readSum) := jlkT (jtb6 235 rfl) rfl
set_option maxRecDepth 100000 in
theorem sX12_readSum : ∀ w ∈ ([.instanceMethod yX12_readSum, .selects (jCn 12) yX12_readSum yX12_readSum, .initialized (jCn 12)] : List Cond), jlk w := j3 (jlkT (jtb6 234 rfl) rfl) (jlkS 90 rfl rfl) (jlkT (jtb1 13 rfl) rfl)
set_option maxRecDepth 100000 in
theorem kX12_readTest : jlk (jcw mX12_readTest) := jlkT (jtb7 16 rfl) rfl
set_option maxRecDepth 100000 in
theorem sX12_readTest : ∀ w ∈ ([.instanceMethod yX12_readTest, .selects (jCn 12) yX12_readTest yX12_readTest, .initialized (jCn 12)] : List Cond), jlk w := j3 (jlkT (jtb7 15 rfl) rfl) (jlkS 95 rfl rfl) (jlkT (jtb1 13 rfl) rfl)
set_option maxRecDepth 100000 in
theorem kX12_clears : jlk (jcw mX12_clears) := jlkT (jtb6 221 rfl) rfl
set_option maxRecDepth 100000 in
theorem sX12_clears : ∀ w ∈ ([.static yX12_clears, .initialized yX12_clears.cls] : List Cond), jlk w := j2 (jlkT (jtb6 220 rfl) rfl) (jlkT (jtb1 13 rfl) rfl)
set_option maxRecDepth 100000 in
theorem kX12_readLine : jlk (jcw mX12_readLine) := jlkT (jtb6 206 rfl) rfl
set_option maxRecDepth 100000 in
theorem sX12_readLine : ∀ w ∈ ([.instanceMethod yX12_readLine, .selects (jCn 12) yX12_readLine yX12_readLine, .initialized (jCn 12)] : List Cond), jlk w := j3 (jlkT (jtb6 205 rfl) rfl) (jlkS 85 rfl rfl) (jlkT (jtb1 13 rfl) rfl)
set_option maxRecDepth 100000 in
theorem kX12_readAll : jlk (jcw mX12_readAll) := jlkT (jtb6 202 rfl) rfl
set_option maxRecDepth 100000 in
theorem sX12_readAll : ∀ w ∈ ([.instanceMethod yX12_readAll, .selects (jCn 12) yX12_readAll yX12_readAll, .initialized (jCn 12)] : List Cond), jlk w := j3 (jlkT (jtb6 201 rfl) rfl) (jlkS 84 rfl rfl) (jlkT (jtb1 13 rfl) rfl)
set_option maxRecDepth 100000 in
theorem kX12_forgets : jlk (jcw mX12_forgets) := jlkT (jtb7 24 rfl) rfl
set_option maxRecDepth 100000 in
theorem sX12_forgets : ∀ w ∈ ([.instanceMethod yX12_forgets, .selects (jCn 12) yX12_forgets yX12_forgets, .initialized (jCn 12)] : List Cond), jlk w := j3 (jlkT (jtb7 23 rfl) rfl) (jlkS 97 rfl rfl) (jlkT (jtb1 13 rfl) rfl)
set_option maxRecDepth 100000 in
theorem kX12_body : jlk (jcw mX12_body) := jlkT (jtb6 194 rfl) rfl
set_option maxRecDepth 100000 in
theorem sX12_body : ∀ w ∈ ([.instanceMethod yX12_body, .selects (jCn 12) yX12_body yX12_body, .initialized (jCn 12)] : List Cond), jlk w := j3 (jlkT (jtb6 192 rfl) rfl) (jlkT (jtb6 193 rfl) rfl) (jlkT (jtb1 13 rfl) rfl)
set_option maxRecDepth 100000 in
theorem kX12_emits : jlk (jcw mX12_emits) := jlkT (jtb7 53 rfl) rfl
set_option maxRecDepth 100000 in
theorem sX12_emits : ∀ w ∈ ([.instanceMethod yX12_emits, .selects (jCn 12) yX12_emits yX12_emits, .initialized (jCn 12)] : List Cond), jlk w := j3 (jlkT (jtb7 52 rfl) rfl) (jlkS 103 rfl rfl) (jlkT (jtb1 13 rfl) rfl)
set_option maxRecDepth 100000 in
theorem kX12_readLawAtom : jlk (jcw mX12_readLawAtom) := jlkT (jtb7 57 rfl) rfl
set_option maxRecDepth 100000 in
theorem sX12_readLawAtom : ∀ w ∈ ([.instanceMethod yX12_readLawAtom, .selects (jCn 12) yX12_readLawAtom yX12_readLawAtom, .initialized (jCn 12)] : List Cond), jlk w := j3 (jlkT (jtb7 56 rfl) rfl) (jlkS 104 rfl rfl) (jlkT (jtb1 13 rfl) rfl)
set_option maxRecDepth 100000 in
theorem kX12_readItem {z : Nat} : jlk (jcw (mX12_readItem z)) := jlkT (jtb7 44 rfl) rfl
set_option maxRecDepth 100000 in
theorem sX12_readItem : ∀ w ∈ ([.instanceMethod yX12_readItem, .selects (jCn 12) yX12_readItem yX12_readItem, .initialized (jCn 12)] : List Cond), jlk w := j3 (jlkT (jtb7 43 rfl) rfl) (jlkS 101 rfl rfl) (jlkT (jtb1 13 rfl) rfl)
set_option maxRecDepth 100000 in
theorem kX12_readAllOf {z : Nat} : jlk (jcw (mX12_readAllOf z)) := jlkT (jtb7 40 rfl) rfl
set_option maxRecDepth 100000 in
theorem sX12_readAllOf : ∀ w ∈ ([.instanceMethod yX12_readAllOf, .selects (jCn 12) yX12_readAllOf yX12_readAllOf, .initialized (jCn 12)] : List Cond), jlk w := j3 (jlkT (jtb7 39 rfl) rfl) (jlkS 100 rfl rfl) (jlkT (jtb1 13 rfl) rfl)
set_option maxRecDepth 100000 in
theorem kX12_readCond {z : Nat} : jlk (jcw (mX12_readCond z)) := jlkT (jtb7 36 rfl) rfl
set_option maxRecDepth 100000 in
theorem sX12_readCond : ∀ w ∈ ([.instanceMethod yX12_readCond, .selects (jCn 12) yX12_readCond yX12_readCond, .initialized (jCn 12)] : List Cond), jlk w := j3 (jlkT (jtb7 35 rfl) rfl) (jlkS 99 rfl rfl) (jlkT (jtb1 13 rfl) rfl)
set_option maxRecDepth 100000 in
theorem kX12_readLaw : jlk (jcw mX12_readLaw) := jlkT (jtb7 32 rfl) rfl
set_option maxRecDepth 100000 in
theorem sX12_readLaw : ∀ w ∈ ([.instanceMethod yX12_readLaw, .selects (jCn 12) yX12_readLaw yX12_readLaw, .initialized (jCn 12)] : List Cond), jlk w := j3 (jlkT (jtb7 31 rfl) rfl) (jlkS 98 rfl rfl) (jlkT (jtb1 13 rfl) rfl)
set_option maxRecDepth 100000 in
theorem kX12_law : jlk (jcw mX12_law) := jlkT (jtb7 28 rfl) rfl
set_option maxRecDepth 100000 in
theorem sX12_law : ∀ w ∈ ([.instanceMethod yX12_law, .selects (jCn 12) yX12_law yX12_law, .initialized (jCn 12)] : List Cond), jlk w := j3 (jlkT (jtb7 26 rfl) rfl) (jlkT (jtb7 27 rfl) rfl) (jlkT (jtb1 13 rfl) rfl)
set_option maxRecDepth 100000 in
theorem kX12_keeps : jlk (jcw mX12_keeps) := jlkT (jtb8 60 rfl) rfl
set_option maxRecDepth 100000 in
theorem sX12_keeps : ∀ w ∈ ([.instanceMethod yX12_keeps, .selects (jCn 12) yX12_keeps yX12_keeps, .initialized (jCn 12)] : List Cond), jlk w := j3 (jlkT (jtb8 59 rfl) rfl) (jlkS 145 rfl rfl) (jlkT (jtb1 13 rfl) rfl)
set_option maxRecDepth 100000 in
theorem kX12_atomOf : jlk (jcw mX12_atomOf) := jlkT (jtb7 94 rfl) rfl
set_option maxRecDepth 100000 in
theorem sX12_atomOf : ∀ w ∈ ([.instanceMethod yX12_atomOf, .selects (jCn 12) yX12_atomOf yX12_atomOf, .initialized (jCn 12)] : List Cond), jlk w := j3 (jlkT (jtb7 93 rfl) rfl) (jlkS 110 rfl rfl) (jlkT (jtb1 13 rfl) rfl)
set_option maxRecDepth 100000 in
theorem kX12_restOf : jlk (jcw mX12_restOf) := jlkT (jtb7 83 rfl) rfl
set_option maxRecDepth 100000 in
theorem sX12_restOf : ∀ w ∈ ([.instanceMethod yX12_restOf, .selects (jCn 12) yX12_restOf yX12_restOf, .initialized (jCn 12)] : List Cond), jlk w := j3 (jlkT (jtb7 82 rfl) rfl) (jlkS 108 rfl rfl) (jlkT (jtb1 13 rfl) rfl)
set_option maxRecDepth 100000 in
theorem kX12_sumOf : jlk (jcw mX12_sumOf) := jlkT (jtb7 90 rfl) rfl
set_option maxRecDepth 100000 in
theorem sX12_sumOf : ∀ w ∈ ([.instanceMethod yX12_sumOf, .selects (jCn 12) yX12_sumOf yX12_sumOf, .initialized (jCn 12)] : List Cond), jlk w := j3 (jlkT (jtb7 89 rfl) rfl) (jlkS 109 rfl rfl) (jlkT (jtb1 13 rfl) rfl)
set_option maxRecDepth 100000 in
theorem kX12_meets : jlk (jcw mX12_meets) := jlkT (jtb7 102 rfl) rfl
set_option maxRecDepth 100000 in
theorem sX12_meets : ∀ w ∈ ([.instanceMethod yX12_meets, .selects (jCn 12) yX12_meets yX12_meets, .initialized (jCn 12)] : List Cond), jlk w := j3 (jlkT (jtb7 101 rfl) rfl) (jlkS 111 rfl rfl) (jlkT (jtb1 13 rfl) rfl)
set_option maxRecDepth 100000 in
theorem kX12_goes : jlk (jcw mX12_goes) := jlkT (jtb7 78 rfl) rfl
set_option maxRecDepth 100000 in
theorem sX12_goes : ∀ w ∈ ([.instanceMethod yX12_goes, .selects (jCn 12) yX12_goes yX12_goes, .initialized (jCn 12)] : List Cond), jlk w := j3 (jlkT (jtb7 77 rfl) rfl) (jlkS 107 rfl rfl) (jlkT (jtb1 13 rfl) rfl)
set_option maxRecDepth 100000 in
theorem kX12_lays : jlk (jcw mX12_lays) := jlkT (jtb7 70 rfl) rfl
set_option maxRecDepth 100000 in
theorem sX12_lays : ∀ w ∈ ([.instanceMethod yX12_lays, .selects (jCn 12) yX12_lays yX12_lays, .initialized (jCn 12)] : List Cond), jlk w := j3 (jlkT (jtb7 69 rfl) rfl) (jlkS 105 rfl rfl) (jlkT (jtb1 13 rfl) rfl)
set_option maxRecDepth 100000 in
theorem kX12_endOn : jlk (jcw mX12_endOn) := jlkT (jtb7 119 rfl) rfl
set_option maxRecDepth 100000 in
theorem sX12_endOn : ∀ w ∈ ([.instanceMethod yX12_endOn, .selects (jCn 12) yX12_endOn yX12_endOn, .initialized (jCn 12)] : List Cond), jlk w := j3 (jlkT (jtb7 118 rfl) rfl) (jlkS 114 rfl rfl) (jlkT (jtb1 13 rfl) rfl)
set_option maxRecDepth 100000 in
theorem kX12_endAt : jlk (jcw mX12_endAt) := jlkT (jtb7 74 rfl) rfl
set_option maxRecDepth 100000 in
theorem sX12_endAt : ∀ w ∈ ([.instanceMethod yX12_endAt, .selects (jCn 12) yX12_endAt yX12_endAt, .initialized (jCn 12)] : List Cond), jlk w := j3 (jlkT (jtb7 73 rfl) rfl) (jlkS 106 rfl rfl) (jlkT (jtb1 13 rfl) rfl)
set_option maxRecDepth 100000 in
theorem kX12_isRight : jlk (jcw mX12_isRight) := jlkT (jtb7 131 rfl) rfl
set_option maxRecDepth 100000 in
theorem sX12_isRight : ∀ w ∈ ([.instanceMethod yX12_isRight, .selects (jCn 12) yX12_isRight yX12_isRight, .initialized (jCn 12)] : List Cond), jlk w := j3 (jlkT (jtb7 130 rfl) rfl) (jlkS 116 rfl rfl) (jlkT (jtb1 13 rfl) rfl)
set_option maxRecDepth 100000 in
theorem kX12_lines : jlk (jcw mX12_lines) := jlkT (jtb7 115 rfl) rfl
set_option maxRecDepth 100000 in
theorem sX12_lines : ∀ w ∈ ([.instanceMethod yX12_lines, .selects (jCn 12) yX12_lines yX12_lines, .initialized (jCn 12)] : List Cond), jlk w := j3 (jlkT (jtb7 114 rfl) rfl) (jlkS 113 rfl rfl) (jlkT (jtb1 13 rfl) rfl)
set_option maxRecDepth 100000 in
theorem kX12_noRun : jlk (jcw mX12_noRun) := jlkT (jtb7 111 rfl) rfl
set_option maxRecDepth 100000 in
theorem sX12_noRun : ∀ w ∈ ([.instanceMethod yX12_noRun, .selects (jCn 12) yX12_noRun yX12_noRun, .initialized (jCn 12)] : List Cond), jlk w := j3 (jlkT (jtb7 110 rfl) rfl) (jlkS 112 rfl rfl) (jlkT (jtb1 13 rfl) rfl)
set_option maxRecDepth 100000 in
theorem kX12_ends : jlk (jcw mX12_ends) := jlkT (jtb7 66 rfl) rfl
set_option maxRecDepth 100000 in
theorem sX12_ends : ∀ w ∈ ([.instanceMethod yX12_ends, .selects (jCn 12) yX12_ends yX12_ends, .initialized (jCn 12)] : List Cond), jlk w := j3 (jlkT (jtb7 64 rfl) rfl) (jlkT (jtb7 65 rfl) rfl) (jlkT (jtb1 13 rfl) rfl)
set_option maxRecDepth 100000 in
theorem kX12_look : jlk (jcw mX12_look) := jlkT (jtb7 107 rfl) rfl
set_option maxRecDepth 100000 in
theorem sX12_look : ∀ w ∈ ([.instanceMethod yX12_look, .selects (jCn 12) yX12_look yX12_look, .initialized (jCn 12)] : List Cond), jlk w := j3 (jlkT (jtb7 105 rfl) rfl) (jlkT (jtb7 106 rfl) rfl) (jlkT (jtb1 13 rfl) rfl)
set_option maxRecDepth 100000 in
theorem kX12_doneIn : jlk (jcw mX12_doneIn) := jlkT (jtb7 127 rfl) rfl
set_option maxRecDepth 100000 in
theorem sX12_doneIn : ∀ w ∈ ([.instanceMethod yX12_doneIn, .selects (jCn 12) yX12_doneIn yX12_doneIn, .initialized (jCn 12)] : List Cond), jlk w := j3 (jlkT (jtb7 126 rfl) rfl) (jlkS 115 rfl rfl) (jlkT (jtb1 13 rfl) rfl)
set_option maxRecDepth 100000 in
theorem kX12_done : jlk (jcw mX12_done) := jlkT (jtb7 123 rfl) rfl
set_option maxRecDepth 100000 in
theorem sX12_done : ∀ w ∈ ([.instanceMethod yX12_done, .selects (jCn 12) yX12_done yX12_done, .initialized (jCn 12)] : List Cond), jlk w := j3 (jlkT (jtb7 121 rfl) rfl) (jlkT (jtb7 122 rfl) rfl) (jlkT (jtb1 13 rfl) rfl)
set_option maxRecDepth 100000 in
theorem kX12_wrongMany : jlk (jcw mX12_wrongMany) := jlkT (jtb7 143 rfl) rfl
set_option maxRecDepth 100000 in
theorem sX12_wrongMany : ∀ w ∈ ([.instanceMethod yX12_wrongMany, .selects (jCn 12) yX12_wrongMany yX12_wrongMany, .initialized (jCn 12)] : List Cond), jlk w := j3 (jlkT (jtb7 142 rfl) rfl) (jlkS 118 rfl rfl) (jlkT (jtb1 13 rfl) rfl)
set_option maxRecDepth 100000 in
theorem kX12_blame : jlk (jcw mX12_blame) := jlkT (jtb7 139 rfl) rfl
set_option maxRecDepth 100000 in
theorem sX12_blame : ∀ w ∈ ([.instanceMethod yX12_blame, .selects (jCn 12) yX12_blame yX12_blame, .initialized (jCn 12)] : List Cond), jlk w := j3 (jlkT (jtb7 138 rfl) rfl) (jlkS 117 rfl rfl) (jlkT (jtb1 13 rfl) rfl)
set_option maxRecDepth 100000 in
theorem kX12_canBeRight : jlk (jcw mX12_canBeRight) := jlkT (jtb7 151 rfl) rfl
set_option maxRecDepth 100000 in
theorem sX12_canBeRight : ∀ w ∈ ([.instanceMethod yX12_canBeRight, .selects (jCn 12) yX12_canBeRight yX12_canBeRight, .initialized (jCn 12)] : List Cond), jlk w := j3 (jlkT (jtb7 150 rfl) rfl) (jlkS 120 rfl rfl) (jlkT (jtb1 13 rfl) rfl)
set_option maxRecDepth 100000 in
theorem kX12_free : jlk (jcw mX12_free) := jlkT (jtb7 147 rfl) rfl
set_option maxRecDepth 100000 in
theorem sX12_free : ∀ w ∈ ([.instanceMethod yX12_free, .selects (jCn 12) yX12_free yX12_free, .initialized (jCn 12)] : List Cond), jlk w := j3 (jlkT (jtb7 146 rfl) rfl) (jlkS 119 rfl rfl) (jlkT (jtb1 13 rfl) rfl)
set_option maxRecDepth 100000 in
theorem kX12_slices : jlk (jcw mX12_slices) := jlkT (jtb7 155 rfl) rfl
set_option maxRecDepth 100000 in
theorem sX12_slices : ∀ w ∈ ([.instanceMethod yX12_slices, .selects (jCn 12) yX12_slices yX12_slices, .initialized (jCn 12)] : List Cond), jlk w := j3 (jlkT (jtb7 154 rfl) rfl) (jlkS 121 rfl rfl) (jlkT (jtb1 13 rfl) rfl)
set_option maxRecDepth 100000 in
theorem kX12_where : jlk (jcw mX12_where) := jlkT (jtb7 135 rfl) rfl
set_option maxRecDepth 100000 in
theorem sX12_where : ∀ w ∈ ([.instanceMethod yX12_where, .selects (jCn 12) yX12_where yX12_where, .initialized (jCn 12)] : List Cond), jlk w := j3 (jlkT (jtb7 133 rfl) rfl) (jlkT (jtb7 134 rfl) rfl) (jlkT (jtb1 13 rfl) rfl)
set_option maxRecDepth 100000 in
theorem kX12_mends : jlk (jcw mX12_mends) := jlkT (jtb7 175 rfl) rfl
set_option maxRecDepth 100000 in
theorem sX12_mends : ∀ w ∈ ([.instanceMethod yX12_mends, .selects (jCn 12) yX12_mends yX12_mends, .initialized (jCn 12)] : List Cond), jlk w := j3 (jlkT (jtb7 174 rfl) rfl) (jlkS 125 rfl rfl) (jlkT (jtb1 13 rfl) rfl)
set_option maxRecDepth 100000 in
theorem kX12_isUnlike : jlk (jcw mX12_isUnlike) := jlkT (jtb7 183 rfl) rfl
set_option maxRecDepth 100000 in
theorem sX12_isUnlike : ∀ w ∈ ([.instanceMethod yX12_isUnlike, .selects (jCn 12) yX12_isUnlike yX12_isUnlike, .initialized (jCn 12)] : List Cond), jlk w := j3 (jlkT (jtb7 182 rfl) rfl) (jlkS 127 rfl rfl) (jlkT (jtb1 13 rfl) rfl)
set_option maxRecDepth 100000 in
theorem kX12_each : jlk (jcw mX12_each) := jlkT (jtb7 171 rfl) rfl
set_option maxRecDepth 100000 in
theorem sX12_each : ∀ w ∈ ([.instanceMethod yX12_each, .selects (jCn 12) yX12_each yX12_each, .initialized (jCn 12)] : List Cond), jlk w := j3 (jlkT (jtb7 170 rfl) rfl) (jlkS 124 rfl rfl) (jlkT (jtb1 13 rfl) rfl)
set_option maxRecDepth 100000 in
theorem kX12_beside : jlk (jcw mX12_beside) := jlkT (jtb7 179 rfl) rfl
set_option maxRecDepth 100000 in
theorem sX12_beside : ∀ w ∈ ([.instanceMethod yX12_beside, .selects (jCn 12) yX12_beside yX12_beside, .initialized (jCn 12)] : List Cond), jlk w := j3 (jlkT (jtb7 178 rfl) rfl) (jlkS 126 rfl rfl) (jlkT (jtb1 13 rfl) rfl)
set_option maxRecDepth 100000 in
theorem kX12_lists : jlk (jcw mX12_lists) := jlkT (jtb7 167 rfl) rfl
set_option maxRecDepth 100000 in
theorem sX12_lists : ∀ w ∈ ([.instanceMethod yX12_lists, .selects (jCn 12) yX12_lists yX12_lists, .initialized (jCn 12)] : List Cond), jlk w := j3 (jlkT (jtb7 166 rfl) rfl) (jlkS 123 rfl rfl) (jlkT (jtb1 13 rfl) rfl)
set_option maxRecDepth 100000 in
theorem kX12_mendsBy : jlk (jcw mX12_mendsBy) := jlkT (jtb7 203 rfl) rfl
set_option maxRecDepth 100000 in
theorem sX12_mendsBy : ∀ w ∈ ([.instanceMethod yX12_mendsBy, .selects (jCn 12) yX12_mendsBy yX12_mendsBy, .initialized (jCn 12)] : List Cond), jlk w := j3 (jlkT (jtb7 202 rfl) rfl) (jlkS 132 rfl rfl) (jlkT (jtb1 13 rfl) rfl)
set_option maxRecDepth 100000 in
theorem kX12_plain : jlk (jcw mX12_plain) := jlkT (jtb7 195 rfl) rfl
set_option maxRecDepth 100000 in
theorem sX12_plain : ∀ w ∈ ([.instanceMethod yX12_plain, .selects (jCn 12) yX12_plain yX12_plain, .initialized (jCn 12)] : List Cond), jlk w := j3 (jlkT (jtb7 194 rfl) rfl) (jlkS 130 rfl rfl) (jlkT (jtb1 13 rfl) rfl)
set_option maxRecDepth 100000 in
theorem kX12_laysBy : jlk (jcw mX12_laysBy) := jlkT (jtb7 199 rfl) rfl
set_option maxRecDepth 100000 in
theorem sX12_laysBy : ∀ w ∈ ([.instanceMethod yX12_laysBy, .selects (jCn 12) yX12_laysBy yX12_laysBy, .initialized (jCn 12)] : List Cond), jlk w := j3 (jlkT (jtb7 198 rfl) rfl) (jlkS 131 rfl rfl) (jlkT (jtb1 13 rfl) rfl)
set_option maxRecDepth 100000 in
theorem kX12_allRight : jlk (jcw mX12_allRight) := jlkT (jtb7 220 rfl) rfl
set_option maxRecDepth 100000 in
theorem sX12_allRight : ∀ w ∈ ([.instanceMethod yX12_allRight, .selects (jCn 12) yX12_allRight yX12_allRight, .initialized (jCn 12)] : List Cond), jlk w := j3 (jlkT (jtb7 219 rfl) rfl) (jlkS 134 rfl rfl) (jlkT (jtb1 13 rfl) rfl)
set_option maxRecDepth 100000 in
theorem kX12_listsBody : jlk (jcw mX12_listsBody) := jlkT (jtb7 163 rfl) rfl
set_option maxRecDepth 100000 in
theorem sX12_listsBody : ∀ w ∈ ([.instanceMethod yX12_listsBody, .selects (jCn 12) yX12_listsBody yX12_listsBody, .initialized (jCn 12)] : List Cond), jlk w := j3 (jlkT (jtb7 162 rfl) rfl) (jlkS 122 rfl rfl) (jlkT (jtb1 13 rfl) rfl)
set_option maxRecDepth 100000 in
theorem kX12_noMend : jlk (jcw mX12_noMend) := jlkT (jtb7 187 rfl) rfl
set_option maxRecDepth 100000 in
theorem sX12_noMend : ∀ w ∈ ([.instanceMethod yX12_noMend, .selects (jCn 12) yX12_noMend yX12_noMend, .initialized (jCn 12)] : List Cond), jlk w := j3 (jlkT (jtb7 186 rfl) rfl) (jlkS 128 rfl rfl) (jlkT (jtb1 13 rfl) rfl)
set_option maxRecDepth 100000 in
theorem kX12_turned : jlk (jcw mX12_turned) := jlkT (jtb7 191 rfl) rfl
set_option maxRecDepth 100000 in
theorem sX12_turned : ∀ w ∈ ([.instanceMethod yX12_turned, .selects (jCn 12) yX12_turned yX12_turned, .initialized (jCn 12)] : List Cond), jlk w := j3 (jlkT (jtb7 190 rfl) rfl) (jlkS 129 rfl rfl) (jlkT (jtb1 13 rfl) rfl)
set_option maxRecDepth 100000 in
theorem kX12_mend : jlk (jcw mX12_mend) := jlkT (jtb7 159 rfl) rfl
set_option maxRecDepth 100000 in
theorem sX12_mend : ∀ w ∈ ([.instanceMethod yX12_mend, .selects (jCn 12) yX12_mend yX12_mend, .initialized (jCn 12)] : List Cond), jlk w := j3 (jlkT (jtb7 157 rfl) rfl) (jlkT (jtb7 158 rfl) rfl) (jlkT (jtb1 13 rfl) rfl)
set_option maxRecDepth 100000 in
theorem kX12_line : jlk (jcw mX12_line) := jlkT (jtb7 208 rfl) rfl
set_option maxRecDepth 100000 in
theorem sX12_line : ∀ w ∈ ([.instanceMethod yX12_line, .selects (jCn 12) yX12_line yX12_line, .initialized (jCn 12)] : List Cond), jlk w := j3 (jlkT (jtb7 206 rfl) rfl) (jlkT (jtb7 207 rfl) rfl) (jlkT (jtb1 13 rfl) rfl)
set_option maxRecDepth 100000 in
theorem kX12_canPair : jlk (jcw mX12_canPair) := jlkT (jtb7 228 rfl) rfl
set_option maxRecDepth 100000 in
theorem sX12_canPair : ∀ w ∈ ([.instanceMethod yX12_canPair, .selects (jCn 12) yX12_canPair yX12_canPair, .initialized (jCn 12)] : List Cond), jlk w := j3 (jlkT (jtb7 227 rfl) rfl) (jlkS 136 rfl rfl) (jlkT (jtb1 13 rfl) rfl)
set_option maxRecDepth 100000 in
theorem kX12_doubles : jlk (jcw mX12_doubles) := jlkT (jtb8 116 rfl) rfl
set_option maxRecDepth 100000 in
theorem sX12_doubles : ∀ w ∈ ([.instanceMethod yX12_doubles, .selects (jCn 12) yX12_doubles yX12_doubles, .initialized (jCn 12)] : List Cond), jlk w := j3 (jlkT (jtb8 115 rfl) rfl) (jlkS 149 rfl rfl) (jlkT (jtb1 13 rfl) rfl)
set_option maxRecDepth 100000 in
theorem kX12_notes : jlk (jcw mX12_notes) := jlkT (jtb7 224 rfl) rfl
set_option maxRecDepth 100000 in
theorem sX12_notes : ∀ w ∈ ([.instanceMethod yX12_notes, .selects (jCn 12) yX12_notes yX12_notes, .initialized (jCn 12)] : List Cond), jlk w := j3 (jlkT (jtb7 223 rfl) rfl) (jlkS 135 rfl rfl) (jlkT (jtb1 13 rfl) rfl)
set_option maxRecDepth 100000 in
theorem kX12_attempt : jlk (jcw mX12_attempt) := jlkT (jtb7 216 rfl) rfl
set_option maxRecDepth 100000 in
theorem sX12_attempt : ∀ w ∈ ([.instanceMethod yX12_attempt, .selects (jCn 12) yX12_attempt yX12_attempt, .initialized (jCn 12)] : List Cond), jlk w := j3 (jlkT (jtb7 215 rfl) rfl) (jlkS 133 rfl rfl) (jlkT (jtb1 13 rfl) rfl)
set_option maxRecDepth 100000 in
theorem kX12_tries : jlk (jcw mX12_tries) := jlkT (jtb7 212 rfl) rfl
set_option maxRecDepth 100000 in
theorem sX12_tries : ∀ w ∈ ([.instanceMethod yX12_tries, .selects (jCn 12) yX12_tries yX12_tries, .initialized (jCn 12)] : List Cond), jlk w := j3 (jlkT (jtb7 210 rfl) rfl) (jlkT (jtb7 211 rfl) rfl) (jlkT (jtb1 13 rfl) rfl)
set_option maxRecDepth 100000 in
theorem kX12_laysAlive : jlk (jcw mX12_laysAlive) := jlkT (jtb7 238 rfl) rfl
set_option maxRecDepth 100000 in
theorem sX12_laysAlive : ∀ w ∈ ([.instanceMethod yX12_laysAlive, .selects (jCn 12) yX12_laysAlive yX12_laysAlive, .initialized (jCn 12)] : List Cond), jlk w := j3 (jlkT (jtb7 237 rfl) rfl) (jlkS 137 rfl rfl) (jlkT (jtb1 13 rfl) rfl)
set_option maxRecDepth 100000 in
theorem kX12_noAlive : jlk (jcw mX12_noAlive) := jlkT (jtb8 10 rfl) rfl
set_option maxRecDepth 100000 in
theorem sX12_noAlive : ∀ w ∈ ([.instanceMethod yX12_noAlive, .selects (jCn 12) yX12_noAlive yX12_noAlive, .initialized (jCn 12)] : List Cond), jlk w := j3 (jlkT (jtb8 9 rfl) rfl) (jlkS 139 rfl rfl) (jlkT (jtb1 13 rfl) rfl)
set_option maxRecDepth 100000 in
theorem kX12_putsOut : jlk (jcw mX12_putsOut) := jlkT (jtb8 2 rfl) rfl
set_option maxRecDepth 100000 in
theorem sX12_putsOut : ∀ w ∈ ([.instanceMethod yX12_putsOut, .selects (jCn 12) yX12_putsOut yX12_putsOut, .initialized (jCn 12)] : List Cond), jlk w := j3 (jlkT (jtb8 1 rfl) rfl) (jlkS 138 rfl rfl) (jlkT (jtb1 13 rfl) rfl)
set_option maxRecDepth 100000 in
theorem kX12_run : jlk (jcw mX12_run) := jlkT (jtb7 232 rfl) rfl
set_option maxRecDepth 100000 in
theorem sX12_run : ∀ w ∈ ([.instanceMethod yX12_run, .selects (jCn 12) yX12_run yX12_run, .initialized (jCn 12)] : List Cond), jlk w := j3 (jlkT (jtb7 230 rfl) rfl) (jlkT (jtb7 231 rfl) rfl) (jlkT (jtb1 13 rfl) rfl)
set_option maxRecDepth 100000 in
theorem kX12_alive : jlk (jcw mX12_alive) := jlkT (jtb8 6 rfl) rfl
set_option maxRecDepth 100000 in
theorem sX12_alive : ∀ w ∈ ([.instanceMethod yX12_alive, .selects (jCn 12) yX12_alive yX12_alive, .initialized (jCn 12)] : List Cond), jlk w := j3 (jlkT (jtb8 4 rfl) rfl) (jlkT (jtb8 5 rfl) rfl) (jlkT (jtb1 13 rfl) rfl)
set_option maxRecDepth 100000 in
theorem kX12_aliveEnds : jlk (jcw mX12_aliveEnds) := jlkT (jtb8 14 rfl) rfl
set_option maxRecDepth 100000 in
theorem sX12_aliveEnds : ∀ w ∈ ([.instanceMethod yX12_aliveEnds, .selects (jCn 12) yX12_aliveEnds yX12_aliveEnds, .initialized (jCn 12)] : List Cond), jlk w := j3 (jlkT (jtb8 12 rfl) rfl) (jlkT (jtb8 13 rfl) rfl) (jlkT (jtb1 13 rfl) rfl)
set_option maxRecDepth 100000 in
theorem kX12_teach : jlk (jcw mX12_teach) := jlkT (jtb8 18 rfl) rfl
set_option maxRecDepth 100000 in
theorem sX12_teach : ∀ w ∈ ([.instanceMethod yX12_teach, .selects (jCn 12) yX12_teach yX12_teach, .initialized (jCn 12)] : List Cond), jlk w := j3 (jlkT (jtb8 16 rfl) rfl) (jlkT (jtb8 17 rfl) rfl) (jlkT (jtb1 13 rfl) rfl)
set_option maxRecDepth 100000 in
theorem kX12_isAhead : jlk (jcw mX12_isAhead) := jlkT (jtb8 26 rfl) rfl
set_option maxRecDepth 100000 in
theorem sX12_isAhead : ∀ w ∈ ([.instanceMethod yX12_isAhead, .selects (jCn 12) yX12_isAhead yX12_isAhead, .initialized (jCn 12)] : List Cond), jlk w := j3 (jlkT (jtb8 25 rfl) rfl) (jlkS 140 rfl rfl) (jlkT (jtb1 13 rfl) rfl)
set_option maxRecDepth 100000 in
theorem kX12_first : jlk (jcw mX12_first) := jlkT (jtb8 22 rfl) rfl
set_option maxRecDepth 100000 in
theorem sX12_first : ∀ w ∈ ([.instanceMethod yX12_first, .selects (jCn 12) yX12_first yX12_first, .initialized (jCn 12)] : List Cond), jlk w := j3 (jlkT (jtb8 20 rfl) rfl) (jlkT (jtb8 21 rfl) rfl) (jlkT (jtb1 13 rfl) rfl)
set_option maxRecDepth 100000 in
theorem kX12_box : jlk (jcw mX12_box) := jlkT (jtb8 30 rfl) rfl
set_option maxRecDepth 100000 in
theorem sX12_box : ∀ w ∈ ([.instanceMethod yX12_box, .selects (jCn 12) yX12_box yX12_box, .initialized (jCn 12)] : List Cond), jlk w := j3 (jlkT (jtb8 28 rfl) rfl) (jlkT (jtb8 29 rfl) rfl) (jlkT (jtb1 13 rfl) rfl)
set_option maxRecDepth 100000 in
theorem kX12_endsOfAll : jlk (jcw mX12_endsOfAll) := jlkT (jtb8 38 rfl) rfl
set_option maxRecDepth 100000 in
theorem sX12_endsOfAll : ∀ w ∈ ([.instanceMethod yX12_endsOfAll, .selects (jCn 12) yX12_endsOfAll yX12_endsOfAll, .initialized (jCn 12)] : List Cond), jlk w := j3 (jlkT (jtb8 37 rfl) rfl) (jlkS 141 rfl rfl) (jlkT (jtb1 13 rfl) rfl)
set_option maxRecDepth 100000 in
theorem kX12_mostAlike : jlk (jcw mX12_mostAlike) := jlkT (jtb8 42 rfl) rfl
set_option maxRecDepth 100000 in
theorem sX12_mostAlike : ∀ w ∈ ([.instanceMethod yX12_mostAlike, .selects (jCn 12) yX12_mostAlike yX12_mostAlike, .initialized (jCn 12)] : List Cond), jlk w := j3 (jlkT (jtb8 41 rfl) rfl) (jlkS 142 rfl rfl) (jlkT (jtb1 13 rfl) rfl)
set_option maxRecDepth 100000 in
theorem kX12_nearest : jlk (jcw mX12_nearest) := jlkT (jtb8 46 rfl) rfl
set_option maxRecDepth 100000 in
theorem sX12_nearest : ∀ w ∈ ([.instanceMethod yX12_nearest, .selects (jCn 12) yX12_nearest yX12_nearest, .initialized (jCn 12)] : List Cond), jlk w := j3 (jlkT (jtb8 45 rfl) rfl) (jlkS 143 rfl rfl) (jlkT (jtb1 13 rfl) rfl)
set_option maxRecDepth 100000 in
theorem kX12_input : jlk (jcw mX12_input) := jlkT (jtb8 34 rfl) rfl
set_option maxRecDepth 100000 in
theorem sX12_input : ∀ w ∈ ([.instanceMethod yX12_input, .selects (jCn 12) yX12_input yX12_input, .initialized (jCn 12)] : List Cond), jlk w := j3 (jlkT (jtb8 32 rfl) rfl) (jlkT (jtb8 33 rfl) rfl) (jlkT (jtb1 13 rfl) rfl)
set_option maxRecDepth 100000 in
theorem kX12_broken : jlk (jcw mX12_broken) := jlkT (jtb8 56 rfl) rfl
set_option maxRecDepth 100000 in
theorem sX12_broken : ∀ w ∈ ([.instanceMethod yX12_broken, .selects (jCn 12) yX12_broken yX12_broken, .initialized (jCn 12)] : List Cond), jlk w := j3 (jlkT (jtb8 55 rfl) rfl) (jlkS 144 rfl rfl) (jlkT (jtb1 13 rfl) rfl)
set_option maxRecDepth 100000 in
theorem kX12_prove : jlk (jcw mX12_prove) := jlkT (jtb8 52 rfl) rfl
set_option maxRecDepth 100000 in
theorem sX12_prove : ∀ w ∈ ([.instanceMethod yX12_prove, .selects (jCn 12) yX12_prove yX12_prove, .initialized (jCn 12)] : List Cond), jlk w := j3 (jlkT (jtb8 50 rfl) rfl) (jlkT (jtb8 51 rfl) rfl) (jlkT (jtb1 13 rfl) rfl)
set_option maxRecDepth 100000 in
theorem kX12_bar : jlk (jcw mX12_bar) := jlkT (jtb8 64 rfl) rfl
set_option maxRecDepth 100000 in
theorem sX12_bar : ∀ w ∈ ([.instanceMethod yX12_bar, .selects (jCn 12) yX12_bar yX12_bar, .initialized (jCn 12)] : List Cond), jlk w := j3 (jlkT (jtb8 62 rfl) rfl) (jlkT (jtb8 63 rfl) rfl) (jlkT (jtb1 13 rfl) rfl)
set_option maxRecDepth 100000 in
theorem kX12_otherwise : jlk (jcw mX12_otherwise) := jlkT (jtb8 68 rfl) rfl
set_option maxRecDepth 100000 in
theorem sX12_otherwise : ∀ w ∈ ([.instanceMethod yX12_otherwise, .selects (jCn 12) yX12_otherwise yX12_otherwise, .initialized (jCn 12)] : List Cond), jlk w := j3 (jlkT (jtb8 66 rfl) rfl) (jlkT (jtb8 67 rfl) rfl) (jlkT (jtb1 13 rfl) rfl)
set_option maxRecDepth 100000 in
theorem kX12_heaps : jlk (jcw mX12_heaps) := jlkT (jtb8 72 rfl) rfl
set_option maxRecDepth 100000 in
theorem sX12_heaps : ∀ w ∈ ([.instanceMethod yX12_heaps, .selects (jCn 12) yX12_heaps yX12_heaps, .initialized (jCn 12)] : List Cond), jlk w := j3 (jlkT (jtb8 70 rfl) rfl) (jlkT (jtb8 71 rfl) rfl) (jlkT (jtb1 13 rfl) rfl)
set_option maxRecDepth 100000 in
theorem kX12_isAsBody : jlk (jcw mX12_isAsBody) := jlkT (jtb8 84 rfl) rfl
set_option maxRecDepth 100000 in
theorem sX12_isAsBody : ∀ w ∈ ([.instanceMethod yX12_isAsBody, .selects (jCn 12) yX12_isAsBody yX12_isAsBody, .initialized (jCn 12)] : List Cond), jlk w := j3 (jlkT (jtb8 83 rfl) rfl) (jlkS 147 rfl rfl) (jlkT (jtb1 13 rfl) rfl)
set_option maxRecDepth 100000 in
theorem kX12_endsAsDue : jlk (jcw mX12_endsAsDue) := jlkT (jtb8 80 rfl) rfl
set_option maxRecDepth 100000 in
theorem sX12_endsAsDue : ∀ w ∈ ([.instanceMethod yX12_endsAsDue, .selects (jCn 12) yX12_endsAsDue yX12_endsAsDue, .initialized (jCn 12)] : List Cond), jlk w := j3 (jlkT (jtb8 79 rfl) rfl) (jlkS 146 rfl rfl) (jlkT (jtb1 13 rfl) rfl)
set_option maxRecDepth 100000 in
theorem kX12_putIn : jlk (jcw mX12_putIn) := jlkT (jtb8 76 rfl) rfl
set_option maxRecDepth 100000 in
theorem sX12_putIn : ∀ w ∈ ([.instanceMethod yX12_putIn, .selects (jCn 12) yX12_putIn yX12_putIn, .initialized (jCn 12)] : List Cond), jlk w := j3 (jlkT (jtb8 74 rfl) rfl) (jlkT (jtb8 75 rfl) rfl) (jlkT (jtb1 13 rfl) rfl)
set_option maxRecDepth 100000 in
theorem kX12_make : jlk (jcw mX12_make) := jlkT (jtb8 88 rfl) rfl
set_option maxRecDepth 100000 in
theorem sX12_make : ∀ w ∈ ([.instanceMethod yX12_make, .selects (jCn 12) yX12_make yX12_make, .initialized (jCn 12)] : List Cond), jlk w := j3 (jlkT (jtb8 86 rfl) rfl) (jlkT (jtb8 87 rfl) rfl) (jlkT (jtb1 13 rfl) rfl)
set_option maxRecDepth 100000 in
theorem kX12_takeBack : jlk (jcw mX12_takeBack) := jlkT (jtb8 92 rfl) rfl
set_option maxRecDepth 100000 in
theorem sX12_takeBack : ∀ w ∈ ([.instanceMethod yX12_takeBack, .selects (jCn 12) yX12_takeBack yX12_takeBack, .initialized (jCn 12)] : List Cond), jlk w := j3 (jlkT (jtb8 90 rfl) rfl) (jlkT (jtb8 91 rfl) rfl) (jlkT (jtb1 13 rfl) rfl)
set_option maxRecDepth 100000 in
theorem kX12_noRow : jlk (jcw mX12_noRow) := jlkT (jtb8 100 rfl) rfl
set_option maxRecDepth 100000 in
theorem sX12_noRow : ∀ w ∈ ([.instanceMethod yX12_noRow, .selects (jCn 12) yX12_noRow yX12_noRow, .initialized (jCn 12)] : List Cond), jlk w := j3 (jlkT (jtb8 99 rfl) rfl) (jlkS 148 rfl rfl) (jlkT (jtb1 13 rfl) rfl)
set_option maxRecDepth 100000 in
theorem kX12_row : jlk (jcw mX12_row) := jlkT (jtb8 96 rfl) rfl
set_option maxRecDepth 100000 in
theorem sX12_row : ∀ w ∈ ([.instanceMethod yX12_row, .selects (jCn 12) yX12_row yX12_row, .initialized (jCn 12)] : List Cond), jlk w := j3 (jlkT (jtb8 94 rfl) rfl) (jlkT (jtb8 95 rfl) rfl) (jlkT (jtb1 13 rfl) rfl)
set_option maxRecDepth 100000 in
theorem kX12_tear : jlk (jcw mX12_tear) := jlkT (jtb8 104 rfl) rfl
set_option maxRecDepth 100000 in
theorem sX12_tear : ∀ w ∈ ([.instanceMethod yX12_tear, .selects (jCn 12) yX12_tear yX12_tear, .initialized (jCn 12)] : List Cond), jlk w := j3 (jlkT (jtb8 102 rfl) rfl) (jlkT (jtb8 103 rfl) rfl) (jlkT (jtb1 13 rfl) rfl)
set_option maxRecDepth 100000 in
theorem kX12_check : jlk (jcw mX12_check) := jlkT (jtb8 108 rfl) rfl
set_option maxRecDepth 100000 in
theorem sX12_check : ∀ w ∈ ([.instanceMethod yX12_check, .selects (jCn 12) yX12_check yX12_check, .initialized (jCn 12)] : List Cond), jlk w := j3 (jlkT (jtb8 106 rfl) rfl) (jlkT (jtb8 107 rfl) rfl) (jlkT (jtb1 13 rfl) rfl)
set_option maxRecDepth 100000 in
theorem kX12_count : jlk (jcw mX12_count) := jlkT (jtb8 112 rfl) rfl
set_option maxRecDepth 100000 in
theorem sX12_count : ∀ w ∈ ([.instanceMethod yX12_count, .selects (jCn 12) yX12_count yX12_count, .initialized (jCn 12)] : List Cond), jlk w := j3 (jlkT (jtb8 110 rfl) rfl) (jlkT (jtb8 111 rfl) rfl) (jlkT (jtb1 13 rfl) rfl)
