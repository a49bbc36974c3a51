/-! More rows: fewer locals, Math, throws. -/
def jle : List (Option Value) → List (Option Value) → Prop
  | [], _ => True
  | none :: a, _ :: b => jle a b
  | none :: a, [] => jle a []
  | some v :: a, w :: b => w = some v ∧ jle a b
  | some _ :: _, [] => False
theorem jle_get : ∀ (a b : List (Option Value)), jle a b → ∀ (j : Nat) (v : Value), jget a j = some v → jget b j = some v := by
  intro a
  induction a with
  | nil => intro b _ j v h; cases h
  | cons x a ih =>
    intro b hb j v h
    cases x with
    | none =>
      cases b with
      | nil => cases j with
        | zero => cases h
        | succ j => exact absurd (ih [] hb j v h) (by simp [jget])
      | cons y b => cases j with
        | zero => cases h
        | succ j => exact ih b hb j v h
    | some w =>
      cases b with
      | nil => exact hb.elim
      | cons y b =>
        obtain ⟨h1, h2⟩ := hb
        cases j with
        | zero => exact h1.trans h
        | succ j => exact ih b h2 j v h
theorem jbn {x : Int32} (h : x = 0 ∨ x = 1) : narrow .boolean (.int x) = .int x := by rcases h with rfl | rfl <;> rfl
theorem jbf {x : Int32} (h : x = 0 ∨ x = 1) : fits .boolean (.int x) = true := by rcases h with rfl | rfl <;> rfl
section JX
variable {M : jM} {Q : jQ} {pc : Nat} {lv : List (Option Value)} {st : List Value} {Γ : jS} {h : jH} {u : Nat × Nat}
theorem j_le (lv' : List (Option Value)) (hh : jle lv' lv) (k : WP M Q pc lv' st Γ h u) : WP M Q pc lv st Γ h u := j_sub lv' (jle_get lv' lv hh) k
theorem j_eqlv (lv' : List (Option Value)) (hh : lv = lv') (k : WP M Q pc lv' st Γ h u) : WP M Q pc lv st Γ h u := by rw [hh]; exact k
theorem j_eqst (st' : List Value) (hh : st = st') (k : WP M Q pc lv st' Γ h u) : WP M Q pc lv st Γ h u := by rw [hh]; exact k
theorem j_eqh (h' : jH) (hh : h = h') (k : WP M Q pc lv st Γ h' u) : WP M Q pc lv st Γ h u := by rw [hh]; exact k
set_option maxRecDepth 100000 in
theorem jmw_max : jlk (.static Lib.Math.max.name) ∧ jlk (.initialized "java/lang/Math") ∧ jlk (.code Lib.Math.max.name Lib.Math.max.code 2 (some .int)) := ⟨jlkT (jtb3 53 rfl) rfl, jlkT (jtb1 23 rfl) rfl, jlkT (jtb3 54 rfl) rfl⟩
theorem j_mmax {idx : Nat} {x y : Int32} (hw : jlk (.methodLink (jCn (mO M)) idx Lib.Math.max.name)) (hd : decode (mC M) pc = .ok (.invokestatic idx, 3)) (hst : (st.map fun v => v.category).sum ≤ 8) (hu : u.1 ≤ mMc M ∧ u.2 ≤ mMs M) (k : WP M Q (pc + 3) lv (.int (if x < y then y else x) :: st) Γ h u) : WP M Q pc lv (.int y :: .int x :: st) Γ h u := by
  intro l G p e s m args below meth c C H locs ls hP hS hl
  have f1 : 1 ≤ (jrm M).frames := by show 1 ≤ 8 + mH M; omega
  have f2 : ((st.map (jmv G)).map fun v => v.category).sum + 13 ≤ (jrm M).locals := by
    rw [jcat_map]
    show _ ≤ 200 + 100 * mH M
    omega
  exact va_mmax C.1 C.2.1 (C.2.2.1.trans hl.1.symm) (jown C) (jword C hw.1 hw.2) (jword C jmw_max.1.1 jmw_max.1.2) (jword C jmw_max.2.1.1 jmw_max.2.1.2) (jword C jmw_max.2.2.1 jmw_max.2.2.2) f1 f2 hu.1 hu.2 hd (k l G p e s m args below meth c C H locs ls hP hS hl)
set_option maxRecDepth 100000 in
theorem jmw_min : jlk (.static Lib.Math.min.name) ∧ jlk (.initialized "java/lang/Math") ∧ jlk (.code Lib.Math.min.name Lib.Math.min.code 2 (some .int)) := ⟨jlkT (jtb3 3 rfl) rfl, jlkT (jtb1 23 rfl) rfl, jlkT (jtb3 4 rfl) rfl⟩
theorem j_mmin {idx : Nat} {x y : Int32} (hw : jlk (.methodLink (jCn (mO M)) idx Lib.Math.min.name)) (hd : decode (mC M) pc = .ok (.invokestatic idx, 3)) (hst : (st.map fun v => v.category).sum ≤ 8) (hu : u.1 ≤ mMc M ∧ u.2 ≤ mMs M) (k : WP M Q (pc + 3) lv (.int (if y < x then y else x) :: st) Γ h u) : WP M Q pc lv (.int y :: .int x :: st) Γ h u := by
  intro l G p e s m args below meth c C H locs ls hP hS hl
  have f1 : 1 ≤ (jrm M).frames := by show 1 ≤ 8 + mH M; omega
  have f2 : ((st.map (jmv G)).map fun v => v.category).sum + 13 ≤ (jrm M).locals := by
    rw [jcat_map]
    show _ ≤ 200 + 100 * mH M
    omega
  exact va_mmin C.1 C.2.1 (C.2.2.1.trans hl.1.symm) (jown C) (jword C hw.1 hw.2) (jword C jmw_min.1.1 jmw_min.1.2) (jword C jmw_min.2.1.1 jmw_min.2.1.2) (jword C jmw_min.2.2.1 jmw_min.2.2.2) f1 f2 hu.1 hu.2 hd (k l G p e s m args below meth c C H locs ls hP hS hl)
set_option maxRecDepth 100000 in
theorem jmw_abs : jlk (.static Lib.Math.abs.name) ∧ jlk (.initialized "java/lang/Math") ∧ jlk (.code Lib.Math.abs.name Lib.Math.abs.code 1 (some .int)) := ⟨jlkT (jtb3 0 rfl) rfl, jlkT (jtb1 23 rfl) rfl, jlkT (jtb3 1 rfl) rfl⟩
theorem j_mabs {idx : Nat} {x : Int32} (hw : jlk (.methodLink (jCn (mO M)) idx Lib.Math.abs.name)) (hd : decode (mC M) pc = .ok (.invokestatic idx, 3)) (hst : (st.map fun v => v.category).sum ≤ 8) (hu : u.1 ≤ mMc M ∧ u.2 ≤ mMs M) (k : WP M Q (pc + 3) lv (.int (if 0 ≤ x then x else 0 - x) :: st) Γ h u) : WP M Q pc lv (.int x :: st) Γ h u := by
  intro l G p e s m args below meth c C H locs ls hP hS hl
  have f1 : 1 ≤ (jrm M).frames := by show 1 ≤ 8 + mH M; omega
  have f2 : ((st.map (jmv G)).map fun v => v.category).sum + 13 ≤ (jrm M).locals := by
    rw [jcat_map]
    show _ ≤ 200 + 100 * mH M
    omega
  exact va_mabs C.1 C.2.1 (C.2.2.1.trans hl.1.symm) (jown C) (jword C hw.1 hw.2) (jword C jmw_abs.1.1 jmw_abs.1.2) (jword C jmw_abs.2.1.1 jmw_abs.2.1.2) (jword C jmw_abs.2.2.1 jmw_abs.2.2.2) f1 f2 hu.1 hu.2 hd (k l G p e s m args below meth c C H locs ls hP hS hl)
end JX
