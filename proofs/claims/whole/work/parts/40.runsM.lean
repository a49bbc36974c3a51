/-! Runs by a program: the reference. -/
section RM1
variable {sc : Nat × (Nat → Int32)} {h : jH} {p : List Int32} {rs : List aRun}
def mEnd (p : List Int32) (x y : Int32) (h : jH) (r : Int32) (h' : jH) : Prop := r = sEnd p x y ∧ h' 159 19 = sDone p x y ∧ h' 159 20 = sMany p x y ∧ h' 159 21 = sSlice p x y ∧ jfr fGoes h h'
theorem tX12_endAt {x y : Int32} (hp : isMP (h 167) 0 p) (hs : sProg p) : JM mX12_endAt [.ref 159, .int x, .int y] (jG0 sc) h (jint sc (mEnd p x y h)) :=
  jM_of rfl (Nat.le_of_ble_eq_true rfl) (by decide +kernel) rfl (rX12_endAt_0 (tX12_goes hp hs) (fun _ _ q => jint_i q))
theorem mr_ix {i : Nat} (hi : i < 12) : (123 : Int32) + 3 * nI i = nI (123 + 3 * i) ∧ (nI (123 + 3 * i) + 1 = nI (123 + 3 * i + 1)) ∧ (nI (123 + 3 * i) + 2 = nI (123 + 3 * i + 2)) := by
  refine ⟨?_, (nI_succ _).symm, nI_add _ 2⟩
  rw [show (3 : Int32) = nI 3 from rfl, show (123 : Int32) = nI 123 from rfl, pk_mul, nI_add]
theorem ix_in {n : Nat} (N : Nat) (hn : n < N) (hN : N < 2 ^ 31) : vp_in (nI n) N ∧ (nI n).toNatClampNeg = n := ⟨vp_in_nI hn hN, nI_clamp (by omega)⟩
theorem isMRuns.go {h h1 : jH} (k : isMRuns (h 160) rs) (f : jfr fGoes h h1) : isMRuns (h1 160) rs := by rw [f.cell (fun _ => rfl)]; exact k
theorem tX12_endOn {i : Nat} (hp : isMP (h 167) 0 p) (hs : sProg p) (hr : isMRuns (h 160) rs) (h12 : rs.length ≤ 12) (hi : i < rs.length) :
    JM mX12_endOn [.ref 159, .int (nI i)] (jG0 sc) h (jint sc (mEnd p (rs.getD i aRun0).1 (rs.getD i aRun0).2.1 h)) := by
  obtain ⟨e0, e1, -⟩ := mr_ix (i := i) (by omega)
  obtain ⟨v0, c0⟩ := ix_in (n := 123 + 3 * i) 1454 (by omega) (by decide)
  obtain ⟨v1, c1⟩ := ix_in (n := 123 + 3 * i + 1) 1454 (by omega) (by decide)
  obtain ⟨q0, q1, -⟩ := hr.2 i hi
  refine jM_of rfl (Nat.le_of_ble_eq_true rfl) (by decide +kernel) rfl (rX12_endOn_0 (by rw [e0]; exact v0) (by rw [e0, e1]; exact v1) (by rw [e0, e1, c0, c1, q0, q1]; exact tX12_endAt hp hs) (fun _ _ q => jint_i q))
def mRight (p : List Int32) (rs : List aRun) (i : Nat) (h : jH) (r : Int32) (h' : jH) : Prop := r = sB (sRightAt p rs i) ∧ h' 159 19 = sDone p (rs.getD i aRun0).1 (rs.getD i aRun0).2.1 ∧ h' 159 21 = sSlice p (rs.getD i aRun0).1 (rs.getD i aRun0).2.1 ∧ jfr fGoes h h'
theorem tX12_isRight {i : Nat} (hp : isMP (h 167) 0 p) (hs : sProg p) (hr : isMRuns (h 160) rs) (h12 : rs.length ≤ 12) (hi : i < rs.length) :
    JM mX12_isRight [.ref 159, .int (nI i)] (jG0 sc) h (jint sc (mRight p rs i h)) := by
  obtain ⟨e0, -, e2⟩ := mr_ix (i := i) (by omega)
  obtain ⟨v2, c2⟩ := ix_in (n := 123 + 3 * i + 2) 1454 (by omega) (by decide)
  refine jM_of rfl (Nat.le_of_ble_eq_true rfl) (by decide +kernel) rfl (rX12_isRight_0 (tX12_endOn hp hs hr h12 hi) (fun _ _ _ => by rw [e0, e2]; exact v2) ?_ ?_)
  all_goals
    rintro x1 h1 ⟨z1, z2, z3, z4, z5⟩ c
    rw [e0, e2, c2, ((hr.go z5).2 i hi).2.2, z1] at c
  · exact jint_i ⟨(sB_f c).symm, z2, z4, z5⟩
  · exact jint_i ⟨(sB_t c).symm, z2, z4, z5⟩
theorem tX12_lines : JM mX12_lines [.ref 159] (jG0 sc) h (jgets sc (h 160 0) h) := jM_of rfl (Nat.le_of_ble_eq_true rfl) (by decide +kernel) rfl (rX12_lines_0 (jgets_i rfl))
/-- the sum of f 0 .. f (n - 1) -/
def sTot (f : Nat → Int32) : Nat → Int32
  | 0 => 0
  | n + 1 => sTot f n + f n
theorem sTot_ext {f g : Nat → Int32} {n : Nat} (h : ∀ i, i < n → f i = g i) : sTot f n = sTot g n := by
  induction n with
  | zero => rfl
  | succ n ih => rw [sTot, sTot, ih (fun i hi => h i (by omega)), h n (by omega)]
theorem sTot_more {f : Nat → Int32} {n m : Nat} (hnm : n ≤ m) (h : ∀ i, n ≤ i → i < m → f i = 0) : sTot f m = sTot f n := by
  induction m with
  | zero => rw [show n = 0 by omega]
  | succ m ih =>
    by_cases hn : n = m + 1
    · rw [hn]
    · rw [sTot, ih (by omega) (fun i a b => h i a (by omega)), h m (by omega) (by omega), Int32.add_zero]
/-- in how many runs (right ones, wrong ones) a line is done -/
noncomputable def sDoneIn (p : List Int32) (rs : List aRun) (line : Nat) (w : Bool) : Int32 :=
  sTot (fun i => sB ((sRightAt p rs i ↔ w = false) ∧ bt (sDone p (rs.getD i aRun0).1 (rs.getD i aRun0).2.1) line = true)) rs.length
noncomputable def sWrongMany (p : List Int32) (rs : List aRun) : Int32 := sTot (fun i => sB (¬ sRightAt p rs i)) rs.length
theorem isMP.go2 {h h1 : jH} (k : isMP (h 167) 0 p) (f : jfr fGoes h h1) : isMP (h1 167) 0 p := k.go f
theorem tX12_wrongMany (hp : isMP (h 167) 0 p) (hs : sProg p) (hr : isMRuns (h 160) rs) (h12 : rs.length ≤ 12) :
    JM mX12_wrongMany [.ref 159] (jG0 sc) h (jint sc (fun r h' => r = sWrongMany p rs ∧ jfr fGoes h h')) := by
  refine jM_of rfl (Nat.le_of_ble_eq_true rfl) (by decide +kernel) rfl (rX12_wrongMany_0 ?_)
  refine jloop2 (fun i (h1 : jH) (b : Int32) => WP mX12_wrongMany _ 4 [some (.ref 159), some (.int b), some (.int (nI i))] [] (jG0 sc) h1 (0, 0))
    (fun i h1 b => b = sTot (fun i => sB (¬ sRightAt p rs i)) i ∧ jfr fGoes h h1) rs.length ?_ ?_ 0 h 0 (by omega) ⟨rfl, jfr.rf⟩
  · rintro h1 b ⟨i1, i2⟩
    have e3 : h1 160 122 = nI rs.length := (hr.go i2).1
    have no : ¬ h1 160 122 ≤ nI rs.length → False := fun c => c (by rw [e3]; exact nI_le (Nat.le_refl _) (by omega))
    exact rX12_wrongMany_4 (fun _ => jint_i ⟨i1, i2⟩) (P1 := fun _ _ => True) (fun c => (no c).elim) (fun c => (no c).elim) (fun c => (no c).elim)
  · rintro i h1 b hi ⟨i1, i2⟩ k
    have e3 : h1 160 122 = nI rs.length := (hr.go i2).1
    have no : ¬ h1 160 122 ≤ nI i := by rw [e3, jn_le (by omega) (by omega)]; omega
    refine rX12_wrongMany_4 (fun c => absurd c no) (fun _ => tX12_isRight (hp.go i2) hs (hr.go i2) h12 hi) (fun _ => ?_) (fun _ => ?_)
    · rintro x1 h2 ⟨z1, z2, z3, z4⟩ c
      rw [z1, sB_eq] at c
      rw [← nI_succ]
      exact k h2 _ ⟨by rw [i1, sTot, sB_t c], i2.tr2 z4⟩
    · rintro x1 h2 ⟨z1, z2, z3, z4⟩ c
      rw [z1, sB_ne] at c
      rw [← nI_succ]
      exact k h2 _ ⟨by rw [i1, sTot, sB_f (fun q => q c)], i2.tr2 z4⟩
theorem tX12_doneIn {line : Nat} {w : Bool} {wi : Int32} (hl : line < 32) (hw : wi = if w then 1 else 0) (hp : isMP (h 167) 0 p) (hs : sProg p) (hr : isMRuns (h 160) rs) (h12 : rs.length ≤ 12) :
    JM mX12_doneIn [.ref 159, .int (nI line), .int wi] (jG0 sc) h (jint sc (fun r h' => r = sDoneIn p rs line w ∧ jfr fGoes h h')) := by
  refine jM_of rfl (Nat.le_of_ble_eq_true rfl) (by decide +kernel) rfl (rX12_doneIn_0 ?_)
  refine jloop2 (fun i (h1 : jH) (b : Int32) => WP mX12_doneIn _ 5 [some (.ref 159), some (.int (nI line)), some (.int wi), some (.int b), some (.int (nI i))] [] (jG0 sc) h1 (0, 0))
    (fun i h1 b => b = sTot (fun i => sB ((sRightAt p rs i ↔ w = false) ∧ bt (sDone p (rs.getD i aRun0).1 (rs.getD i aRun0).2.1) line = true)) i ∧ jfr fGoes h h1) rs.length ?_ ?_ 0 h 0 (by omega) ⟨rfl, jfr.rf⟩
  · rintro h1 b ⟨i1, i2⟩
    have e3 : h1 160 122 = nI rs.length := (hr.go i2).1
    have no : ¬ h1 160 122 ≤ nI rs.length → False := fun c => c (by rw [e3]; exact nI_le (Nat.le_refl _) (by omega))
    exact rX12_doneIn_5 (fun _ => jint_i ⟨i1, i2⟩) (P1 := fun _ _ => True) (fun c => (no c).elim) (fun c => (no c).elim) (fun c => (no c).elim) (fun c => (no c).elim)
  · rintro i h1 b hi ⟨i1, i2⟩ k
    have e3 : h1 160 122 = nI rs.length := (hr.go i2).1
    have no : ¬ h1 160 122 ≤ nI i := by rw [e3, jn_le (by omega) (by omega)]; omega
    have same : ∀ x1 : Int32, x1 = sB (sRightAt p rs i) → (x1 = wi ↔ ¬ (sRightAt p rs i ↔ w = false)) := by
      intro x1 e
      subst hw
      by_cases g : sRightAt p rs i <;> cases w <;> simp [e, sB_t, sB_f, g]
    refine rX12_doneIn_5 (fun c => absurd c no) (fun _ => tX12_isRight (hp.go i2) hs (hr.go i2) h12 hi) (fun _ => ?_) (fun _ => ?_) (fun _ => ?_)
    · rintro x1 h2 ⟨z1, z2, z3, z4⟩ c
      rw [same x1 z1] at c
      rw [← nI_succ]
      exact k h2 _ ⟨by rw [i1, sTot, sB_f (fun q => c q.1)], i2.tr2 z4⟩
    · rintro x1 h2 ⟨z1, z2, z3, z4⟩ c c2
      rw [z2, x_bit1 hl] at c2
      rw [← nI_succ]
      exact k h2 _ ⟨by rw [i1, sTot, sB_f (fun q => c2 q.2)], i2.tr2 z4⟩
    · rintro x1 h2 ⟨z1, z2, z3, z4⟩ c c2
      rw [same x1 z1] at c
      rw [z2, x_bit1 hl] at c2
      rw [← nI_succ]
      exact k h2 _ ⟨by rw [i1, sTot, sB_t ⟨Classical.byContradiction c, c2⟩], i2.tr2 z4⟩
theorem tX12_allRight (hp : isMP (h 167) 0 p) (hs : sProg p) (hr : isMRuns (h 160) rs) (h12 : rs.length ≤ 12) :
    JM mX12_allRight [.ref 159] (jG0 sc) h (jint sc (fun r h' => r = sFirstWrong p rs ∧ jfr fGoes h h')) := by
  refine jM_of rfl (Nat.le_of_ble_eq_true rfl) (by decide +kernel) rfl (rX12_allRight_0 ?_)
  refine jloop (fun i (h1 : jH) => WP mX12_allRight _ 2 [some (.ref 159), some (.int (nI i))] [] (jG0 sc) h1 (0, 0))
    (fun i h1 => sFirstWrong p rs = sFirst1 (fun i => ¬ sRightAt p rs i) (rs.length - i) i ∧ jfr fGoes h h1) rs.length ?_ ?_ 0 h (by omega) ⟨rfl, jfr.rf⟩
  · rintro h1 ⟨i1, i2⟩
    have e3 : h1 160 122 = nI rs.length := (hr.go i2).1
    have no : ¬ h1 160 122 ≤ nI rs.length → False := fun c => c (by rw [e3]; exact nI_le (Nat.le_refl _) (by omega))
    rw [Nat.sub_self] at i1
    exact rX12_allRight_2 (fun _ => jint_i ⟨i1.symm, i2⟩) (P1 := fun _ _ => True) (fun c => (no c).elim) (fun c => (no c).elim) (fun c => (no c).elim)
  · rintro i h1 hi ⟨i1, i2⟩ k
    have e3 : h1 160 122 = nI rs.length := (hr.go i2).1
    have no : ¬ h1 160 122 ≤ nI i := by rw [e3, jn_le (by omega) (by omega)]; omega
    obtain ⟨m, hm⟩ : ∃ m, rs.length - i = m + 1 := ⟨rs.length - i - 1, by omega⟩
    rw [hm] at i1
    refine rX12_allRight_2 (fun c => absurd c no) (fun _ => tX12_isRight (hp.go i2) hs (hr.go i2) h12 hi) (fun _ => ?_) (fun _ => ?_)
    · rintro x1 h2 ⟨z1, z2, z3, z4⟩ c
      rw [z1, sB_ne] at c
      rw [← nI_succ]
      refine k h2 ⟨?_, i2.tr2 z4⟩
      rw [i1, sFirst1_f (fun q => q c), show rs.length - (i + 1) = m by omega]
    · rintro x1 h2 ⟨z1, z2, z3, z4⟩ c
      rw [z1, sB_eq] at c
      exact jint_i ⟨by rw [i1, sFirst1_t c], i2.tr2 z4⟩
end RM1
