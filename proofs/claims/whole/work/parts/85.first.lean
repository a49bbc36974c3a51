/-! For first: counts, an order of mends, the first one. -/
section FST
variable {P Q : Nat → Prop} {T : Nat → Int32} {p : List Int32} {rs : List aRun} {n : Nat}
noncomputable def sCnt (P : Nat → Prop) : Nat → Nat
  | 0 => 0
  | n + 1 => sCnt P n + sIf (P n) 1 0
theorem sCnt_t (h : P n) : sCnt P (n + 1) = sCnt P n + 1 := by rw [sCnt, sIf_t h]
theorem sCnt_f (h : ¬ P n) : sCnt P (n + 1) = sCnt P n := by rw [sCnt, sIf_f h, Nat.add_zero]
theorem sCnt_le : ∀ n, sCnt P n ≤ n := by
  intro n
  induction n with
  | zero => exact Nat.le_refl _
  | succ n ih =>
    by_cases c : P n
    · rw [sCnt_t c]; omega
    · rw [sCnt_f c]; omega
theorem sCnt_ext (h : ∀ i, i < n → (P i ↔ Q i)) : sCnt P n = sCnt Q n := by
  induction n with
  | zero => rfl
  | succ n ih =>
    have := ih (fun i hi => h i (by omega))
    by_cases c : P n
    · rw [sCnt_t c, sCnt_t ((h n (by omega)).mp c), this]
    · rw [sCnt_f c, sCnt_f (fun q => c ((h n (by omega)).mpr q)), this]
theorem sCnt_or (h : ∀ i, i < n → P i → ¬ Q i) : sCnt (fun i => P i ∨ Q i) n = sCnt P n + sCnt Q n := by
  induction n with
  | zero => rfl
  | succ n ih =>
    have e := ih (fun i hi => h i (by omega))
    by_cases c : P n
    · rw [sCnt_t (P := fun i => P i ∨ Q i) (Or.inl c), sCnt_t c, sCnt_f (h n (by omega) c), e]; omega
    · by_cases d : Q n
      · rw [sCnt_t (P := fun i => P i ∨ Q i) (Or.inr d), sCnt_f c, sCnt_t d, e]; omega
      · rw [sCnt_f (P := fun i => P i ∨ Q i) (fun q => q.elim c d), sCnt_f c, sCnt_f d, e]
theorem sCnt_lt {k : Nat} : ∀ n, k ≤ n → sCnt (fun i => P i ∧ i < k) n = sCnt P k := by
  intro n
  induction n with
  | zero => intro h; rw [show k = 0 by omega]; rfl
  | succ n ih =>
    intro h
    by_cases z : k = n + 1
    · rw [z]; exact sCnt_ext (fun i hi => ⟨fun q => q.1, fun q => ⟨q, hi⟩⟩)
    · rw [sCnt_f (P := fun i => P i ∧ i < k) (fun q => by omega), ih (by omega)]
theorem sCnt_all : ∀ n, sCnt P n = n → ∀ i, i < n → P i := by
  intro n
  induction n with
  | zero => intro _ i hi; exact absurd hi (Nat.not_lt_zero _)
  | succ n ih =>
    intro e i hi
    by_cases c : P n
    · rw [sCnt_t c] at e
      by_cases z : i = n
      · subst z; exact c
      · exact ih (by omega) i (by omega)
    · rw [sCnt_f c] at e
      have := sCnt_le (P := P) n
      omega
theorem sCnt_none : ∀ n, (∀ i, i < n → ¬ P i) → sCnt P n = 0 := by
  intro n
  induction n with
  | zero => intro _; rfl
  | succ n ih => intro h; rw [sCnt_f (h n (by omega)), ih (fun i hi => h i (by omega))]
theorem sCnt_full : ∀ n, (∀ i, i < n → P i) → sCnt P n = n := by
  intro n
  induction n with
  | zero => intro _; rfl
  | succ n ih => intro h; rw [sCnt_t (h n (by omega)), ih (fun i hi => h i (by omega))]
theorem sCnt_1 {k : Nat} (hk : k < n) : sCnt (fun i => i = k) n = 1 := by
  induction n with
  | zero => exact absurd hk (Nat.not_lt_zero _)
  | succ n ih =>
    by_cases z : n = k
    · subst z
      rw [sCnt_t (P := fun i => i = n) rfl, sCnt_none n (fun i hi => by omega)]
    · rw [sCnt_f (P := fun i => i = k) z, ih (by omega)]
/-- forms taught more, of several the lesser -/
def fAhead (T : Nat → Int32) (a b : Nat) : Prop := T b < T a ∨ (T a = T b ∧ a < b)
theorem fAhead_tr {a b c : Nat} (h1 : fAhead T a b) (h2 : fAhead T b c) : fAhead T a c := by
  unfold fAhead at *
  simp only [toInt_lt_iff, toInt_eq_iff] at *
  omega
theorem fAhead_ir {a : Nat} : ¬ fAhead T a a := by
  unfold fAhead
  simp only [toInt_lt_iff, toInt_eq_iff]
  omega
theorem fAhead_to {a b : Nat} (h : a ≠ b) : fAhead T a b ∨ fAhead T b a := by
  unfold fAhead
  simp only [toInt_lt_iff, toInt_eq_iff]
  omega
/-- form of mend m -/
noncomputable def sForm (p : List Int32) (m : Nat) : Nat := ((sMends p).getD m sMd0).1.toNatClampNeg
theorem sMends_form {m : sMd} (h : m ∈ sMends p) : ∃ f, f < 6 ∧ m.1 = nI f := by
  obtain ⟨i, hi, h2⟩ := List.mem_flatMap.mp h
  obtain ⟨z, hz, e⟩ := List.mem_map.mp h2
  rw [← e]
  simp only [List.mem_append] at hz
  rcases hz with (hz | hz) | hz
  · simp only [sAhead, List.mem_append, List.mem_map] at hz
    rcases hz with ((((((( ⟨z, -, rfl⟩ | ⟨z, -, rfl⟩) | ⟨z, -, rfl⟩) | ⟨z, -, rfl⟩) | ⟨z, -, rfl⟩) | ⟨z, -, rfl⟩) | ⟨z, -, rfl⟩) | hz)
    · exact ⟨0, by decide, rfl⟩
    · exact ⟨0, by decide, rfl⟩
    · exact ⟨0, by decide, rfl⟩
    · exact ⟨1, by decide, rfl⟩
    · exact ⟨2, by decide, rfl⟩
    · exact ⟨2, by decide, rfl⟩
    · exact ⟨2, by decide, rfl⟩
    · split at hz
      · cases hz
      · rw [List.mem_singleton] at hz; rw [hz]; exact ⟨3, by decide, rfl⟩
  · unfold sMove at hz
    split at hz
    · rw [List.mem_singleton] at hz; rw [hz]; exact ⟨4, by decide, rfl⟩
    · cases hz
  · unfold sGraft at hz
    obtain ⟨y, hy, rfl⟩ := List.mem_map.mp hz
    exact ⟨5, by decide, rfl⟩
theorem sForm_ok {m : Nat} (hm : m < (sMends p).length) : sForm p m < 6 ∧ ((sMends p).getD m sMd0).1 = nI (sForm p m) := by
  obtain ⟨f, hf, e⟩ := sMends_form (p := p) (getD_mem (d := sMd0) hm)
  unfold sForm
  rw [e, nI_clamp (by omega)]
  exact ⟨hf, rfl⟩
/-- is mend a tried ahead of mend b -/
def sPre (T : Nat → Int32) (p : List Int32) (o : Bool) (a b : Nat) : Prop := match o with
  | true => fAhead T (sForm p a) (sForm p b) ∨ (sForm p a = sForm p b ∧ a < b)
  | false => a < b
theorem sPre_tr {o : Bool} {a b c : Nat} (h1 : sPre T p o a b) (h2 : sPre T p o b c) : sPre T p o a c := by
  cases o with
  | false => exact Nat.lt_trans h1 h2
  | true =>
    rcases h1 with h1 | h1 <;> rcases h2 with h2 | h2
    · exact Or.inl (fAhead_tr h1 h2)
    · exact Or.inl (by rw [← h2.1]; exact h1)
    · exact Or.inl (by rw [h1.1]; exact h2)
    · exact Or.inr ⟨h1.1.trans h2.1, Nat.lt_trans h1.2 h2.2⟩
theorem sPre_to {o : Bool} {a b : Nat} (h : a ≠ b) : sPre T p o a b ∨ sPre T p o b a := by
  cases o with
  | false => show a < b ∨ b < a; omega
  | true =>
    by_cases e : sForm p a = sForm p b
    · by_cases z : a < b
      · exact Or.inl (Or.inr ⟨e, z⟩)
      · exact Or.inr (Or.inr ⟨e.symm, by omega⟩)
    · exact (fAhead_to e).imp Or.inl Or.inl
def sMendGood (p : List Int32) (rs : List aRun) (m : Nat) : Prop := sFirstWrong (sBy p (m, none)) rs = -1
/-- v is FIRST -/
def isFirst (T : Nat → Int32) (p : List Int32) (rs : List aRun) (o : Bool) (v : Int32) : Prop :=
  (v = -1 ∧ ∀ m, m < (sMends p).length → ¬ sMendGood p rs m) ∨
  ∃ b, b < (sMends p).length ∧ sMendGood p rs b ∧ (∀ m, m < (sMends p).length → sMendGood p rs m → ¬ sPre T p o m b) ∧ v = nI (1 + sCnt (fun m => sPre T p o m b) (sMends p).length)
theorem isFirst_1 {o : Bool} {v w : Int32} (hv : isFirst T p rs o v) (hw : isFirst T p rs o w) : v = w := by
  rcases hv with ⟨e1, a1⟩ | ⟨b, hb, gb, mb, e1⟩ <;> rcases hw with ⟨e2, a2⟩ | ⟨c, hc, gc, mc, e2⟩
  · rw [e1, e2]
  · exact absurd gc (a1 c hc)
  · exact absurd gb (a2 b hb)
  · have : b = c := Classical.byContradiction fun q => (sPre_to (T := T) (p := p) (o := o) q).elim (mc b hb gb) (mb c hc gc)
    subst this; rw [e1, e2]
noncomputable def sFirstV (T : Nat → Int32) (p : List Int32) (rs : List aRun) (o : Bool) : Int32 := Classical.epsilon (isFirst T p rs o)
theorem sFirstV_e {o : Bool} {v : Int32} (h : isFirst T p rs o v) : sFirstV T p rs o = v := isFirst_1 (Classical.epsilon_spec ⟨v, h⟩) h
noncomputable def oFirst (A : aA) (o : Bool) : aO := sIf (aBody (xS A) = []) (1, 0, A) (0, sFirstV (aTaught (xS A)) (aBody (xS A)) (aRuns (xS A)) o, A)
end FST
