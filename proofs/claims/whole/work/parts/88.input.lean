/-! For input: steps, ends alike, the best of the box. -/
section INP
variable {rs : List aRun} {e : Nat → Int32} {m n : Nat}
def sDist (x a : Nat) : Nat := (x - a) + (a - x)
theorem abs_d {x a : Nat} (hx : x < 1000) (ha : a < 1000) : (if (0 : Int32) ≤ nI x - nI a then nI x - nI a else 0 - (nI x - nI a)) = nI (sDist x a) := by
  have ex := nI_toInt (n := x) (by omega)
  have ea := nI_toInt (n := a) (by omega)
  have e0 : (0 : Int32).toInt = 0 := rfl
  have ed : (nI x - nI a).toInt = (x : Int) - a := by rw [toInt_sub' (by omega) (by omega), ex, ea]
  have es := nI_toInt (n := sDist x a) (by unfold sDist; omega)
  by_cases c : (0 : Int32) ≤ nI x - nI a
  · rw [if_pos c, toInt_eq_iff, ed, es]
    rw [toInt_le_iff, e0, ed] at c
    unfold sDist; omega
  · rw [if_neg c, toInt_eq_iff, toInt_sub' (by omega) (by omega), e0, ed, es]
    rw [toInt_le_iff, e0, ed] at c
    unfold sDist; omega
theorem min_n {a b : Nat} (ha : a < 2 ^ 31) (hb : b < 2 ^ 31) : (if nI a < nI b then nI a else nI b) = nI (min a b) := by
  by_cases c : nI a < nI b
  · rw [if_pos c]; rw [jn_lt ha hb] at c; congr 1; omega
  · rw [if_neg c]; rw [jn_lt ha hb] at c; congr 1; omega
theorem max_n {a b : Nat} (ha : a < 2 ^ 31) (hb : b < 2 ^ 31) : (if nI a < nI b then nI b else nI a) = nI (max a b) := by
  by_cases c : nI a < nI b
  · rw [if_pos c]; rw [jn_lt ha hb] at c; congr 1; omega
  · rw [if_neg c]; rw [jn_lt ha hb] at c; congr 1; omega
def sRunD (r : aRun) (x y : Nat) : Nat := sDist x r.1.toInt.toNat + sDist y r.2.1.toInt.toNat
theorem aOkRun_n {r : aRun} (k : aOkRun r) : r.1 = nI r.1.toInt.toNat ∧ r.1.toInt.toNat ≤ 15 ∧ r.2.1 = nI r.2.1.toInt.toNat ∧ r.2.1.toInt.toNat ≤ 15 := by
  obtain ⟨⟨a1, a2⟩, ⟨b1, b2⟩, -⟩ := k
  exact ⟨toInt_nn a1, by omega, toInt_nn b1, by omega⟩
theorem sRunD_30 {r : aRun} {x y : Nat} (k : aOkRun r) (hx : x ≤ 15) (hy : y ≤ 15) : sRunD r x y ≤ 30 := by
  obtain ⟨-, h1, -, h2⟩ := aOkRun_n k
  unfold sRunD sDist; omega
def sNr (rs : List aRun) (x y : Nat) : Nat → Nat
  | 0 => 1000
  | i + 1 => min (sRunD (rs.getD i aRun0) x y) (sNr rs x y i)
def sNear (rs : List aRun) (x y : Nat) : Nat := if rs.length = 0 then 0 else sNr rs x y rs.length
theorem sNr_30 {x y : Nat} (k : ∀ r ∈ rs, aOkRun r) (hx : x ≤ 15) (hy : y ≤ 15) : ∀ i, 0 < i → i ≤ rs.length → sNr rs x y i ≤ 30 := by
  intro i h0 hi
  obtain ⟨j, rfl⟩ : ∃ j, i = j + 1 := ⟨i - 1, by omega⟩
  have := sRunD_30 (k _ (getD_mem (d := aRun0) (show j < rs.length by omega))) hx hy
  rw [sNr]; omega
theorem sNr_1000 {x y : Nat} : ∀ i, sNr rs x y i ≤ 1000 := by
  intro i
  induction i with
  | zero => exact Nat.le_refl _
  | succ i ih => rw [sNr]; omega
theorem sNear_30 {x y : Nat} (k : ∀ r ∈ rs, aOkRun r) (hx : x ≤ 15) (hy : y ≤ 15) : sNear rs x y ≤ 30 := by
  unfold sNear
  split
  · omega
  · exact sNr_30 k hx hy _ (by omega) (Nat.le_refl _)
/-- the greatest number that end alike -/
noncomputable def sMx (e : Nat → Int32) : Nat → Nat
  | 0 => 0
  | m + 1 => max (sMx e m) (sCnt (fun j => e j = e m) (m + 1))
theorem sCnt_up {P : Nat → Prop} : sCnt P n ≤ sCnt P (n + 1) := by
  by_cases c : P n
  · rw [sCnt_t c]; omega
  · rw [sCnt_f c]; omega
theorem sMx_ge : ∀ m i, i < m → sCnt (fun j => e j = e i) m ≤ sMx e m := by
  intro m
  induction m with
  | zero => intro i hi; exact absurd hi (Nat.not_lt_zero _)
  | succ m ih =>
    intro i hi
    rw [sMx]
    by_cases c : e m = e i
    · rw [c]; exact Nat.le_max_right _ _
    · rw [sCnt_f (P := fun j => e j = e i) c]
      by_cases z : i = m
      · subst z; exact absurd rfl c
      · exact Nat.le_trans (ih i (by omega)) (Nat.le_max_left _ _)
theorem sMx_le : ∀ m, m = 0 ∨ ∃ i, i < m ∧ sMx e m ≤ sCnt (fun j => e j = e i) m := by
  intro m
  induction m with
  | zero => exact Or.inl rfl
  | succ m ih =>
    refine Or.inr ?_
    rw [sMx]
    rcases ih with h | ⟨i, hi, h⟩
    · subst h; exact ⟨0, by omega, Nat.max_le.mpr ⟨Nat.zero_le _, Nat.le_refl _⟩⟩
    · by_cases c : sMx e m ≤ sCnt (fun j => e j = e m) (m + 1)
      · exact ⟨m, by omega, by omega⟩
      · exact ⟨i, by omega, by have := sCnt_up (P := fun j => e j = e i) (n := m); omega⟩
theorem sMx_30 : sMx e m ≤ m := by
  rcases sMx_le (e := e) m with h | ⟨i, hi, h⟩
  · subst h; exact Nat.le_refl _
  · exact Nat.le_trans h (sCnt_le m)
/-- the reference's way -/
noncomputable def sMy (e : Nat → Int32) (m : Nat) : Nat → Nat
  | 0 => 0
  | i + 1 => max (sMy e m i) (sCnt (fun j => e j = e i) m)
theorem sMy_le : ∀ i, i ≤ m → sMy e m i ≤ sMx e m := by
  intro i
  induction i with
  | zero => intro _; exact Nat.zero_le _
  | succ i ih => intro h; rw [sMy]; exact Nat.max_le.mpr ⟨ih (by omega), sMx_ge m i (by omega)⟩
theorem sMy_ge {k : Nat} : ∀ i, k < i → sCnt (fun j => e j = e k) m ≤ sMy e m i := by
  intro i
  induction i with
  | zero => intro h; exact absurd h (Nat.not_lt_zero _)
  | succ i ih =>
    intro h
    rw [sMy]
    by_cases z : k = i
    · subst z; exact Nat.le_max_right _ _
    · exact Nat.le_trans (ih (by omega)) (Nat.le_max_left _ _)
theorem sMy_e : sMy e m m = sMx e m := by
  refine Nat.le_antisymm (sMy_le m (Nat.le_refl _)) ?_
  rcases sMx_le (e := e) m with h | ⟨i, hi, h⟩
  · subst h; exact Nat.le_refl _
  · exact Nat.le_trans h (sMy_ge m hi)
theorem sMx_all (hm : 0 < m) : sMx e m = m ↔ ∀ i, i < m → e i = e 0 := by
  constructor
  · intro h i hi
    rcases sMx_le (e := e) m with z | ⟨k, hk, z⟩
    · omega
    · have l := sCnt_le (P := fun j => e j = e k) m
      have a := sCnt_all (P := fun j => e j = e k) m (by omega)
      rw [a i hi, a 0 hm]
  · intro h
    refine Nat.le_antisymm sMx_30 ?_
    have := sMx_ge (e := e) m 0 hm
    rw [sCnt_full (P := fun j => e j = e 0) m h] at this
    exact this
/-! the best input: the first one of the least key -/
abbrev oP : Type := Option (Nat × Nat)
noncomputable def pStep (c : Nat → Nat → Prop) (k : Nat → Nat → Nat) (x y : Nat) (st : oP) : oP := sIf (c x y ∧ ∀ q, st = some q → k x y < q.2) (some (16 * x + y, k x y)) st
noncomputable def pRow (c : Nat → Nat → Prop) (k : Nat → Nat → Nat) (x : Nat) (st : oP) : Nat → oP
  | 0 => st
  | y + 1 => pStep c k x y (pRow c k x st y)
noncomputable def pBox (c : Nat → Nat → Prop) (k : Nat → Nat → Nat) (b : Nat) : Nat → oP
  | 0 => none
  | x + 1 => pRow c k x (pBox c k b x) (b + 1)
def pVal (st : oP) : Int32 := match st with
  | none => -1
  | some q => nI q.1
theorem pStep_n {c : Nat → Nat → Prop} {k : Nat → Nat → Nat} {x y : Nat} (h : c x y) : pStep c k x y none = some (16 * x + y, k x y) := sIf_t ⟨h, fun q e => by cases e⟩
theorem pStep_t {c : Nat → Nat → Prop} {k : Nat → Nat → Nat} {x y : Nat} {q : Nat × Nat} (h : c x y) (l : k x y < q.2) : pStep c k x y (some q) = some (16 * x + y, k x y) := sIf_t ⟨h, fun q e => by cases e; exact l⟩
theorem pStep_f {c : Nat → Nat → Prop} {k : Nat → Nat → Nat} {x y : Nat} {q : Nat × Nat} (l : ¬ k x y < q.2) : pStep c k x y (some q) = some q := sIf_f (fun z => l (z.2 q rfl))
theorem pStep_c {c : Nat → Nat → Prop} {k : Nat → Nat → Nat} {x y : Nat} {st : oP} (h : ¬ c x y) : pStep c k x y st = st := sIf_f (fun z => h z.1)
/-- ends of the kept ones on an input -/
noncomputable def sKE (A : aA) (x y : Nat) (i : Nat) : Int32 := sEnd (sShape (aBody (xS A)) ((aKept A).getD i 0)) (nI x) (nI y)
def sCand (A : aA) (o : Bool) (x y : Nat) : Prop := match o with
  | true => True
  | false => ¬ ∀ i, i < (aKept A).length → sKE A x y i = sKE A x y 0
noncomputable def sKey (A : aA) (o : Bool) (x y : Nat) : Nat := match o with
  | true => 100 * sMx (sKE A x y) (aKept A).length + sNear (aRuns (xS A)) x y
  | false => sNear (aRuns (xS A)) x y
noncomputable def oInput (A : aA) (o : Bool) : aO := (0, sIf ((aKept A).length < 2) (-1) (pVal (pBox (sCand A o) (sKey A o) (aBox (xS A)) (aBox (xS A) + 1))), A)
theorem pk16 {x y : Nat} (hx : x < 1000) (hy : y < 1000) : (16 : Int32) * nI x + nI y = nI (16 * x + y) := by rw [show (16 : Int32) = nI 16 from rfl, pk_mul, nI_add]
end INP
