/-! What a law says of an end on an input; the class's way. -/
section LAWE
variable {sc : Nat × (Nat → Int32)} {h : jH} {ls cs : List Int32} {r x y : Int32}
noncomputable def sTr (c : Prop) : Bool := sIf c true false
theorem sTr_t {c : Prop} (h : c) : sTr c = true := sIf_t h
theorem sTr_f {c : Prop} (h : ¬ c) : sTr c = false := sIf_f h
def sLawVal (a r x y : Int32) : Int32 := if a = 0 then r else if a = 1 then x else if a = 2 then y else a - 10
def sLawS (c : Int32) : Int32 := (c >>> 28) &&& 3
def sLawCmp (c r x y : Int32) : Prop := if sLawS c + 6 = 6 then sLawVal (c &&& 16383) r x y < sLawVal ((c >>> 14) &&& 16383) r x y else if sLawS c + 6 = 7 then sLawVal ((c >>> 14) &&& 16383) r x y < sLawVal (c &&& 16383) r x y else sLawVal (c &&& 16383) r x y = sLawVal ((c >>> 14) &&& 16383) r x y
noncomputable def sLawStep (r x y c : Int32) (st : List Bool) : List Bool :=
  if ¬ c < 0 then sTr (sLawCmp c r x y) :: st
  else if c = -3 then (match st with | a :: s => (!a) :: s | [] => [])
  else (match st with | b :: a :: s => (if c = -2 then a || b else a && b) :: s | s => s)
noncomputable def sLawRun (r x y : Int32) : List Int32 → List Bool → List Bool
  | [], st => st
  | c :: cs, st => sLawRun r x y cs (sLawStep r x y c st)
def sLawHolds (ls : List Int32) (r x y : Int32) : Prop := (sLawRun r x y ls []).getD 0 false = true
/-- after a step -/
theorem sDeep_step {d e : Nat} {c : Int32} {cs : List Int32} {st : List Bool} (hd : st.length = d) (hd20 : d ≤ 20) (h : sDeep d (c :: cs) = some e) : (sLawStep r x y c st).length ≤ 20 ∧ sDeep (sLawStep r x y c st).length cs = some e ∧
    ((¬ c < 0 ∧ d < 20 ∧ sLawStep r x y c st = sTr (sLawCmp c r x y) :: st) ∨ (c < 0 ∧ c = -3 ∧ ∃ a s, st = a :: s ∧ sLawStep r x y c st = (!a) :: s) ∨ (c < 0 ∧ ¬ c = -3 ∧ ∃ b a s, st = b :: a :: s ∧ sLawStep r x y c st = (if c = -2 then a || b else a && b) :: s)) := by
  unfold sDeep at h
  unfold sLawStep
  by_cases c0 : c < 0
  · rw [if_neg (fun q => q c0)] at h
    simp only [if_neg (show ¬ ¬ c < 0 from fun q => q c0)]
    by_cases c3 : c = -3
    · rw [if_pos c3] at h
      simp only [if_pos c3]
      by_cases h1 : 1 ≤ d
      · rw [if_pos h1] at h
        match st, hd with
        | a :: s, hd => exact ⟨by rw [List.length_cons] at hd ⊢; omega, by rw [List.length_cons] at hd ⊢; rw [hd]; exact h, Or.inr (Or.inl ⟨c0, c3, a, s, rfl, rfl⟩)⟩
        | [], hd => rw [← hd] at h1; exact absurd h1 (by decide)
      · rw [if_neg h1] at h; cases h
    · rw [if_neg c3] at h
      simp only [if_neg c3]
      by_cases h2 : 2 ≤ d
      · rw [if_pos h2] at h
        match st, hd with
        | b :: a :: s, hd => exact ⟨by rw [List.length_cons, List.length_cons] at hd; rw [List.length_cons]; omega, by rw [List.length_cons, List.length_cons] at hd; rw [List.length_cons, show s.length + 1 = d - 1 by omega]; exact h, Or.inr (Or.inr ⟨c0, c3, b, a, s, rfl, rfl⟩)⟩
        | [a], hd => rw [← hd] at h2; exact absurd h2 (by simp)
        | [], hd => rw [← hd] at h2; exact absurd h2 (by decide)
      · rw [if_neg h2] at h; cases h
  · rw [if_pos c0] at h
    simp only [if_pos c0]
    by_cases h2 : d < 20
    · rw [if_pos h2] at h
      exact ⟨by rw [List.length_cons]; omega, by rw [List.length_cons, hd]; exact h, Or.inl ⟨c0, h2, trivial⟩⟩
    · rw [if_neg h2] at h; cases h
theorem tX1_valueOf {a : Int32} : JM mX1_valueOf [.int a, .int r, .int x, .int y] (jG0 sc) h (jgets sc (sLawVal a r x y) h) := by
  refine jM_of rfl (Nat.le_of_ble_eq_true rfl) (by decide +kernel) rfl (rX1_valueOf_0 (fun a b c => jgets_i ?_) (fun a b c => jgets_i ?_) (fun a b => jgets_i ?_) (fun a => jgets_i ?_))
  · unfold sLawVal; rw [if_neg a, if_neg b, if_neg c]
  · unfold sLawVal; rw [if_neg a, if_neg b, if_pos c]
  · unfold sLawVal; rw [if_neg a, if_pos b]
  · unfold sLawVal; rw [if_pos a]
theorem tX1_compares {c : Int32} : JM mX1_compares [.int c, .int r, .int x, .int y] (jG0 sc) h (jgets sc (sB (sLawCmp c r x y)) h) := by
  refine jM_of rfl (Nat.le_of_ble_eq_true rfl) (by decide +kernel) rfl (rX1_compares_0 tX1_valueOf (fun _ _ q => by rw [← q.2]; exact tX1_valueOf) ?_ ?_ ?_ ?_ ?_ ?_)
  all_goals rintro _ _ ⟨rfl, rfl⟩ _ _ ⟨rfl, rfl⟩
  · rintro a b c
    refine jgets_i (sB_f ?_).symm
    unfold sLawCmp sLawS; rw [if_neg a, if_neg b]; exact c
  · rintro a b c
    refine jgets_i (sB_t ?_).symm
    unfold sLawCmp sLawS; rw [if_neg a, if_neg b]; exact c
  · rintro a b c
    refine jgets_i (sB_f ?_).symm
    unfold sLawCmp sLawS; rw [if_neg a, if_pos b]; exact i_nlt.mpr c
  · rintro a b c
    refine jgets_i (sB_t ?_).symm
    unfold sLawCmp sLawS; rw [if_neg a, if_pos b]; exact i_nle.mp c
  · rintro a c
    refine jgets_i (sB_f ?_).symm
    unfold sLawCmp sLawS; rw [if_pos a]; exact i_nlt.mpr c
  · rintro a c
    refine jgets_i (sB_t ?_).symm
    unfold sLawCmp sLawS; rw [if_pos a]; exact i_nle.mp c
/-- truths as bits -/
def isTv (t : Int32) (st : List Bool) : Prop := ∀ i, i < 32 → bt t i = st.getD i false
theorem isTv_push {t : Int32} {st : List Bool} (k : isTv t st) {b : Bool} {v : Int32} (hv : v = if b then 1 else 0) : isTv ((t <<< 1) ||| v) (b :: st) := by
  intro i hi
  have e : bt v i = (b && decide (i = 0)) := by
    subst hv
    cases b with
    | false => exact b_0 i
    | true => exact (b_1 i hi).trans (Bool.true_and _).symm
  rw [b_or, bl 1 1 (by decide) (by decide) _ hi, e]
  cases i with
  | zero => simp
  | succ i => rw [k _ (by omega)]; simp
theorem isTv_not {t : Int32} {a : Bool} {s : List Bool} (k : isTv t (a :: s)) : isTv (t ^^^ 1) ((!a) :: s) := by
  intro i hi
  rw [b_xor, b_1 i hi, k i hi]
  cases i with
  | zero => simp
  | succ i => simp
theorem jus_bt {t : Int32} (i : Nat) : bt ((t.toUInt32 >>> (((1 : Int32)).toUInt32 &&& Int32.toUInt32 31)).toInt32) i = bt t (1 + i) := b_ushr 1 (by decide) t i
theorem isTv_or {t : Int32} {b a : Bool} {s : List Bool} (k : isTv t (b :: a :: s)) (hl : s.length ≤ 20) : isTv (((t.toUInt32 >>> (((1 : Int32)).toUInt32 &&& Int32.toUInt32 31)).toInt32) ||| (t &&& 1)) ((a || b) :: s) := by
  intro i hi
  rw [b_or, jus_bt, b_and, b_1 i hi]
  have top : ∀ j, 32 ≤ j → bt t j = s.getD (j - 2) false := fun j hj => by
    rw [b_big hj, List.getD_eq_getElem?_getD, List.getElem?_eq_none (by omega)]; rfl
  cases i with
  | zero => rw [k 1 (by omega), k 0 hi]; simp
  | succ i =>
    have e : bt t (1 + (i + 1)) = s.getD i false := by
      by_cases c : 1 + (i + 1) < 32
      · rw [k _ c, show 1 + (i + 1) = i + 1 + 1 by omega]; rfl
      · rw [top _ (by omega)]; congr 1; omega
    rw [e]; simp
theorem isTv_and {t : Int32} {b a : Bool} {s : List Bool} (k : isTv t (b :: a :: s)) (hl : s.length ≤ 20) : isTv (((t.toUInt32 >>> (((1 : Int32)).toUInt32 &&& Int32.toUInt32 31)).toInt32) &&& ((t &&& 1) ||| ((-2) : Int32))) ((a && b) :: s) := by
  intro i hi
  rw [b_and, jus_bt, b_or, b_and, b_1 i hi, (by decide +kernel : ∀ i, i < 32 → bt (-2 : Int32) i = !decide (i = 0)) i hi]
  have top : ∀ j, 32 ≤ j → bt t j = s.getD (j - 2) false := fun j hj => by
    rw [b_big hj, List.getD_eq_getElem?_getD, List.getElem?_eq_none (by omega)]; rfl
  cases i with
  | zero => rw [k 1 (by omega), k 0 hi]; simp
  | succ i =>
    have e : bt t (1 + (i + 1)) = s.getD i false := by
      by_cases c : 1 + (i + 1) < 32
      · rw [k _ c, show 1 + (i + 1) = i + 1 + 1 by omega]; rfl
      · rw [top _ (by omega)]; congr 1; omega
    rw [e]; simp
theorem drop_cons0 {ls : List Int32} {i : Nat} (hi : i < ls.length) : ls.drop i = ls.getD i 0 :: ls.drop (i + 1) := by
  rw [List.drop_eq_getElem_cons hi]
  congr 1
  simp [List.getD_eq_getElem?_getD, List.getElem?_eq_getElem hi]
theorem and1_tv {t : Int32} {st : List Bool} (k : isTv t st) : (t &&& 1) = 1 ↔ st.getD 0 false = true := by
  rw [← k 0 (by omega)]
  have := x_bit1 (x := t) (n := 0) (by decide)
  rw [show t >>> (nI 0 &&& 31) = t from b_ext fun i hi => by rw [b_sshr 0 (by decide) t hi, Nat.zero_add, if_pos hi]] at this
  exact this
theorem tX1_holds (hl : isLaw h 18 ls) (ok : sLawOk ls) (hn : ls ≠ []) : JM mX1_holds [.ref 18, .int r, .int x, .int y] (jG0 sc) h (jgets sc (sB (sLawHolds ls r x y)) h) := by
  have t_h : jI1 18 := by unfold jI1; decide
  have h4 := ok.2.2.1
  have deep := ok.1.resolve_left hn
  have e1 : h 18 1 = nI ls.length := hl.1
  refine jM_of rfl (Nat.le_of_ble_eq_true rfl) (by decide +kernel) rfl (rX1_holds_0 t_h ?_)
  refine jloop (fun i (t : Int32) => WP mX1_holds _ 6 [some (.ref 18), some (.int r), some (.int x), some (.int y), some (.int t), some (.int (nI i)), none, none] [] (jG0 sc) h (0, 0))
    (fun i t => ∃ st : List Bool, isTv t st ∧ st.length ≤ 20 ∧ sDeep st.length (ls.drop i) = some 1 ∧ sLawRun r x y (ls.drop i) st = sLawRun r x y ls []) ls.length ?_ ?_ 0 0 (by omega) ⟨[], fun i hi => by rw [b_0]; rfl, Nat.zero_le _, deep, rfl⟩
  · rintro t ⟨st, i1, i2, i3, i4⟩
    have le : h 18 1 ≤ nI ls.length := by rw [e1]; exact nI_le (Nat.le_refl _) (by omega)
    rw [List.drop_length] at i4
    have i4 : st = sLawRun r x y ls [] := i4
    have key := and1_tv i1
    refine rX1_holds_6 (P1 := fun _ _ => True) t_h (fun _ c => jgets_i ?_) (fun _ c => jgets_i ?_) (fun c => absurd le c) (fun c => absurd le c) (fun c => absurd le c) (fun c => absurd le c) (fun c => absurd le c) (fun c => absurd le c) (fun c => absurd le c) (fun c => absurd le c) (fun c => absurd le c)
    all_goals rw [key, i4] at c
    · exact (sB_f c).symm
    · exact (sB_t (c := sLawHolds ls r x y) c).symm
  · rintro i t hi ⟨st, i1, i2, i3, i4⟩ kk
    have n1 : ¬ h 18 1 ≤ nI i := by rw [e1, jn_le (by omega) (by omega)]; omega
    have n2 : ¬ (400 : Int32) ≤ nI i := fun c => by have := (jn_le (a := 400) (by decide) (by omega)).mp c; omega
    have ei : h (18 + 1) (nI i).toNatClampNeg = ls.getD i 0 := by rw [nI_clamp (by omega)]; exact hl.2 i hi
    rw [drop_cons0 hi] at i3 i4
    obtain ⟨s1, s2, s3⟩ := sDeep_step (r := r) (x := x) (y := y) rfl i2 i3
    have next : ∀ t', isTv t' (sLawStep r x y (ls.getD i 0) st) → WP mX1_holds (jgets sc (sB (sLawHolds ls r x y)) h) 6 [some (.ref 18), some (.int r), some (.int x), some (.int y), some (.int t'), some (.int (nI i + 1)), none, none] [] (jG0 sc) h (0, 0) := fun t' q => by
      rw [← nI_succ]; exact kk t' ⟨_, q, s1, s2, i4⟩
    refine rX1_holds_6 t_h (fun c => absurd c n1) (fun c => absurd c n1) (fun _ c => absurd c n2) (fun _ c => absurd c n2) (fun _ _ => vp_in_nI (by omega) (by decide)) (fun _ _ c c3 c2 => ?_) (fun _ _ c c3 c2 => ?_) (fun _ _ c c3 => ?_) (fun _ _ c => by rw [ei]; exact tX1_compares) (fun _ _ c => ?_) (fun _ _ c => ?_)
    all_goals rw [ei] at c
    · rw [ei] at c2 c3
      rcases s3 with s3 | s3 | ⟨-, -, b, a, s, q1, q2⟩
      · exact absurd c s3.1
      · exact absurd s3.2.1 c3
      · refine next _ ?_
        rw [q2, if_neg c2]
        subst q1
        exact isTv_and i1 (by rw [List.length_cons, List.length_cons] at i2; omega)
    · rw [ei] at c2 c3
      rcases s3 with s3 | s3 | ⟨-, -, b, a, s, q1, q2⟩
      · exact absurd c s3.1
      · exact absurd s3.2.1 c3
      · refine next _ ?_
        rw [q2, if_pos c2]
        subst q1
        exact isTv_or i1 (by rw [List.length_cons, List.length_cons] at i2; omega)
    · rw [ei] at c3
      rcases s3 with s3 | ⟨-, -, a, s, q1, q2⟩ | s3
      · exact absurd c s3.1
      · refine next _ ?_
        rw [q2]
        subst q1
        exact isTv_not i1
      · exact absurd c3 s3.2.1
    all_goals
      rcases s3 with s3 | s3 | s3
      · rintro _ _ ⟨rfl, rfl⟩ d
        first
          | (rw [sB_eq] at d; refine next _ ?_; rw [s3.2.2, sTr_f d]; exact isTv_push i1 rfl)
          | (rw [sB_ne] at d; refine next _ ?_; rw [s3.2.2, sTr_t d]; exact isTv_push i1 rfl)
      · exact absurd s3.1 c
      · exact absurd s3.1 c
end LAWE
