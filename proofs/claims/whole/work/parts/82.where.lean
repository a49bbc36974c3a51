/-! For where: lists of bits, free lines, blame. -/
section WHR
variable {sc : Nat × (Nat → Int32)} {h : jH} {A : aA} {n : Nat} {p : List Int32} {rs : List aRun}
theorem jfr.fix {h h' : jH} (f : jfr ([(3, 8), (70, 74), (82, 158)], [(1, 2, 5), (69, 2, 11), (75, 7, 8)]) h h') (e : h' 69 5 = h 69 5) : jfr fCs h h' := by
  intro k j hj
  by_cases z : k = 69 ∧ j = 5
  · obtain ⟨rfl, rfl⟩ := z; exact e
  · exact f k j (by rw [jin_f] at hj ⊢; simp at hj ⊢; omega)
theorem sBits_0 {f : Nat → Prop} {n : Nat} (hn : n ≤ 32) : sBits f n = 0 ↔ ∀ i, i < n → ¬ f i := by
  constructor
  · intro e i hi c
    have := (bt_sBits (f := f) hn (i := i) (by omega)).mpr ⟨hi, c⟩
    rw [e, b_0] at this; cases this
  · intro c
    refine b_ext fun i hi => ?_
    rw [b_0]
    cases q : bt (sBits f n) i with
    | false => rfl
    | true => have := (bt_sBits hn hi).mp q; exact absurd this.2 (c i this.1)
theorem sTot_nI {c : Nat → Prop} : ∀ n, n < 2 ^ 30 → ∃ m, m ≤ n ∧ sTot (fun i => sB (c i)) n = nI m ∧ (m = 0 ↔ ∀ i, i < n → ¬ c i) := by
  intro n
  induction n with
  | zero => exact fun _ => ⟨0, Nat.le_refl _, rfl, fun _ i hi => absurd hi (Nat.not_lt_zero _), fun _ => rfl⟩
  | succ n ih =>
    intro hn
    obtain ⟨m, h1, h2, h3⟩ := ih (by omega)
    by_cases q : c n
    · refine ⟨m + 1, by omega, by rw [sTot, h2, sB_t q, nI_succ], fun e => by omega, fun e => absurd q (e n (by omega))⟩
    · refine ⟨m, by omega, by rw [sTot, h2, sB_f q, Int32.add_zero], fun e i hi => ?_, fun e => h3.mpr (fun i hi => e i (by omega))⟩
      by_cases z : i = n
      · subst z; exact q
      · exact h3.mp e i (by omega)
theorem sWrongMany_0 (h12 : rs.length ≤ 12) : sWrongMany p rs = 0 ↔ ∀ i, i < rs.length → sRightAt p rs i := by
  obtain ⟨m, h1, h2, h3⟩ := sTot_nI (c := fun i => ¬ sRightAt p rs i) rs.length (by omega)
  rw [sWrongMany, h2, show (0 : Int32) = nI 0 from rfl, jn_eq (by omega) (by omega), h3]
  exact ⟨fun e i hi => Classical.not_not.mp (e i hi), fun e i hi q => q (e i hi)⟩
theorem sWrongMany_pos (h12 : rs.length ≤ 12) : sWrongMany p rs ≤ 0 ↔ ∀ i, i < rs.length → sRightAt p rs i := by
  rw [← sWrongMany_0 h12]
  obtain ⟨m, h1, h2, h3⟩ := sTot_nI (c := fun i => ¬ sRightAt p rs i) rs.length (by omega)
  rw [sWrongMany, h2, show (0 : Int32) = nI 0 from rfl, jn_eq (by omega) (by omega), jn_le (by omega) (by omega)]
  omega
/-- bits of lines done stay -/
theorem sRun_keeps {x y fl fv : Int32} {i : Nat} : ∀ (m n : Nat) (V R : Nat → Int32) (T d k : Int32), bt d i = true → bt (sRun p x y fl fv m n V R T d k).2.1 i = true := by
  intro m
  induction m with
  | zero => intro n V R T d k hd; rw [sRun]; split <;> exact hd
  | succ m ih =>
    intro n V R T d k hd
    have hd' : bt (d ||| ((1 : Int32) <<< (nI n &&& 31))) i = true := by rw [b_or, hd]; rfl
    rw [sRun]
    dsimp only
    split
    · split
      · exact hd'
      · exact ih _ _ _ _ _ _ hd'
    · exact hd
/-- a line that is not done changes nothing -/
theorem sRun_undone (hp : p.length ≤ 10) {x y v : Int32} {l : Nat} (hl : l < 32) : ∀ (m n : Nat) (V R : Nat → Int32) (T d k : Int32), ¬ bt (sRun p x y (-1) 0 m n V R T d k).2.1 l = true → sRun p x y (nI l) v m n V R T d k = sRun p x y (-1) 0 m n V R T d k := by
  intro m
  induction m with
  | zero => intro n V R T d k _; rw [sRun, sRun]
  | succ m ih =>
    intro n V R T d k hb
    by_cases hn : n < p.length
    · have hne := nI_nm1 (n := n) (by omega)
      by_cases z : n = l
      · subst z
        have hd' : bt (d ||| ((1 : Int32) <<< (nI n &&& 31))) n = true := by rw [b_or, bt_one hl hl]; simp
        refine absurd ?_ hb
        rw [sRun, if_pos hn]
        dsimp only
        split
        · exact hd'
        · exact sRun_keeps _ _ _ _ _ _ _ hd'
      · have hne2 : ¬ nI n = nI l := by rw [jn_eq (by omega) (by omega)]; exact z
        rw [sRun, sRun, if_pos hn, if_pos hn, sStep_free (fl := nI l) (fl' := -1) (fv := v) (fv' := 0) hne2 hne]
        rw [sRun, if_pos hn] at hb
        dsimp only at hb ⊢
        by_cases q : (sStep x y (-1) 0 (p.getD n 4) n V R T).1 = true
        · rw [if_pos q, if_pos q]
        · rw [if_neg q] at hb
          rw [if_neg q, if_neg q]
          exact ih _ _ _ _ _ _ hb
    · rw [sRun, sRun, if_neg hn, if_neg hn]
/-- can a line's value make a run right -/
def sCanAt (p : List Int32) (r : aRun) (l : Nat) (d : Nat) : Prop := (sGo p r.1 r.2.1 (nI l) (-20 + nI d)).1 = r.2.2
def sCan1 (p : List Int32) (r : aRun) (l : Nat) (k : Nat) : Prop := ∃ d, d < k ∧ sCanAt p r l d
theorem sCan1_s {r : aRun} {l k : Nat} : sCan1 p r l (k + 1) ↔ sCan1 p r l k ∨ sCanAt p r l k := by
  constructor
  · rintro ⟨d, h1, h2⟩
    by_cases z : d = k
    · subst z; exact Or.inr h2
    · exact Or.inl ⟨d, by omega, h2⟩
  · rintro (⟨d, h1, h2⟩ | h2)
    · exact ⟨d, by omega, h2⟩
    · exact ⟨k, by omega, h2⟩
theorem sCan1_more {r : aRun} {l k m : Nat} (c : sCan1 p r l k) (h : k ≤ m) : sCan1 p r l m := by obtain ⟨d, h1, h2⟩ := c; exact ⟨d, by omega, h2⟩
theorem sCan_undone (hs : sProg p) {r : aRun} {l : Nat} (hl : l < 32) (hw : ¬ sIsRight p r) (hb : ¬ bt (sDone p r.1 r.2.1) l = true) : ¬ sCan1 p r l 41 := by
  rintro ⟨d, -, e⟩
  refine hw ?_
  unfold sCanAt sGo at e
  rw [sRun_undone hs.1 hl _ _ _ _ _ _ _ hb] at e
  exact e
theorem val_s {k : Nat} (hk : k < 50) : (-20 : Int32) + nI k + 1 = -20 + nI (k + 1) := by rw [Int32.add_assoc, ← nI_succ]
theorem val_lt {k : Nat} (hk : k ≤ 41) : (20 : Int32) < -20 + nI k ↔ k = 41 := by
  have e20 : (20 : Int32).toInt = 20 := rfl
  have em : (-20 : Int32).toInt = -20 := rfl
  have ek := nI_toInt (n := k) (by omega)
  rw [toInt_lt_iff, toInt_add' (by omega) (by omega), e20, em, ek]
  omega
/-- FREE -/
def sFreeAt (p : List Int32) (rs : List aRun) (l : Nat) : Prop := sKind (p.getD l 4) = 0 ∧ ∀ i, i < rs.length → sRightAt p rs i ∨ sCan1 p (rs.getD i aRun0) l 41
noncomputable def sFree (p : List Int32) (rs : List aRun) : Int32 := sBits (sFreeAt p rs) p.length
def sFreeTo (p : List Int32) (rs : List aRun) (l : Nat) (k : Nat) : Prop := sKind (p.getD l 4) = 0 ∧ ∀ i, i < k → sRightAt p rs i ∨ sCan1 p (rs.getD i aRun0) l 41
theorem sFreeTo_s {l k : Nat} : sFreeTo p rs l (k + 1) ↔ sFreeTo p rs l k ∧ (sRightAt p rs k ∨ sCan1 p (rs.getD k aRun0) l 41) := by
  constructor
  · rintro ⟨h1, h2⟩
    exact ⟨⟨h1, fun i hi => h2 i (by omega)⟩, h2 k (by omega)⟩
  · rintro ⟨⟨h1, h2⟩, h3⟩
    refine ⟨h1, fun i hi => ?_⟩
    by_cases z : i = k
    · subst z; exact h3
    · exact h2 i (by omega)
theorem sFreeTo_less {l k m : Nat} (c : sFreeTo p rs l m) (h : k ≤ m) : sFreeTo p rs l k := ⟨c.1, fun i hi => c.2 i (by omega)⟩
/-- BLAME: most, fewest, bits -/
abbrev sB3 : Type := Int32 × Int32 × Int32
noncomputable def sBlStep (w r : Int32) (k : Nat) (z : sB3) : sB3 :=
  sIf (z.1 < w ∨ (w = z.1 ∧ r < z.2.1)) (w, r, (1 : Int32) <<< (nI k &&& 31)) (sIf (w = z.1 ∧ r = z.2.1) (z.1, z.2.1, z.2.2 ||| ((1 : Int32) <<< (nI k &&& 31))) z)
noncomputable def sBl (p : List Int32) (rs : List aRun) : Nat → sB3
  | 0 => (-1, 0, 0)
  | k + 1 => sBlStep (sDoneIn p rs k true) (sDoneIn p rs k false) k (sBl p rs k)
noncomputable def sBlame (p : List Int32) (rs : List aRun) : Int32 := (sBl p rs p.length).2.2
theorem sDoneIn_nI (h12 : rs.length ≤ 12) {l : Nat} {w : Bool} : ∃ m, m ≤ 12 ∧ sDoneIn p rs l w = nI m := by
  obtain ⟨m, h1, h2, -⟩ := sTot_nI (c := fun i => (sRightAt p rs i ↔ w = false) ∧ bt (sDone p (rs.getD i aRun0).1 (rs.getD i aRun0).2.1) l = true) rs.length (by omega)
  exact ⟨m, by omega, h2⟩
theorem one_ne {k : Nat} (hk : k < 32) {x : Int32} : ¬ x ||| ((1 : Int32) <<< (nI k &&& 31)) = 0 := fun e => by
  have : bt (x ||| ((1 : Int32) <<< (nI k &&& 31))) k = true := by rw [b_or, bt_one hk hk]; simp
  rw [e, b_0] at this; cases this
theorem or_0 {x : Int32} : (0 : Int32) ||| x = x := by
  refine b_ext fun i _ => ?_
  rw [b_or, b_0]; rfl
theorem sBl_1 (h12 : rs.length ≤ 12) : sBl p rs 1 = (sDoneIn p rs 0 true, sDoneIn p rs 0 false, (1 : Int32) <<< (nI 0 &&& 31)) := by
  obtain ⟨m, h1, h2⟩ := sDoneIn_nI (p := p) h12 (l := 0) (w := true)
  show sBlStep _ _ 0 (-1, 0, 0) = _
  unfold sBlStep
  rw [sIf_t]
  left
  show (-1 : Int32) < _
  rw [h2]
  rw [toInt_lt_iff, nI_toInt (by omega)]
  have : (-1 : Int32).toInt = -1 := rfl
  omega
theorem sBl_ne (h12 : rs.length ≤ 12) : ∀ k, k < 32 → 0 < k → ¬ (sBl p rs k).2.2 = 0 := by
  intro k
  induction k with
  | zero => intro _ c; exact absurd c (Nat.lt_irrefl _)
  | succ k ih =>
    intro hk _
    by_cases z : k = 0
    · subst z
      rw [sBl_1 h12]
      show ¬ (1 : Int32) <<< (nI 0 &&& 31) = 0
      decide
    · have i := ih (by omega) (by omega)
      rw [sBl]; unfold sBlStep
      by_cases c : (sBl p rs k).1 < sDoneIn p rs k true ∨ (sDoneIn p rs k true = (sBl p rs k).1 ∧ sDoneIn p rs k false < (sBl p rs k).2.1)
      · rw [sIf_t c]
        show ¬ (1 : Int32) <<< (nI k &&& 31) = 0
        have := one_ne (k := k) (by omega) (x := 0)
        rw [or_0] at this; exact this
      · rw [sIf_f c]
        by_cases d : sDoneIn p rs k true = (sBl p rs k).1 ∧ sDoneIn p rs k false = (sBl p rs k).2.1
        · rw [sIf_t d]; exact one_ne (by omega)
        · rw [sIf_f d]; exact i
/-- the SLICES of all wrong runs -/
noncomputable def sShare (p : List Int32) (rs : List aRun) (b : Int32) : Nat → Int32
  | 0 => b
  | k + 1 => sIf (sRightAt p rs k) (sShare p rs b k) (sShare p rs b k &&& sSlice p (rs.getD k aRun0).1 (rs.getD k aRun0).2.1)
theorem sShare_b {b : Int32} (k : Nat) : sShare p rs b k = b &&& sShare p rs (-1) k := by
  induction k with
  | zero =>
    show b = b &&& (-1)
    refine b_ext fun i hi => ?_
    rw [b_and, b_m1 i hi, Bool.and_true]
  | succ k ih =>
    rw [sShare, sShare]
    by_cases c : sRightAt p rs k
    · rw [sIf_t c, sIf_t c, ih]
    · rw [sIf_f c, sIf_f c, ih]
      refine b_ext fun i hi => ?_
      rw [b_and, b_and, b_and, b_and, Bool.and_assoc]
theorem and_1023 {x : Int32} {f : Nat → Prop} {n : Nat} {y : Int32} (hn : n ≤ 10) : (x &&& sBits f n) &&& ((1023 : Int32) &&& y) = (x &&& sBits f n) &&& y := by
  refine b_ext fun i hi => ?_
  rw [b_and, b_and, b_and, b_and, b_and]
  by_cases c : i < 10
  · rw [(by decide +kernel : ∀ i, i < 10 → bt (1023 : Int32) i = true) i c]; simp
  · have : bt (sBits f n) i = false := by
      cases q : bt (sBits f n) i with
      | false => rfl
      | true => have := ((bt_sBits (by omega) hi).mp q).1; omega
    rw [this]; simp
noncomputable def sWhere (p : List Int32) (rs : List aRun) (w : Int32) : Int32 := sIf (∀ i, i < rs.length → sRightAt p rs i) 0 (sIf (w = 0) (sBlame p rs) (sIf (w = 1) (sFree p rs) ((sBlame p rs &&& sFree p rs) &&& sShare p rs (-1) rs.length)))
noncomputable def oWhere (A : aA) (w : Int32) : aO := sIf (aBody (xS A) = []) (1, 0, A) (sIf (aIx w 3) (0, sWhere (aBody (xS A)) (aRuns (xS A)) w, A) (2, 0, A))
end WHR
