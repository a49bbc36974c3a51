/-! Runs by a program: the class. -/
section RC1
variable {sc : Nat × (Nat → Int32)} {h : jH} {p : List Int32} {rs : List aRun}
theorem sStep_free {x y fl fl' fv fv' l : Int32} {n : Nat} {V R : Nat → Int32} {T : Int32} (h1 : ¬ nI n = fl) (h2 : ¬ nI n = fl') : sStep x y fl fv l n V R T = sStep x y fl' fv' l n V R T := by
  by_cases h4 : sKind l = 4
  · rw [sStep_4 h4, sStep_4 h4]
  by_cases hj : sKind l = 1 ∨ sKind l = 2
  · by_cases q : sHolds (sVal V x y (sFirst l)) (sSign l) (sVal V x y (sSecond l))
    · by_cases k1 : sKind l = 1
      · rw [(sStep_j hj).2.1 q k1, (sStep_j hj).2.1 q k1]
      · rw [(sStep_j hj).2.2 q k1, (sStep_j hj).2.2 q k1]
    · rw [(sStep_j hj).1 q, (sStep_j hj).1 q]
  have a1 : ¬ sKind l = 1 := fun q => hj (Or.inl q)
  have a2 : ¬ sKind l = 2 := fun q => hj (Or.inr q)
  by_cases q : sKind l = 3 ∨ 999999 < sSum (sVal V x y (sFirst l)) (sSign l) (sVal V x y (sSecond l))
  · rw [(sStep_s h4 a1 a2 (Or.inr ⟨fun z => h1 z.2, rfl⟩)).1 q, (sStep_s h4 a1 a2 (Or.inr ⟨fun z => h2 z.2, rfl⟩)).1 q]
  · rw [(sStep_s h4 a1 a2 (Or.inr ⟨fun z => h1 z.2, rfl⟩)).2 q, (sStep_s h4 a1 a2 (Or.inr ⟨fun z => h2 z.2, rfl⟩)).2 q]
theorem nI_nm1 {n : Nat} (hn : n < 2 ^ 31) : ¬ nI n = -1 := by
  intro q
  have := toInt_eq_iff.mp q
  rw [nI_toInt hn] at this
  have e : (-1 : Int32).toInt = -1 := rfl
  omega
theorem sRun_none (hp : p.length ≤ 10) {x y fv fv' : Int32} : ∀ (m n : Nat) (V R : Nat → Int32) (T d k : Int32), sRun p x y (-1) fv m n V R T d k = sRun p x y (-1) fv' m n V R T d k := by
  intro m
  induction m with
  | zero => intro n V R T d k; rw [sRun, sRun]
  | succ m ih =>
    intro n V R T d k
    rw [sRun, sRun]
    by_cases hn : n < p.length
    · have hne := nI_nm1 (n := n) (by omega)
      rw [if_pos hn, if_pos hn, sStep_free (fl' := -1) (fv' := fv') hne hne]
      dsimp only
      rw [ih]
    · rw [if_neg hn, if_neg hn]
theorem sGo_none (hp : p.length ≤ 10) {x y fv : Int32} : sGo p x y (-1) fv = sGo p x y (-1) 0 := sRun_none hp _ _ _ _ _ _ _
/-- what a walk leaves -/
def wEnd (p : List Int32) (x y : Int32) (h : jH) (r : Int32) (h' : jH) : Prop := r = sEnd p x y ∧ h' 69 7 = sDone p x y ∧ h' 69 8 = sMany p x y ∧ h' 69 9 = sSlice p x y ∧ jfr fWalk h h'
theorem tX10_end {t : Nat} {x y : Int32} (t_h : jI4 t) (ht : t + 1 < 69 ∨ 71 < t) (hp : isP h t p) (hs : sProg p) (hf : h 69 5 = -1) :
    JM mX10_through [.ref 69, .ref t, .int x, .int y] (jG0 sc) h (jint sc (wEnd p x y h)) := by
  have := tX10_through (sc := sc) (x := x) (y := y) (fl := -1) (fv := h 69 6) t_h ht hp hs hf rfl
  rw [sGo_none hs.1] at this
  exact this
def sIsRight (p : List Int32) (r : aRun) : Prop := sEnd p r.1 r.2.1 = r.2.2
def sRightAt (p : List Int32) (rs : List aRun) (i : Nat) : Prop := sIsRight p (rs.getD i aRun0)
noncomputable def sRightBits (p : List Int32) (rs : List aRun) : Int32 := sBits (sRightAt p rs) rs.length
/-- the first of k numbers from i on with a property; -1 -/
noncomputable def sFirst1 (f : Nat → Prop) : Nat → Nat → Int32
  | 0, _ => -1
  | k + 1, i => haveI := Classical.propDecidable; if f i then nI i else sFirst1 f k (i + 1)
theorem sFirst1_t {f : Nat → Prop} {k i : Nat} (h : f i) : sFirst1 f (k + 1) i = nI i := if_pos h
theorem sFirst1_f {f : Nat → Prop} {k i : Nat} (h : ¬ f i) : sFirst1 f (k + 1) i = sFirst1 f k (i + 1) := if_neg h
noncomputable def sFirstWrong (p : List Int32) (rs : List aRun) : Int32 := sFirst1 (fun i => ¬ sRightAt p rs i) rs.length 0
theorem isRuns.fr {F : jF} {h h' : jH} {t : Nat} (k : isRuns h t rs) (f : jfr F h h') (h1 : jin F t 3 = false) (h2 : ∀ j, jin F (t + 1) j = false) (h3 : ∀ j, jin F (t + 2) j = false) (h4 : ∀ j, jin F (t + 3) j = false) : isRuns h' t rs := by
  refine ⟨(f _ _ h1).trans k.1, fun i hi => ?_⟩
  obtain ⟨a, b, c⟩ := k.2 i hi
  exact ⟨(f _ _ (h2 i)).trans a, (f _ _ (h3 i)).trans b, (f _ _ (h4 i)).trans c⟩
theorem isRuns.at {t i : Nat} (k : isRuns h t rs) (hi : i < rs.length) (h12 : rs.length ≤ 12) : h (t + 1) ((nI i).toNatClampNeg) = (rs.getD i aRun0).1 ∧ h (t + 2) ((nI i).toNatClampNeg) = (rs.getD i aRun0).2.1 ∧ h (t + 3) ((nI i).toNatClampNeg) = (rs.getD i aRun0).2.2 := by
  rw [nI_clamp (by omega)]; exact k.2 i hi
theorem isRuns.walk {h h1 : jH} (k : isRuns h 14 rs) (f : jfr fWalk h h1) : isRuns h1 14 rs := k.fr f rfl (fun _ => rfl) (fun _ => rfl) (fun _ => rfl)
theorem tX11_rightBits {a : Nat} (a_h : jI4 a) (ha : a + 1 < 69 ∨ 71 < a) (hp : isP h a p) (hs : sProg p) (hr : isRuns h 14 rs) (h12 : rs.length ≤ 12) (hf : h 69 5 = -1) :
    JM mX11_rightBits [.ref 0, .ref a] (jG0 sc) h (jint sc (fun r h' => r = sRightBits p rs ∧ jfr fWalk h h')) := by
  refine jM_of rfl (Nat.le_of_ble_eq_true rfl) (by decide +kernel) rfl (rX11_rightBits_0 a_h ?_)
  refine jloop2 (fun i (h1 : jH) (b : Int32) => WP mX11_rightBits _ 13 [some (.ref 0), some (.ref a), some (.ref 14), some (.int b), some (.int (nI i))] [] (jG0 sc) h1 (0, 0))
    (fun i h1 b => b = sBits (sRightAt p rs) i ∧ jfr fWalk h h1) rs.length ?_ ?_ 0 h 0 (by omega) ⟨rfl, jfr.rf⟩
  · rintro h1 b ⟨i1, i2⟩
    have e3 : h1 14 3 = nI rs.length := (hr.walk i2).1
    have no : ¬ h1 14 3 ≤ nI rs.length → False := fun c => c (by rw [e3]; exact nI_le (Nat.le_refl _) (by omega))
    refine rX11_rightBits_13 a_h (fun _ => jint_i ⟨i1, i2⟩) (fun c => (no c).elim) (fun c => (no c).elim) (P1 := fun _ _ => True) (fun c => (no c).elim) (fun c => (no c).elim) (fun c => (no c).elim) (fun c => (no c).elim)
  · rintro i h1 b hi ⟨i1, i2⟩ k
    have hr1 := hr.walk i2
    have e3 : h1 14 3 = nI rs.length := hr1.1
    have hi31 : i < 2 ^ 31 := by omega
    have no : ¬ h1 14 3 ≤ nI i := by rw [e3, jn_le (by omega) hi31]; omega
    have no2 : ¬ (12 : Int32) ≤ nI i := fun c => by have := (jn_le (a := 12) (by decide) hi31).mp c; omega
    have vi : vp_in (nI i) 12 := vp_in_nI (by omega) (by decide)
    obtain ⟨q1, q2, -⟩ := hr1.at hi h12
    refine rX11_rightBits_13 a_h (fun c => absurd c no) (fun _ c => absurd c no2) (fun _ _ => vi) (fun _ _ => by rw [q1, q2]; exact tX10_end a_h ha (hp.walk i2 ha) hs ((i2 69 5 rfl).trans hf)) (fun _ _ _ _ _ => vi) (fun _ _ => ?_) (fun _ _ => ?_)
    · rintro x1 h2 ⟨z1, z2, z3, z4, z5⟩ c
      rw [((hr1.walk z5).at hi h12).2.2, z1] at c
      rw [← nI_succ]
      exact k h2 b ⟨by rw [i1, sBits_f c], i2.tr2 z5⟩
    · rintro x1 h2 ⟨z1, z2, z3, z4, z5⟩ c
      rw [((hr1.walk z5).at hi h12).2.2, z1] at c
      rw [← nI_succ]
      exact k h2 _ ⟨by rw [i1, sBits_t c], i2.tr2 z5⟩
theorem tX11_firstWrong {a : Nat} (a_h : jI4 a) (ha : a + 1 < 69 ∨ 71 < a) (hp : isP h a p) (hs : sProg p) (hr : isRuns h 14 rs) (h12 : rs.length ≤ 12) (hf : h 69 5 = -1) :
    JM mX11_firstWrong [.ref 0, .ref a] (jG0 sc) h (jint sc (fun r h' => r = sFirstWrong p rs ∧ jfr fWalk h h')) := by
  refine jM_of rfl (Nat.le_of_ble_eq_true rfl) (by decide +kernel) rfl (rX11_firstWrong_0 a_h ?_)
  refine jloop (fun i (h1 : jH) => WP mX11_firstWrong _ 10 [some (.ref 0), some (.ref a), some (.ref 14), some (.int (nI i))] [] (jG0 sc) h1 (0, 0))
    (fun i h1 => sFirstWrong p rs = sFirst1 (fun i => ¬ sRightAt p rs i) (rs.length - i) i ∧ jfr fWalk h h1) rs.length ?_ ?_ 0 h (by omega) ⟨rfl, jfr.rf⟩
  · rintro h1 ⟨i1, i2⟩
    have e3 : h1 14 3 = nI rs.length := (hr.walk i2).1
    have no : ¬ h1 14 3 ≤ nI rs.length → False := fun c => c (by rw [e3]; exact nI_le (Nat.le_refl _) (by omega))
    rw [Nat.sub_self] at i1
    refine rX11_firstWrong_10 a_h (fun _ => jint_i ⟨i1.symm, i2⟩) (fun c => (no c).elim) (fun c => (no c).elim) (P1 := fun _ _ => True) (fun c => (no c).elim) (fun c => (no c).elim) (fun c => (no c).elim) (fun c => (no c).elim)
  · rintro i h1 hi ⟨i1, i2⟩ k
    have hr1 := hr.walk i2
    have e3 : h1 14 3 = nI rs.length := hr1.1
    have hi31 : i < 2 ^ 31 := by omega
    have no : ¬ h1 14 3 ≤ nI i := by rw [e3, jn_le (by omega) hi31]; omega
    have no2 : ¬ (12 : Int32) ≤ nI i := fun c => by have := (jn_le (a := 12) (by decide) hi31).mp c; omega
    have vi : vp_in (nI i) 12 := vp_in_nI (by omega) (by decide)
    obtain ⟨q1, q2, -⟩ := hr1.at hi h12
    obtain ⟨m, hm⟩ : ∃ m, rs.length - i = m + 1 := ⟨rs.length - i - 1, by omega⟩
    rw [hm] at i1
    refine rX11_firstWrong_10 a_h (fun c => absurd c no) (fun _ c => absurd c no2) (fun _ _ => vi) (fun _ _ => by rw [q1, q2]; exact tX10_end a_h ha (hp.walk i2 ha) hs ((i2 69 5 rfl).trans hf)) (fun _ _ _ _ _ => vi) (fun _ _ => ?_) (fun _ _ => ?_)
    · rintro x1 h2 ⟨z1, z2, z3, z4, z5⟩ c
      rw [((hr1.walk z5).at hi h12).2.2, z1] at c
      rw [← nI_succ]
      refine k h2 ⟨?_, i2.tr2 z5⟩
      rw [i1, sFirst1_f (fun q => q c), show rs.length - (i + 1) = m by omega]
    · rintro x1 h2 ⟨z1, z2, z3, z4, z5⟩ c
      rw [((hr1.walk z5).at hi h12).2.2, z1] at c
      exact jint_i ⟨by rw [i1, sFirst1_t c], i2.tr2 z5⟩
abbrev fSurvey : jF := ([(70, 71), (73, 74)], [(69, 2, 4), (69, 7, 11), (72, 2, 3)])
/-- what a survey holds -/
def isSurvey (h : jH) (p : List Int32) (rs : List aRun) : Prop := h 72 2 = sRightBits p rs ∧ h 72 3 = sBits (fun i => ¬ sRightAt p rs i) rs.length ∧
  ∀ i, i < rs.length → h 73 i = sDone p (rs.getD i aRun0).1 (rs.getD i aRun0).2.1 ∧ h 74 i = sSlice p (rs.getD i aRun0).1 (rs.getD i aRun0).2.1
theorem isRuns.survey {h h1 : jH} (k : isRuns h 14 rs) (f : jfr fSurvey h h1) : isRuns h1 14 rs := k.fr f rfl (fun _ => rfl) (fun _ => rfl) (fun _ => rfl)
theorem tX7_of (hp : isP h 10 p) (hs : sProg p) (hr : isRuns h 14 rs) (h12 : rs.length ≤ 12) (hf : h 69 5 = -1) :
    JM mX7_of [.ref 72, .ref 10, .ref 14, .ref 69] (jG0 sc) h (jvoid sc (fun h' => isSurvey h' p rs ∧ jfr fSurvey h h')) := by
  have a_h : jI4 10 := by unfold jI4; decide
  have b_h : jI5 14 := by unfold jI5; decide
  have ha : 10 + 1 < 69 ∨ 71 < 10 := Or.inl (by decide)
  refine jM_of rfl (Nat.le_of_ble_eq_true rfl) (by decide +kernel) rfl (rX7_of_0 a_h b_h ?_)
  have hpf : ∀ h1, jfr fSurvey h h1 → isP h1 10 p := fun h1 f => hp.fr f rfl (fun _ => rfl)
  refine jloop (fun i (h1 : jH) => WP mX7_of _ 13 [some (.ref 72), some (.ref 10), some (.ref 14), some (.ref 69), some (.int (nI i))] [] (jG0 sc) h1 (0, 0))
    (fun i h1 => jfr fSurvey h h1 ∧ h1 72 2 = sBits (sRightAt p rs) i ∧ h1 72 3 = sBits (fun i => ¬ sRightAt p rs i) i ∧ ∀ j, j < i → h1 73 j = sDone p (rs.getD j aRun0).1 (rs.getD j aRun0).2.1 ∧ h1 74 j = sSlice p (rs.getD j aRun0).1 (rs.getD j aRun0).2.1) rs.length ?_ ?_ 0 _ (by omega) ⟨(jfr.rf.put rfl).put rfl, by simp [jput]; rfl, by simp [jput]; rfl, fun j hj => absurd hj (by omega)⟩
  · rintro h1 ⟨i2, i3, i4, i5⟩
    have e3 : h1 14 3 = nI rs.length := (hr.survey i2).1
    have no : ¬ h1 14 3 ≤ nI rs.length → False := fun c => c (by rw [e3]; exact nI_le (Nat.le_refl _) (by omega))
    refine rX7_of_13 a_h b_h (fun _ => jvoid_i ⟨⟨i3, i4, i5⟩, i2⟩) (fun c => (no c).elim) (fun c => (no c).elim) (P1 := fun _ _ => True) (fun c => (no c).elim) (fun c => (no c).elim) (fun c => (no c).elim) (fun c => (no c).elim) (fun c => (no c).elim) (fun c => (no c).elim)
  · rintro i h1 hi ⟨i2, i3, i4, i5⟩ k
    have hr1 := hr.survey i2
    have e3 : h1 14 3 = nI rs.length := hr1.1
    have hi31 : i < 2 ^ 31 := by omega
    have no : ¬ h1 14 3 ≤ nI i := by rw [e3, jn_le (by omega) hi31]; omega
    have no2 : ¬ (12 : Int32) ≤ nI i := fun c => by have := (jn_le (a := 12) (by decide) hi31).mp c; omega
    have vi : vp_in (nI i) 12 := vp_in_nI (by omega) (by decide)
    obtain ⟨q1, q2, -⟩ := hr1.at hi h12
    refine rX7_of_13 a_h b_h (fun c => absurd c no) (fun _ c => absurd c no2) (fun _ _ => vi) (fun _ _ => by rw [show h1 (14 + 1) = h1 15 from rfl, show h1 (14 + 2) = h1 16 from rfl] at *; rw [q1, q2]; exact tX10_end a_h ha (hpf _ i2) hs ((i2 69 5 rfl).trans hf)) (fun _ _ _ _ _ => vi) (fun _ _ _ _ _ _ => vi) (fun _ _ => ?_) (fun _ _ _ _ _ _ => vi) (fun _ _ => ?_)
    all_goals
      rintro x1 h2 ⟨z1, z2, z3, z4, z5⟩ c
      rw [show h2 (14 + 3) = h2 17 from rfl, ((hr1.walk z5).at hi h12).2.2, z1] at c
      have g2 : h2 72 2 = h1 72 2 := z5 72 2 rfl
      have g3 : h2 72 3 = h1 72 3 := z5 72 3 rfl
      have g73 : ∀ j, h2 73 j = h1 73 j := fun j => z5 73 j rfl
      have g74 : ∀ j, h2 74 j = h1 74 j := fun j => z5 74 j rfl
      rw [← nI_succ]
      refine k _ ⟨(((i2.tr2 (z5.mono rfl)).put rfl).put rfl).put rfl, ?_, ?_, fun j hj => ?_⟩
      · simp only [jput_get, nI_clamp hi31]
        simp [g2, i3]
        first | rw [sBits_f c] | rw [sBits_t c]
      · simp only [jput_get, nI_clamp hi31]
        simp [g3, i4]
        first | rw [sBits_t c] | rw [sBits_f (fun q => q c)]
      · simp only [jput_get, nI_clamp hi31]
        by_cases hj2 : j = i
        · subst hj2; simp [z2, z4]
        · have := i5 j (by omega)
          simp [hj2, g73, g74, this]
end RC1
