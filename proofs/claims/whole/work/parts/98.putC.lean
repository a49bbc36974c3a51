/-! Operation putIn: the class. -/
section PUC
variable {sc : Nat × (Nat → Int32)} {h : jH} {A : aA} {n : Nat} {p q : List Int32} {rs : List aRun} {b : Nat}
noncomputable def sEndAt (q : List Int32) (rs : List aRun) (i : Nat) : Int32 := sEnd q (rs.getD i aRun0).1 (rs.getD i aRun0).2.1
def sAskedAt (p q : List Int32) (rs : List aRun) (i : Nat) : Prop := ¬ 999999 < sEndAt p rs i → sEndAt q rs i = sEndAt p rs i
def sAsked (p q : List Int32) (rs : List aRun) : Prop := ∀ i, i < rs.length → sAskedAt p q rs i
def sSameBox (p q : List Int32) (b : Nat) : Prop := ∀ x y, x ≤ b → y ≤ b → sEnd q (nI x) (nI y) = sEnd p (nI x) (nI y)
def sSome (p q : List Int32) (rs : List aRun) (b i : Nat) : Prop := ∃ j, j < i ∧ sAsked p (sBy q (j, none)) rs ∧ sSameBox p (sBy q (j, none)) b
def sEvery (p q : List Int32) (rs : List aRun) (b i : Nat) : Prop := ∀ j, j < i → sAsked p (sBy q (j, none)) rs → sSameBox p (sBy q (j, none)) b
noncomputable def sJudge (p q : List Int32) (rs : List aRun) (b : Nat) : Int32 := sIf (sSome p q rs b (sMends q).length) (sIf (sEvery p q rs b (sMends q).length) 1 2) 0
noncomputable def sPutV (p q : List Int32) (rs : List aRun) (b : Nat) : Int32 := sIf (sAsked p q rs) 3 (sJudge p q rs b)
noncomputable def oPutIn (A : aA) (m : Int32) : aO := sIf (aIx m (sMends (aBody (xS A))).length) (0, sPutV (aBody (xS A)) (sBy (aBody (xS A)) (m.toNatClampNeg, none)) (aRuns (xS A)) (aBox (xS A)), A) (1, 0, A)
theorem sSome_s {i : Nat} : sSome p q rs b (i + 1) ↔ sSome p q rs b i ∨ (sAsked p (sBy q (i, none)) rs ∧ sSameBox p (sBy q (i, none)) b) := by
  constructor
  · rintro ⟨j, h1, h2⟩
    by_cases z : j = i
    · subst z; exact Or.inr h2
    · exact Or.inl ⟨j, by omega, h2⟩
  · rintro (⟨j, h1, h2⟩ | h)
    · exact ⟨j, by omega, h2⟩
    · exact ⟨i, by omega, h⟩
theorem sEvery_s {i : Nat} : sEvery p q rs b (i + 1) ↔ sEvery p q rs b i ∧ (sAsked p (sBy q (i, none)) rs → sSameBox p (sBy q (i, none)) b) := by
  constructor
  · intro h; exact ⟨fun j hj => h j (by omega), h i (by omega)⟩
  · rintro ⟨h1, h2⟩ j hj
    by_cases z : j = i
    · subst z; exact h2
    · exact h1 j (by omega)
theorem sB_or {c d : Prop} : sB c ||| sB d = sB (c ∨ d) := by
  by_cases h1 : c
  · rw [sB_t h1, sB_t (c := c ∨ d) (Or.inl h1)]
    by_cases h2 : d
    · rw [sB_t h2]; decide
    · rw [sB_f h2]; decide
  · rw [sB_f h1]
    by_cases h2 : d
    · rw [sB_t h2, sB_t (c := c ∨ d) (Or.inr h2)]; decide
    · rw [sB_f h2, sB_f (c := c ∨ d) (fun q => q.elim h1 h2)]; decide
theorem sB_and {c d : Prop} : sB c &&& sB d = sB (c ∧ d) := by
  by_cases h1 : c
  · rw [sB_t h1]
    by_cases h2 : d
    · rw [sB_t h2, sB_t (c := c ∧ d) ⟨h1, h2⟩]; decide
    · rw [sB_f h2, sB_f (c := c ∧ d) (fun q => h2 q.2)]; decide
  · rw [sB_f h1, sB_f (c := c ∧ d) (fun q => h1 q.1)]
    refine b_ext fun i hi => ?_
    rw [b_and, b_0, Bool.false_and]
theorem and255 : ∀ n, n < 256 → nI n &&& (255 : Int32) = nI n := by decide +kernel
def isEnds (h : jH) (p : List Int32) (rs : List aRun) : Prop := ∀ i, i < rs.length → h 95 i = sEndAt p rs i
def isBoxE (h : jH) (p : List Int32) (b : Nat) : Prop := ∀ x y, x ≤ b → y ≤ b → h 96 (16 * x + y) = sEnd p (nI x) (nI y)
theorem tX11_endsAsAsked {a : Nat} (a_h : jI4 a) (ha : a + 1 < 69 ∨ 71 < a) (hp : isP h a q) (hs : sProg q) (he : isEnds h p rs) (hr : isRuns h 14 rs) (h12 : rs.length ≤ 12) (h5 : h 69 5 = -1) :
    JM mX11_endsAsAsked [.ref 0, .ref a] (jG0 sc) h (jint sc (fun r h' => r = sB (sAsked p q rs) ∧ jfr fWalk h h')) := by
  refine jM_of rfl (Nat.le_of_ble_eq_true rfl) (by decide +kernel) rfl (rX11_endsAsAsked_0 a_h ?_)
  refine jloop (fun i (h1 : jH) => WP mX11_endsAsAsked _ 10 [some (.ref 0), some (.ref a), some (.ref 14), some (.int (nI i))] [] (jG0 sc) h1 (0, 0))
    (fun i h1 => (∀ j, j < i → sAskedAt p q rs j) ∧ jfr fWalk h h1) rs.length ?_ ?_ 0 h (by omega) ⟨fun j hj => absurd hj (Nat.not_lt_zero _), jfr.rf⟩
  · rintro h1 ⟨i1, f⟩
    have e3 : h1 14 3 = nI rs.length := (hr.walk f).1
    have no : ¬ h1 14 3 ≤ nI rs.length → False := fun c => c (by rw [e3]; exact nI_le (Nat.le_refl _) (by omega))
    exact rX11_endsAsAsked_10 a_h (P1 := fun _ _ => True) (P2 := fun _ _ => True) (fun _ => jint_i ⟨(sB_t (c := sAsked p q rs) i1).symm, f⟩) (fun c => (no c).elim) (fun c => (no c).elim) (fun c => (no c).elim) (fun c => (no c).elim) (fun c => (no c).elim) (fun c => (no c).elim) (fun c => (no c).elim) (fun c => (no c).elim) (fun c => (no c).elim)
  · rintro i h1 hi ⟨i1, f⟩ kk
    have e3 : h1 14 3 = nI rs.length := (hr.walk f).1
    have no : ¬ h1 14 3 ≤ nI i := by rw [e3, jn_le (by omega) (by omega)]; omega
    have no2 : ¬ (12 : Int32) ≤ nI i := fun c => by have := (jn_le (a := 12) (by decide) (by omega)).mp c; omega
    have vi : vp_in (nI i) 12 := vp_in_nI (by omega) (by decide)
    have e95 : ∀ {h2 : jH}, jfr fWalk h h2 → h2 95 (nI i).toNatClampNeg = sEndAt p rs i := fun g => by rw [nI_clamp (by omega), g 95 i rfl]; exact he i hi
    have next : ∀ {h2 : jH}, jfr fWalk h h2 → sAskedAt p q rs i → WP mX11_endsAsAsked (jint sc (fun r h' => r = sB (sAsked p q rs) ∧ jfr fWalk h h')) 10 [some (.ref 0), some (.ref a), some (.ref 14), some (.int (nI i + 1))] [] (jG0 sc) h2 (0, 0) := fun {h2} g c => by
      rw [← nI_succ]
      refine kk h2 ⟨fun j hj => ?_, g⟩
      by_cases z : j = i
      · subst z; exact c
      · exact i1 j (by omega)
    refine rX11_endsAsAsked_10 a_h (fun c => absurd c no) (fun _ c => absurd c no2) (fun _ _ => vi) (P1 := fun x h' => x = sB (¬ 999999 < sEndAt p rs i) ∧ jfr fWalk h h') (fun _ _ => by rw [e95 f]; exact jM_get tX11_isNumber f) (fun _ _ x1 h2 y c => ?_) (fun _ _ _ _ _ _ => vi) (P2 := fun x h' => x = sEndAt q rs i ∧ jfr fWalk h h') (fun _ _ x1 h2 y c => ?_) (fun _ _ _ _ _ _ _ _ _ => vi) (fun _ _ x1 h2 y c x3 h3 w d => ?_) (fun _ _ x1 h2 y c x3 h3 w d => ?_)
    · rw [y.1, sB_eq] at c
      exact next y.2 (fun q => absurd q c)
    · obtain ⟨q1, q2, -⟩ := (hr.walk y.2).at hi h12
      have q1 : h2 15 (nI i).toNatClampNeg = _ := q1
      have q2 : h2 16 (nI i).toNatClampNeg = _ := q2
      rw [q1, q2]
      exact jM_int (tX10_end a_h ha (hp.walk y.2 ha) hs ((y.2 69 5 rfl).trans h5)) (fun x h' z => ⟨z.1, y.2.tr2 z.2.2.2.2⟩)
    · rw [w.1, e95 w.2] at d
      exact next w.2 (fun _ => d)
    · rw [w.1, e95 w.2] at d
      rw [y.1, sB_ne] at c
      exact jint_i ⟨(sB_f (c := sAsked p q rs) (fun z => d (z i hi c))).symm, w.2⟩
theorem tX11_endsAsBody (hb : b ≤ 15) (eb : h 9 8 = nI b) (hp : isP h 89 q) (hs : sProg q) (he : isBoxE h p b) (h5 : h 69 5 = -1) :
    JM mX11_endsAsBody [.ref 0, .ref 89] (jG0 sc) h (jint sc (fun r h' => r = sB (sSameBox p q b) ∧ jfr fWalk h h')) := by
  have b_h : jI4 89 := by unfold jI4; decide
  refine jM_of rfl (Nat.le_of_ble_eq_true rfl) (by decide +kernel) rfl (rX11_endsAsBody_0 b_h ?_)
  refine jloop (fun x (h1 : jH) => WP mX11_endsAsBody _ 2 [some (.ref 0), some (.ref 89), some (.int (nI x)), none] [] (jG0 sc) h1 (0, 0))
    (fun x h1 => (∀ u v, u < x → v ≤ b → sEnd q (nI u) (nI v) = sEnd p (nI u) (nI v)) ∧ jfr fWalk h h1) (b + 1) ?_ ?_ 0 h (by omega) ⟨fun u v hu => absurd hu (Nat.not_lt_zero _), jfr.rf⟩
  · rintro h1 ⟨i1, f⟩
    exact rX11_endsAsBody_2 b_h (fun _ => jint_i ⟨(sB_t (c := sSameBox p q b) (fun u v hu hv => i1 u v (by omega) hv)).symm, f⟩) (fun c => absurd (by rw [(f 9 8 rfl).trans eb, jn_lt (by omega) (by omega)]; omega) c)
  · rintro x h1 hx ⟨i1, f⟩ kk
    refine rX11_endsAsBody_2 b_h (fun c => absurd c (by rw [(f 9 8 rfl).trans eb, jn_lt (by omega) (by omega)]; omega)) (fun _ => ?_)
    refine jloop (fun y (h2 : jH) => WP mX11_endsAsBody _ 15 [some (.ref 0), some (.ref 89), some (.int (nI x)), some (.int (nI y))] [] (jG0 sc) h2 (0, 0))
      (fun y h2 => (∀ v, v < y → sEnd q (nI x) (nI v) = sEnd p (nI x) (nI v)) ∧ jfr fWalk h h2) (b + 1) ?_ ?_ 0 h1 (by omega) ⟨fun v hv => absurd hv (Nat.not_lt_zero _), f⟩
    · rintro h2 ⟨j1, f2⟩
      have lt : h2 9 8 < nI (b + 1) := by rw [(f2 9 8 rfl).trans eb, jn_lt (by omega) (by omega)]; omega
      refine rX11_endsAsBody_15 b_h (fun _ => ?_) (P1 := fun _ _ => True) (fun c => absurd lt c) (fun c => absurd lt c) (fun c => absurd lt c) (fun c => absurd lt c)
      rw [← nI_succ]
      refine kk h2 ⟨fun u v hu hv => ?_, f2⟩
      by_cases z : u = x
      · subst z; exact j1 v (by omega)
      · exact i1 u v (by omega) hv
    · rintro y h2 hy ⟨j1, f2⟩ kk2
      have nlt : ¬ h2 9 8 < nI y := by rw [(f2 9 8 rfl).trans eb, jn_lt (by omega) (by omega)]; omega
      have g0 : ((16 : Int32) * nI x + nI y) &&& 255 = nI (16 * x + y) := by rw [pk16 (by omega) (by omega)]; exact and255 _ (by omega)
      have e96 : ∀ {h3 : jH}, jfr fWalk h2 h3 → h3 96 ((((16 : Int32) * nI x + nI y) &&& 255).toNatClampNeg) = sEnd p (nI x) (nI y) := fun g => by rw [g0, nI_clamp (by omega), g 96 _ rfl, f2 96 _ rfl]; exact he x y (by omega) (by omega)
      refine rX11_endsAsBody_15 b_h (fun c => absurd c nlt) (P1 := fun r h' => r = sEnd q (nI x) (nI y) ∧ jfr fWalk h2 h') (fun _ => jM_int (tX10_end b_h (Or.inr (by decide)) (hp.w89 f2) hs ((f2 69 5 rfl).trans h5)) (fun r h' z => ⟨z.1, z.2.2.2.2⟩)) (fun _ _ _ _ => by rw [g0]; exact vp_in_nI (by omega) (by decide)) (fun _ x1 h3 z c => ?_) (fun _ x1 h3 z c => ?_)
      all_goals rw [z.1, e96 z.2] at c
      · rw [← nI_succ]
        refine kk2 h3 ⟨fun v hv => ?_, f2.tr2 z.2⟩
        by_cases w : v = y
        · subst w; exact c
        · exact j1 v (by omega)
      · exact jint_i ⟨(sB_f (c := sSameBox p q b) (fun w => c (w x y (by omega) (by omega)))).symm, f2.tr2 z.2⟩
abbrev fJudge : jF := ([(70, 71), (82, 90)], [(69, 2, 4), (69, 7, 11)])
theorem tX11_judgeFault (hb : b ≤ 15) (eb : h 9 8 = nI b) (hp : isP h 91 q) (hs : sProg q) (he : isEnds h p rs) (hx : isBoxE h p b) (hr : isRuns h 14 rs) (h12 : rs.length ≤ 12) (h5 : h 69 5 = -1) :
    JM mX11_judgeFault [.ref 0] (jG0 sc) h (jint sc (fun r h' => r = sJudge p q rs b ∧ jfr fJudge h h')) := by
  have b_h : jI4 89 := by unfold jI4; decide
  have q_h : jI4 91 := by unfold jI4; decide
  have t_h : jI3 82 := by unfold jI3; decide
  have h280 := sMends_280 hs
  refine jM_of rfl (Nat.le_of_ble_eq_true rfl) (by decide +kernel) rfl (rX11_judgeFault_0 (P1 := fun h' => isMends h' 82 q ∧ jfr fJudge h h') (jM_void (tX3_of t_h q_h (Or.inr (by decide)) hp hs) (fun h' z => ⟨z.1, z.2.mono rfl⟩)) (fun h0 y0 => ?_))
  obtain ⟨m0, f0⟩ := y0
  have ms : ∀ {h1 : jH}, jfr ([(70, 71), (89, 90)], [(69, 2, 4), (69, 7, 11), (82, 7, 8)]) h0 h1 → isMends h1 82 q := fun g => m0.fr g rfl (fun c h1 h2 j => by rw [jin_f]; simp <;> omega)
  have up : ∀ {h1 : jH}, jfr ([(70, 71), (89, 90)], [(69, 2, 4), (69, 7, 11), (82, 7, 8)]) h0 h1 → jfr fJudge h h1 := fun g => f0.tr2 (g.mono rfl)
  have e82 : ∀ {h1 : jH}, jfr ([(70, 71), (89, 90)], [(69, 2, 4), (69, 7, 11), (82, 7, 8)]) h0 h1 → h1 82 6 = nI (sMends q).length := fun g => (ms g).1.1
  -- one mend of it, as it is put to trial
  have shp : ∀ {h1 : jH} {i : Nat}, jfr ([(70, 71), (89, 90)], [(69, 2, 4), (69, 7, 11), (82, 7, 8)]) h0 h1 → i < (sMends q).length → JM mX3_shape [.ref 82, .ref 91, .int (nI i), .ref 89] (jG0 sc) h1 (jint sc (fun x h' => isP h' 89 (sBy q (i, none)) ∧ jfr ([(70, 71), (89, 90)], [(69, 2, 4), (69, 7, 11), (82, 7, 8)]) h0 h')) := fun {h1 i} g hi => by
    refine jM_int (tX3_shape t_h q_h b_h hs (ms g) (hp.fr (up g) rfl (fun _ => rfl)) (Or.inr (by decide)) (Or.inr (by decide)) (Or.inr (by decide)) (by omega)) (fun x h' y => ?_)
    obtain ⟨-, y2, y3⟩ := y
    rw [sAll_1 hi] at y2
    exact ⟨y2, g.tr2 (y3.mono rfl)⟩
  have ask : ∀ {h1 : jH} {i : Nat}, isP h1 89 (sBy q (i, none)) ∧ jfr ([(70, 71), (89, 90)], [(69, 2, 4), (69, 7, 11), (82, 7, 8)]) h0 h1 → i < (sMends q).length → JM mX11_endsAsAsked [.ref 0, .ref 89] (jG0 sc) h1 (jint sc (fun x h' => x = sB (sAsked p (sBy q (i, none)) rs) ∧ isP h' 89 (sBy q (i, none)) ∧ jfr ([(70, 71), (89, 90)], [(69, 2, 4), (69, 7, 11), (82, 7, 8)]) h0 h')) := fun {h1 i} y hi =>
    jM_int (tX11_endsAsAsked b_h (Or.inr (by decide)) y.1 (sProg_1 hs hi) (fun j hj => (up y.2 95 j rfl).trans (he j hj)) (hr.fr (up y.2) rfl (fun _ => rfl) (fun _ => rfl) (fun _ => rfl)) h12 ((up y.2 69 5 rfl).trans h5)) (fun x h' z => ⟨z.1, y.1.w89 z.2, y.2.tr2 (z.2.mono rfl)⟩)
  have bod : ∀ {h1 : jH} {i : Nat}, isP h1 89 (sBy q (i, none)) → jfr ([(70, 71), (89, 90)], [(69, 2, 4), (69, 7, 11), (82, 7, 8)]) h0 h1 → i < (sMends q).length → JM mX11_endsAsBody [.ref 0, .ref 89] (jG0 sc) h1 (jint sc (fun x h' => x = sB (sSameBox p (sBy q (i, none)) b) ∧ jfr ([(70, 71), (89, 90)], [(69, 2, 4), (69, 7, 11), (82, 7, 8)]) h0 h')) := fun {h1 i} y g hi =>
    jM_int (tX11_endsAsBody hb ((up g 9 8 rfl).trans eb) y (sProg_1 hs hi) (fun u v hu hv => (up g 96 _ rfl).trans (hx u v hu hv)) ((up g 69 5 rfl).trans h5)) (fun x h' z => ⟨z.1, g.tr2 (z.2.mono rfl)⟩)
  refine jloop2 (fun i (h1 : jH) (l : Int32 × Int32) => WP mX11_judgeFault _ 17 [some (.ref 0), some (.int l.1), some (.int l.2), some (.int (nI i)), none] [] (jG0 sc) h1 (0, 0))
    (fun i h1 l => l.1 = sB (sSome p q rs b i) ∧ l.2 = sB (sEvery p q rs b i) ∧ jfr ([(70, 71), (89, 90)], [(69, 2, 4), (69, 7, 11), (82, 7, 8)]) h0 h1) (sMends q).length ?_ ?_ 0 h0 (0, 1) (by omega) ⟨(sB_f (fun w => by obtain ⟨j, hj, -⟩ := w; exact absurd hj (Nat.not_lt_zero _))).symm, (sB_t (c := sEvery p q rs b 0) (fun j hj => absurd hj (Nat.not_lt_zero _))).symm, jfr.rf⟩
  · rintro h1 l ⟨e1, e2, f⟩
    have le : h1 82 6 ≤ nI (sMends q).length := by rw [e82 f]; exact nI_le (Nat.le_refl _) (by omega)
    refine rX11_judgeFault_17 (P1 := fun _ _ => True) (P2 := fun _ _ => True) (P3 := fun _ _ => True) (P4 := fun _ _ => True) (P5 := fun _ _ => True) (P6 := fun _ _ => True) (fun _ c d => ?_) (fun _ c d => ?_) (fun _ c => ?_) (fun c => absurd le c) (fun c => absurd le c) (fun c => absurd le c) (fun c => absurd le c) (fun c => absurd le c) (fun c => absurd le c) (fun c => absurd le c) (fun c => absurd le c) (fun c => absurd le c) (fun c => absurd le c) (fun c => absurd le c) (fun c => absurd le c) (fun c => absurd le c)
    all_goals rw [e1] at c
    · rw [sB_ne] at c; rw [e2, sB_eq] at d
      exact jint_i ⟨by rw [sJudge, sIf_t c, sIf_f d], up f⟩
    · rw [sB_ne] at c; rw [e2, sB_ne] at d
      exact jint_i ⟨by rw [sJudge, sIf_t c, sIf_t d], up f⟩
    · rw [sB_eq] at c
      exact jint_i ⟨by rw [sJudge, sIf_f c], up f⟩
  · rintro i h1 l hi ⟨e1, e2, f⟩ kk
    have nle : ¬ h1 82 6 ≤ nI i := by rw [e82 f, jn_le (by omega) (by omega)]; omega
    have no : ∀ {h3 : jH}, jfr ([(70, 71), (89, 90)], [(69, 2, 4), (69, 7, 11), (82, 7, 8)]) h0 h3 → ¬ sAsked p (sBy q (i, none)) rs → WP mX11_judgeFault (jint sc (fun r h' => r = sJudge p q rs b ∧ jfr fJudge h h')) 17 [some (.ref 0), some (.int l.1), some (.int l.2), some (.int (nI i + 1)), none] [] (jG0 sc) h3 (0, 0) := fun {h3} g c => by
      rw [← nI_succ]
      refine kk h3 l ⟨?_, ?_, g⟩
      · rw [e1]
        by_cases z : sSome p q rs b i
        · rw [sB_t z, sB_t (sSome_s.mpr (Or.inl z))]
        · rw [sB_f z, sB_f (fun w => (sSome_s.mp w).elim z (fun w => c w.1))]
      · rw [e2]
        by_cases z : sEvery p q rs b i
        · rw [sB_t z, sB_t (sEvery_s.mpr ⟨z, fun w => absurd w c⟩)]
        · rw [sB_f z, sB_f (fun w => z (sEvery_s.mp w).1)]
    have yes : ∀ {h3 : jH}, jfr ([(70, 71), (89, 90)], [(69, 2, 4), (69, 7, 11), (82, 7, 8)]) h0 h3 → sAsked p (sBy q (i, none)) rs → WP mX11_judgeFault (jint sc (fun r h' => r = sJudge p q rs b ∧ jfr fJudge h h')) 17 [some (.ref 0), some (.int (l.1 ||| sB (sSameBox p (sBy q (i, none)) b))), some (.int (l.2 &&& sB (sSameBox p (sBy q (i, none)) b))), some (.int (nI i + 1)), none] [] (jG0 sc) h3 (0, 0) := fun {h3} g c => by
      rw [← nI_succ, e1, e2, sB_or, sB_and]
      have s1 : (sSome p q rs b i ∨ sSameBox p (sBy q (i, none)) b) ↔ sSome p q rs b (i + 1) := by
        rw [sSome_s]; exact ⟨fun w => w.imp id (fun w => ⟨c, w⟩), fun w => w.imp id (fun w => w.2)⟩
      have s2 : (sEvery p q rs b i ∧ sSameBox p (sBy q (i, none)) b) ↔ sEvery p q rs b (i + 1) := by
        rw [sEvery_s]; exact ⟨fun w => ⟨w.1, fun _ => w.2⟩, fun w => ⟨w.1, w.2 c⟩⟩
      exact kk h3 (_, _) ⟨by show sB _ = sB _; rw [s1], by show sB _ = sB _; rw [s2], g⟩
    refine rX11_judgeFault_17 (fun c => absurd c nle) (fun c => absurd c nle) (fun c => absurd c nle) (fun _ _ => shp f hi) (fun _ _ x1 h2 y => ask y hi) (fun _ _ x1 h2 _ x3 h3 y c => ?_) (fun _ _ x1 h2 _ x3 h3 y c => bod y.2.1 y.2.2 hi) (fun _ _ x1 h2 _ x3 h3 y c x4 h4 w => ?_) (fun _ d c _ _ => ?_) (fun _ d c _ e => absurd d e) (fun _ d c e => absurd e c) (fun _ _ _ => shp f hi) (fun _ _ _ x1 h2 y => ask y hi) (fun _ _ _ x1 h2 _ x3 h3 y c => ?_) (fun _ _ _ x1 h2 _ x3 h3 y c => bod y.2.1 y.2.2 hi) (fun _ _ _ x1 h2 _ x3 h3 y c x4 h4 w => ?_)
    · rw [y.1, sB_eq] at c; exact no y.2.2 c
    · rw [y.1, sB_ne] at c; rw [w.1]; exact yes w.2 c
    · rw [e1, sB_ne] at c; rw [e2, sB_eq] at d
      refine jint_i ⟨?_, up f⟩
      rw [sJudge, sIf_t (by obtain ⟨j, h1, h2⟩ := c; exact ⟨j, by omega, h2⟩), sIf_f (fun w => d (fun j hj => w j (by omega)))]
    · rw [y.1, sB_eq] at c; exact no y.2.2 c
    · rw [y.1, sB_ne] at c; rw [w.1]; exact yes w.2 c
theorem ccPutIn {m : Int32} (ok : aOk n A) (k : RC h A) : JM mX11_putIn [.ref 0, .int m] (jG0 sc) h (cQ sc ["java/lang/IndexOutOfBoundsException"] (oPutIn A m) h) := by
  have a_h : jI4 10 := by unfold jI4; decide
  have q_h : jI4 91 := by unfold jI4; decide
  have t_h : jI3 75 := by unfold jI3; decide
  have h12 := ok.1.2.2.1.1
  have h15 : aBox (xS A) ≤ 15 := ok.1.2.2.2.2.2.2.2
  have hs := ok.1.1
  have h280 := sMends_280 hs
  have hr : isRuns h 14 (aRuns (xS A)) := k.1.2.2.1
  have hp : isP h 10 (aBody (xS A)) := k.1.1
  have eb : h 9 8 = nI (aBox (xS A)) := k.1.2.2.2.2.2.2.2
  have e6 : h 75 6 = nI (sMends (aBody (xS A))).length := k.2.2.2.2.2.1.1
  have no : ¬ aIx m (sMends (aBody (xS A))).length → cQ sc ["java/lang/IndexOutOfBoundsException"] (oPutIn A m) h (.inr "java/lang/IndexOutOfBoundsException") (jG0 sc) h := fun q => by
    rw [oPutIn, sIf_f q]; exact cQ_x rfl k (fun _ _ => rfl)
  refine jM_of rfl (Nat.le_of_ble_eq_true rfl) (by decide +kernel) rfl (rX11_putIn_0 (fun c => no (fun q => ((aIx_lt (by omega)).mpr q).1 c)) (fun c c2 => ?_) (fun _ c => no (fun q => c (by rw [e6]; exact ((aIx_lt (by omega)).mpr q).2))))
  have qm : aIx m (sMends (aBody (xS A))).length := (aIx_lt (by omega)).mp ⟨c, by rw [← e6]; exact c2⟩
  rw [oPutIn, sIf_t qm]
  obtain ⟨d, hd, rfl⟩ := qm
  rw [nI_clamp (show d < 2 ^ 31 by omega)]
  have oq : sProg (sBy (aBody (xS A)) (d, none)) := sProg_1 hs hd
  -- the ends of the runs
  refine jloop (fun i (h1 : jH) => WP mX11_putIn _ 36 [some (.ref 0), some (.int (nI d)), some (.ref 14), some (.int (nI i)), none] [] (jG0 sc) h1 (0, 0))
    (fun i h1 => (∀ j, j < i → h1 95 j = sEndAt (aBody (xS A)) (aRuns (xS A)) j) ∧ jfr fCs h h1) (aRuns (xS A)).length ?_ ?_ 0 h (by omega) ⟨fun j hj => absurd hj (Nat.not_lt_zero _), jfr.rf⟩
  · rintro h1 ⟨i1, f1⟩
    have e3 : h1 14 3 = nI (aRuns (xS A)).length := (f1 14 3 rfl).trans hr.1
    have le : h1 14 3 ≤ nI (aRuns (xS A)).length := by rw [e3]; exact nI_le (Nat.le_refl _) (by omega)
    have k1 := k.fr ok f1
    refine rX11_putIn_36 (P1 := fun _ h' => isP h' 91 (sBy (aBody (xS A)) (d, none)) ∧ isEnds h' (aBody (xS A)) (aRuns (xS A)) ∧ jfr fCs h h') (fun _ => ?_) (P2 := fun x h' => x = sB (sAsked (aBody (xS A)) (sBy (aBody (xS A)) (d, none)) (aRuns (xS A))) ∧ isP h' 91 (sBy (aBody (xS A)) (d, none)) ∧ isEnds h' (aBody (xS A)) (aRuns (xS A)) ∧ jfr fCs h h') (fun _ x2 h2 y => ?_) (fun _ x2 h2 _ x3 h3 w c3 => ?_) (fun _ x2 h2 _ x3 h3 w c3 => ?_) (P3 := fun _ _ => True) (P4 := fun _ _ => True) (P5 := fun _ _ => True) (fun c => absurd le c) (fun c => absurd le c) (fun c => absurd le c) (fun c => absurd le c) (fun c => absurd le c) (fun c => absurd le c) (fun c => absurd le c) (fun c => absurd le c)
    · refine jM_int (tX3_shape t_h a_h q_h hs k1.2.2.2.2.2 k1.1.1 (Or.inl (by decide)) (Or.inl (by decide)) (Or.inr (by decide)) (by omega)) (fun x h' y => ?_)
      obtain ⟨-, y2, y3⟩ := y
      rw [sAll_1 hd] at y2
      exact ⟨y2, fun j hj => (y3 95 j rfl).trans (i1 j hj), f1.tr2 (y3.mono rfl)⟩
    · have k2 := k.fr ok y.2.2
      exact jM_int (tX11_endsAsAsked q_h (Or.inr (by decide)) y.1 oq y.2.1 k2.1.2.2.1 h12 k2.2.2.2.2.1) (fun x h' z => ⟨z.1, y.1.walk z.2 (Or.inr (by decide)), fun j hj => (z.2 95 j rfl).trans (y.2.1 j hj), y.2.2.tr2 (fWalk_Cs z.2)⟩)
    · rw [w.1, sB_eq] at c3
      obtain ⟨-, w1, w2, w3⟩ := w
      -- the ends on the box
      refine jloop (fun x (h4 : jH) => WP mX11_putIn _ 126 [some (.ref 0), some (.int (nI d)), some (.ref 14), some (.int (nI x)), none] [] (jG0 sc) h4 (0, 0))
        (fun x h4 => (∀ u v, u < x → v ≤ aBox (xS A) → h4 96 (16 * u + v) = sEnd (aBody (xS A)) (nI u) (nI v)) ∧ jfr ([(70, 71), (96, 96)], [(69, 2, 4), (69, 7, 11)]) h3 h4) (aBox (xS A) + 1) ?_ ?_ 0 h3 (by omega) ⟨fun u v hu => absurd hu (Nat.not_lt_zero _), jfr.rf⟩
      · rintro h4 ⟨x1, f4⟩
        have f5 : jfr fCs h h4 := w3.tr2 (f4.mono rfl)
        have k4 := k.fr ok f5
        have lt : h4 9 8 < nI (aBox (xS A) + 1) := by rw [k4.1.2.2.2.2.2.2.2, jn_lt (by omega) (by omega)]; omega
        refine rX11_putIn_126 (fun _ => tX11_judgeFault (p := aBody (xS A)) (q := sBy (aBody (xS A)) (d, none)) (rs := aRuns (xS A)) h15 k4.1.2.2.2.2.2.2.2 (w1.fr f4 rfl (fun _ => rfl)) oq (fun j hj => (f4 95 j rfl).trans (w2 j hj)) (fun u v hu hv => x1 u v (by omega) hv) k4.1.2.2.1 h12 k4.2.2.2.2.1) (fun _ x6 h6 z => ?_) (fun c => absurd lt c)
        rw [z.1]
        have : sPutV (aBody (xS A)) (sBy (aBody (xS A)) (d, none)) (aRuns (xS A)) (aBox (xS A)) = sJudge (aBody (xS A)) (sBy (aBody (xS A)) (d, none)) (aRuns (xS A)) (aBox (xS A)) := by rw [sPutV, sIf_f c3]
        rw [this]
        exact cQ_q ok k (f5.tr2 (z.2.mono rfl))
      · rintro x h4 hx ⟨x1, f4⟩ kk
        have e98 : ∀ {h5 : jH}, jfr ([(70, 71), (96, 96)], [(69, 2, 4), (69, 7, 11)]) h3 h5 → h5 9 8 = nI (aBox (xS A)) := fun g => (g 9 8 rfl).trans ((w3 9 8 rfl).trans eb)
        have nlx : ¬ h4 9 8 < nI x := by rw [e98 f4, jn_lt (by omega) (by omega)]; omega
        refine rX11_putIn_126 (P1 := fun _ _ => True) (fun c => absurd c nlx) (fun c => absurd c nlx) (fun _ => ?_)
        refine jloop (fun y (h5 : jH) => WP mX11_putIn _ 140 [some (.ref 0), some (.int (nI d)), some (.ref 14), some (.int (nI x)), some (.int (nI y))] [] (jG0 sc) h5 (0, 0))
          (fun y h5 => (∀ u v, u < x → v ≤ aBox (xS A) → h5 96 (16 * u + v) = sEnd (aBody (xS A)) (nI u) (nI v)) ∧ (∀ v, v < y → h5 96 (16 * x + v) = sEnd (aBody (xS A)) (nI x) (nI v)) ∧ jfr ([(70, 71), (96, 96)], [(69, 2, 4), (69, 7, 11)]) h3 h5) (aBox (xS A) + 1) ?_ ?_ 0 h4 (by omega) ⟨x1, fun v hv => absurd hv (Nat.not_lt_zero _), f4⟩
        · rintro h5 ⟨y1, y2, f5⟩
          have lt : h5 9 8 < nI (aBox (xS A) + 1) := by rw [e98 f5, jn_lt (by omega) (by omega)]; omega
          refine rX11_putIn_140 (fun _ => ?_) (P1 := fun _ _ => True) (fun c => absurd lt c) (fun c => absurd lt c) (fun c => absurd lt c)
          rw [← nI_succ]
          refine kk h5 ⟨fun u v hu hv => ?_, f5⟩
          by_cases z : u = x
          · subst z; exact y2 v (by omega)
          · exact y1 u v (by omega) hv
        · rintro y h5 hy ⟨y1, y2, f5⟩ kk2
          have nlt : ¬ h5 9 8 < nI y := by rw [e98 f5, jn_lt (by omega) (by omega)]; omega
          have g0 : ((16 : Int32) * nI x + nI y) &&& 255 = nI (16 * x + y) := by rw [pk16 (by omega) (by omega)]; exact and255 _ (by omega)
          have f6 : jfr fCs h h5 := w3.tr2 (f5.mono rfl)
          have k5 := k.fr ok f6
          refine rX11_putIn_140 (fun c => absurd c nlt) (P1 := fun r h' => r = sEnd (aBody (xS A)) (nI x) (nI y) ∧ jfr fWalk h5 h') (fun _ => jM_int (tX10_end a_h (Or.inl (by decide)) k5.1.1 hs k5.2.2.2.2.1) (fun r h' z => ⟨z.1, z.2.2.2.2⟩)) (fun _ _ _ _ => by rw [g0]; exact vp_in_nI (by omega) (by decide)) (fun _ x7 h7 z => ?_)
          rw [z.1, g0, nI_clamp (by omega), ← nI_succ]
          refine kk2 _ ⟨fun u v hu hv => ?_, fun v hv => ?_, (f5.tr2 (z.2.mono rfl)).put (by rw [jin_iff]; simp)⟩
          · rw [jput_sl (by omega), z.2 96 _ rfl]; exact y1 u v hu hv
          · by_cases e : v = y
            · subst e; exact jput_at
            · rw [jput_sl (by omega), z.2 96 _ rfl]; exact y2 v (by omega)
    · rw [w.1, sB_ne] at c3
      rw [sPutV, sIf_t c3]
      exact cQ_q ok k w.2.2.2
  · rintro i h1 hi ⟨i1, f1⟩ kk
    have e3 : h1 14 3 = nI (aRuns (xS A)).length := (f1 14 3 rfl).trans hr.1
    have nle : ¬ h1 14 3 ≤ nI i := by rw [e3, jn_le (by omega) (by omega)]; omega
    have no2 : ¬ (12 : Int32) ≤ nI i := fun c => by have := (jn_le (a := 12) (by decide) (by omega)).mp c; omega
    have vi : vp_in (nI i) 12 := vp_in_nI (by omega) (by decide)
    have k1 := k.fr ok f1
    have hr1 : isRuns h1 14 (aRuns (xS A)) := k1.1.2.2.1
    obtain ⟨q1, q2, -⟩ := hr1.at hi h12
    have q1 : h1 15 (nI i).toNatClampNeg = _ := q1
    have q2 : h1 16 (nI i).toNatClampNeg = _ := q2
    refine rX11_putIn_36 (P1 := fun _ _ => True) (P2 := fun _ _ => True) (P3 := fun _ _ => True) (P4 := fun _ _ => True) (fun c => absurd c nle) (fun c => absurd c nle) (fun c => absurd c nle) (fun c => absurd c nle) (fun _ c => absurd c no2) (fun _ c => absurd c no2) (fun _ c => absurd c no2) (fun _ c => absurd c no2) (fun _ _ => vi) (P5 := fun r h' => r = sEndAt (aBody (xS A)) (aRuns (xS A)) i ∧ jfr fWalk h1 h') (fun _ _ => by rw [q1, q2]; exact jM_int (tX10_end a_h (Or.inl (by decide)) k1.1.1 hs k1.2.2.2.2.1) (fun r h' z => ⟨z.1, z.2.2.2.2⟩)) (fun _ _ _ _ _ => vi) (fun _ _ x5 h5 z => ?_)
    rw [z.1, nI_clamp (by omega), ← nI_succ]
    refine kk _ ⟨fun j hj => ?_, (f1.tr2 (fWalk_Cs z.2)).put (by rw [jin_iff]; simp)⟩
    by_cases e : j = i
    · subst e; exact jput_at
    · rw [jput_sl e, z.2 95 j rfl]; exact i1 j (by omega)
end PUC
