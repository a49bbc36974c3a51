/-! Operation where: the class. -/
section WHC
variable {sc : Nat × (Nat → Int32)} {h : jH} {A : aA} {n : Nat} {p : List Int32} {rs : List aRun}
theorem tX11_blameBits (hp : isP h 10 p) (h12 : rs.length ≤ 12) (hv : isSurvey h p rs) : JM mX11_blameBits [.ref 0] (jG0 sc) h (jgets sc (sBlame p rs) h) := by
  have h10 := hp.2.1
  refine jM_of rfl (Nat.le_of_ble_eq_true rfl) (by decide +kernel) rfl (rX11_blameBits_0 ?_)
  refine jloop (fun k (z : sB3) => WP mX11_blameBits _ 9 [some (.ref 0), some (.int z.1), some (.int z.2.1), some (.int z.2.2), some (.int (nI k)), none, none] [] (jG0 sc) h (0, 0))
    (fun k z => z = sBl p rs k) p.length ?_ ?_ 0 (-1, 0, 0) (by omega) rfl
  · rintro z e
    have no : ¬ h 10 1 ≤ nI p.length → False := fun c => c (by rw [hp.1]; exact nI_le (Nat.le_refl _) (by omega))
    exact rX11_blameBits_9 (P1 := fun _ _ => True) (P2 := fun _ _ => True) (fun _ => jgets_i (by rw [e]; rfl)) (fun c => (no c).elim) (fun c => (no c).elim) (fun c => (no c).elim) (fun c => (no c).elim) (fun c => (no c).elim) (fun c => (no c).elim) (fun c => (no c).elim) (fun c => (no c).elim) (fun c => (no c).elim) (fun c => (no c).elim) (fun c => (no c).elim) (fun c => (no c).elim) (fun c => (no c).elim) (fun c => (no c).elim)
  · rintro k z hk e kk
    have no : ¬ h 10 1 ≤ nI k := by rw [hp.1, jn_le (by omega) (by omega)]; omega
    have es : sBl p rs (k + 1) = sBlStep (sDoneIn p rs k true) (sDoneIn p rs k false) k z := by rw [e]; rfl
    have w1 : h 72 3 = sSet p rs true := hv.2.1
    have w0 : h 72 2 = sSet p rs false := hv.1
    have go : ∀ {a b c : Int32}, sBlStep (sDoneIn p rs k true) (sDoneIn p rs k false) k z = (a, b, c) → WP mX11_blameBits (jgets sc (sBlame p rs) h) 9 [some (.ref 0), some (.int a), some (.int b), some (.int c), some (.int (nI k + 1)), none, none] [] (jG0 sc) h (0, 0) := fun {a b c} q => by
      rw [← nI_succ]; exact kk (a, b, c) (by rw [es, q])
    unfold sBlStep at go
    refine rX11_blameBits_9 (fun c => absurd c no) (fun _ => by rw [w1]; exact tX7_doneIn (by omega) h12 hv) (fun _ _ _ q => by rw [← q.2, w0]; exact tX7_doneIn (by omega) h12 hv) (fun _ x1 h1 q1 x2 h2 q2 _ c => absurd rfl c) (fun _ x1 h1 q1 x2 h2 q2 _ _ c => absurd rfl c) ?_ ?_ ?_ ?_ ?_ ?_ ?_ (fun _ x1 h1 q1 x2 h2 q2 _ _ _ c => absurd rfl c) (fun _ x1 h1 q1 x2 h2 q2 _ _ _ _ c => absurd rfl c) ?_
    · rintro - x1 h1 ⟨rfl, rfl⟩ x2 h2 ⟨rfl, rfl⟩ c1 - -
      rw [or_0]
      exact go (sIf_t (Or.inl c1))
    · rintro - x1 h1 ⟨rfl, rfl⟩ x2 h2 ⟨rfl, rfl⟩ c1 c2 -
      exact go ((sIf_f (fun q => q.elim c1 (fun q => c2 q.1))).trans (sIf_f (fun q => c2 q.1)))
    · rintro - x1 h1 ⟨rfl, rfl⟩ x2 h2 ⟨rfl, rfl⟩ c1 c2 c3; exact absurd c3 c2
    · rintro - x1 h1 ⟨rfl, rfl⟩ x2 h2 ⟨rfl, rfl⟩ c1 c2 c3; exact absurd c3 c2
    · rintro - x1 h1 ⟨rfl, rfl⟩ x2 h2 ⟨rfl, rfl⟩ c1 c2 - c4; exact absurd c2 c4
    · rintro - x1 h1 ⟨rfl, rfl⟩ x2 h2 ⟨rfl, rfl⟩ c1 c2 c3 - c5
      exact go ((sIf_f (fun q => q.elim c1 (fun q => i_nlt.mpr c3 q.2))).trans (sIf_f (fun q => c5 q.2)))
    · rintro - x1 h1 ⟨rfl, rfl⟩ x2 h2 ⟨rfl, rfl⟩ c1 c2 c3 - c5
      exact go ((sIf_f (fun q => q.elim c1 (fun q => i_nlt.mpr c3 q.2))).trans (sIf_t ⟨c2, c5⟩))
    · rintro - x1 h1 ⟨rfl, rfl⟩ x2 h2 ⟨rfl, rfl⟩ c1 c2 c3 - -
      rw [or_0]
      exact go (sIf_t (Or.inr ⟨c2, i_nle.mp c3⟩))
theorem tX7_sharedSlice (h12 : rs.length ≤ 12) (hv : isSurvey h p rs) : JM mX7_sharedSlice [.ref 72] (jG0 sc) h (jgets sc (sShare p rs (-1) rs.length) h) := by
  have w1 : h 72 3 = sSet p rs true := hv.2.1
  refine jM_of rfl (Nat.le_of_ble_eq_true rfl) (by decide +kernel) rfl (rX7_sharedSlice_0 ?_)
  refine jloop (fun i (b : Int32) => WP mX7_sharedSlice _ 4 [some (.ref 72), some (.int b), some (.int (nI i))] [] (jG0 sc) h (0, 0))
    (fun i b => b = sShare p rs (-1) (min i rs.length)) 12 ?_ ?_ 0 (-1) (by omega) (by rw [Nat.zero_min]; rfl)
  · rintro b e
    exact rX7_sharedSlice_4 (fun _ => jgets_i (by rw [e, Nat.min_eq_right h12])) (fun c => absurd (by decide) c) (fun c => absurd (by decide) c) (fun c => absurd (by decide) c)
  · rintro i b hi e k
    have no : ¬ (12 : Int32) ≤ nI i := fun c => by have := (jn_le (a := 12) (by decide) (by omega)).mp c; omega
    refine rX7_sharedSlice_4 (fun c => absurd c no) (fun _ c => ?_) (fun _ _ => vp_in_nI hi (by decide)) (fun _ c => ?_)
    · rw [w1, x_bit1 (by omega), bt_sSet h12 (by omega)] at c
      rw [← nI_succ, show b &&& (-1) = b from b_ext fun i hi => by rw [b_and, b_m1 i hi, Bool.and_true]]
      refine k b ?_
      rw [e]
      by_cases g : i < rs.length
      · have r : sRightAt p rs i := Classical.byContradiction fun q => c ⟨g, fun z => absurd z q, fun z => by cases z⟩
        rw [Nat.min_eq_left (by omega), Nat.min_eq_left (by omega), sShare, sIf_t r]
      · rw [Nat.min_eq_right (by omega), Nat.min_eq_right (by omega)]
    · rw [w1, x_bit1 (by omega), bt_sSet h12 (by omega)] at c
      have r : ¬ sRightAt p rs i := fun q => by have := c.2.mp q; cases this
      rw [← nI_succ, nI_clamp (by omega), (hv.2.2 i c.1).2]
      refine k _ ?_
      rw [e, Nat.min_eq_left (by omega), Nat.min_eq_left (by omega), sShare, sIf_f r]
abbrev fFree : jF := ([(70, 71)], [(69, 2, 11)])
theorem isSurvey.fr {F : jF} {h h' : jH} (k : isSurvey h p rs) (f : jfr F h h') (h2 : jin F 72 2 = false) (h3 : jin F 72 3 = false) (g1 : ∀ j, jin F 73 j = false) (g2 : ∀ j, jin F 74 j = false) : isSurvey h' p rs :=
  ⟨(f _ _ h2).trans k.1, (f _ _ h3).trans k.2.1, fun i hi => ⟨(f _ _ (g1 i)).trans (k.2.2 i hi).1, (f _ _ (g2 i)).trans (k.2.2 i hi).2⟩⟩
theorem tX11_canFree {l i : Nat} (hl : l < 10) (hi : i < rs.length) (hp : isP h 10 p) (hs : sProg p) (hr : isRuns h 14 rs) (h12 : rs.length ≤ 12) (hv : isSurvey h p rs) (hw : ¬ sRightAt p rs i) (h5 : h 69 5 = -1) :
    JM mX11_canFree [.ref 0, .int (nI l), .int (nI i)] (jG0 sc) h (jint sc (fun r h' => r = sB (sCan1 p (rs.getD i aRun0) l 41) ∧ h' 69 5 = -1 ∧ jfr fFree h h')) := by
  have a_h : jI4 10 := by unfold jI4; decide
  have no : ¬ (12 : Int32) ≤ nI i := fun c => by have := (jn_le (a := 12) (by decide) (by omega)).mp c; omega
  have vi : vp_in (nI i) 12 := vp_in_nI (by omega) (by decide)
  have e73 : h 73 (nI i).toNatClampNeg = sDone p (rs.getD i aRun0).1 (rs.getD i aRun0).2.1 := by rw [nI_clamp (by omega)]; exact (hv.2.2 i hi).1
  refine jM_of rfl (Nat.le_of_ble_eq_true rfl) (by decide +kernel) rfl (rX11_canFree_0 (fun c => absurd c (nI_pos (by omega))) (fun _ c => absurd c no) (fun _ _ => vi) (fun _ _ _ => ?_) (fun _ _ c => ?_))
  · refine jloop2 (fun d (h1 : jH) (x : Int32) => WP mX11_canFree _ 51 [some (.ref 0), some (.int (nI l)), some (.int (nI i)), some (.ref 14), some (.int x), some (.int (-20 + nI d))] [] (jG0 sc) h1 (0, 0))
      (fun d h1 x => x = sB (sCan1 p (rs.getD i aRun0) l d) ∧ h1 69 5 = nI l ∧ jfr fFree h h1) 41 ?_ ?_ 0 _ 0 (by omega) ⟨(sB_f (fun q => by obtain ⟨d, hd, -⟩ := q; omega)).symm, jput_at, jfr.rf.put rfl⟩
    · rintro h1 x ⟨e, e5, f⟩
      have lt := (val_lt (k := 41) (by omega)).mpr rfl
      exact rX11_canFree_51 (P1 := fun _ _ => True) (fun _ => by rw [e]; exact sB_01) (fun _ => jint_i ⟨e, jput_at, f.put rfl⟩) (fun c => absurd lt c) (fun c => absurd lt c) (fun c => absurd lt c) (fun c => absurd lt c) (fun c => absurd lt c) (fun c => absurd lt c) (fun c => absurd lt c)
    · rintro d h1 x hd ⟨e, e5, f⟩ kk
      have nlt : ¬ (20 : Int32) < -20 + nI d := fun c => by have := (val_lt (k := d) (by omega)).mp c; omega
      have f2 : jfr fFree h (jput h1 69 6 (-20 + nI d)) := f.put rfl
      have hr2 : isRuns (jput h1 69 6 (-20 + nI d)) 14 rs := hr.fr f2 rfl (fun _ => rfl) (fun _ => rfl) (fun _ => rfl)
      obtain ⟨q1, q2, -⟩ := hr2.at hi h12
      have q1 : jput h1 69 6 (-20 + nI d) 15 (nI i).toNatClampNeg = _ := q1
      have q2 : jput h1 69 6 (-20 + nI d) 16 (nI i).toNatClampNeg = _ := q2
      refine rX11_canFree_51 (fun c => absurd c nlt) (fun c => absurd c nlt) (fun _ _ => by rw [e]; exact sB_01) (fun _ c => ?_) (fun _ _ => vi)
        (P1 := fun r h' => r = (sGo p (rs.getD i aRun0).1 (rs.getD i aRun0).2.1 (nI l) (-20 + nI d)).1 ∧ h' 69 5 = nI l ∧ jfr fFree h h') (fun _ _ => ?_) (fun _ _ _ _ _ => vi) (fun _ c x1 h2 z c2 => ?_) (fun _ c x1 h2 z c2 => ?_)
      · rw [e, sB_ne] at c
        refine jint_i ⟨?_, jput_at, f.put rfl⟩
        rw [e, sB_t c, sB_t (sCan1_more c (by omega))]
      · rw [q1, q2]
        exact jM_int (tX10_through a_h (Or.inl (by decide)) (hp.fr f2 rfl (fun _ => rfl)) hs (show jput h1 69 6 (-20 + nI d) 69 5 = nI l from e5) (show jput h1 69 6 (-20 + nI d) 69 6 = _ from jput_at)) (fun r h' y => ⟨y.1, (y.2.2.2.2 69 5 rfl).trans e5, f2.tr2 (y.2.2.2.2.mono rfl)⟩)
      all_goals
        have hr3 : isRuns h2 14 rs := hr.fr z.2.2 rfl (fun _ => rfl) (fun _ => rfl) (fun _ => rfl)
        have q3 : h2 17 (nI i).toNatClampNeg = _ := (hr3.at hi h12).2.2
        rw [z.1, q3] at c2
        rw [e, sB_eq] at c
        rw [val_s (by omega)]
      · exact kk h2 0 ⟨(sB_f (fun q => (sCan1_s.mp q).elim c c2)).symm, z.2⟩
      · exact kk h2 1 ⟨(sB_t (sCan1_s.mpr (Or.inr c2))).symm, z.2⟩
  · rw [e73, x_bit0 (by omega)] at c
    exact jint_i ⟨(sB_f (sCan_undone hs (by omega) hw c)).symm, h5, jfr.rf⟩
theorem or_r0 {x : Int32} : x ||| 0 = x := by
  refine b_ext fun i _ => ?_
  rw [b_or, b_0, Bool.or_false]
theorem tX11_freeBits (hp : isP h 10 p) (hs : sProg p) (hr : isRuns h 14 rs) (h12 : rs.length ≤ 12) (hv : isSurvey h p rs) (h5 : h 69 5 = -1) :
    JM mX11_freeBits [.ref 0] (jG0 sc) h (jint sc (fun r h' => r = sFree p rs ∧ h' 69 5 = -1 ∧ jfr fFree h h')) := by
  have a_h : jI4 10 := by unfold jI4; decide
  have h10 := hp.2.1
  refine jM_of rfl (Nat.le_of_ble_eq_true rfl) (by decide +kernel) rfl (rX11_freeBits_0 ?_)
  refine jloop2 (fun k (h1 : jH) (b : Int32) => WP mX11_freeBits _ 4 [some (.ref 0), some (.int b), some (.int (nI k)), none, none] [] (jG0 sc) h1 (0, 0))
    (fun k h1 b => b = sBits (sFreeAt p rs) k ∧ h1 69 5 = -1 ∧ jfr fFree h h1) p.length ?_ ?_ 0 h 0 (by omega) ⟨rfl, h5, jfr.rf⟩
  · rintro h1 b ⟨e, e5, f⟩
    have e1 : h1 10 1 = nI p.length := (f 10 1 rfl).trans hp.1
    have no : ¬ h1 10 1 ≤ nI p.length → False := fun c => c (by rw [e1]; exact nI_le (Nat.le_refl _) (by omega))
    exact rX11_freeBits_4 (P1 := fun _ _ => True) (P2 := fun _ _ => True) (fun _ => jint_i ⟨e, e5, f⟩) (fun c => (no c).elim) (fun c => (no c).elim) (fun c => (no c).elim) (fun c => (no c).elim)
  · rintro k h1 b hk ⟨e, e5, f⟩ kk
    have e1 : h1 10 1 = nI p.length := (f 10 1 rfl).trans hp.1
    have no : ¬ h1 10 1 ≤ nI k := by rw [e1, jn_le (by omega) (by omega)]; omega
    have inner : ∀ x, x = sB (sFreeTo p rs k 0) → WP mX11_freeBits (jint sc (fun r h' => r = sFree p rs ∧ h' 69 5 = -1 ∧ jfr fFree h h')) 44 [some (.ref 0), some (.int b), some (.int (nI k)), some (.int x), some (.int 0)] [] (jG0 sc) h1 (0, 0) := by
      intro x ex
      have last : ∀ (h2 : jH), h2 69 5 = -1 → jfr fFree h h2 → ¬ sFreeAt p rs k → WP mX11_freeBits (jint sc (fun r h' => r = sFree p rs ∧ h' 69 5 = -1 ∧ jfr fFree h h')) 4 [some (.ref 0), some (.int (b ||| 0)), some (.int (nI k + 1)), none, none] [] (jG0 sc) h2 (0, 0) := fun h2 g5 g c => by
        rw [or_r0, ← nI_succ]; exact kk h2 b ⟨by rw [e, sBits_f c], g5, g⟩
      refine jloop2 (fun i (h2 : jH) (x : Int32) => WP mX11_freeBits _ 44 [some (.ref 0), some (.int b), some (.int (nI k)), some (.int x), some (.int (nI i))] [] (jG0 sc) h2 (0, 0))
        (fun i h2 x => x = sB (sFreeTo p rs k i) ∧ h2 69 5 = -1 ∧ jfr fFree h h2) rs.length ?_ ?_ 0 h1 x (by omega) ⟨ex, e5, f⟩
      · rintro h2 x2 ⟨i1, g5, g⟩
        have e3 : h2 14 3 = nI rs.length := (g 14 3 rfl).trans hr.1
        have no2 : ¬ h2 14 3 ≤ nI rs.length → False := fun c => c (by rw [e3]; exact nI_le (Nat.le_refl _) (by omega))
        refine rX11_freeBits_44 (P1 := fun _ _ => True) (fun _ c => ?_) (fun _ c => ?_) (fun c => (no2 c).elim) (fun c => (no2 c).elim) (fun c => (no2 c).elim) (fun c => (no2 c).elim) (fun c => (no2 c).elim) (fun c => (no2 c).elim)
        · rw [i1, sB_eq] at c; exact last h2 g5 g c
        · rw [i1, sB_ne] at c
          rw [← nI_succ]; exact kk h2 _ ⟨by rw [e, sBits_t (f := sFreeAt p rs) c], g5, g⟩
      · rintro i h2 x2 hi ⟨i1, g5, g⟩ kk2
        have e3 : h2 14 3 = nI rs.length := (g 14 3 rfl).trans hr.1
        have no2 : ¬ h2 14 3 ≤ nI i := by rw [e3, jn_le (by omega) (by omega)]; omega
        have w1 : h2 72 3 = sSet p rs true := (g 72 3 rfl).trans hv.2.1
        have hv2 : isSurvey h2 p rs := hv.fr g rfl rfl (fun _ => rfl) (fun _ => rfl)
        refine rX11_freeBits_44 (fun c => absurd c no2) (fun c => absurd c no2) (fun _ c _ => ?_) (fun _ c c2 => absurd c c2) (fun _ c c2 => ?_) (P1 := fun r h' => r = sB (sCan1 p (rs.getD i aRun0) k 41) ∧ h' 69 5 = -1 ∧ jfr fFree h h') (fun _ c c2 => ?_) (fun _ c c2 x1 h3 z c3 => ?_) (fun _ c c2 x1 h3 z c3 => ?_)
        · rw [i1, sB_eq] at c
          exact last h2 g5 g (fun q => c (sFreeTo_less (m := rs.length) q (by omega)))
        · rw [i1, sB_ne] at c
          rw [w1, x_bit0 (by omega), bt_sSet h12 (by omega)] at c2
          have r : sRightAt p rs i := Classical.byContradiction fun q => c2 ⟨hi, fun z => absurd z q, fun z => by cases z⟩
          rw [← nI_succ]
          exact kk2 h2 1 ⟨(sB_t (sFreeTo_s.mpr ⟨c, Or.inl r⟩)).symm, g5, g⟩
        · rw [w1, x_bit0 (by omega), Classical.not_not, bt_sSet h12 (by omega)] at c2
          have r : ¬ sRightAt p rs i := fun q => by have := c2.2.mp q; cases this
          exact jM_int (tX11_canFree (by omega) hi (hp.fr g rfl (fun _ => rfl)) hs (hr.fr g rfl (fun _ => rfl) (fun _ => rfl) (fun _ => rfl)) h12 hv2 r g5) (fun r h' y => ⟨y.1, y.2.1, g.tr2 y.2.2⟩)
        all_goals
          rw [i1, sB_ne] at c
          rw [w1, x_bit0 (by omega), Classical.not_not, bt_sSet h12 (by omega)] at c2
          have r : ¬ sRightAt p rs i := fun q => by have := c2.2.mp q; cases this
          rw [z.1] at c3
          rw [← nI_succ]
        · rw [sB_eq] at c3
          exact kk2 h3 0 ⟨(sB_f (fun q => (sFreeTo_s.mp q).2.elim r c3)).symm, z.2⟩
        · rw [sB_ne] at c3
          exact kk2 h3 1 ⟨(sB_t (sFreeTo_s.mpr ⟨c, Or.inr c3⟩)).symm, z.2⟩
    refine rX11_freeBits_4 (fun c => absurd c no) (fun _ => tX4_lineAt a_h (hp.fr f rfl (fun _ => rfl)) (by omega)) (P2 := fun x h' => x = sKind (p.getD k 4) ∧ h1 = h') (fun _ x1 h2 q => by rw [q.1, ← q.2]; exact tX11_kindOf) ?_ ?_
    · rintro - x1 h2 ⟨rfl, rfl⟩ x2 h3 ⟨rfl, rfl⟩ c
      exact inner 0 (sB_f (fun q => c q.1)).symm
    · rintro - x1 h2 ⟨rfl, rfl⟩ x2 h3 ⟨rfl, rfl⟩ c
      exact inner 1 (sB_t ⟨c, fun i hi => absurd hi (Nat.not_lt_zero _)⟩).symm
abbrev eWhere : List String := ["java/lang/IllegalStateException", "java/util/NoSuchElementException"]
theorem wrong0 (h12 : rs.length ≤ 12) : sSet p rs true = 0 ↔ ∀ i, i < rs.length → sRightAt p rs i := by
  show sBits (fun i => ¬ sRightAt p rs i) rs.length = 0 ↔ _
  rw [sBits_0 (by omega)]
  exact ⟨fun q i hi => Classical.not_not.mp (q i hi), fun q i hi c => c (q i hi)⟩
theorem ccWhere {w : Int32} (ok : aOk n A) (k : RC h A) : JM mX11_where [.ref 0, .int w] (jG0 sc) h (cQ sc eWhere (oWhere A w) h) := by
  have h12 := ok.1.2.2.1.1
  have hr : isRuns h 14 (aRuns (xS A)) := k.1.2.2.1
  have hp : isP h 10 (aBody (xS A)) := k.1.1
  have hs := ok.1.1
  have h5 : h 69 5 = -1 := k.2.2.2.2.1
  have ns : ∀ {x : Int32}, x = sB (aBody (xS A) ≠ []) → ¬ x = 0 → ¬ aBody (xS A) = [] := fun e c => by rw [e, sB_ne] at c; exact c
  have no : ∀ {x : Int32}, x = sB (aBody (xS A) ≠ []) → ¬ x = 0 → ¬ aIx w 3 → cQ sc eWhere (oWhere A w) h (.inr "java/util/NoSuchElementException") (jG0 sc) h := fun e c q => by
    rw [oWhere, sIf_f (ns e c), sIf_f q]; exact cQ_x rfl k (fun _ _ => rfl)
  have fin : ∀ {x : Int32} {h2 : jH} {y : Int32}, x = sB (aBody (xS A) ≠ []) → ¬ x = 0 → ¬ w < 0 → w ≤ 2 → y = sWhere (aBody (xS A)) (aRuns (xS A)) w → jfr fCs h h2 → cQ sc eWhere (oWhere A w) h (.inl (some (.int y))) (jG0 sc) h2 := fun e c a b ey f => by
    rw [oWhere, sIf_f (ns e c), sIf_t ((aIx_le1 (n := 2) (by omega)).mp ⟨a, b⟩), ey]; exact cQ_q ok k f
  have fx : ∀ {h2 h3 : jH}, jfr fSurvey h h2 → h3 69 5 = -1 → jfr fFree h2 h3 → jfr fCs h h3 := fun f e g => jfr.fix ((f.mono rfl).tr2 (g.mono rfl)) (e.trans h5.symm)
  have some' : ∀ {h2 : jH}, isSurvey h2 (aBody (xS A)) (aRuns (xS A)) → ¬ h2 72 3 = 0 → ¬ ∀ i, i < (aRuns (xS A)).length → sRightAt (aBody (xS A)) (aRuns (xS A)) i := fun v c q => c (v.2.1.trans ((wrong0 h12).mpr q))
  refine jM_of rfl (Nat.le_of_ble_eq_true rfl) (by decide +kernel) rfl (rX11_where_0 (tX11_hasBody hp) ?_ (P2 := fun h' => isSurvey h' (aBody (xS A)) (aRuns (xS A)) ∧ jfr fSurvey h h') ?_
    (P3 := fun x h' => x = sBlame (aBody (xS A)) (aRuns (xS A)) ∧ isSurvey h' (aBody (xS A)) (aRuns (xS A)) ∧ jfr fSurvey h h') ?_
    (P4 := fun x h' => x = sFree (aBody (xS A)) (aRuns (xS A)) ∧ isSurvey h' (aBody (xS A)) (aRuns (xS A)) ∧ jfr fCs h h') ?_
    (P5 := fun x h' => x = sShare (aBody (xS A)) (aRuns (xS A)) (-1) (aRuns (xS A)).length ∧ jfr fCs h h') ?_ ?_
    (P6 := fun x h' => x = sFree (aBody (xS A)) (aRuns (xS A)) ∧ jfr fCs h h') ?_ ?_
    (P7 := fun x h' => x = sBlame (aBody (xS A)) (aRuns (xS A)) ∧ jfr fCs h h') ?_ ?_ ?_ ?_ ?_)
  · rintro _ _ ⟨e, rfl⟩ c c2
    exact no e c (fun q => ((aIx_lt (by omega)).mpr q).1 c2)
  · rintro _ _ ⟨e, rfl⟩ c - -
    exact tX7_of hp hs hr h12 h5
  · rintro _ _ - - - - h2 z - - -
    exact jM_get (tX11_blameBits (hp.fr z.2 rfl (fun _ => rfl)) h12 z.1) z
  · rintro _ _ - - - - h2 - - - - x3 h3 z
    exact jM_int (tX11_freeBits (hp.fr z.2.2 rfl (fun _ => rfl)) hs (hr.survey z.2.2) h12 z.2.1 ((z.2.2 69 5 rfl).trans h5)) (fun x h' y => ⟨y.1, z.2.1.fr y.2.2 rfl rfl (fun _ => rfl) (fun _ => rfl), fx z.2.2 y.2.1 y.2.2⟩)
  · rintro _ _ - - - - h2 - - - - x3 h3 - x4 h4 z
    exact jM_get (tX7_sharedSlice h12 z.2.1) z.2.2
  · rintro _ _ ⟨e, rfl⟩ c a b h2 z c1 c2 c3 x3 h3 y3 x4 h4 y4 x5 h5 y5
    refine fin e c a b ?_ y5.2
    rw [sWhere, sIf_f (some' z.1 c1), sIf_f c2, sIf_f c3, y3.1, y4.1, y5.1]
  · rintro _ _ - - - - h2 z - - -
    exact jM_int (tX11_freeBits (hp.fr z.2 rfl (fun _ => rfl)) hs (hr.survey z.2) h12 z.1 ((z.2 69 5 rfl).trans h5)) (fun x h' y => ⟨y.1, fx z.2 y.2.1 y.2.2⟩)
  · rintro _ _ ⟨e, rfl⟩ c a b h2 z c1 c2 c3 x3 h3 y3
    exact fin e c a b (by rw [sWhere, sIf_f (some' z.1 c1), sIf_f c2, sIf_t c3, y3.1]) y3.2
  · rintro _ _ - - - - h2 z - -
    exact jM_get (tX11_blameBits (hp.fr z.2 rfl (fun _ => rfl)) h12 z.1) (fSurvey_Cs z.2)
  · rintro _ _ ⟨e, rfl⟩ c a b h2 z c1 c2 x3 h3 y3
    exact fin e c a b (by rw [sWhere, sIf_f (some' z.1 c1), sIf_t c2, y3.1]) y3.2
  · rintro _ _ ⟨e, rfl⟩ c a b h2 z c1
    exact fin e c a b (by rw [sWhere, sIf_t ((wrong0 h12).mp (z.1.2.1.symm.trans c1))]) (fSurvey_Cs z.2)
  · rintro _ _ ⟨e, rfl⟩ c _ c2
    exact no e c (fun q => c2 ((aIx_le1 (n := 2) (by omega)).mpr q).2)
  · rintro _ _ ⟨rfl, rfl⟩ c
    rw [oWhere, sIf_t (Classical.not_not.mp (sB_eq.mp c))]; exact cQ_x rfl k (fun _ _ => rfl)
end WHC
