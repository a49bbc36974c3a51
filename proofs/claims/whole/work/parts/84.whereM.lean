/-! Operation where: the reference. -/
section WHM
variable {sc : Nat × (Nat → Int32)} {h : jH} {A : aA} {n : Nat} {p : List Int32} {rs : List aRun}
abbrev sGood (p : List Int32) (rs : List aRun) : Prop := ∀ i, i < rs.length → sRightAt p rs i
theorem tX12_blame (hp : isMP (h 167) 0 p) (hs : sProg p) (hr : isMRuns (h 160) rs) (h12 : rs.length ≤ 12) (e0 : h 160 0 = nI p.length) :
    JM mX12_blame [.ref 159] (jG0 sc) h (jint sc (fun r h' => r = sIf (sGood p rs) 0 (sBlame p rs) ∧ jfr fGoes h h')) := by
  have h10 := hp.2.1
  refine jM_of rfl (Nat.le_of_ble_eq_true rfl) (by decide +kernel) rfl (bX12_blame_0 ?_)
  have ln : ∀ {h1 : jH}, jfr fGoes h h1 → JM mX12_lines [.ref 159] (jG0 sc) h1 (jgets sc (nI p.length) h1) := fun {h1} f => by
    have := tX12_lines (sc := sc) (h := h1)
    rw [show h1 160 0 = nI p.length from (f 160 0 rfl).trans e0] at this
    exact this
  by_cases good : sGood p rs
  · rw [sIf_t good]
    refine bX12_blame_9 (ln jfr.rf) (fun _ _ q _ => bX12_blame_105 (jint_i ⟨rfl, by rw [← q.2]; exact jfr.rf⟩)) (fun _ _ q _ => bX12_blame_18 (P1 := fun x h' => x = sWrongMany p rs ∧ jfr fGoes h h') (by rw [← q.2]; exact tX12_wrongMany hp hs hr h12) (fun x h1 z _ => bX12_blame_105 (jint_i ⟨rfl, z.2⟩)) (fun x h1 z c => ?_))
    rw [z.1] at c
    exact absurd ((sWrongMany_pos h12).mpr good) c
  · rw [sIf_f good]
    refine jloop2 (fun k (h1 : jH) (z : sB3) => WP mX12_blame _ 9 [some (.ref 159), some (.int z.2.2), some (.int z.1), some (.int z.2.1), some (.int (nI k)), none, none] [] (jG0 sc) h1 (0, 0))
      (fun k h1 z => (k = 0 ∧ z = (0, 0, 0) ∨ 0 < k ∧ z = sBl p rs k) ∧ jfr fGoes h h1) p.length ?_ ?_ 0 h (0, 0, 0) (by omega) ⟨Or.inl ⟨rfl, rfl⟩, jfr.rf⟩
    · rintro h1 z ⟨e, f⟩
      refine bX12_blame_9 (ln f) (fun _ h2 q _ => bX12_blame_105 (jint_i ⟨?_, by rw [← q.2]; exact f⟩)) (fun _ _ q c => absurd (by rw [q.1]; exact nI_le (Nat.le_refl _) (by omega)) c)
      rcases e with ⟨e1, e2⟩ | ⟨e1, e2⟩
      · rw [e2, sBlame, e1]; rfl
      · rw [e2]; rfl
    · rintro k h1 z hk ⟨e, f⟩ kk
      refine bX12_blame_9 (ln f) (fun _ _ q c => absurd (by rw [q.1, jn_le (by omega) (by omega)] at c; exact c) (by omega)) ?_
      rintro _ _ ⟨-, rfl⟩ -
      refine bX12_blame_18 (P1 := fun x h' => x = sWrongMany p rs ∧ jfr fGoes h h') (jM_int (tX12_wrongMany (hp.go f) hs (hr.go f) h12) (fun x h' y => ⟨y.1, f.tr2 y.2⟩)) (fun x h2 y c => ?_) (fun x h2 y _ => ?_)
      · rw [y.1] at c; exact absurd ((sWrongMany_pos h12).mp c) good
      have f2 := y.2
      -- one step's end
      have step : ∀ (w r : Int32), w = sDoneIn p rs k true → r = sDoneIn p rs k false → ∀ (h3 : jH), jfr fGoes h h3 →
          (z.2.2 = 0 → WP mX12_blame (jint sc (fun r h' => r = sBlame p rs ∧ jfr fGoes h h')) 68 [some (.ref 159), some (.int z.2.2), some (.int z.1), some (.int z.2.1), some (.int (nI k)), some (.int w), some (.int r)] [] (jG0 sc) h3 (0, 0)) ∧
          (¬ z.2.2 = 0 → WP mX12_blame (jint sc (fun r h' => r = sBlame p rs ∧ jfr fGoes h h')) 47 [some (.ref 159), some (.int z.2.2), some (.int z.1), some (.int z.2.1), some (.int (nI k)), some (.int w), some (.int r)] [] (jG0 sc) h3 (0, 0)) := by
        intro w r ew er h3 f3
        have next : ∀ {a b c : Int32}, sBl p rs (k + 1) = (a, b, c) → WP mX12_blame (jint sc (fun r h' => r = sBlame p rs ∧ jfr fGoes h h')) 99 [some (.ref 159), some (.int c), some (.int a), some (.int b), some (.int (nI k)), some (.int w), some (.int r)] [] (jG0 sc) h3 (0, 0) := fun {a b c} q => by
          refine bX12_blame_99 ?_
          rw [← nI_succ]
          exact kk h3 (a, b, c) ⟨Or.inr ⟨by omega, q.symm⟩, f3⟩
        have fresh : sBl p rs (k + 1) = (w, r, (1 : Int32) <<< (nI k &&& 31)) → WP mX12_blame (jint sc (fun r h' => r = sBlame p rs ∧ jfr fGoes h h')) 84 [some (.ref 159), some (.int z.2.2), some (.int z.1), some (.int z.2.1), some (.int (nI k)), some (.int w), some (.int r)] [] (jG0 sc) h3 (0, 0) := fun q => by
          refine bX12_blame_84 (bX12_blame_86 ?_)
          rw [or_0]
          exact next q
        constructor
        · intro c
          refine bX12_blame_68 (fun _ => fresh ?_) (fun c2 => absurd c c2)
          rcases e with ⟨e1, -⟩ | ⟨e1, e2⟩
          · subst e1; rw [sBl_1 h12, ew, er]
          · rw [e2] at c; exact absurd c (sBl_ne h12 k (by omega) e1)
        · intro c
          have ez : 0 < k ∧ z = sBl p rs k := by
            rcases e with ⟨-, e2⟩ | e2
            · rw [e2] at c; exact absurd rfl c
            · exact e2
          have es : sBl p rs (k + 1) = sBlStep w r k z := by rw [ez.2, ew, er]; rfl
          have stay : ∀ {a : Prop}, (a → False) → a → WP mX12_blame (jint sc (fun r h' => r = sBlame p rs ∧ jfr fGoes h h')) 99 [some (.ref 159), some (.int z.2.2), some (.int z.1), some (.int z.2.1), some (.int (nI k)), some (.int w), some (.int r)] [] (jG0 sc) h3 (0, 0) := fun q a => (q a).elim
          unfold sBlStep at es
          refine bX12_blame_47 (fun c1 => next ?_) (fun c1 => bX12_blame_53 (fun c2 => ?_) (fun c2 => bX12_blame_59 (fun c3 => ?_) (fun c3 => bX12_blame_65 (next ?_))))
          · rw [es, sIf_f (fun q => ?_), sIf_f (fun q => ?_)]
            · rw [q.1] at c1; exact (i_nlt (x := z.1) (y := z.1)).mpr (toInt_le_iff.mpr (Int.le_refl _)) c1
            · rcases q with q | q
              · rw [toInt_lt_iff] at q c1; omega
              · rw [q.1] at c1; exact (i_nlt (x := z.1) (y := z.1)).mpr (toInt_le_iff.mpr (Int.le_refl _)) c1
          · have lt : z.1 < w := by
              rw [i_nlt, toInt_le_iff] at c1
              rw [toInt_eq_iff] at c2
              rw [toInt_lt_iff]; omega
            refine bX12_blame_68 (fun c3 => absurd c3 c) (fun _ => bX12_blame_72 (fun _ => fresh (by rw [es, sIf_t (Or.inl lt)])) (fun c3 => absurd lt c3))
          · refine bX12_blame_68 (fun c4 => absurd c4 c) (fun _ => bX12_blame_72 (fun c4 => ?_) (fun c4 => bX12_blame_78 (fun c5 => bX12_blame_86 ?_) (fun c5 => fresh ?_)))
            · rw [c2] at c4; exact absurd c4 ((i_nlt (x := z.1) (y := z.1)).mpr (toInt_le_iff.mpr (Int.le_refl _)))
            · have er : r = z.2.1 := by rw [toInt_le_iff] at c3 c5; rw [toInt_eq_iff]; omega
              refine next ?_
              rw [es, sIf_f (fun q => ?_), sIf_t ⟨c2, er⟩, c2, er]
              rcases q with q | q
              · exact c4 q
              · rw [er] at q; exact (i_nlt (x := z.2.1) (y := z.2.1)).mpr (toInt_le_iff.mpr (Int.le_refl _)) q.2
            · rw [es, sIf_t (Or.inr ⟨c2, i_nle.mp c5⟩)]
          · rw [es, sIf_f (fun q => ?_), sIf_f (fun q => ?_)]
            · rw [q.2] at c3; exact c3 (toInt_le_iff.mpr (Int.le_refl _))
            · rcases q with q | q
              · rw [c2] at q; exact (i_nlt (x := z.1) (y := z.1)).mpr (toInt_le_iff.mpr (Int.le_refl _)) q
              · rw [toInt_le_iff] at c3
                have := q.2
                rw [toInt_lt_iff] at this; omega
      refine bX12_blame_25 (P1 := fun x h' => x = sDoneIn p rs k true ∧ jfr fGoes h h') (P2 := fun x h' => x = sDoneIn p rs k false ∧ jfr fGoes h h') (jM_int (tX12_doneIn (w := true) (by omega) rfl (hp.go f2) hs (hr.go f2) h12) (fun x h' u => ⟨u.1, f2.tr2 u.2⟩)) (fun x1 h3 u => jM_int (tX12_doneIn (w := false) (by omega) rfl (hp.go u.2) hs (hr.go u.2) h12) (fun x h' v => ⟨v.1, u.2.tr2 v.2⟩)) (fun x1 h3 u x2 h4 v c => (step x1 x2 u.1 v.1 h4 v.2).1 c) (fun x1 h3 u x2 h4 v c => (step x1 x2 u.1 v.1 h4 v.2).2 c)
theorem tX12_canBeRight {l i : Nat} (hi : i < rs.length) (hp : isMP (h 167) 0 p) (hs : sProg p) (hr : isMRuns (h 160) rs) (h12 : rs.length ≤ 12) :
    JM mX12_canBeRight [.ref 159, .int (nI i), .int (nI l)] (jG0 sc) h (jint sc (fun r h' => r = sB (sCan1 p (rs.getD i aRun0) l 41) ∧ jfr fGoes h h')) := by
  obtain ⟨g0, g1, g2⟩ := mr_ix (i := i) (by omega)
  refine jM_of rfl (Nat.le_of_ble_eq_true rfl) (by decide +kernel) rfl (rX12_canBeRight_0 ?_)
  refine jloop2 (fun d (h1 : jH) (x : Int32) => WP mX12_canBeRight _ 6 [some (.ref 159), some (.int (nI i)), some (.int (nI l)), some (.int x), some (.int (-20 + nI d))] [] (jG0 sc) h1 (0, 0))
    (fun d h1 x => x = sB (sCan1 p (rs.getD i aRun0) l d) ∧ jfr fGoes h h1) 41 ?_ ?_ 0 h 0 (by omega) ⟨(sB_f (fun q => by obtain ⟨d, hd, -⟩ := q; omega)).symm, jfr.rf⟩
  · rintro h1 x ⟨e, f⟩
    have lt := (val_lt (k := 41) (by omega)).mpr rfl
    exact rX12_canBeRight_6 (P1 := fun _ _ => True) (fun _ => by rw [e]; exact sB_01) (fun _ => jint_i ⟨e, f⟩) (fun c => absurd lt c) (fun c => absurd lt c) (fun c => absurd lt c) (fun c => absurd lt c) (fun c => absurd lt c) (fun c => absurd lt c) (fun c => absurd lt c) (fun c => absurd lt c)
  · rintro d h1 x hd ⟨e, f⟩ kk
    have nlt : ¬ (20 : Int32) < -20 + nI d := fun c => by have := (val_lt (k := d) (by omega)).mp c; omega
    obtain ⟨q0, q1, -⟩ := (hr.go f).2 i hi
    refine rX12_canBeRight_6 (fun c => absurd c nlt) (fun c => absurd c nlt) (fun _ _ => by rw [e]; exact sB_01) (fun _ c => ?_) (fun _ _ => by rw [g0]; exact vp_in_nI (by omega) (by decide)) (fun _ _ => by rw [g0, g1]; exact vp_in_nI (by omega) (by decide))
      (P1 := fun r h' => r = (sGo p (rs.getD i aRun0).1 (rs.getD i aRun0).2.1 (nI l) (-20 + nI d)).1 ∧ jfr fGoes h h') (fun _ _ => ?_) (fun _ _ _ _ _ => by rw [g0, g2]; exact vp_in_nI (by omega) (by decide)) (fun _ c x1 h2 z c2 => ?_) (fun _ c x1 h2 z c2 => ?_)
    · rw [e, sB_ne] at c
      refine jint_i ⟨?_, f⟩
      rw [e, sB_t c, sB_t (sCan1_more c (by omega))]
    · rw [g0, g1, nI_clamp (by omega), nI_clamp (by omega), q0, q1]
      exact jM_int (tX12_goes (hp.go f) hs) (fun r h' y => ⟨y.1, f.tr2 y.2.2.2.2⟩)
    all_goals
      have q3 := ((hr.go z.2).2 i hi).2.2
      rw [z.1, g0, g2, nI_clamp (by omega), q3] at c2
      rw [e, sB_eq] at c
      rw [val_s (by omega)]
    · exact kk h2 0 ⟨(sB_f (fun q => (sCan1_s.mp q).elim c c2)).symm, z.2⟩
    · exact kk h2 1 ⟨(sB_t (sCan1_s.mpr (Or.inr c2))).symm, z.2⟩
theorem tX12_free (hp : isMP (h 167) 0 p) (hs : sProg p) (hr : isMRuns (h 160) rs) (h12 : rs.length ≤ 12) (e0 : h 160 0 = nI p.length) :
    JM mX12_free [.ref 159] (jG0 sc) h (jint sc (fun r h' => r = sIf (sGood p rs) 0 (sFree p rs) ∧ jfr fGoes h h')) := by
  have h10 := hp.2.1
  have ln : ∀ {h1 : jH}, jfr fGoes h h1 → JM mX12_lines [.ref 159] (jG0 sc) h1 (jgets sc (nI p.length) h1) := fun {h1} f => by
    have := tX12_lines (sc := sc) (h := h1)
    rw [show h1 160 0 = nI p.length from (f 160 0 rfl).trans e0] at this
    exact this
  refine jM_of rfl (Nat.le_of_ble_eq_true rfl) (by decide +kernel) rfl (bX12_free_0 (P1 := fun x h' => x = sWrongMany p rs ∧ jfr fGoes h h') (tX12_wrongMany hp hs hr h12) (fun x h0 y c => bX12_free_9 ?_) (fun x h0 y c => bX12_free_7 (jint_i ⟨?_, y.2⟩)))
  · rw [y.1, sWrongMany_0 h12] at c
    rw [sIf_f c]
    have f0 := y.2
    refine jloop2 (fun k (h1 : jH) (b : Int32) => WP mX12_free _ 13 [some (.ref 159), some (.int b), some (.int (nI k)), none, none] [] (jG0 sc) h1 (0, 0))
      (fun k h1 b => b = sBits (sFreeAt p rs) k ∧ jfr fGoes h h1) p.length ?_ ?_ 0 h0 0 (by omega) ⟨rfl, f0⟩
    · rintro h1 b ⟨e, f⟩
      exact bX12_free_13 (ln f) (fun _ h2 q _ => bX12_free_111 (jint_i ⟨e, by rw [← q.2]; exact f⟩)) (fun _ _ q c => absurd (by rw [q.1]; exact nI_le (Nat.le_refl _) (by omega)) c)
    · rintro k h1 b hk ⟨e, f⟩ kk
      refine bX12_free_13 (ln f) (fun _ _ q c => absurd (by rw [q.1, jn_le (by omega) (by omega)] at c; exact c) (by omega)) ?_
      rintro _ _ ⟨-, rfl⟩ -
      have g0 : (1 : Int32) + 6 * nI k = nI (0 + 1 + 6 * k + 0) := by rw [show (6 : Int32) = nI 6 from rfl, show (1 : Int32) = nI 1 from rfl, pk_mul, nI_add]; exact congrArg nI (by omega)
      have eK : h1 167 (0 + 1 + 6 * k + 0) = sKind (p.getD k 4) := (hp.go f).2.2 k hk 0 (by omega)
      have inner : ∀ x, x = sB (sFreeTo p rs k 0) → WP mX12_free (jint sc (fun r h' => r = sFree p rs ∧ jfr fGoes h h')) 40 [some (.ref 159), some (.int b), some (.int (nI k)), none, none] [.int x] (jG0 sc) h1 (0, 0) := by
        intro x ex
        refine bX12_free_40 ?_
        have fin : ∀ (h2 : jH) (x i : Int32), x = sB (sFreeAt p rs k) → jfr fGoes h h2 → WP mX12_free (jint sc (fun r h' => r = sFree p rs ∧ jfr fGoes h h')) 91 [some (.ref 159), some (.int b), some (.int (nI k)), some (.int x), some (.int i)] [] (jG0 sc) h2 (0, 0) := fun h2 x i ex g => by
          refine bX12_free_91 (fun c => bX12_free_102 (bX12_free_103 ?_)) (fun c => bX12_free_96 (bX12_free_103 ?_))
          · rw [ex, sB_eq] at c
            rw [or_r0, ← nI_succ]; exact kk h2 b ⟨by rw [e, sBits_f c], g⟩
          · rw [ex, sB_ne] at c
            rw [← nI_succ]; exact kk h2 _ ⟨by rw [e, sBits_t c], g⟩
        refine jloop2 (fun i (h2 : jH) (x : Int32) => WP mX12_free _ 44 [some (.ref 159), some (.int b), some (.int (nI k)), some (.int x), some (.int (nI i))] [] (jG0 sc) h2 (0, 0))
          (fun i h2 x => x = sB (sFreeTo p rs k i) ∧ jfr fGoes h h2) rs.length ?_ ?_ 0 h1 x (by omega) ⟨ex, f⟩
        · rintro h2 x2 ⟨i1, g⟩
          have e3 : h2 160 122 = nI rs.length := (hr.go g).1
          exact bX12_free_44 (fun _ => fin h2 x2 _ i1 g) (fun c => absurd (by rw [e3]; exact nI_le (Nat.le_refl _) (by omega)) c)
        · rintro i h2 x2 hi ⟨i1, g⟩ kk2
          have e3 : h2 160 122 = nI rs.length := (hr.go g).1
          refine bX12_free_44 (fun c => absurd c (by rw [e3, jn_le (by omega) (by omega)]; omega)) (fun _ => bX12_free_56 (fun c => ?_) (fun c => ?_))
          · rw [i1, sB_eq] at c
            exact fin h2 x2 _ (by rw [i1, sB_f c]; exact (sB_f (c := sFreeAt p rs k) (fun q => c (sFreeTo_less (m := rs.length) q (by omega)))).symm) g
          · rw [i1, sB_ne] at c
            refine bX12_free_60 (P1 := fun x h' => x = sB (sRightAt p rs i) ∧ jfr fGoes h h') (jM_int (tX12_isRight (hp.go g) hs (hr.go g) h12 hi) (fun x h' y => ⟨y.1, g.tr2 y.2.2.2⟩)) (fun x h3 y c2 => ?_) (fun x h3 y c2 => ?_)
            · rw [y.1, sB_ne] at c2
              refine bX12_free_79 (bX12_free_84 ?_)
              rw [← nI_succ]
              exact kk2 h3 1 ⟨(sB_t (sFreeTo_s.mpr ⟨c, Or.inl c2⟩)).symm, y.2⟩
            · rw [y.1, sB_eq] at c2
              refine bX12_free_69 (P1 := fun x h' => x = sB (sCan1 p (rs.getD i aRun0) k 41) ∧ jfr fGoes h h') (jM_int (tX12_canBeRight hi (hp.go y.2) hs (hr.go y.2) h12) (fun x h' u => ⟨u.1, y.2.tr2 u.2⟩)) (fun x h4 u c3 => ?_) (fun x h4 u c3 => ?_)
              · rw [u.1, sB_eq] at c3
                refine bX12_free_83 (bX12_free_84 ?_)
                rw [← nI_succ]
                exact kk2 h4 0 ⟨(sB_f (fun q => (sFreeTo_s.mp q).2.elim c2 c3)).symm, u.2⟩
              · rw [u.1, sB_ne] at c3
                refine bX12_free_79 (bX12_free_84 ?_)
                rw [← nI_succ]
                exact kk2 h4 1 ⟨(sB_t (sFreeTo_s.mpr ⟨c, Or.inr c3⟩)).symm, u.2⟩
      refine bX12_free_21 (by rw [g0]; exact vp_in_nI (by omega) (by decide)) (fun c2 => bX12_free_39 (inner 0 ?_)) (fun c2 => bX12_free_35 (inner 1 ?_))
      all_goals rw [g0, nI_clamp (by omega), eK] at c2
      · exact (sB_f (fun q => c2 q.1)).symm
      · exact (sB_t ⟨c2, fun i hi => absurd hi (Nat.not_lt_zero _)⟩).symm
  · rw [y.1, sWrongMany_0 h12] at c
    rw [sIf_t c]
theorem tX12_slices (hp : isMP (h 167) 0 p) (hs : sProg p) (hr : isMRuns (h 160) rs) (h12 : rs.length ≤ 12) :
    JM mX12_slices [.ref 159] (jG0 sc) h (jint sc (fun r h' => r = sShare p rs 1023 rs.length ∧ jfr fGoes h h')) := by
  refine jM_of rfl (Nat.le_of_ble_eq_true rfl) (by decide +kernel) rfl (rX12_slices_0 ?_)
  refine jloop2 (fun i (h1 : jH) (b : Int32) => WP mX12_slices _ 6 [some (.ref 159), some (.int b), some (.int (nI i))] [] (jG0 sc) h1 (0, 0))
    (fun i h1 b => b = sShare p rs 1023 i ∧ jfr fGoes h h1) rs.length ?_ ?_ 0 h 1023 (by omega) ⟨rfl, jfr.rf⟩
  · rintro h1 b ⟨e, f⟩
    have e3 : h1 160 122 = nI rs.length := (hr.go f).1
    have no : ¬ h1 160 122 ≤ nI rs.length → False := fun c => c (by rw [e3]; exact nI_le (Nat.le_refl _) (by omega))
    exact rX12_slices_6 (P1 := fun _ _ => True) (fun _ => jint_i ⟨e, f⟩) (fun c => (no c).elim) (fun c => (no c).elim) (fun c => (no c).elim)
  · rintro i h1 b hi ⟨e, f⟩ kk
    have e3 : h1 160 122 = nI rs.length := (hr.go f).1
    have no : ¬ h1 160 122 ≤ nI i := by rw [e3, jn_le (by omega) (by omega)]; omega
    refine rX12_slices_6 (fun c => absurd c no) (P1 := fun x h' => x = sB (sRightAt p rs i) ∧ h' 159 21 = sSlice p (rs.getD i aRun0).1 (rs.getD i aRun0).2.1 ∧ jfr fGoes h h') (fun _ => jM_int (tX12_isRight (hp.go f) hs (hr.go f) h12 hi) (fun x h' y => ⟨y.1, y.2.2.1, f.tr2 y.2.2.2⟩)) (fun _ x h2 y c => ?_) (fun _ x h2 y c => ?_)
    · rw [y.1, sB_ne] at c
      rw [← nI_succ]
      exact kk h2 b ⟨by rw [e, sShare, sIf_t c], y.2.2⟩
    · rw [y.1, sB_eq] at c
      rw [← nI_succ, y.2.1]
      exact kk h2 _ ⟨by rw [e, sShare, sIf_f c], y.2.2⟩
theorem mmWhere {w : Int32} (ok : aOk n A) (k : RM h A) : JM mX12_where [.ref 159, .int w] (jG0 sc) h (mQ sc (oWhere A w) h) := by
  have h12 := ok.1.2.2.1.1
  have hs := ok.1.1
  have hr : isMRuns (h 160) (aRuns (xS A)) := k.1.2.2.1
  have hp : isMP (h 160) 0 (aBody (xS A)) := k.1.1
  have f0 : jfr fMs h (jput h 159 0 0) := jfr.rf.put rfl
  have out : ∀ {e : Nat} {h' : jH}, jfr fMs h h' → h' 159 0 = nI (e + 1) → oWhere A w = (e + 1, 0, A) → WP mX12_where (mQ sc (oWhere A w) h) 47 [some (.ref 159), some (.int w)] [] (jG0 sc) h' (0, 0) := fun f f0 o => by
    refine bX12_where_47 ?_
    rw [o]
    exact mQ_qx k f f0
  have last : ¬ aBody (xS A) = [] → aIx w 3 → WP mX12_where (mQ sc (oWhere A w) h) 49 [some (.ref 159), some (.int w)] [] (jG0 sc) (jput h 159 0 0) (0, 0) := fun q1 q2 => by
    rw [oWhere, sIf_f q1, sIf_t q2]
    refine bX12_where_49 (P1 := fun h' => isMP (h' 167) 0 (aBody (xS A)) ∧ jfr fMs h h' ∧ h' 159 0 = 0) (jM_void (tX12_lays (fr := 0) (by decide) hp) (fun h' z => ⟨z.1, f0.tr2 (z.2.mono rfl), (z.2 159 0 rfl).trans rfl⟩)) (fun h1 z c => bX12_where_65 (fun c2 => ?_) (fun c2 => ?_)) (fun h1 z c => ?_)
    all_goals
      have e160 : h1 160 = h 160 := z.2.1.cell (fun _ => rfl)
      have hr1 : isMRuns (h1 160) (aRuns (xS A)) := by rw [e160]; exact hr
      have e0 : h1 160 0 = nI (aBody (xS A)).length := by rw [e160]; exact hp.1
      have go : ∀ {h2 : jH}, jfr fGoes h1 h2 → jfr fMs h h2 ∧ h2 159 0 = 0 := fun f => ⟨z.2.1.tr2 (f.mono rfl), (f 159 0 rfl).trans z.2.2⟩
    · refine bX12_where_77 (P1 := fun x h' => x = sIf (sGood (aBody (xS A)) (aRuns (xS A))) 0 (sBlame (aBody (xS A)) (aRuns (xS A))) ∧ jfr fGoes h1 h') (P2 := fun x h' => x = sIf (sGood (aBody (xS A)) (aRuns (xS A))) 0 (sFree (aBody (xS A)) (aRuns (xS A))) ∧ jfr fGoes h1 h') (P3 := fun x h' => x = sShare (aBody (xS A)) (aRuns (xS A)) 1023 (aRuns (xS A)).length ∧ jfr fGoes h1 h') (tX12_blame z.1 hs hr1 h12 e0)
        (fun x2 h2 y => jM_int (tX12_free (z.1.go y.2) hs (hr1.go y.2) h12 ((y.2 160 0 rfl).trans e0)) (fun x h' u => ⟨u.1, y.2.tr2 u.2⟩)) (fun x2 h2 y x3 h3 u => jM_int (tX12_slices (z.1.go u.2) hs (hr1.go u.2) h12) (fun x h' v => ⟨v.1, u.2.tr2 v.2⟩)) (fun x2 h2 y x3 h3 u x4 h4 v => bX12_where_91 ?_)
      have : (x2 &&& x3) &&& x4 = sWhere (aBody (xS A)) (aRuns (xS A)) w := by
        rw [sWhere]
        by_cases g : sGood (aBody (xS A)) (aRuns (xS A))
        · rw [sIf_t g, y.1, sIf_t g]
          refine b_ext fun i _ => ?_
          rw [b_and, b_and, b_0]; rfl
        · rw [sIf_f g, sIf_f c, sIf_f c2, y.1, u.1, v.1, sIf_f g, sIf_f g, sShare_b]
          exact and_1023 hs.1
      rw [this]
      exact mQ_q k (go v.2).1 (go v.2).2
    · refine bX12_where_70 (P1 := fun x h' => x = sIf (sGood (aBody (xS A)) (aRuns (xS A))) 0 (sFree (aBody (xS A)) (aRuns (xS A))) ∧ jfr fGoes h1 h') (tX12_free z.1 hs hr1 h12 e0) (fun x2 h2 y => bX12_where_91 ?_)
      have : x2 = sWhere (aBody (xS A)) (aRuns (xS A)) w := by rw [sWhere, sIf_f c, sIf_t c2, y.1]
      rw [this]
      exact mQ_q k (go y.2).1 (go y.2).2
    · refine bX12_where_58 (P1 := fun x h' => x = sIf (sGood (aBody (xS A)) (aRuns (xS A))) 0 (sBlame (aBody (xS A)) (aRuns (xS A))) ∧ jfr fGoes h1 h') (tX12_blame z.1 hs hr1 h12 e0) (fun x2 h2 y => bX12_where_91 ?_)
      have : x2 = sWhere (aBody (xS A)) (aRuns (xS A)) w := by rw [sWhere, sIf_t c, y.1]
      rw [this]
      exact mQ_q k (go y.2).1 (go y.2).2
  have e0 : jput h 159 0 0 160 0 = nI (aBody (xS A)).length := hp.1
  refine jM_of rfl (Nat.le_of_ble_eq_true rfl) (by decide +kernel) rfl (bX12_where_0 tX12_lines ?_ ?_)
  · rintro _ _ ⟨rfl, rfl⟩ c
    have q1 : ¬ aBody (xS A) = [] := fun q => c (hp.nil.mpr q)
    refine bX12_where_17 (bX12_where_18 tX12_throws0 ?_ ?_)
    · rintro _ _ ⟨rfl, -⟩ c; exact absurd rfl c
    · rintro _ _ ⟨rfl, rfl⟩ -
      refine bX12_where_25 tX12_in ?_ ?_
      · rintro _ _ ⟨rfl, rfl⟩ c2
        rw [sB_ne] at c2
        have q2 : aIx w 3 := (aIx_le1 (n := 2) (by omega)).mp ⟨c2.1, i_nlt.mp c2.2⟩
        refine bX12_where_39 (bX12_where_40 tX12_throws0 ?_ ?_)
        · rintro _ _ ⟨rfl, rfl⟩ -; exact last q1 q2
        · rintro _ _ ⟨rfl, -⟩ c; exact absurd rfl c
      · rintro _ _ ⟨rfl, rfl⟩ c2
        rw [sB_eq] at c2
        have q2 : ¬ aIx w 3 := fun q => c2 (by have := (aIx_le1 (n := 2) (by omega)).mpr q; exact ⟨this.1, i_nlt.mpr this.2⟩)
        refine bX12_where_35 (bX12_where_40 tX12_throws1 ?_ ?_)
        · rintro _ _ ⟨rfl, -⟩ c; exact absurd c (by decide)
        · rintro _ _ ⟨rfl, rfl⟩ -
          exact out (e := 1) (f0.put rfl) (by simp [jput]; rfl) (by rw [oWhere, sIf_f q1, sIf_f q2])
  · rintro _ _ ⟨rfl, rfl⟩ c
    have q1 : aBody (xS A) = [] := hp.nil.mp c
    refine bX12_where_13 (bX12_where_18 tX12_throws1 ?_ ?_)
    · rintro _ _ ⟨rfl, rfl⟩ -
      exact out (e := 0) (f0.put rfl) (by simp [jput]; rfl) (by rw [oWhere, sIf_t q1])
    · rintro _ _ ⟨rfl, -⟩ c; exact absurd c (by decide)
end WHM
