/-! Operation putIn: the reference. -/
section PUM
variable {sc : Nat × (Nat → Int32)} {h : jH} {A : aA} {n : Nat} {p q : List Int32} {rs : List aRun} {b : Nat}
def isDues (h : jH) (p : List Int32) (rs : List aRun) : Prop := ∀ i, i < rs.length → h 178 i = sEndAt p rs i
theorem tX12_endsAsDue (hp : isMP (h 167) 0 q) (hs : sProg q) (he : isDues h p rs) (hr : isMRuns (h 160) rs) (h12 : rs.length ≤ 12) :
    JM mX12_endsAsDue [.ref 159] (jG0 sc) h (jint sc (fun r h' => r = sB (sAsked p q rs) ∧ jfr fGoes h h')) := by
  refine jM_of rfl (Nat.le_of_ble_eq_true rfl) (by decide +kernel) rfl (rX12_endsAsDue_0 ?_)
  refine jloop2 (fun i (h1 : jH) (x : Int32) => WP mX12_endsAsDue _ 4 [some (.ref 159), some (.int x), some (.int (nI i))] [] (jG0 sc) h1 (0, 0))
    (fun i h1 x => x = sB (∀ j, j < i → sAskedAt p q rs j) ∧ jfr fGoes h h1) rs.length ?_ ?_ 0 h 1 (by omega) ⟨(sB_t (c := ∀ j, j < 0 → sAskedAt p q rs j) (fun j hj => absurd hj (Nat.not_lt_zero _))).symm, jfr.rf⟩
  · rintro h1 x ⟨e, f⟩
    have e3 : h1 160 122 = nI rs.length := (hr.go f).1
    have no : ¬ h1 160 122 ≤ nI rs.length → False := fun c => c (by rw [e3]; exact nI_le (Nat.le_refl _) (by omega))
    exact rX12_endsAsDue_4 (P1 := fun _ _ => True) (fun _ => by rw [e]; exact sB_01) (fun _ => jint_i ⟨e, f⟩) (fun c => (no c).elim) (fun c => (no c).elim) (fun c => (no c).elim) (fun c => (no c).elim) (fun c => (no c).elim) (fun c => (no c).elim) (fun c => (no c).elim)
  · rintro i h1 x hi ⟨e, f⟩ kk
    have e3 : h1 160 122 = nI rs.length := (hr.go f).1
    have no : ¬ h1 160 122 ≤ nI i := by rw [e3, jn_le (by omega) (by omega)]; omega
    have vi : vp_in (nI i) 12 := vp_in_nI (by omega) (by decide)
    have e78 : ∀ {h2 : jH}, jfr fGoes h h2 → h2 178 (nI i).toNatClampNeg = sEndAt p rs i := fun g => by rw [nI_clamp (by omega), g 178 i rfl]; exact he i hi
    have yes : ∀ {h2 : jH}, jfr fGoes h h2 → (∀ j, j < i → sAskedAt p q rs j) → sAskedAt p q rs i → WP mX12_endsAsDue (jint sc (fun r h' => r = sB (sAsked p q rs) ∧ jfr fGoes h h')) 4 [some (.ref 159), some (.int 1), some (.int (nI i + 1))] [] (jG0 sc) h2 (0, 0) := fun {h2} g c d => by
      rw [← nI_succ]
      refine kk h2 1 ⟨(sB_t (fun j hj => ?_)).symm, g⟩
      by_cases z : j = i
      · subst z; exact d
      · exact c j (by omega)
    refine rX12_endsAsDue_4 (fun c => absurd c no) (fun c => absurd c no) (fun _ c => ?_) (fun _ _ => vi) (fun _ c d => ?_) (fun _ c d => tX12_endOn (hp.go f) hs (hr.go f) h12 hi) (fun _ _ _ _ _ _ => vi) (fun _ c d x1 h2 y z => ?_) (fun _ c d x1 h2 y z => ?_)
    · rw [e, sB_eq] at c
      rw [← nI_succ]
      exact kk h1 0 ⟨(sB_f (fun w => c (fun j hj => w j (by omega)))).symm, f⟩
    all_goals rw [e, sB_ne] at c; rw [e78 f] at d
    · exact yes f c (fun w => absurd d w)
    all_goals
      obtain ⟨y1, -, -, -, y2⟩ := y
      rw [y1, e78 (f.tr2 y2)] at z
    · rw [← nI_succ]
      exact kk h2 0 ⟨(sB_f (fun w => z (w i (by omega) d))).symm, f.tr2 y2⟩
    · exact yes (f.tr2 y2) c (fun _ => z)
abbrev fAs : jF := ([(167, 169), (176, 176)], [(159, 19, 21)])
/-- the program is laid anew -/
theorem isMP.row {w w' : Nat → Int32} (hp : isMP w 0 p) (e : ∀ j, j < 61 → w' j = w j) : isMP w' 0 p := hp.cp (fun j hj => by rw [Nat.zero_add]; exact e j hj)
theorem tX12_isAsBody (hb : b ≤ 15) (eb : h 160 285 = nI b) (hp : isMP (h 160) 0 p) (hs : sProg p) (hq : isMP (h 167) 0 q) (hsq : sProg q) :
    JM mX12_isAsBody [.ref 159, .ref 160, .int 0] (jG0 sc) h (jint sc (fun r h' => r = sB (sSameBox p q b) ∧ jfr fAs h h')) := by
  refine jM_of rfl (Nat.le_of_ble_eq_true rfl) (by decide +kernel) rfl (bX12_isAsBody_0 ?_)
  have e160 : ∀ {h1 : jH}, jfr fAs h h1 → h1 160 = h 160 := fun f => f.cell (fun _ => rfl)
  refine jloop (fun i (h1 : jH) => WP mX12_isAsBody _ 2 [some (.ref 159), some (.ref 160), some (.int 0), some (.int (nI i)), none, none, none, none] [] (jG0 sc) h1 (0, 0))
    (fun i h1 => (∀ j, j < i → h1 176 j = h 167 j) ∧ jfr ([(176, 176)], []) h h1) 61 ?_ ?_ 0 h (by omega) ⟨fun j hj => absurd hj (Nat.not_lt_zero _), jfr.rf⟩
  · rintro h0 ⟨i0, f0⟩
    refine bX12_isAsBody_2 (fun _ => bX12_isAsBody_26 ?_) (fun c => absurd (by decide) c)
    have g0 : jfr fAs h h0 := f0.mono rfl
    have q0 : isMP (h0 176) 0 q := hq.row i0
    have q76 : ∀ {h1 : jH}, jfr ([(167, 169)], [(159, 19, 21)]) h0 h1 → isMP (h1 176) 0 q := fun f => by rw [f.cell (fun _ => rfl)]; exact q0
    refine jloop2 (fun x (h1 : jH) (v : Int32) => WP mX12_isAsBody _ 31 [some (.ref 159), some (.ref 160), some (.int 0), some (.int v), some (.int (nI x)), none, none, none] [] (jG0 sc) h1 (0, 0))
      (fun x h1 v => v = sB (∀ u w, u < x → w ≤ b → sEnd q (nI u) (nI w) = sEnd p (nI u) (nI w)) ∧ jfr ([(167, 169)], [(159, 19, 21)]) h0 h1) (b + 1) ?_ ?_ 0 h0 1 (by omega) ⟨(sB_t (fun u w hu => absurd hu (Nat.not_lt_zero _))).symm, jfr.rf⟩
    · rintro h1 v ⟨ev, f1⟩
      have lt : h1 160 285 < nI (b + 1) := by rw [e160 (g0.tr2 (f1.mono rfl)), eb, jn_lt (by omega) (by omega)]; omega
      refine bX12_isAsBody_31 (fun _ => bX12_isAsBody_168 (by rw [ev]; exact sB_01) (jint_i ⟨?_, g0.tr2 (f1.mono rfl)⟩)) (fun c => absurd lt c)
      rw [ev]
      have : (∀ u w, u < b + 1 → w ≤ b → sEnd q (nI u) (nI w) = sEnd p (nI u) (nI w)) ↔ sSameBox p q b := ⟨fun z u w hu hw => z u w (by omega) hw, fun z u w hu hw => z u w (by omega) hw⟩
      rw [this]
    · rintro x h1 v hx ⟨ev, f1⟩ kk
      have nlx : ¬ h1 160 285 < nI x := by rw [e160 (g0.tr2 (f1.mono rfl)), eb, jn_lt (by omega) (by omega)]; omega
      have bad : ∀ {h2 : jH} {v2 : Int32}, v2 = 0 → ¬ sSameBox p q b → jfr fAs h h2 → WP mX12_isAsBody (jint sc (fun r h' => r = sB (sSameBox p q b) ∧ jfr fAs h h')) 168 [some (.ref 159), some (.ref 160), some (.int 0), some (.int v2), some (.int (nI x)), none, none, none] [] (jG0 sc) h2 (0, 0) := fun {h2 v2} e c g => bX12_isAsBody_168 (Or.inl e) (jint_i ⟨by rw [e, sB_f c], g⟩)
      refine bX12_isAsBody_31 (fun c => absurd c nlx) (fun _ => bX12_isAsBody_44 (fun c => bad c ?_ (g0.tr2 (f1.mono rfl))) (fun c => bX12_isAsBody_48 ?_))
      · rw [ev, sB_eq] at c
        exact fun z => c (fun u w hu hw => z u w (by omega) hw)
      · rw [ev, sB_ne] at c
        refine jloop2 (fun y (h2 : jH) (v2 : Int32) => WP mX12_isAsBody _ 51 [some (.ref 159), some (.ref 160), some (.int 0), some (.int v2), some (.int (nI x)), some (.int (nI y)), none, none] [] (jG0 sc) h2 (0, 0))
          (fun y h2 v2 => v2 = sB (∀ w, w < y → sEnd q (nI x) (nI w) = sEnd p (nI x) (nI w)) ∧ jfr ([(167, 169)], [(159, 19, 21)]) h0 h2) (b + 1) ?_ ?_ 0 h1 v (by omega) ⟨by rw [ev, sB_t c]; exact (sB_t (fun w hw => absurd hw (Nat.not_lt_zero _))).symm, f1⟩
        · rintro h2 v2 ⟨e2, f2⟩
          have lt : h2 160 285 < nI (b + 1) := by rw [e160 (g0.tr2 (f2.mono rfl)), eb, jn_lt (by omega) (by omega)]; omega
          refine bX12_isAsBody_51 (fun _ => bX12_isAsBody_162 ?_) (fun c => absurd lt c)
          rw [← nI_succ]
          refine kk h2 v2 ⟨?_, f2⟩
          rw [e2]
          by_cases z : ∀ w, w < b + 1 → sEnd q (nI x) (nI w) = sEnd p (nI x) (nI w)
          · rw [sB_t z]
            refine (sB_t (fun u w hu hw => ?_)).symm
            by_cases t : u = x
            · subst t; exact z w (by omega)
            · exact c u w (by omega) hw
          · rw [sB_f z]; exact (sB_f (fun t => z (fun w hw => t x w (by omega) (by omega)))).symm
        · rintro y h2 v2 hy ⟨e2, f2⟩ kk2
          have g2 : jfr fAs h h2 := g0.tr2 (f2.mono rfl)
          have nlt : ¬ h2 160 285 < nI y := by rw [e160 g2, eb, jn_lt (by omega) (by omega)]; omega
          refine bX12_isAsBody_51 (fun c => absurd c nlt) (fun _ => bX12_isAsBody_64 (fun c3 => bX12_isAsBody_162 ?_) (fun c3 => bX12_isAsBody_68 ?_))
          · rw [e2, sB_eq] at c3
            rw [← nI_succ]
            refine kk h2 v2 ⟨?_, f2⟩
            rw [e2, sB_f c3]
            exact (sB_f (fun t => c3 (fun w hw => t x w (by omega) (by omega)))).symm
          · rw [e2, sB_ne] at c3
            -- the body laid
            refine jloop (fun i (h3 : jH) => WP mX12_isAsBody _ 71 [some (.ref 159), some (.ref 160), some (.int 0), some (.int v2), some (.int (nI x)), some (.int (nI y)), some (.int (nI i)), none] [] (jG0 sc) h3 (0, 0))
              (fun i h3 => (∀ j, j < i → h3 167 j = h 160 j) ∧ jfr ([(167, 169)], [(159, 19, 21)]) h0 h3) 61 ?_ ?_ 0 h2 (by omega) ⟨fun j hj => absurd hj (Nat.not_lt_zero _), f2⟩
            · rintro h3 ⟨i3, f3⟩
              have p3 : isMP (h3 167) 0 p := hp.row i3
              refine bX12_isAsBody_71 (fun _ => bX12_isAsBody_97 (P1 := fun r h' => r = sEnd p (nI x) (nI y) ∧ jfr ([(167, 169)], [(159, 19, 21)]) h0 h') (jM_int (tX12_endAt p3 hs) (fun r h' z => ⟨z.1, f3.tr2 (z.2.2.2.2.mono rfl)⟩)) (fun x4 h4 w => ?_)) (fun c => absurd (by decide) c)
              obtain ⟨w1, f4⟩ := w
              rw [w1]
              -- the other one laid again
              refine jloop (fun i (h5 : jH) => WP mX12_isAsBody _ 110 [some (.ref 159), some (.ref 160), some (.int 0), some (.int v2), some (.int (nI x)), some (.int (nI y)), some (.int (sEnd p (nI x) (nI y))), some (.int (nI i))] [] (jG0 sc) h5 (0, 0))
                (fun i h5 => (∀ j, j < i → h5 167 j = h0 176 j) ∧ jfr ([(167, 169)], [(159, 19, 21)]) h0 h5) 61 ?_ ?_ 0 h4 (by omega) ⟨fun j hj => absurd hj (Nat.not_lt_zero _), f4⟩
              · rintro h5 ⟨i5, f5⟩
                have p5 : isMP (h5 167) 0 q := q0.row i5
                refine bX12_isAsBody_110 (fun _ => bX12_isAsBody_137 (P1 := fun r h' => r = sEnd q (nI x) (nI y) ∧ jfr ([(167, 169)], [(159, 19, 21)]) h0 h') (jM_int (tX12_endAt p5 hsq) (fun r h' z => ⟨z.1, f5.tr2 (z.2.2.2.2.mono rfl)⟩)) (fun x6 h6 z d => bX12_isAsBody_154 (bX12_isAsBody_155 ?_)) (fun x6 h6 z d => bX12_isAsBody_150 (bX12_isAsBody_155 ?_))) (fun c => absurd (by decide) c)
                all_goals
                  rw [z.1] at d
                  rw [← nI_succ]
                · exact kk2 h6 0 ⟨(sB_f (fun t => d (t y (by omega)))).symm, z.2⟩
                · refine kk2 h6 1 ⟨(sB_t (fun t ht => ?_)).symm, z.2⟩
                  by_cases e : t = y
                  · subst e; exact d
                  · exact c3 t (by omega)
              · rintro i h5 hi ⟨i5, f5⟩ kk3
                have hi' : i < 2 ^ 31 := by omega
                refine bX12_isAsBody_110 (fun c => absurd ((jn_le (a := 61) (by decide) hi').mp c) (by omega)) (fun _ => bX12_isAsBody_117 (vp_in_nI (by omega) (by decide)) (vp_in_nI (by omega) (by decide)) ?_)
                rw [nI_clamp hi', ← nI_succ]
                refine kk3 _ ⟨fun j hj => ?_, f5.put (by rw [jin_iff]; simp)⟩
                by_cases e : j = i
                · subst e; rw [jput_at]; exact f5 176 _ rfl
                · rw [jput_sl e]; exact i5 j (by omega)
            · rintro i h3 hi ⟨i3, f3⟩ kk3
              have hi' : i < 2 ^ 31 := by omega
              have eB : (0 : Int32) + nI i = nI i := Int32.zero_add _
              refine bX12_isAsBody_71 (fun c => absurd ((jn_le (a := 61) (by decide) hi').mp c) (by omega)) (fun _ => bX12_isAsBody_78 (by rw [eB]; exact vp_in_nI (by omega) (by decide)) (vp_in_nI (by omega) (by decide)) ?_)
              rw [eB, nI_clamp hi', ← nI_succ]
              refine kk3 _ ⟨fun j hj => ?_, f3.put (by rw [jin_iff]; simp)⟩
              by_cases e : j = i
              · subst e; rw [jput_at, e160 (g0.tr2 (f3.mono rfl))]
              · rw [jput_sl e]; exact i3 j (by omega)
  · rintro i h1 hi ⟨i1, f1⟩ kk
    have hi' : i < 2 ^ 31 := by omega
    refine bX12_isAsBody_2 (fun c => absurd ((jn_le (a := 61) (by decide) hi').mp c) (by omega)) (fun _ => bX12_isAsBody_8 (vp_in_nI (by omega) (by decide)) (vp_in_nI (by omega) (by decide)) ?_)
    rw [nI_clamp hi', ← nI_succ]
    refine kk _ ⟨fun j hj => ?_, f1.put (by rw [jin_iff]; simp)⟩
    by_cases e : j = i
    · subst e; rw [jput_at]; exact f1 167 _ rfl
    · rw [jput_sl e]; exact i1 j (by omega)
theorem mmPutIn {m : Int32} (ok : aOk n A) (k : RM h A) : JM mX12_putIn [.ref 159, .int m] (jG0 sc) h (mQ sc (oPutIn A m) h) := by
  have h12 := ok.1.2.2.1.1
  have h15 : aBox (xS A) ≤ 15 := ok.1.2.2.2.2.2.2.2
  have hs := ok.1.1
  have h280 := sMends_280 hs
  have hr : isMRuns (h 160) (aRuns (xS A)) := k.1.2.2.1
  have hp : isMP (h 160) 0 (aBody (xS A)) := k.1.1
  have eB : h 160 285 = nI (aBox (xS A)) := k.1.2.2.2.2.2.2.2
  have f0 : jfr fMs h (jput h 159 0 0) := jfr.rf.put rfl
  refine jM_of rfl (Nat.le_of_ble_eq_true rfl) (by decide +kernel) rfl (bX12_putIn_0 (P1 := fun h' => isML h' (aBody (xS A)) ∧ jfr fMs h h' ∧ h' 159 0 = 0) (jM_void (tX12_listed hp hs) (fun h' y => ⟨y.1, f0.tr2 (y.2.mono rfl), (y.2 159 0 rfl).trans rfl⟩))
    (P2 := fun x h' => x = sB (¬ aIx m (sMends (aBody (xS A))).length) ∧ isML h' (aBody (xS A)) ∧ jfr fMs h h' ∧ h' 159 0 = 0) (fun h1 y => jM_get (tX12_noMend (by omega) y.1.2.1) y)
    (P3 := fun x h' => (¬ ¬ aIx m (sMends (aBody (xS A))).length ∧ x = 0 ∧ isML h' (aBody (xS A)) ∧ jfr fMs h h' ∧ h' 159 0 = 0) ∨ (¬ aIx m (sMends (aBody (xS A))).length ∧ x = 1 ∧ jfr fMs h h' ∧ h' 159 0 = 1)) (fun h1 _ x2 h2 y => jM_int (tX12_throwsIf y.1) (fun x h' z => ?_)) (fun h1 _ x2 h2 _ x3 h3 z c => ?_) (fun h1 _ x2 h2 _ x3 h3 z c => ?_))
  · rcases z with ⟨a, b, c⟩ | ⟨a, b, c⟩
    · exact Or.inl ⟨a, b, by rw [c]; exact y.2⟩
    · exact Or.inr ⟨a, b, by rw [c]; exact y.2.2.1.put rfl, by rw [c]; exact jput_at⟩
  · rcases z with ⟨a, -, l3, g3, z3⟩ | ⟨-, b, -⟩
    · have qm := Classical.not_not.mp a
      rw [oPutIn, sIf_t qm]
      obtain ⟨d, hd, rfl⟩ := qm
      rw [nI_clamp (show d < 2 ^ 31 by omega)]
      have oq : sProg (sBy (aBody (xS A)) (d, none)) := sProg_1 hs hd
      have b160 : h3 160 = h 160 := g3.cell (fun _ => rfl)
      refine bX12_putIn_24 (P1 := fun h' => isMP (h' 167) 0 (aBody (xS A)) ∧ jfr fProg h3 h') (jM_void (tX12_plain l3.1) (fun h' z => z)) (fun h4 w => ?_)
      -- the ends of the runs
      refine jloop (fun i (h5 : jH) => WP mX12_putIn _ 30 [some (.ref 159), some (.int (nI d)), some (.int (nI i)), none, none] [] (jG0 sc) h5 (0, 0))
        (fun i h5 => (∀ j, j < i → h5 178 j = sEndAt (aBody (xS A)) (aRuns (xS A)) j) ∧ isMP (h5 167) 0 (aBody (xS A)) ∧ jfr ([(167, 169), (178, 178)], [(159, 19, 21)]) h3 h5) (aRuns (xS A)).length ?_ ?_ 0 h4 (by omega) ⟨fun j hj => absurd hj (Nat.not_lt_zero _), w.1, w.2.mono rfl⟩
      · rintro h5 ⟨i5, p5, f5⟩
        have e5 : h5 160 = h 160 := (f5.cell (fun _ => rfl)).trans b160
        have l5 : isML h5 (aBody (xS A)) := l3.fr f5 rfl (fun _ => rfl) (fun _ => rfl) (fun _ => rfl) (fun _ => rfl)
        refine bX12_putIn_30 (fun _ => bX12_putIn_58 (P1 := fun h' => isMP (h' 167) 0 (sBy (aBody (xS A)) (d, none)) ∧ jfr fProg h5 h') (tX12_lays1 l5 hs hd) (fun h6 y6 => ?_)) (fun c => absurd (by rw [e5, hr.1]; exact nI_le (Nat.le_refl _) (by omega)) c)
        -- the faulty one is kept
        refine jloop (fun i (h7 : jH) => WP mX12_putIn _ 66 [some (.ref 159), some (.int (nI d)), some (.int (nI i)), none, none] [] (jG0 sc) h7 (0, 0))
          (fun i h7 => (∀ j, j < i → h7 177 j = h6 167 j) ∧ jfr ([(177, 177)], []) h6 h7) 61 ?_ ?_ 0 h6 (by omega) ⟨fun j hj => absurd hj (Nat.not_lt_zero _), jfr.rf⟩
        · rintro h7 ⟨i7, f7⟩
          have g7 : jfr ([(163, 178)], [(159, 19, 21)]) h3 h7 := (f5.mono rfl).tr2 ((y6.2.mono rfl).tr2 (f7.mono rfl))
          have e7 : h7 160 = h 160 := (g7.cell (fun _ => rfl)).trans b160
          have p7 : isMP (h7 167) 0 (sBy (aBody (xS A)) (d, none)) := by rw [f7.cell (k := 167) (fun _ => rfl)]; exact y6.1
          have q7 : isMP (h7 177) 0 (sBy (aBody (xS A)) (d, none)) := y6.1.row i7
          have d7 : isDues h7 (aBody (xS A)) (aRuns (xS A)) := fun j hj => by rw [f7 178 j rfl, y6.2 178 j rfl]; exact i5 j hj
          refine bX12_putIn_66 (fun _ => bX12_putIn_90 (P1 := fun x h' => x = sB (sAsked (aBody (xS A)) (sBy (aBody (xS A)) (d, none)) (aRuns (xS A))) ∧ jfr fGoes h7 h') (tX12_endsAsDue p7 oq d7 (by rw [e7]; exact hr) h12) (fun x8 h8 y8 c8 => ?_) (fun x8 h8 y8 c8 => bX12_putIn_97 ?_)) (fun c => absurd (by decide) c)
          · rw [y8.1, sB_eq] at c8
            rw [sPutV, sIf_f c8]
            generalize hq : sBy (aBody (xS A)) (d, none) = q at *
            have h280q := sMends_280 oq
            have q8 : isMP (h8 177) 0 q := by rw [y8.2.cell (k := 177) (fun _ => rfl)]; exact q7
            refine bX12_putIn_99 (P1 := fun h' => isML h' q ∧ jfr fLists h8 h') (jM_void (tX12_lists (fr := 0) (a := 177) (an := 61) (by unfold jIA; decide) (by decide) (by decide) (Or.inr (by decide)) q8 oq) (fun h' z => ⟨⟨z.1, z.2.1⟩, z.2.2⟩)) (fun h9 y9 => ?_)
            have g9 : jfr ([(163, 178)], [(159, 19, 21), (159, 26, 26)]) h3 h9 := (g7.mono rfl).tr2 ((y8.2.mono rfl).tr2 (y9.2.mono rfl))
            have d9 : isDues h9 (aBody (xS A)) (aRuns (xS A)) := fun j hj => by rw [y9.2 178 j rfl, y8.2 178 j rfl]; exact d7 j hj
            have e9 : ∀ {h1 : jH}, jfr fAs h9 h1 → h1 160 = h 160 := fun f => (f.cell (fun _ => rfl)).trans ((g9.cell (fun _ => rfl)).trans b160)
            have l9 : ∀ {h1 : jH}, jfr fAs h9 h1 → isML h1 q := fun f => y9.1.fr f rfl (fun _ => rfl) (fun _ => rfl) (fun _ => rfl) (fun _ => rfl)
            have fin : ∀ {h1 : jH} {v : Int32}, jfr fAs h9 h1 → v = sJudge (aBody (xS A)) q (aRuns (xS A)) (aBox (xS A)) → mQ sc ((0, sJudge (aBody (xS A)) q (aRuns (xS A)) (aBox (xS A)), A) : aO) h (.inl (some (.int v))) (jG0 sc) h1 := fun {h1 v} f e => by
              rw [e]
              exact mQ_q k (g3.tr2 ((g9.mono rfl).tr2 (f.mono rfl))) ((f 159 0 rfl).trans ((g9 159 0 rfl).trans z3))
            refine jloop2 (fun i (h1 : jH) (l : Nat × Nat) => WP mX12_putIn _ 115 [some (.ref 159), some (.int (nI d)), some (.int (nI l.1)), some (.int (nI l.2)), some (.int (nI i))] [] (jG0 sc) h1 (0, 0))
              (fun i h1 l => (l.1 = 0 ↔ ¬ sSome (aBody (xS A)) q (aRuns (xS A)) (aBox (xS A)) i) ∧ (l.2 = 0 ↔ sEvery (aBody (xS A)) q (aRuns (xS A)) (aBox (xS A)) i) ∧ l.1 ≤ i ∧ l.2 ≤ i ∧ jfr fAs h9 h1) (sMends q).length ?_ ?_ 0 h9 (0, 0) (by omega) ⟨⟨fun _ t => by obtain ⟨j, hj, -⟩ := t; exact absurd hj (Nat.not_lt_zero _), fun _ => rfl⟩, ⟨fun _ j hj => absurd hj (Nat.not_lt_zero _), fun _ => rfl⟩, Nat.le_refl _, Nat.le_refl _, jfr.rf⟩
            · rintro h1 l ⟨a1, a2, a3, a4, f⟩
              refine bX12_putIn_115 (fun _ => bX12_putIn_168 (fun c => bX12_putIn_176 (fun c2 => bX12_putIn_184 (bX12_putIn_185 (fin f ?_))) (fun c2 => bX12_putIn_180 (bX12_putIn_185 (fin f ?_)))) (fun c => bX12_putIn_172 (bX12_putIn_185 (fin f ?_)))) (fun c => absurd (by rw [(l9 f).2.1]; exact nI_le (Nat.le_refl _) (by omega)) c)
              all_goals rw [show (0 : Int32) = nI 0 from rfl, jn_eq (by omega) (by omega), a1] at c
              · rw [show (0 : Int32) = nI 0 from rfl, jn_eq (by omega) (by omega), a2] at c2
                rw [sJudge, sIf_t (Classical.not_not.mp c), sIf_f c2]
              · rw [show (0 : Int32) = nI 0 from rfl, jn_eq (by omega) (by omega), a2] at c2
                rw [sJudge, sIf_t (Classical.not_not.mp c), sIf_t c2]
              · rw [sJudge, sIf_f c]
            · rintro i h1 l hi ⟨a1, a2, a3, a4, f⟩ kk
              have oj : sProg (sBy q (i, none)) := sProg_1 oq hi
              refine bX12_putIn_115 (fun c => absurd c (by rw [(l9 f).2.1, jn_le (by omega) (by omega)]; omega)) (fun _ => bX12_putIn_124 (P1 := fun h' => isMP (h' 167) 0 (sBy q (i, none)) ∧ jfr fAs h9 h') (P2 := fun x h' => x = sB (sAsked (aBody (xS A)) (sBy q (i, none)) (aRuns (xS A))) ∧ isMP (h' 167) 0 (sBy q (i, none)) ∧ jfr fAs h9 h') (jM_void (tX12_lays1 (l9 f) oq hi) (fun h' z => ⟨z.1, f.tr2 (z.2.mono rfl)⟩)) (fun h2 y => jM_int (tX12_endsAsDue y.1 oj (fun j hj => (y.2 178 j rfl).trans (d9 j hj)) (by rw [e9 y.2]; exact hr) h12) (fun x h' z => ⟨z.1, y.1.go z.2, y.2.tr2 (z.2.mono rfl)⟩)) (fun h2 _ x3 h4 y c => ?_) (fun h2 _ x3 h4 y c => bX12_putIn_138 (bX12_putIn_162 ?_)))
              · rw [y.1, sB_ne] at c
                refine bX12_putIn_141 (P1 := fun x h' => x = sB (sSameBox (aBody (xS A)) (sBy q (i, none)) (aBox (xS A))) ∧ jfr fAs h9 h') (jM_int (tX12_isAsBody h15 (by rw [e9 y.2.2]; exact eB) (by rw [e9 y.2.2]; exact hp) hs y.2.1 oj) (fun x h' z => ⟨z.1, y.2.2.tr2 z.2⟩)) (fun x5 h5 z c2 => bX12_putIn_159 (bX12_putIn_162 ?_)) (fun x5 h5 z c2 => bX12_putIn_153 (bX12_putIn_162 ?_))
                all_goals
                  rw [z.1] at c2
                  rw [← nI_succ, ← nI_succ]
                · rw [sB_eq] at c2
                  refine kk h5 (l.1, l.2 + 1) ⟨?_, ?_, by show l.1 ≤ i + 1; omega, by show l.2 + 1 ≤ i + 1; omega, z.2⟩
                  · show l.1 = 0 ↔ _
                    rw [a1, sSome_s]
                    exact ⟨fun t u => u.elim t (fun u => c2 u.2), fun t u => t (Or.inl u)⟩
                  · show l.2 + 1 = 0 ↔ _
                    rw [sEvery_s]
                    exact ⟨fun t => absurd t (Nat.succ_ne_zero _), fun t => absurd (t.2 c) c2⟩
                · rw [sB_ne] at c2
                  refine kk h5 (l.1 + 1, l.2) ⟨?_, ?_, by show l.1 + 1 ≤ i + 1; omega, by show l.2 ≤ i + 1; omega, z.2⟩
                  · show l.1 + 1 = 0 ↔ _
                    rw [sSome_s]
                    exact ⟨fun t => absurd t (Nat.succ_ne_zero _), fun t => absurd (Or.inr ⟨c, c2⟩) t⟩
                  · show l.2 = 0 ↔ _
                    rw [a2, sEvery_s]
                    exact ⟨fun t => ⟨t, fun _ => c2⟩, fun t => t.1⟩
              · rw [y.1, sB_eq] at c
                rw [← nI_succ]
                refine kk h4 l ⟨?_, ?_, by omega, by omega, y.2.2⟩
                · rw [a1, sSome_s]
                  exact ⟨fun t u => u.elim t (fun u => c u.1), fun t u => t (Or.inl u)⟩
                · rw [a2, sEvery_s]
                  exact ⟨fun t => ⟨t, fun u => absurd u c⟩, fun t => t.1⟩
          · rw [y8.1, sB_ne] at c8
            rw [sPutV, sIf_t c8]
            exact mQ_q k (g3.tr2 ((g7.mono rfl).tr2 (y8.2.mono rfl))) ((y8.2 159 0 rfl).trans ((g7 159 0 rfl).trans z3))
        · rintro i h7 hi ⟨i7, f7⟩ kk
          have hi' : i < 2 ^ 31 := by omega
          refine bX12_putIn_66 (fun c => absurd ((jn_le (a := 61) (by decide) hi').mp c) (by omega)) (fun _ => bX12_putIn_72 (vp_in_nI (by omega) (by decide)) (vp_in_nI (by omega) (by decide)) ?_)
          rw [nI_clamp hi', ← nI_succ]
          refine kk _ ⟨fun j hj => ?_, f7.put (by rw [jin_iff]; simp)⟩
          by_cases e : j = i
          · subst e; rw [jput_at]; exact f7 167 _ rfl
          · rw [jput_sl e]; exact i7 j (by omega)
      · rintro i h5 hi ⟨i5, p5, f5⟩ kk
        have e5 : h5 160 = h 160 := (f5.cell (fun _ => rfl)).trans b160
        refine bX12_putIn_30 (fun c => absurd c (by rw [e5, hr.1, jn_le (by omega) (by omega)]; omega)) (fun _ => bX12_putIn_41 (P1 := fun x h' => x = sEndAt (aBody (xS A)) (aRuns (xS A)) i ∧ jfr fGoes h5 h') (jM_int (tX12_endOn p5 hs (by rw [e5]; exact hr) h12 hi) (fun x h' z => ⟨z.1, z.2.2.2.2⟩)) (fun _ _ _ => vp_in_nI (by omega) (by decide)) (fun x6 h6 z => ?_))
        rw [z.1, nI_clamp (by omega), ← nI_succ]
        refine kk _ ⟨fun j hj => ?_, (by rw [jput_ne (show (167 : Nat) ≠ 178 by decide)]; exact p5.go z.2), (f5.tr2 (z.2.mono rfl)).put (by rw [jin_iff]; simp)⟩
        by_cases e : j = i
        · subst e; exact jput_at
        · rw [jput_sl e, z.2 178 j rfl]; exact i5 j (by omega)
    · rw [b] at c; exact absurd c (by decide)
  · rcases z with ⟨-, b, -⟩ | ⟨a, -, g3, z3⟩
    · exact absurd b c
    · refine bX12_putIn_22 ?_
      rw [oPutIn, sIf_f a]
      exact mQ_qx k g3 z3
end PUM
