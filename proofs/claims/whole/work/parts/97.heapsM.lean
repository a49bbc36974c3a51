/-! Operation heaps: the reference. -/
section HPM
variable {sc : Nat × (Nat → Int32)} {h : jH} {A : aA} {n : Nat} {p : List Int32} {rs : List aRun}
def hRow (w : Nat → Int32) (D : Nat → Option Nat) : Prop := ∀ s, s < 4096 → w s = (match D s with | none => -1 | some k => nI k)
abbrev fHeap : jF := ([(167, 169), (175, 175)], [(159, 19, 21)])
theorem hRow.put {w : Nat → Int32} {D : Nat → Option Nat} {t k : Nat} (q : hRow w D) : hRow (fun i => if i = t then nI k else w i) (hUp D t k) := by
  intro s hs
  unfold hUp
  by_cases z : s = t
  · simp only [if_pos z]
  · simp only [if_neg z]; exact q s hs
theorem turned_t (h12 : rs.length ≤ 12) {m : Nat} : sTurned p rs m true = nI (sGainN p rs m) := by
  rw [sGainN, ← (sNB_e rs.length h12).2, sTurned]
  exact sBits_congr (fun i _ => ⟨fun q => ⟨fun r => q.1 ⟨fun _ => rfl, fun _ => r⟩, q.2.mpr rfl⟩, fun q => ⟨fun r => q.1 (r.mpr rfl), fun _ => rfl, fun _ => q.2⟩⟩)
theorem turned_f (h12 : rs.length ≤ 12) {m : Nat} : sTurned p rs m false = 0 ↔ sKeepsR p rs m := by
  rw [sTurned, sBits_0 (by omega)]
  constructor
  · intro q i hi r
    refine Classical.byContradiction fun c => q i hi ⟨fun e => ?_, fun e => absurd e c, fun e => by cases e⟩
    have := e.mp r; cases this
  · rintro q i hi ⟨c1, c2⟩
    have r : sRightAt p rs i := Classical.byContradiction fun c => c1 ⟨fun e => absurd e c, fun e => by cases e⟩
    have := c2.mp (q i hi r); cases this
theorem mmHeaps (ok : aOk n A) (k : RM h A) : JM mX12_heaps [.ref 159] (jG0 sc) h (mQ sc (oHeaps A) h) := by
  have h12 := ok.1.2.2.1.1
  have hs := ok.1.1
  have h280 := sMends_280 hs
  have hr : isMRuns (h 160) (aRuns (xS A)) := k.1.2.2.1
  have hp : isMP (h 160) 0 (aBody (xS A)) := k.1.1
  have f0 : jfr fMs h (jput h 159 0 0) := jfr.rf.put rfl
  have e0 : jput h 159 0 0 160 0 = nI (aBody (xS A)).length := hp.1
  generalize hM : (sMends (aBody (xS A))).length = M at *
  have last : ¬ aBody (xS A) = [] → WP mX12_heaps (mQ sc (oHeaps A) h) 27 [some (.ref 159), none, none, none, none, none] [] (jG0 sc) (jput h 159 0 0) (0, 0) := fun q1 => by
    rw [oHeaps, sIf_f q1, hM]
    refine bX12_heaps_27 (P1 := fun h' => isML h' (aBody (xS A)) ∧ jfr fMs h h' ∧ h' 159 0 = 0) (jM_void (tX12_listed hp hs) (fun h' y => ⟨y.1, f0.tr2 (y.2.mono rfl), (y.2 159 0 rfl).trans rfl⟩)) (P2 := fun h' => isML h' (aBody (xS A)) ∧ jfr fMs h h' ∧ h' 159 0 = 0 ∧ isMP (h' 167) 0 (aBody (xS A))) (fun h1 y => jM_void (tX12_plain y.1.1) (fun h' z => ⟨y.1.fr z.2 rfl (fun _ => rfl) (fun _ => rfl) (fun _ => rfl) (fun _ => rfl), y.2.1.tr2 (z.2.mono rfl), (z.2 159 0 rfl).trans y.2.2, z.1⟩)) (fun _ _ h0 y0 => ?_)
    obtain ⟨l0, g0, z0, p0⟩ := y0
    have e160 : ∀ {h1 : jH}, jfr fHeap h0 h1 → h1 160 = h 160 := fun f => (f.cell (fun _ => rfl)).trans (g0.cell (fun _ => rfl))
    have lt : ∀ {h1 : jH}, jfr fHeap h0 h1 → isML h1 (aBody (xS A)) := fun f => l0.fr f rfl (fun _ => rfl) (fun _ => rfl) (fun _ => rfl) (fun _ => rfl)
    have rt : ∀ {h1 : jH}, jfr fHeap h0 h1 → isMRuns (h1 160) (aRuns (xS A)) := fun f => by rw [e160 f]; exact hr
    have e26 : ∀ {h1 : jH}, jfr fHeap h0 h1 → h1 159 26 = nI M := fun f => by rw [← hM]; exact (lt f).2.1
    have W4 : sWrongN (aBody (xS A)) (aRuns (xS A)) < 4096 := sNB_4096 h12
    -- the mends
    have mends : ∀ (h1 : jH), jfr fHeap h0 h1 → (hRow (h1 175) (fun s => if s = 0 then some 0 else none)) → WP mX12_heaps (mQ sc ((0, sHeapV (sGn (aBody (xS A)) (aRuns (xS A)) M) (sWrongN (aBody (xS A)) (aRuns (xS A))), A) : aO) h) 104 [some (.ref 159), some (.int (nI (sWrongN (aBody (xS A)) (aRuns (xS A))))), some (.int (nI 4096)), none, none, none] [] (jG0 sc) h1 (0, 0) := by
      intro h1 f1 r1
      refine bX12_heaps_104 ?_
      refine jloop2 (fun m (h2 : jH) (D : Nat → Option Nat) => WP mX12_heaps _ 106 [some (.ref 159), some (.int (nI (sWrongN (aBody (xS A)) (aRuns (xS A))))), some (.int (nI m)), none, none, none] [] (jG0 sc) h2 (0, 0))
        (fun m h2 D => hRow (h2 175) D ∧ hSound (sGn (aBody (xS A)) (aRuns (xS A)) m) D m ∧ hFull (sGn (aBody (xS A)) (aRuns (xS A)) m) D ∧ jfr fHeap h0 h2) M ?_ ?_ 0 h1 (fun s => if s = 0 then some 0 else none) (by omega) ⟨r1, ?_, ?_, f1⟩
      · rintro h2 D ⟨r2, s2, c2, f2⟩
        have := sHeapV_e (W := sWrongN (aBody (xS A)) (aRuns (xS A))) (hEnd s2 c2)
        refine bX12_heaps_106 (fun _ => bX12_heaps_226 (vp_in_nI W4 (by decide)) ?_) (fun c => absurd (by rw [e26 f2]; exact nI_le (Nat.le_refl _) (by omega)) c)
        rw [nI_clamp (by omega), r2 _ W4, this]
        exact mQ_q k (g0.tr2 (f2.mono rfl)) ((f2 159 0 rfl).trans z0)
      · rintro m h2 D hm ⟨r2, s2, c2, f2⟩ kk
        have next : ∀ (h3 : jH) (D3 : Nat → Option Nat), hRow (h3 175) D3 → hSound (sGn (aBody (xS A)) (aRuns (xS A)) (m + 1)) D3 (m + 1) → hFull (sGn (aBody (xS A)) (aRuns (xS A)) (m + 1)) D3 → jfr fHeap h0 h3 → WP mX12_heaps (mQ sc ((0, sHeapV (sGn (aBody (xS A)) (aRuns (xS A)) M) (sWrongN (aBody (xS A)) (aRuns (xS A))), A) : aO) h) 220 [some (.ref 159), some (.int (nI (sWrongN (aBody (xS A)) (aRuns (xS A))))), some (.int (nI m)), none, none, none] [] (jG0 sc) h3 (0, 0) := fun h3 D3 a b c d => by
          refine bX12_heaps_220 ?_
          rw [← nI_succ]
          exact kk h3 D3 ⟨a, b, c, d⟩
        refine bX12_heaps_106 (fun c => absurd c (by rw [e26 f2, jn_le (by omega) (by omega)]; omega)) (fun _ => bX12_heaps_114 (P1 := fun x h' => x = sTurned (aBody (xS A)) (aRuns (xS A)) m false ∧ jfr fHeap h0 h' ∧ h' 175 = h2 175) (jM_int (tX12_turned (w := false) rfl (lt f2) hs (rt f2) h12 (by omega)) (fun x h' y => ⟨y.1, f2.tr2 (y.2.mono rfl), y.2.cell (fun _ => rfl)⟩)) (fun x h3 y c => ?_) (fun x h3 y c => bX12_heaps_123 ?_))
        all_goals rw [y.1, turned_f h12] at c
        · refine bX12_heaps_126 (P1 := fun x h' => x = nI (sGainN (aBody (xS A)) (aRuns (xS A)) m) ∧ jfr fHeap h0 h' ∧ h' 175 = h2 175) (jM_int (tX12_turned (w := true) rfl (lt y.2.1) hs (rt y.2.1) h12 (by omega)) (fun x h' w => ⟨by rw [w.1, turned_t h12], y.2.1.tr2 (w.2.mono rfl), (w.2.cell (fun _ => rfl)).trans y.2.2⟩)) (fun x4 h4 w => ?_)
          rw [w.1]
          have g4 : sGainN (aBody (xS A)) (aRuns (xS A)) m < 4096 := sNB_4096 h12
          generalize hg : sGainN (aBody (xS A)) (aRuns (xS A)) m = g at *
          have go : ∀ i, i ≤ 4096 → ∀ (h5 : jH) (D5 : Nat → Option Nat), hRow (h5 175) D5 → hPass g D D5 i → jfr fHeap h0 h5 → WP mX12_heaps (mQ sc ((0, sHeapV (sGn (aBody (xS A)) (aRuns (xS A)) M) (sWrongN (aBody (xS A)) (aRuns (xS A))), A) : aO) h) 138 [some (.ref 159), some (.int (nI (sWrongN (aBody (xS A)) (aRuns (xS A))))), some (.int (nI m)), some (.int (nI g)), some (.int (nI i - 1)), none] [] (jG0 sc) h5 (0, 0) := by
            intro i
            induction i with
            | zero =>
              intro _ h5 D5 r5 p5 f5
              refine bX12_heaps_138 (fun _ => ?_) (fun c => absurd (by decide) c)
              obtain ⟨a, b⟩ := hNext (G2 := sGn (aBody (xS A)) (aRuns (xS A)) (m + 1)) (fun x => by rw [(sGn_s (x := x)).1 c, hg]) (fun x hx => sGn_4096 h12 hx) s2 c2 p5
              exact next h5 D5 r5 a b f5
            | succ i ih =>
              intro hi h5 D5 r5 p5 f5
              have ei : nI (i + 1) - 1 = nI i := by rw [nI_succ]; exact Int32.add_sub_cancel _ _
              rw [ei]
              have vi : vp_in (nI i) 4096 := vp_in_nI (by omega) (by decide)
              have ev : h5 175 (nI i).toNatClampNeg = (match D5 i with | none => -1 | some k => nI k) := by rw [nI_clamp (by omega)]; exact r5 i (by omega)
              have t4 : i ||| g < 4096 := Nat.or_lt_two_pow (n := 12) (by omega) g4
              have down : ∀ (h6 : jH) (D6 : Nat → Option Nat), hRow (h6 175) D6 → hPass g D D6 i → jfr fHeap h0 h6 → WP mX12_heaps (mQ sc ((0, sHeapV (sGn (aBody (xS A)) (aRuns (xS A)) M) (sWrongN (aBody (xS A)) (aRuns (xS A))), A) : aO) h) 214 [some (.ref 159), some (.int (nI (sWrongN (aBody (xS A)) (aRuns (xS A))))), some (.int (nI m)), some (.int (nI g)), some (.int (nI i)), none] [] (jG0 sc) h6 (0, 0) := fun h6 D6 a b d => by
                refine bX12_heaps_214 ?_
                rw [show nI i + -1 = nI i - 1 by rw [Int32.sub_eq_add_neg]]
                exact ih (by omega) h6 D6 a b d
              refine bX12_heaps_138 (fun c => absurd c (nI_pos (by omega))) (fun _ => bX12_heaps_143 vi (fun c1 => ?_) (fun c1 => bX12_heaps_153 ?_))
              all_goals rw [ev] at c1
              · cases eD : D5 i with
                | none => rw [eD] at c1; exact absurd c1 (by decide)
                | some kd =>
                  have k280 : kd ≤ m := by
                    have := p5.1 i (by omega)
                    rw [eD] at this
                    exact (s2 i kd this.symm).1
                  rw [eD] at ev
                  have ev : h5 175 (nI i).toNatClampNeg = nI kd := ev
                  refine bX12_heaps_156 (fun c2 => ?_) (fun c2 => ?_)
                  all_goals rw [nI_or, jn_eq (by omega) (by omega)] at c2
                  · exact down h5 D5 r5 (hPass_skip p5 (fun k1 e1 ne => absurd c2 ne)) f5
                  · rw [nI_or]
                    have vt : vp_in (nI (i ||| g)) 4096 := vp_in_nI t4 (by decide)
                    have et : h5 175 (nI (i ||| g)).toNatClampNeg = (match D5 (i ||| g) with | none => -1 | some k => nI k) := by rw [nI_clamp (by omega)]; exact r5 _ t4
                    have put : (∀ k1, D5 (i ||| g) = some k1 → ¬ k1 ≤ kd + 1) → WP mX12_heaps (mQ sc ((0, sHeapV (sGn (aBody (xS A)) (aRuns (xS A)) M) (sWrongN (aBody (xS A)) (aRuns (xS A))), A) : aO) h) 198 [some (.ref 159), some (.int (nI (sWrongN (aBody (xS A)) (aRuns (xS A))))), some (.int (nI m)), some (.int (nI g)), some (.int (nI i)), some (.int (nI (i ||| g)))] [] (jG0 sc) h5 (0, 0) := fun q => by
                      refine bX12_heaps_198 vi vt ?_
                      rw [ev, nI_clamp (show i ||| g < 2 ^ 31 by omega), ← nI_succ]
                      exact down _ (hUp D5 (i ||| g) (kd + 1)) (by rw [jput_eq]; exact r5.put) (hPass_put p5 eD c2 q) (f5.put (by rw [jin_iff]; simp))
                    refine bX12_heaps_169 vt (fun c3 => put ?_) (fun c3 => bX12_heaps_179 vt vi (fun c4 => ?_) (fun c4 => put ?_))
                    · intro k1 e1
                      have kb : k1 ≤ m + 1 := by
                        rcases p5.2.1 _ _ e1 with q | ⟨s', k', q1, q2, q3⟩
                        · have := (s2 _ _ q).1; omega
                        · have := (s2 _ _ q1).1; omega
                      rw [et, e1] at c3
                      exact absurd c3 (nI_pos (by omega))
                    all_goals
                      cases eT : D5 (i ||| g) with
                      | none => rw [et, eT] at c3; exact absurd (by decide) c3
                      | some kt =>
                        have kb : kt ≤ m + 1 := by
                          rcases p5.2.1 _ _ eT with q | ⟨s', k', q1, q2, q3⟩
                          · have := (s2 _ _ q).1; omega
                          · have := (s2 _ _ q1).1; omega
                        rw [eT] at et
                        have et : h5 175 (nI (i ||| g)).toNatClampNeg = nI kt := et
                        rw [et, ev, ← nI_succ, jn_le (by omega) (by omega)] at c4
                        first
                          | exact down h5 D5 r5 (hPass_skip p5 (fun k1 e1 ne => by rw [eD] at e1; injection e1 with e1; exact ⟨kt, eT, by omega⟩)) f5
                          | exact fun k1 e1 => by injection e1 with e1; omega
              · cases eD : D5 i with
                | none => exact down h5 D5 r5 (hPass_skip p5 (fun k1 e1 => by rw [eD] at e1; cases e1)) f5
                | some kd =>
                  have k280 : kd ≤ m := by
                    have := p5.1 i (by omega)
                    rw [eD] at this
                    exact (s2 i kd this.symm).1
                  rw [eD] at c1
                  exact absurd (nI_le (a := 0) (by omega) (by omega)) c1
          have := go 4096 (Nat.le_refl _) h4 D (by rw [w.2.2]; exact r2) hPass_0 w.2.1
          exact this
        · refine next h3 D (by rw [y.2.2]; exact r2) (fun s k1 e1 => ?_) (fun L hL => c2 L (fun x hx => ((sGn_s (x := x)).2 c).mp (hL x hx))) y.2.1
          obtain ⟨a, L, b1, b2, b3⟩ := s2 s k1 e1
          exact ⟨by omega, L, b1, fun x hx => ((sGn_s (x := x)).2 c).mpr (b2 x hx), b3⟩
      · intro s k1 e1
        have e1 : (if s = 0 then some 0 else none) = some k1 := e1
        by_cases z : s = 0
        · rw [if_pos z] at e1
          injection e1 with e1
          exact ⟨by omega, [], e1, fun x hx => absurd hx List.not_mem_nil, z.symm⟩
        · rw [if_neg z] at e1; cases e1
      · intro L hL
        have : L = [] := by
          cases L with
          | nil => rfl
          | cons a L => obtain ⟨m, hm, -⟩ := hL a (List.mem_cons_self ..); exact absurd hm (Nat.not_lt_zero _)
        subst this
        exact ⟨0, rfl, Nat.le_refl _⟩
    -- the row is made
    have rows : ∀ (h1 : jH), jfr fHeap h0 h1 → WP mX12_heaps (mQ sc ((0, sHeapV (sGn (aBody (xS A)) (aRuns (xS A)) M) (sWrongN (aBody (xS A)) (aRuns (xS A))), A) : aO) h) 76 [some (.ref 159), some (.int (nI (sWrongN (aBody (xS A)) (aRuns (xS A))))), some (.int (nI 0)), none, none, none] [] (jG0 sc) h1 (0, 0) := by
      intro h1 f1
      refine jloop (fun i (h2 : jH) => WP mX12_heaps _ 76 [some (.ref 159), some (.int (nI (sWrongN (aBody (xS A)) (aRuns (xS A))))), some (.int (nI i)), none, none, none] [] (jG0 sc) h2 (0, 0))
        (fun i h2 => (∀ s, s < i → h2 175 s = (match (if s = 0 then some 0 else none : Option Nat) with | none => -1 | some k => nI k)) ∧ jfr fHeap h0 h2) 4096 ?_ ?_ 0 h1 (by omega) ⟨fun s hs => absurd hs (Nat.not_lt_zero _), f1⟩
      · rintro h2 ⟨i2, f2⟩
        exact bX12_heaps_76 (fun _ => mends h2 f2 i2) (fun c => absurd ((jn_le (a := 4096) (by decide) (by decide)).mpr (Nat.le_refl _)) c)
      · rintro i h2 hi ⟨i2, f2⟩ kk
        have vi : vp_in (nI i) 4096 := vp_in_nI hi (by decide)
        have step : ∀ v, v = (match (if i = 0 then some 0 else none : Option Nat) with | none => (-1 : Int32) | some k => nI k) → WP mX12_heaps (mQ sc ((0, sHeapV (sGn (aBody (xS A)) (aRuns (xS A)) M) (sWrongN (aBody (xS A)) (aRuns (xS A))), A) : aO) h) 97 [some (.ref 159), some (.int (nI (sWrongN (aBody (xS A)) (aRuns (xS A))))), some (.int (nI i)), none, none, none] [.int v, .int (nI i), .ref 175] (jG0 sc) h2 (0, 0) := fun v ev => by
          refine bX12_heaps_97 vi ?_
          rw [nI_clamp (by omega), ← nI_succ]
          refine kk _ ⟨fun s hs => ?_, f2.put (by rw [jin_iff]; simp)⟩
          by_cases z : s = i
          · subst z; rw [jput_at]; exact ev
          · rw [jput_sl z]; exact i2 s (by omega)
        refine bX12_heaps_76 (fun c => absurd ((jn_le (a := 4096) (by decide) (by omega)).mp c) (by omega)) (fun _ => bX12_heaps_83 (fun c => bX12_heaps_96 (step _ ?_)) (fun c => bX12_heaps_92 (step _ ?_)))
        all_goals rw [show (0 : Int32) = nI 0 from rfl, jn_eq (by omega) (by omega)] at c
        · rw [if_neg c]
        · rw [if_pos c]; rfl
    refine jloop2 (fun i (h1 : jH) (b : Int32) => WP mX12_heaps _ 39 [some (.ref 159), some (.int b), some (.int (nI i)), none, none, none] [] (jG0 sc) h1 (0, 0))
      (fun i h1 b => b = sBits (fun i => ¬ sRightAt (aBody (xS A)) (aRuns (xS A)) i) i ∧ isMP (h1 167) 0 (aBody (xS A)) ∧ jfr fHeap h0 h1) (aRuns (xS A)).length ?_ ?_ 0 h0 0 (by omega) ⟨rfl, p0, jfr.rf⟩
    · rintro h1 b ⟨eb, p1, f1⟩
      have e3 : h1 160 122 = nI (aRuns (xS A)).length := (rt f1).1
      refine bX12_heaps_39 (fun _ => bX12_heaps_74 ?_) (fun c => absurd (by rw [e3]; exact nI_le (Nat.le_refl _) (by omega)) c)
      rw [eb, (sNB_e _ h12).2]
      exact rows h1 f1
    · rintro i h1 b hi ⟨eb, p1, f1⟩ kk
      have e3 : h1 160 122 = nI (aRuns (xS A)).length := (rt f1).1
      refine bX12_heaps_39 (fun c => absurd c (by rw [e3, jn_le (by omega) (by omega)]; omega)) (fun _ => bX12_heaps_50 (P1 := fun x h' => x = sB (sRightAt (aBody (xS A)) (aRuns (xS A)) i) ∧ isMP (h' 167) 0 (aBody (xS A)) ∧ jfr fHeap h0 h') (jM_int (tX12_isRight p1 hs (rt f1) h12 hi) (fun x h' y => ⟨y.1, p1.go y.2.2.2, f1.tr2 (y.2.2.2.mono rfl)⟩)) (fun x h2 y c => bX12_heaps_63 (bX12_heaps_66 ?_)) (fun x h2 y c => bX12_heaps_59 (bX12_heaps_66 ?_)))
      all_goals
        rw [y.1] at c
        rw [← nI_succ]
      · rw [sB_eq] at c
        exact kk h2 _ ⟨by rw [eb, sBits_t c], y.2⟩
      · rw [sB_ne] at c
        rw [or_r0]
        exact kk h2 _ ⟨by rw [eb, sBits_f (fun q => q c)], y.2⟩
  refine jM_of rfl (Nat.le_of_ble_eq_true rfl) (by decide +kernel) rfl (bX12_heaps_0 tX12_lines ?_ ?_)
  · rintro _ _ ⟨rfl, rfl⟩ c
    have q1 : ¬ aBody (xS A) = [] := fun q => c (hp.nil.mpr q)
    refine bX12_heaps_17 (bX12_heaps_18 tX12_throws0 ?_ ?_)
    · rintro _ _ ⟨rfl, rfl⟩ -; exact last q1
    · rintro _ _ ⟨rfl, -⟩ c; exact absurd rfl c
  · rintro _ _ ⟨rfl, rfl⟩ c
    have q1 : aBody (xS A) = [] := hp.nil.mp c
    refine bX12_heaps_13 (bX12_heaps_18 tX12_throws1 ?_ ?_)
    · rintro _ _ ⟨rfl, -⟩ c; exact absurd c (by decide)
    · rintro _ _ ⟨rfl, rfl⟩ -
      refine bX12_heaps_25 ?_
      rw [oHeaps, sIf_t q1]
      exact mQ_qx k (f0.put rfl) (by simp [jput]; rfl)
end HPM
