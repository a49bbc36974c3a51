/-! Operations prove, bar: the reference. -/
section PRM
variable {sc : Nat × (Nat → Int32)} {h : jH} {A : aA} {n : Nat} {p ls : List Int32} {T : aT} {f : Nat → Nat → Prop} {P : Nat → Prop}
abbrev fBroken : jF := ([(166, 169)], [(159, 19, 21), (159, 28, 28)])
theorem tX12_broken {i : Int32} {ls : List Int32} {b : Nat} (ok : aOk n A) (l : isML h (aBody (xS A))) (kt : isMTries (h 160) (aBody (xS A)) (aTr (xS A))) (q : aIx i (aKept A).length) (hl : isMLaw (h 160) ls) (okl : sLawOk ls) (hn : ls ≠ []) (h15 : b ≤ 15) (eb : h 160 285 = nI b) :
    JM mX12_broken [.ref 159, .int i] (jG0 sc) h (jint sc (fun r h' => r = sDbl (sBroke (sShape (aBody (xS A)) ((aKept A).getD i.toNatClampNeg 0)) ls) b (b + 1) ∧ (r = 0 ↔ pBox (sBroke (sShape (aBody (xS A)) ((aKept A).getD i.toNatClampNeg 0)) ls) k0 b (b + 1) = none) ∧ h' 159 28 = pVal (pBox (sBroke (sShape (aBody (xS A)) ((aKept A).getD i.toNatClampNeg 0)) ls) k0 b (b + 1)) ∧ jfr fBroken h h')) := by
  generalize hsh : sShape (aBody (xS A)) ((aKept A).getD i.toNatClampNeg 0) = sh
  have osh : sProg sh := by rw [← hsh]; exact sProg_sh ok.1.1
  have f0 : jfr fBroken h (jput h 159 28 (-1)) := jfr.rf.put rfl
  refine jM_of rfl (Nat.le_of_ble_eq_true rfl) (by decide +kernel) rfl (rX12_broken_0 (P1 := fun h' => isMP (h' 167) 0 sh ∧ jfr fBroken h h' ∧ h' 159 28 = -1) ?_ (fun h0 y0 => ?_))
  · rw [← hsh]
    exact jM_void (tX12_laysAlive ok (l.fr f0 rfl (fun _ => rfl) (fun _ => rfl) (fun _ => rfl) (fun _ => rfl)) kt q) (fun h' z => ⟨z.1, f0.tr2 (z.2.mono rfl), (z.2 159 28 rfl).trans jput_at⟩)
  · obtain ⟨p0, g0, z0⟩ := y0
    have e160 : ∀ {h1 : jH}, jfr fBroken h h1 → h1 160 = h 160 := fun f => f.cell (fun _ => rfl)
    have eB : ∀ {h1 : jH}, jfr fBroken h h1 → h1 160 285 = nI b := fun f => by rw [e160 f]; exact eb
    -- what holds as it goes
    let I : oP → Int32 → Int32 → jH → Nat → Prop := fun st v w h1 m => v = w ∧ isMP (h1 167) 0 sh ∧ h1 159 28 = pVal st ∧ (st = none ∨ ∃ u, st = some (u, 0)) ∧ (∃ c, c ≤ m ∧ v = nI c ∧ (c = 0 ↔ st = none)) ∧ jfr fBroken h h1
    refine jloop2 (fun x (h1 : jH) (v : Int32) => WP mX12_broken _ 14 [some (.ref 159), some (.int i), some (.int v), some (.int (nI x)), none] [] (jG0 sc) h1 (0, 0))
      (fun x h1 v => I (pBox (sBroke sh ls) k0 b x) v (sDbl (sBroke sh ls) b x) h1 (20 * x)) (b + 1) ?_ ?_ 0 h0 0 (by omega) ⟨rfl, p0, z0, Or.inl rfl, ⟨0, Nat.le_refl _, rfl, fun _ => rfl, fun _ => rfl⟩, g0⟩
    · rintro h1 v ⟨i1, i2, i3, i4, ⟨c, c1, c2, c3⟩, f⟩
      refine rX12_broken_14 (fun _ => jint_i ⟨i1, ?_, i3, f⟩) (fun c => absurd (by rw [eB f, jn_lt (by omega) (by omega)]; omega) c)
      rw [c2, show (0 : Int32) = nI 0 from rfl, jn_eq (by omega) (by omega)]; exact c3
    · rintro x h1 v hx ⟨i1, i2, i3, i4, i5, f⟩ kk
      refine rX12_broken_14 (fun c => absurd c (by rw [eB f, jn_lt (by omega) (by omega)]; omega)) (fun _ => ?_)
      refine jloop2 (fun y (h2 : jH) (v : Int32) => WP mX12_broken _ 29 [some (.ref 159), some (.int i), some (.int v), some (.int (nI x)), some (.int (nI y))] [] (jG0 sc) h2 (0, 0))
        (fun y h2 v => I (pRow (sBroke sh ls) k0 x (pBox (sBroke sh ls) k0 b x) y) v (sDbl (sBroke sh ls) b x + sTot (fun y => sB (sBroke sh ls x y)) y) h2 (20 * x + y)) (b + 1) ?_ ?_ 0 h1 v (by omega) ⟨by rw [i1]; exact (Int32.add_zero _).symm, i2, i3, i4, i5, f⟩
      · rintro h2 v2 ⟨j1, j2, j3, j4, ⟨c, c1, c2, c3⟩, f2⟩
        have lt : h2 160 285 < nI (b + 1) := by rw [eB f2, jn_lt (by omega) (by omega)]; omega
        refine rX12_broken_29 (fun _ => ?_) (P1 := fun _ _ => True) (P2 := fun _ _ => True) (fun c => absurd lt c) (fun c => absurd lt c) (fun c => absurd lt c) (fun c => absurd lt c) (fun c => absurd lt c)
        rw [← nI_succ]
        exact kk h2 v2 ⟨j1, j2, j3, j4, ⟨c, by omega, c2, c3⟩, f2⟩
      · rintro y h2 v2 hy ⟨j1, j2, j3, j4, ⟨c, c1, c2, c3⟩, f2⟩ kk2
        have nlt : ¬ h2 160 285 < nI y := by rw [eB f2, jn_lt (by omega) (by omega)]; omega
        refine rX12_broken_29 (fun c => absurd c nlt) (P1 := fun r h' => r = sEnd sh (nI x) (nI y) ∧ jfr fGoes h2 h') (fun _ => jM_int (tX12_endAt j2 osh) (fun r h' z => ⟨z.1, z.2.2.2.2⟩)) (P2 := fun r h' => r = sB (¬ sBroke sh ls x y) ∧ jfr ([(166, 169)], [(159, 19, 21)]) h2 h' ∧ h' 167 = h2 167) (fun _ x1 h3 z => ?_) (fun _ x1 h3 _ x4 h4 w d e => ?_) (fun _ x1 h3 _ x4 h4 w d e => ?_) (fun _ x1 h3 _ x4 h4 w d => ?_)
        · rw [z.1]
          have e3 : h3 160 = h 160 := (z.2.cell (fun _ => rfl)).trans (e160 f2)
          refine jM_int (tX12_keeps (by rw [e3]; exact hl) okl hn) (fun r h' w => ⟨?_, (z.2.mono rfl).tr2 (w.2.mono rfl), (w.2.cell (fun _ => rfl)).trans (z.2.cell (fun _ => rfl))⟩)
          rw [w.1]
          by_cases g : ¬ 999999 < sEnd sh (nI x) (nI y) ∧ sLawHolds ls (sEnd sh (nI x) (nI y)) (nI x) (nI y)
          · rw [sB_t g]; exact (sB_t (c := ¬ sBroke sh ls x y) (fun q => q g)).symm
          · rw [sB_f g]; exact (sB_f (c := ¬ sBroke sh ls x y) (fun q => q g)).symm
        all_goals
          rw [w.1] at d
          have f4 : jfr fBroken h h4 := f2.tr2 (w.2.1.mono rfl)
          have p4 : isMP (h4 167) 0 sh := by rw [w.2.2]; exact j2
          have b4 : h4 159 28 = pVal (pRow (sBroke sh ls) k0 x (pBox (sBroke sh ls) k0 b x) y) := (w.2.1 159 28 rfl).trans j3
          rw [← nI_succ]
        · have br : sBroke sh ls x y := Classical.not_not.mp (sB_eq.mp d)
          have ne : ¬ pRow (sBroke sh ls) k0 x (pBox (sBroke sh ls) k0 b x) y = none := fun q => e (by rw [c2, c3.mpr q]; rfl)
          rcases pStep_0 (f := sBroke sh ls) (x := x) (y := y) j4 with ⟨g1, -⟩ | ⟨-, g2⟩
          · exact absurd g1 ne
          · refine kk2 h4 (v2 + 1) ⟨by rw [j1, sTot, sB_t br, Int32.add_assoc], p4, by rw [pRow, g2]; exact b4, by rw [pRow, g2]; exact j4, ⟨c + 1, by omega, by rw [c2, nI_succ], fun q => by omega, fun q => ?_⟩, f4⟩
            rw [pRow, g2] at q; exact absurd q ne
        · have br : sBroke sh ls x y := Classical.not_not.mp (sB_eq.mp d)
          have e0 : pRow (sBroke sh ls) k0 x (pBox (sBroke sh ls) k0 b x) y = none := c3.mp (by rw [c2, show (0 : Int32) = nI 0 from rfl, jn_eq (by omega) (by omega)] at e; exact e)
          rcases pStep_0 (f := sBroke sh ls) (x := x) (y := y) j4 with ⟨-, -, g2⟩ | ⟨g1, -⟩
          · rw [pk16 (by omega) (by omega)]
            refine kk2 _ (v2 + 1) ⟨by rw [j1, sTot, sB_t br, Int32.add_assoc], p4, by rw [pRow, g2]; exact jput_at, by rw [pRow, g2]; exact Or.inr ⟨_, rfl⟩, ⟨c + 1, by omega, by rw [c2, nI_succ], fun q => by omega, fun q => ?_⟩, f4.put rfl⟩
            rw [pRow, g2] at q; cases q
          · exact absurd ⟨e0, br⟩ g1
        · have nb : ¬ sBroke sh ls x y := sB_ne.mp d
          have g2 : pStep (sBroke sh ls) k0 x y (pRow (sBroke sh ls) k0 x (pBox (sBroke sh ls) k0 b x) y) = pRow (sBroke sh ls) k0 x (pBox (sBroke sh ls) k0 b x) y := pStep_c nb
          exact kk2 h4 v2 ⟨by rw [j1, sTot, sB_f nb, Int32.add_zero], p4, by rw [pRow, g2]; exact b4, by rw [pRow, g2]; exact j4, ⟨c, by omega, c2, by rw [pRow, g2]; exact c3⟩, f4⟩
theorem isMLaw.nil {ls : List Int32} (hl : isMLaw (h 160) ls) (okl : sLawOk ls) : h 160 653 = 0 ↔ ls = [] := by
  have h4 := okl.2.2.2
  rw [hl.1, show (0 : Int32) = nI 0 from rfl, jn_eq (by omega) (by omega)]
  constructor
  · intro e
    cases ls with
    | nil => rfl
    | cons c cs =>
      rw [sAllSteps_cons, List.length_append] at e
      have : 0 < (sSteps c).length := by
        unfold sSteps
        split
        · decide
        · split
          · decide
          · split
            · decide
            · exact Nat.zero_lt_succ _
      omega
  · intro e; subst e; rfl
theorem mmProve {i z : Int32} {o : Bool} (hz : z = if o then 1 else 0) (ok : aOk n A) (k : RM h A) : JM mX12_prove [.ref 159, .int i, .int z] (jG0 sc) h (mQ sc (oProve A i o) h) := by
  have h15 : aBox (xS A) ≤ 15 := ok.1.2.2.2.2.2.2.2
  have h30 : (aKept A).length ≤ 30 := ok.1.2.2.2.2.1.1
  have okl := ok.1.2.2.2.1
  have hs := ok.1.1
  have hp : isMP (h 160) 0 (aBody (xS A)) := k.1.1
  have hl : isMLaw (h 160) (aLaw (xS A)) := k.1.2.2.2.1
  have hT : isMTries (h 160) (aBody (xS A)) (aTr (xS A)) := k.1.2.2.2.2.1
  have eB : h 160 285 = nI (aBox (xS A)) := k.1.2.2.2.2.2.2.2
  have f0 : jfr fMs h (jput h 159 0 0) := jfr.rf.put rfl
  have zo : (z = 0 ↔ o = false) := by subst hz; cases o <;> decide
  have out : ∀ {e : Nat} {h' : jH}, jfr fMs h h' → h' 159 0 = nI (e + 1) → oProve A i o = (e + 1, 0, A) → WP mX12_prove (mQ sc (oProve A i o) h) 42 [some (.ref 159), some (.int i), some (.int z), none] [] (jG0 sc) h' (0, 0) := fun f f0 o => by
    refine bX12_prove_42 ?_
    rw [o]
    exact mQ_qx k f f0
  have e63 : jput h 159 0 0 160 653 = 0 ↔ aLaw (xS A) = [] := hl.nil okl
  refine jM_of rfl (Nat.le_of_ble_eq_true rfl) (by decide +kernel) rfl (bX12_prove_0 (tX12_noAlive (m := (aKept A).length) (by omega) hT.1) (fun _ _ q => by rw [← q.2, q.1]; exact tX12_throwsIf rfl) ?_ ?_)
  · rintro _ _ ⟨rfl, rfl⟩ _ _ q c
    have q := (throws_go (h0 := h) q).2 c
    rw [q.2]
    exact out (e := 0) (f0.put rfl) (by simp [jput]; rfl) (by rw [oProve, sIf_f q.1])
  · rintro _ _ ⟨rfl, rfl⟩ _ _ q c
    have q := (throws_go (h0 := h) q).1 c
    have q1 := Classical.not_not.mp q.1
    rw [q.2]
    refine bX12_prove_18 (fun c2 => bX12_prove_34 (bX12_prove_35 tX12_throws0 ?_ ?_)) (fun c2 => bX12_prove_30 (bX12_prove_35 tX12_throws1 ?_ ?_))
    · rintro _ _ ⟨rfl, rfl⟩ -
      have ln : aLaw (xS A) ≠ [] := fun q => c2 (e63.mpr q)
      rw [oProve, sIf_t q1, sIf_f ln]
      refine bX12_prove_44 (P1 := fun h' => isML h' (aBody (xS A)) ∧ jfr fMs h h' ∧ h' 159 0 = 0) (jM_void (tX12_listed hp hs) (fun h' y => ⟨y.1, f0.tr2 (y.2.mono rfl), (y.2 159 0 rfl).trans rfl⟩)) (P2 := fun r h' => r = sProveV (sShape (aBody (xS A)) ((aKept A).getD i.toNatClampNeg 0)) (aLaw (xS A)) (aBox (xS A)) false ∧ h' 159 28 = sProveV (sShape (aBody (xS A)) ((aKept A).getD i.toNatClampNeg 0)) (aLaw (xS A)) (aBox (xS A)) true ∧ jfr fMs h h' ∧ h' 159 0 = 0) (fun h1 y => by
        have e160 : h1 160 = h 160 := y.2.1.cell (fun _ => rfl)
        exact jM_int (tX12_broken (b := aBox (xS A)) ok y.1 (by rw [e160]; exact hT) q1 (by rw [e160]; exact hl) okl ln h15 (by rw [e160]; exact eB)) (fun r h' w => ⟨w.1, w.2.2.1, y.2.1.tr2 (w.2.2.2.mono rfl), (w.2.2.2 159 0 rfl).trans y.2.2⟩)) (fun h1 y x2 h2 w c3 => bX12_prove_65 (bX12_prove_66 ?_)) (fun h1 y x2 h2 w c3 => bX12_prove_58 (bX12_prove_66 ?_))
      · rw [zo] at c3
        subst c3
        rw [w.1]
        exact mQ_q k w.2.2.1 w.2.2.2
      · rw [zo] at c3
        have ot : o = true := by cases o <;> simp_all
        subst ot
        rw [w.2.1]
        exact mQ_q k w.2.2.1 w.2.2.2
    · rintro _ _ ⟨rfl, -⟩ c; exact absurd rfl c
    · rintro _ _ ⟨rfl, -⟩ c; exact absurd c (by decide)
    · rintro _ _ ⟨rfl, rfl⟩ -
      exact out (e := 1) (f0.put rfl) (by simp [jput]; rfl) (by rw [oProve, sIf_t q1, sIf_t (e63.mp c2)])
/-! bar -/
noncomputable def tCutB (T : aT) (P : Nat → Prop) (i : Nat) : aT := uKept T (sCut P (tKept T) i)
theorem tCutB_ok {i : Nat} (ok : sTrOk p T) : sTrOk p (tCutB T P i) := ⟨Nat.le_trans sCut_len ok.1, fun k hk => ok.2.1 k (sCut_mem hk), ok.2.2.1, ok.2.2.2⟩
theorem mmBar (ok : aOk n A) (k : RM h A) : JM mX12_bar [.ref 159] (jG0 sc) h (mQ sc (oBar A) h) := by
  have h15 : aBox (xS A) ≤ 15 := ok.1.2.2.2.2.2.2.2
  have h30 : (aKept A).length ≤ 30 := ok.1.2.2.2.2.1.1
  have h8 : (aRws A).length ≤ 8 := ok.1.2.2.2.2.1.2.2.2
  have okl := ok.1.2.2.2.1
  have hs := ok.1.1
  have hp : isMP (h 160) 0 (aBody (xS A)) := k.1.1
  have hl : isMLaw (h 160) (aLaw (xS A)) := k.1.2.2.2.1
  have hT : isMTries (h 160) (aBody (xS A)) (aTr (xS A)) := k.1.2.2.2.2.1
  have eB : h 160 285 = nI (aBox (xS A)) := k.1.2.2.2.2.2.2.2
  have f0 : jfr fMs h (jput h 159 0 0) := jfr.rf.put rfl
  have e63 : jput h 159 0 0 160 653 = 0 ↔ aLaw (xS A) = [] := hl.nil okl
  refine jM_of rfl (Nat.le_of_ble_eq_true rfl) (by decide +kernel) rfl (bX12_bar_0 (fun c2 => bX12_bar_21 (bX12_bar_22 tX12_throws0 ?_ ?_)) (fun c2 => bX12_bar_17 (bX12_bar_22 tX12_throws1 ?_ ?_)))
  · rintro _ _ ⟨rfl, rfl⟩ -
    have ln : aLaw (xS A) ≠ [] := fun q => c2 (e63.mpr q)
    rw [oBar, sIf_f ln]
    generalize hP : sHoldsAll A = P
    refine bX12_bar_31 (P1 := fun h' => isML h' (aBody (xS A)) ∧ jfr fMs h h' ∧ h' 159 0 = 0) (jM_void (tX12_listed hp hs) (fun h' y => ⟨y.1, f0.tr2 (y.2.mono rfl), (y.2 159 0 rfl).trans rfl⟩)) (fun h0 y0 => ?_)
    obtain ⟨l0, g0, z0⟩ := y0
    have b160 : h0 160 = h 160 := g0.cell (fun _ => rfl)
    have e1 : h0 160 163 = nI (aKept A).length := by rw [b160]; exact hT.1
    rw [e1]
    have goal : ∀ i, i ≤ (aKept A).length → ∀ (h1 : jH) (g : Nat), jfr ([(166, 169)], [(159, 19, 21), (159, 28, 28), (160, 163, 253)]) h0 h1 → isMTries (h1 160) (aBody (xS A)) (tCutB (aTr (xS A)) P i) → g = (aKept A).length - (sCut P (aKept A) i).length →
        WP mX12_bar (mQ sc ((0, nI ((aKept A).length - (sFilt P (aKept A)).length), uS A (uTr (xS A) (tBar (aTr (xS A)) P))) : aO) h) 48 [some (.ref 159), some (.int (nI g)), some (.int (nI i - 1))] [] (jG0 sc) h1 (0, 0) := by
      intro i
      induction i with
      | zero =>
        intro _ h1 g f t eg
        refine bX12_bar_48 (fun _ => bX12_bar_77 ?_) (fun c => absurd (by decide) c)
        have es : sCut P (aKept A) 0 = sFilt P (aKept A) := rfl
        rw [es] at eg
        rw [← eg]
        have f3 : jfr ([(163, 178)], [(159, 0, 2), (159, 4, 4), (159, 6, 9), (159, 11, 40), (160, 162, 253)]) h (jput h1 160 162 (h1 160 162 + nI g)) := ((g0.mono rfl).tr2 (f.mono rfl)).put rfl
        refine jint_i ⟨fun _ => rfl, ((f 159 0 rfl).trans z0), ⟨rM_tries k.1 ok.1 (fun j hj => f3 160 j (by rw [jin_f]; simp; omega)) ?_, k.2.1.eq (f3 159 3 rfl) (f3.cell (fun _ => rfl)), k.2.2.1.eq (f3 159 5 rfl) (f3.cell (fun _ => rfl)), (f3 159 10 rfl).trans k.2.2.2⟩, fM.of f3 ⟨rfl, rfl⟩⟩
        obtain ⟨t1, t2, t3, t4, t5, t6, t7, t8⟩ := t
        have off : ∀ {u : Int32} j, j ≠ 162 → jput h1 160 162 u 160 j = h1 160 j := fun j hj => jput_sl hj
        have l30 := sFilt_len (P := P) (l := aKept A)
        refine ⟨(off _ (by omega)).trans t1, fun j hj => ?_, (off _ (by omega)).trans t3, (off _ (by omega)).trans t4, (off _ (by omega)).trans t5, ?_, (off _ (by omega)).trans t7, fun j hj => ?_⟩
        · have hj' : j < (sFilt P (aKept A)).length := hj
          rw [off _ (by omega), off _ (by omega), off _ (by omega)]; exact t2 j hj
        · rw [jput_at, t6, eg]; rfl
        · have hj' : j < (aRws A).length := hj
          rw [off _ (by omega), off _ (by omega), off _ (by omega)]; exact t8 j hj
      | succ i ih =>
        intro hi h1 g f t eg
        have ei : nI (i + 1) - 1 = nI i := by rw [nI_succ]; exact Int32.add_sub_cancel _ _
        rw [ei]
        have okS := tCutB_ok (P := P) (i := i + 1) ok.1.2.2.2.2.1
        have okA : aOk n (uS A (uTr (xS A) (tCutB (aTr (xS A)) P (i + 1)))) := okTr ok okS
        obtain ⟨at1, at2⟩ := sCut_at (P := P) (l := aKept A) (show i < (aKept A).length by omega)
        have qi : aIx (nI i) (aKept (uS A (uTr (xS A) (tCutB (aTr (xS A)) P (i + 1))))).length := ⟨i, at2, rfl⟩
        have lA : isML h1 (aBody (xS A)) := l0.fr f rfl (fun _ => rfl) (fun _ => rfl) (fun _ => rfl) (fun _ => rfl)
        have lw : isMLaw (h1 160) (aLaw (xS A)) := by
          have g : ∀ j, 253 < j → h1 160 j = h 160 j := fun j hj => by rw [f 160 j (by rw [jin_f]; simp; omega), b160]
          exact ⟨(g _ (by omega)).trans hl.1, fun j hj => by rw [g _ (by omega), g _ (by omega)]; exact hl.2 j hj⟩
        have br := tX12_broken (sc := sc) (i := nI i) (b := aBox (xS A)) okA lA t qi lw okl ln h15 (by rw [f 160 285 rfl, b160]; exact eB)
        rw [show (nI i).toNatClampNeg = i from nI_clamp (by omega), show (aKept (uS A (uTr (xS A) (tCutB (aTr (xS A)) P (i + 1))))).getD i 0 = (aKept A).getD i 0 from at1] at br
        have eP : P ((aKept A).getD i 0) ↔ pBox (sBroke (sShape (aBody (xS A)) ((aKept A).getD i 0)) (aLaw (xS A))) k0 (aBox (xS A)) (aBox (xS A) + 1) = none := by rw [← hP]; exact Iff.rfl
        have le1 := sCut_len (P := P) (l := aKept A) (i := i + 1)
        refine bX12_bar_48 (fun c => absurd c (nI_pos (by omega))) (fun _ => bX12_bar_52 br (fun x2 h2 w c => ?_) (fun x2 h2 w c => ?_))
        · have w2 := w.2.1
          have w4 : jfr fBroken h1 h2 := w.2.2.2
          have nP : ¬ P ((aKept A).getD i 0) := fun q => c (w2.mpr (eP.mp q))
          have c1 := sCut_f (P := P) (l := aKept A) (show i < (aKept A).length by omega) nP
          have len : (sCut P (aKept A) i).length = (sCut P (aKept A) (i + 1)).length - 1 := by rw [c1, List.length_eraseIdx_of_lt at2]
          refine bX12_bar_63 (P1 := fun h' => isMTries (h' 160) (aBody (xS A)) (uKept (tCutB (aTr (xS A)) P (i + 1)) ((sCut P (aKept A) (i + 1)).eraseIdx i)) ∧ jfr ([(166, 169)], [(159, 19, 21), (159, 28, 28), (160, 163, 253)]) h0 h') (jM_void (tX12_putsOut (T := tCutB (aTr (xS A)) P (i + 1)) (by rw [w4.cell (k := 160) (fun _ => rfl)]; exact t) at2 okS.1 h8) (fun h' z => ⟨z.1, f.tr2 ((w4.mono rfl).tr2 (z.2.mono rfl))⟩)) (fun h4 z => bX12_bar_71 ?_)
          rw [show nI i + -1 = nI i - 1 by rw [Int32.sub_eq_add_neg], ← nI_succ]
          refine ih (by omega) h4 (g + 1) z.2 ?_ (by omega)
          have : tCutB (aTr (xS A)) P i = uKept (tCutB (aTr (xS A)) P (i + 1)) ((sCut P (aKept A) (i + 1)).eraseIdx i) := by rw [← c1]; rfl
          rw [this]; exact z.1
        · have w4 : jfr fBroken h1 h2 := w.2.2.2
          have yP : P ((aKept A).getD i 0) := eP.mpr (w.2.1.mp c)
          have c1 := sCut_t (P := P) (l := aKept A) (show i < (aKept A).length by omega) yP
          refine bX12_bar_60 (bX12_bar_71 ?_)
          rw [show nI i + -1 = nI i - 1 by rw [Int32.sub_eq_add_neg]]
          refine ih (by omega) h2 g (f.tr2 (w4.mono rfl)) ?_ (by rw [c1]; exact eg)
          have : tCutB (aTr (xS A)) P i = tCutB (aTr (xS A)) P (i + 1) := by unfold tCutB; rw [show sCut P (tKept (aTr (xS A))) i = sCut P (tKept (aTr (xS A))) (i + 1) from c1]
          rw [this, w4.cell (k := 160) (fun _ => rfl)]; exact t
    refine goal (aKept A).length (Nat.le_refl _) h0 0 jfr.rf ?_ (by rw [show sCut P (aKept A) (aKept A).length = aKept A from sCut_all]; omega)
    have : tCutB (aTr (xS A)) P (aKept A).length = aTr (xS A) := by
      unfold tCutB
      rw [show sCut P (tKept (aTr (xS A))) (aKept A).length = tKept (aTr (xS A)) from sCut_all]; rfl
    rw [this, b160]; exact hT
  · rintro _ _ ⟨rfl, -⟩ c; exact absurd rfl c
  · rintro _ _ ⟨rfl, -⟩ c; exact absurd c (by decide)
  · rintro _ _ ⟨rfl, rfl⟩ -
    refine bX12_bar_29 ?_
    rw [oBar, sIf_t (e63.mp c2)]
    exact mQ_qx k (f0.put rfl) (by simp [jput]; rfl)
end PRM
