/-! Operation run: the reference. -/
section OP16
variable {sc : Nat × (Nat → Int32)} {h : jH} {A : aA} {n : Nat} {p q : List Int32} {rs : List aRun} {T : aT} {P : Nat → Prop}
theorem rM_run {w w' : Nat → Int32} {S : aS} {r : aRun} (k : rM w S) (ok : sStOk n S) (e : ∀ i, i < 122 ∨ 278 < i → w' i = w i) (hr : isMRuns w' (aRuns S ++ [r])) (ht : isMTries w' (aBody S) T) : rM w' (uRun S r T) := by
  obtain ⟨k1, k2, k3, k4, k5, k6, k7, k8⟩ := k
  have hp : ∀ {c : Nat} {q : List Int32}, isMP w c q → (c + 60 < 122 ∨ 278 < c) → isMP w' c q := fun {c q} z hc => by
    have := z.2.1
    exact ⟨(e _ (by omega)).trans z.1, z.2.1, fun i hi a ha => (e _ (by omega)).trans (z.2.2 i hi a ha)⟩
  refine ⟨hp k1 (by omega), hp k2 (by omega), hr, ⟨(e _ (by omega)).trans k4.1, fun i hi => ?_⟩, ht, fun i hi => (e _ (by omega)).trans (k6 i hi), ⟨(e _ (by omega)).trans k7.1, fun i hi => hp (k7.2 i hi) (by omega)⟩, (e _ (by omega)).trans k8⟩
  rw [e _ (by omega), e _ (by omega)]; exact k4.2 i hi
/-- kept ones sieved from i on; c counts in pleased -/
noncomputable def tSieve (T : aT) (P : Nat → Prop) (i : Nat) : aT := uPl (uKept T (sCut P (tKept T) i)) (tPleased T + nI ((tKept T).length - (sCut P (tKept T) i).length))
theorem sTrOk_cut {ks : List Nat} {x : Int32} (ok : sTrOk p T) (h1 : ks.length ≤ 30) (h2 : ∀ k ∈ ks, k ∈ tKept T) : sTrOk p (uPl (uKept T ks) x) := ⟨h1, fun k hk => ok.2.1 k (h2 k hk), ok.2.2.1, ok.2.2.2⟩
theorem tSieve_ok {i : Nat} (ok : sTrOk p T) : sTrOk p (tSieve T P i) := sTrOk_cut ok (Nat.le_trans sCut_len ok.1) (fun k hk => sCut_mem hk)
abbrev fPut : jF := ([(167, 169)], [(159, 19, 21), (160, 161, 161), (160, 163, 253)])
theorem mmRun {x y d : Int32} (ok : aOk n A) (k : RM h A) : JM mX12_run [.ref 159, .int x, .int y, .int d] (jG0 sc) h (mQ sc (oRun A x y d) h) := by
  have h12 := ok.1.2.2.1.1
  have h30 : (aKept A).length ≤ 30 := ok.1.2.2.2.2.1.1
  have h8 : (aRws A).length ≤ 8 := ok.1.2.2.2.2.1.2.2.2
  have hr : isMRuns (h 160) (aRuns (xS A)) := k.1.2.2.1
  have hp : isMP (h 160) 0 (aBody (xS A)) := k.1.1
  have hs := ok.1.1
  have hT : isMTries (h 160) (aBody (xS A)) (aTr (xS A)) := k.1.2.2.2.2.1
  have e122 : h 160 122 = nI (aRuns (xS A)).length := hr.1
  have out : ∀ {e : Nat} {h' : jH}, jfr fMs h h' → h' 159 0 = nI (e + 1) → oRun A x y d = (e + 1, 0, A) → WP mX12_run (mQ sc (oRun A x y d) h) 75 [some (.ref 159), some (.int x), some (.int y), some (.int d), none, none] [] (jG0 sc) h' (0, 0) := fun f f0 o => by
    refine bX12_run_75 ?_
    rw [o]
    exact mQ_qx k f f0
  generalize hR : (aRuns (xS A)).length = R at *
  generalize hP : sPleases (aBody (xS A)) (x, y, d) = P
  -- kept ones put out
  have put : ∀ (h0 : jH), aRunOk x y d → R < 12 → isML h0 (aBody (xS A)) → isMRuns (h0 160) (aRuns (xS A) ++ [(x, y, d)]) → isMTries (h0 160) (aBody (xS A)) (aTr (xS A)) → h0 159 0 = 0 →
      jfr ([(163, 178)], [(159, 0, 2), (159, 4, 4), (159, 6, 9), (159, 11, 40), (160, 122, 158)]) h h0 →
      WP mX12_run (mQ sc (oRun A x y d) h) 156 [some (.ref 159), some (.int x), some (.int y), some (.int d), some (.int (nI R)), some (.int (h0 160 163 - 1))] [] (jG0 sc) h0 (0, 0) := by
    intro h0 q1 q2 l0 r0 t0 z0 f0
    have eo : oRun A x y d = (0, nI R, uS A (uRun (xS A) (x, y, d) (tPut (aTr (xS A)) P))) := by rw [oRun, sIf_t q1, sIf_f (by omega), hR, hP]
    rw [eo]
    have e63 : h0 160 163 = nI (aKept A).length := t0.1
    rw [e63]
    have okr := aRunOk_ok q1
    have goal : ∀ i, i ≤ (aKept A).length → ∀ h1, jfr fPut h0 h1 → isMTries (h1 160) (aBody (xS A)) (tSieve (aTr (xS A)) P i) → WP mX12_run (mQ sc ((0, nI R, uS A (uRun (xS A) (x, y, d) (tPut (aTr (xS A)) P))) : aO) h) 156 [some (.ref 159), some (.int x), some (.int y), some (.int d), some (.int (nI R)), some (.int (nI i - 1))] [] (jG0 sc) h1 (0, 0) := by
      intro i
      induction i with
      | zero =>
        intro _ h1 f t
        refine bX12_run_156 (fun _ => bX12_run_203 ?_) (fun c => absurd (by decide) c)
        have et : tSieve (aTr (xS A)) P 0 = tPut (aTr (xS A)) P := rfl
        rw [et] at t
        have rr : isMRuns (h1 160) (aRuns (xS A) ++ [(x, y, d)]) := by
          have g : ∀ j, j < 159 → h1 160 j = h0 160 j := fun j hj => f 160 j (by rw [jin_f]; simp; omega)
          have hl : (aRuns (xS A) ++ [(x, y, d)]).length ≤ 12 := by rw [List.length_append, List.length_singleton]; omega
          refine ⟨(g _ (by omega)).trans r0.1, fun j hj => ?_⟩
          rw [g _ (by omega), g _ (by omega), g _ (by omega)]; exact r0.2 j hj
        have f3 : jfr ([(163, 178)], [(159, 0, 2), (159, 4, 4), (159, 6, 9), (159, 11, 40), (160, 122, 278)]) h h1 := (f0.mono rfl).tr2 (f.mono rfl)
        refine jint_i ⟨fun _ => rfl, (f 159 0 rfl).trans z0, ⟨rM_run k.1 ok.1 (fun j hj => f3 160 j (by rw [jin_f]; simp; omega)) rr t, k.2.1.eq (f3 159 3 rfl) (f3.cell (fun _ => rfl)), k.2.2.1.eq (f3 159 5 rfl) (f3.cell (fun _ => rfl)), (f3 159 10 rfl).trans k.2.2.2⟩, fM.of f3 ⟨rfl, rfl⟩⟩
      | succ i ih =>
        intro hi h1 f t
        have ei : nI (i + 1) - 1 = nI i := by rw [nI_succ]; exact Int32.add_sub_cancel _ _
        rw [ei]
        have okS := tSieve_ok (P := P) (i := i + 1) ok.1.2.2.2.2.1
        have okA : aOk n (uS A (uTr (xS A) (tSieve (aTr (xS A)) P (i + 1)))) := okTr ok okS
        obtain ⟨at1, at2⟩ := sCut_at (P := P) (l := aKept A) (show i < (aKept A).length by omega)
        have qi : aIx (nI i) (aKept (uS A (uTr (xS A) (tSieve (aTr (xS A)) P (i + 1))))).length := ⟨i, at2, rfl⟩
        have lA : isML h1 (aBody (xS A)) := l0.fr f rfl (fun _ => rfl) (fun _ => rfl) (fun _ => rfl) (fun _ => rfl)
        have rr : isMRuns (h1 160) (aRuns (xS A) ++ [(x, y, d)]) := by
          have g : ∀ j, j < 159 → h1 160 j = h0 160 j := fun j hj => f 160 j (by rw [jin_f]; simp; omega)
          have hl : (aRuns (xS A) ++ [(x, y, d)]).length ≤ 12 := by rw [List.length_append, List.length_singleton]; omega
          refine ⟨(g _ (by omega)).trans r0.1, fun j hj => ?_⟩
          rw [g _ (by omega), g _ (by omega), g _ (by omega)]; exact r0.2 j hj
        have lay := tX12_laysAlive (sc := sc) (i := nI i) okA lA t qi
        rw [show (nI i).toNatClampNeg = i from nI_clamp (by omega), show (aKept (uS A (uTr (xS A) (tSieve (aTr (xS A)) P (i + 1))))).getD i 0 = (aKept A).getD i 0 from at1] at lay
        have hl : (aRuns (xS A) ++ [(x, y, d)]).length ≤ 12 := by rw [List.length_append, List.length_singleton]; omega
        have eR : (aRuns (xS A) ++ [(x, y, d)]).getD R aRun0 = (x, y, d) := by rw [getD_ap1, if_neg (by omega), if_pos hR.symm]
        have eP : sRightAt (sShape (aBody (xS A)) ((aKept A).getD i 0)) (aRuns (xS A) ++ [(x, y, d)]) R ↔ P ((aKept A).getD i 0) := by unfold sRightAt; rw [eR, ← hP]; exact Iff.rfl
        refine bX12_run_156 (fun c => absurd c (nI_pos (by omega))) (fun _ => bX12_run_161 (P1 := fun h' => isMP (h' 167) 0 (sShape (aBody (xS A)) ((aKept A).getD i 0)) ∧ jfr fPut h0 h' ∧ h' 160 = h1 160) (jM_void lay (fun h' z => ⟨z.1, f.tr2 (z.2.mono rfl), z.2.cell (fun _ => rfl)⟩))
          (P2 := fun v h' => v = sB (P ((aKept A).getD i 0)) ∧ jfr fPut h0 h' ∧ h' 160 = h1 160) (fun h2 z => jM_int (tX12_isRight z.1 (sProg_sh hs) (by rw [z.2.2]; exact rr) hl (show R < _ by rw [List.length_append, List.length_singleton]; omega)) (fun v h' yy => ⟨by rw [yy.1, show sB (sRightAt (sShape (aBody (xS A)) ((aKept A).getD i 0)) (aRuns (xS A) ++ [(x, y, d)]) R) = sB (P ((aKept A).getD i 0)) from by rw [eP]], z.2.1.tr2 (yy.2.2.2.mono rfl), (yy.2.2.2.cell (fun _ => rfl)).trans z.2.2⟩)) ?_ ?_)
        · rintro h2 - v h3 ⟨v1, v2, v3⟩ c
          rw [v1, sB_eq] at c
          have c1 := sCut_f (P := P) (l := aKept A) (show i < (aKept A).length by omega) c
          refine bX12_run_179 (P1 := fun h' => isMTries (h' 160) (aBody (xS A)) (uKept (tSieve (aTr (xS A)) P (i + 1)) ((sCut P (aKept A) (i + 1)).eraseIdx i)) ∧ jfr fPut h0 h') (jM_void (tX12_putsOut (T := tSieve (aTr (xS A)) P (i + 1)) (by rw [v3]; exact t) at2 okS.1 h8) (fun h' z => ⟨z.1, v2.tr2 (z.2.mono rfl)⟩)) (fun h4 z => bX12_run_197 ?_)
          rw [show nI i + -1 = nI i - 1 by rw [Int32.sub_eq_add_neg]]
          refine ih (by omega) _ (z.2.put rfl) ?_
          obtain ⟨⟨g1, g2, g3, g4, g5, g6, g7, g8⟩, -⟩ := z
          have off : ∀ {u : Int32} j, j ≠ 161 → jput h4 160 161 u 160 j = h4 160 j := fun j hj => jput_sl hj
          have len : (sCut P (aKept A) i).length = (sCut P (aKept A) (i + 1)).length - 1 := by rw [c1, List.length_eraseIdx_of_lt at2]
          have le1 := sCut_len (P := P) (l := aKept A) (i := i + 1)
          refine ⟨(off _ (by omega)).trans (by rw [g1]; show nI ((sCut P (aKept A) (i + 1)).eraseIdx i).length = nI (sCut P (aKept A) i).length; rw [c1]), fun j hj => ?_, (off _ (by omega)).trans g3, (off _ (by omega)).trans g4, ?_, (off _ (by omega)).trans g6, (off _ (by omega)).trans g7, fun j hj => ?_⟩
          · have hj' : j < (sCut P (aKept A) i).length := hj
            rw [off _ (by omega), off _ (by omega), off _ (by omega)]
            show _ = nI ((sCut P (aKept A) i).getD j 0) ∧ _ = (sParts _ ((sCut P (aKept A) i).getD j 0)).1 ∧ _ = (sParts _ ((sCut P (aKept A) i).getD j 0)).2
            rw [c1] at hj' ⊢
            exact g2 j hj'
          · rw [jput_at, g5]
            show tPleased (aTr (xS A)) + nI ((aKept A).length - (sCut P (aKept A) (i + 1)).length) + 1 = tPleased (aTr (xS A)) + nI ((aKept A).length - (sCut P (aKept A) i).length)
            rw [Int32.add_assoc, ← nI_succ, len]
            congr 2
            omega
          · have hj' : j < (aRws A).length := hj
            rw [off _ (by omega), off _ (by omega), off _ (by omega)]; exact g8 j hj
        · rintro h2 - v h3 ⟨v1, v2, v3⟩ c
          rw [v1, sB_ne] at c
          refine bX12_run_176 (bX12_run_197 ?_)
          rw [show nI i + -1 = nI i - 1 by rw [Int32.sub_eq_add_neg]]
          refine ih (by omega) _ v2 ?_
          have c1 := sCut_t (P := P) (l := aKept A) (show i < (aKept A).length by omega) c
          have : tSieve (aTr (xS A)) P i = tSieve (aTr (xS A)) P (i + 1) := by unfold tSieve; rw [show sCut P (tKept (aTr (xS A))) i = sCut P (tKept (aTr (xS A))) (i + 1) from c1]
          rw [this, v3]; exact t
    refine goal (aKept A).length (Nat.le_refl _) h0 jfr.rf ?_
    have : tSieve (aTr (xS A)) P (aKept A).length = aTr (xS A) := by
      unfold tSieve
      rw [show sCut P (tKept (aTr (xS A))) (aKept A).length = tKept (aTr (xS A)) from sCut_all, Nat.sub_self]
      show uPl (uKept (aTr (xS A)) _) (tPleased (aTr (xS A)) + 0) = _
      rw [Int32.add_zero]
      rfl
    rw [this]; exact t0
  -- the run is written
  have three : aRunOk x y d → R < 12 → WP mX12_run (mQ sc (oRun A x y d) h) 77 [some (.ref 159), some (.int x), some (.int y), some (.int d), none, none] [] (jG0 sc) (jput h 159 0 0) (0, 0) := fun q1 q2 => by
    have e1 : jput h 159 0 0 160 122 = nI R := e122
    obtain ⟨g0, g1, g2⟩ := mr_ix (i := R) q2
    refine bX12_run_77 (by rw [e1, g0]; exact vp_in_nI (by omega) (by decide)) ?_
    rw [e1, g0, g1, nI_clamp (by omega)]
    refine bX12_run_112 (vp_in_nI (by omega) (by decide)) (by rw [g0, g2]; exact vp_in_nI (by omega) (by decide)) ?_
    rw [g0, g2, nI_clamp (by omega), nI_clamp (by omega)]
    have e2 : jput (jput (jput (jput h 159 0 0) 160 (123 + 3 * R) x) 160 (123 + 3 * R + 1) y) 160 (123 + 3 * R + 2) d 160 122 = nI R := by
      rw [jput_sl (by omega), jput_sl (by omega), jput_sl (by omega)]; exact e122
    rw [e2, ← nI_succ]
    have f1 : jfr ([], [(159, 0, 0), (160, 122, 158)]) h (jput (jput (jput (jput (jput h 159 0 0) 160 (123 + 3 * R) x) 160 (123 + 3 * R + 1) y) 160 (123 + 3 * R + 2) d) 160 122 (nI (R + 1))) := ((((jfr.rf.put rfl).put (by rw [jin_iff]; simp; omega)).put (by rw [jin_iff]; simp; omega)).put (by rw [jin_iff]; simp; omega)).put (by rw [jin_iff]; simp)
    have z1 : jput (jput (jput (jput (jput h 159 0 0) 160 (123 + 3 * R) x) 160 (123 + 3 * R + 1) y) 160 (123 + 3 * R + 2) d) 160 122 (nI (R + 1)) 159 0 = 0 := rfl
    have rr : isMRuns (jput (jput (jput (jput (jput h 159 0 0) 160 (123 + 3 * R) x) 160 (123 + 3 * R + 1) y) 160 (123 + 3 * R + 2) d) 160 122 (nI (R + 1)) 160) (aRuns (xS A) ++ [(x, y, d)]) := by
      refine ⟨by rw [jput_at, List.length_append, List.length_singleton, hR], fun j hj => ?_⟩
      rw [List.length_append, List.length_singleton] at hj
      rw [getD_ap1]
      by_cases w : j = R
      · subst w
        rw [if_neg (by omega), if_pos hR.symm, jput_sl (by omega), jput_sl (by omega), jput_sl (by omega), jput_at, jput_sl (by omega), jput_sl (by omega), jput_at, jput_sl (by omega), jput_at]
        exact ⟨rfl, rfl, rfl⟩
      · rw [if_pos (show j < (aRuns (xS A)).length by omega), jput_sl (by omega), jput_sl (by omega), jput_sl (by omega), jput_sl (by omega), jput_sl (by omega), jput_sl (by omega), jput_sl (by omega), jput_sl (by omega), jput_sl (by omega), jput_sl (by omega), jput_sl (by omega), jput_sl (by omega)]
        exact hr.2 j (by omega)
    generalize jput (jput (jput (jput (jput h 159 0 0) 160 (123 + 3 * R) x) 160 (123 + 3 * R + 1) y) 160 (123 + 3 * R + 2) d) 160 122 (nI (R + 1)) = h1 at *
    have g : ∀ j, j < 122 ∨ 158 < j → h1 160 j = h 160 j := fun j hj => f1 160 j (by rw [jin_f]; simp; omega)
    have hp1 : isMP (h1 160) 0 (aBody (xS A)) := ⟨(g _ (by omega)).trans hp.1, hp.2.1, fun i hi a ha => (g _ (by have := hp.2.1; omega)).trans (hp.2.2 i hi a ha)⟩
    refine bX12_run_141 (tX12_listed hp1 hs) (fun h2 z => ?_)
    have e160 : h2 160 = h1 160 := z.2.cell (fun _ => rfl)
    refine put h2 q1 q2 z.1 (by rw [e160]; exact rr) (by rw [e160]; exact hT.eqw (fun i a b => g i (by omega)) h30 h8) ((z.2 159 0 rfl).trans z1) ((f1.mono rfl).tr2 (z.2.mono rfl))
  have two : aRunOk x y d → WP mX12_run (mQ sc (oRun A x y d) h) 50 [some (.ref 159), some (.int x), some (.int y), some (.int d), none, none] [] (jG0 sc) (jput h 159 0 0) (0, 0) := fun q1 => by
    have e1 : jput h 159 0 0 160 122 = nI R := e122
    refine bX12_run_50 (fun c => ?_) (fun c => ?_)
    · rw [e1, show (12 : Int32) = nI 12 from rfl, jn_eq (by omega) (by decide)] at c
      refine bX12_run_67 (bX12_run_68 tX12_throws0 ?_ ?_)
      · rintro _ _ ⟨rfl, rfl⟩ -; exact three q1 (by omega)
      · rintro _ _ ⟨rfl, -⟩ c; exact absurd rfl c
    · rw [e1, show (12 : Int32) = nI 12 from rfl, jn_eq (by omega) (by decide)] at c
      refine bX12_run_63 (bX12_run_68 tX12_throws1 ?_ ?_)
      · rintro _ _ ⟨rfl, -⟩ c; exact absurd c (by decide)
      · rintro _ _ ⟨rfl, rfl⟩ -
        exact out (e := 1) ((jfr.rf.put rfl).put rfl) (by simp [jput]; rfl) (by rw [oRun, sIf_t q1, sIf_t (by omega)])
  have bad : ¬ aRunOk x y d → WP mX12_run (mQ sc (oRun A x y d) h) 38 [some (.ref 159), some (.int x), some (.int y), some (.int d), none, none] [.ref 159] (jG0 sc) (jput h 159 0 0) (0, 0) := fun q => by
    refine bX12_run_38 (bX12_run_43 tX12_throws1 ?_ ?_)
    · rintro _ _ ⟨rfl, rfl⟩ -
      exact out (e := 0) ((jfr.rf.put rfl).put rfl) (by simp [jput]; rfl) (by rw [oRun, sIf_f q])
    · rintro _ _ ⟨rfl, -⟩ c; exact absurd c (by decide)
  have in15 : ∀ {v : Int32}, (¬ v < 0 ∧ ¬ 15 < v) ↔ aIx v 16 := fun {v} => by rw [← aIx_le1 (n := 15) (by omega), i_nlt (x := 15)]; exact Iff.rfl
  refine jM_of rfl (Nat.le_of_ble_eq_true rfl) (by decide +kernel) rfl (bX12_run_0 tX12_in ?_ ?_)
  · rintro _ _ ⟨rfl, rfl⟩ c
    rw [sB_eq, in15] at c
    exact bad (fun q => c q.1)
  · rintro _ _ ⟨rfl, rfl⟩ c
    rw [sB_ne, in15] at c
    refine bX12_run_16 tX12_in ?_ ?_
    · rintro _ _ ⟨rfl, rfl⟩ c2
      rw [sB_eq, in15] at c2
      exact bad (fun q => c2 q.2.1)
    · rintro _ _ ⟨rfl, rfl⟩ c2
      rw [sB_ne, in15] at c2
      refine bX12_run_26 tX12_in ?_ ?_
      · rintro _ _ ⟨rfl, rfl⟩ c3
        rw [sB_ne] at c3
        refine bX12_run_42 (bX12_run_43 tX12_throws0 ?_ ?_)
        · rintro _ _ ⟨rfl, -⟩ c; exact absurd rfl c
        · rintro _ _ ⟨rfl, rfl⟩ -; exact two ⟨c, c2, c3.1, c3.2⟩
      · rintro _ _ ⟨rfl, rfl⟩ c3
        rw [sB_eq] at c3
        exact bad (fun q => c3 ⟨q.2.2.1, q.2.2.2⟩)
end OP16
