/-! Operation law. -/
section OLW
variable {sc : Nat × (Nat → Int32)} {h h0 : jH} {T : List Int32} {A : aA} {n e : Nat} {ls : List Int32} {s : Int32}
def uLaw (S : aS) (ls : List Int32) : aS := (aBody S, aSecond S, aRuns S, ls, aTr S, aTaught S, aMade S, aBox S)
noncomputable def oLaw (A : aA) : aO := match lText (xT A) with
  | .inl e => (1, 0, (xS A, xI A, [], nI e))
  | .inr ls => (0, 1, (uLaw (xS A) ls, xI A, [], -1))
theorem oLaw_l (e1 : lText (xT A) = .inl e) : oLaw A = (1, 0, (xS A, xI A, [], nI e)) := by unfold oLaw; rw [e1]
theorem oLaw_r (e1 : lText (xT A) = .inr ls) : oLaw A = (0, 1, (uLaw (xS A) ls, xI A, [], -1)) := by unfold oLaw; rw [e1]
theorem okLaw (ok : aOk n A) : aOk n (oLaw A).2.2 := by
  cases e1 : lText (xT A) with
  | inl e => rw [oLaw_l e1]; exact okNoTape ok ok.1
  | inr ls =>
    rw [oLaw_r e1]
    exact okNoTape ok ⟨ok.1.1, ok.1.2.1, ok.1.2.2.1, (ok_law ok.2.2.1 e1).1, ok.1.2.2.2.2⟩
theorem RC_law {h' : jH} (k : RC h A) (ok : aOk n A) (f : jfr ([(5, 5), (8, 8), (19, 19)], [(0, 1, 1), (1, 1, 5), (4, 1, 1), (7, 1, 1), (18, 1, 1)]) h h') (hp : isLaw h' 18 ls) (ht : h' 1 1 = 0) {x : Int32} (hx : h' 0 1 = x) : RC h' (uLaw (xS A) ls, xI A, [], x) := by
  obtain ⟨k1, k2, k3, k4, k5, k6, k7, k8⟩ := k.1
  exact ⟨⟨k1.fr f rfl (fun _ => rfl), k2.fr f rfl (fun _ => rfl), k3.fr f rfl (fun _ => rfl) (fun _ => rfl) (fun _ => rfl), hp, k5.fr f rfl rfl rfl rfl rfl rfl (fun _ => rfl) (fun _ => rfl) (fun _ => rfl) (fun _ => rfl), fun i hi => (f 25 i rfl).trans (k6 i hi), k7.fr f ok.1.2.2.2.2.2.2.1.1 rfl (g_made ⟨rfl, rfl⟩), (f 9 8 rfl).trans k8⟩,
    k.2.1.eq (f 0 6 rfl) (k.img ok (g_img f ⟨rfl, rfl⟩)), ⟨ht, fun i hi => absurd hi (Nat.not_lt_zero _)⟩, hx, (f 69 5 rfl).trans k.2.2.2.2.1, k.2.2.2.2.2.fr75 f ⟨rfl, rfl⟩⟩
theorem ccLaw (ok : aOk n A) (k : RC h A) : JM mX11_law [.ref 0] (jG0 sc) h (cQ sc ["java/lang/IllegalArgumentException"] (oLaw A) h) := by
  have h400 := ok.2.2.1
  have a18 : jI1 18 := by unfold jI1; decide
  have a7 : jI1 7 := by unfold jI1; decide
  have rd := tX2_wrongIn (sc := sc) k.2.2.1 h400
  cases e1 : lText (xT A) with
  | inl e =>
    rw [oLaw_l e1]
    rw [e1] at rd
    have no : ∀ x1 h1, cWL h (xT A) (.inl e) x1 h1 → ¬ jput (jput h1 0 1 x1) 1 1 0 0 1 = -1 := fun x1 h1 z c => no_m1 (e := e) (by have := z.2.2.2; omega) (z.2.2.1.symm.trans c)
    refine jM_of rfl (Nat.le_of_ble_eq_true rfl) (by decide +kernel) rfl (rX11_law_0 rd (P2 := fun _ => True) ?_ ?_ ?_)
    · rintro x1 h1 z c; exact absurd c (no _ _ z)
    · rintro x1 h1 z c; exact absurd c (no _ _ z)
    · rintro x1 h1 z -
      have f : jfr fBd h (jput (jput h1 0 1 x1) 1 1 0) := ((z.2.1.mono rfl).put rfl).put rfl
      refine cQ_x rfl (RC_tape k ok (f.mono rfl) ⟨jput_at, fun i hi => absurd hi (Nat.not_lt_zero _)⟩ ?_) (fC.of f ⟨rfl, rfl⟩)
      show jput h1 0 1 x1 0 1 = nI e
      exact jput_at.trans z.2.2.1
  | inr ls =>
    rw [e1] at rd
    have hs := (ok_law h400 e1).1
    rw [oLaw_r e1]
    refine jM_of rfl (Nat.le_of_ble_eq_true rfl) (by decide +kernel) rfl (rX11_law_0 rd
      (P2 := fun h' => isLaw h' 18 ls ∧ h' 1 1 = 0 ∧ h' 0 1 = -1 ∧ jfr ([(5, 5), (8, 8), (19, 19)], [(0, 1, 1), (1, 1, 5), (4, 1, 1), (7, 1, 1), (18, 1, 1)]) h h') ?_ ?_ ?_)
    · rintro x1 h1 ⟨-, f, rfl, hp⟩ -
      have f1 : jfr fBd h (jput (jput h1 0 1 (-1)) 1 1 0) := ((f.mono rfl).put rfl).put rfl
      have hp1 : isLaw (jput (jput h1 0 1 (-1)) 1 1 0) 7 ls := hp.fr (F := ([], [(0, 1, 1), (1, 1, 1)])) ((jfr.rf.put rfl).put rfl) rfl (fun _ => rfl)
      refine jM_void (tX1_copyOf a18 a7 hp1 hs.2.2.1 (by omega)) (fun h' y => ?_)
      have g : jfr ([(19, 19)], [(18, 1, 1)]) _ h' := y.2
      exact ⟨y.1, (g 1 1 rfl).trans rfl, (g 0 1 rfl).trans rfl, (f1.mono rfl).tr2 (g.mono rfl)⟩
    · rintro x1 h1 - - h2 ⟨p1, t, x, f⟩
      exact cQ_v (RC_law k ok f p1 t x) (fC.of f ⟨rfl, rfl⟩)
    · rintro x1 h1 ⟨-, -, rfl, -⟩ c; exact absurd rfl c
theorem rM_law {w w' : Nat → Int32} {S : aS} (k : rM w S) (ok : sStOk n S) (e : ∀ j, j < 653 → w' j = w j) (hp : isMLaw w' ls) : rM w' (uLaw S ls) := by
  obtain ⟨k1, k2, k3, k4, k5, k6, k7, k8⟩ := k
  refine ⟨k1.cp (fun j hj => e _ (by omega)), k2.cp (fun j hj => e _ (by omega)), ⟨(e _ (by omega)).trans k3.1, fun i hi => ?_⟩, hp, k5.eqw (fun j a b => e j (by omega)) ok.2.2.2.2.1.1 ok.2.2.2.2.1.2.2.2, fun i hi => (e _ (by omega)).trans (k6 i hi), ⟨(e _ (by omega)).trans k7.1, fun i hi => ?_⟩, (e _ (by omega)).trans k8⟩
  · have hi' : i < (aRuns S).length := hi
    have := ok.2.2.1.1
    rw [e _ (by omega), e _ (by omega), e _ (by omega)]; exact k3.2 i hi
  · have hi' : i < (aMade S).length := hi
    have := ok.2.2.2.2.2.2.1.1
    exact (k7.2 i hi).cp (fun j hj => e _ (by omega))
theorem mmLaw (ok : aOk n A) (k : RM h A) : JM mX12_law [.ref 159] (jG0 sc) h (mQ sc (oLaw A) h) := by
  have h400 := ok.2.2.1
  refine jM_of rfl (Nat.le_of_ble_eq_true rfl) (by decide +kernel) rfl (bX12_law_0 (P2 := fun x h' => ∃ h1, jfr ([], [(159, 0, 0), (159, 5, 7)]) h h1 ∧ h1 159 5 = 0 ∧ h1 159 0 = 0 ∧ mWL h1 (lText (xT A)) x h') (mUses ok k) ?_ ?_ ?_)
  · rintro h1 ⟨u1, u2, u3, u4, u5, f1⟩
    have m : ms (jfr fLm h1) (xT A) 0 h1 := ⟨u1, h400, ok.2.2.2, u2, u3, Nat.zero_le _, fun x y f k => k.tr2 (f.mono rfl), jfr.rf⟩
    exact jM_int (mLawR m) (fun x h' z => ⟨h1, f1, u4, u5, z⟩)
  · rintro h1 - x2 h2 ⟨h1', f1, u4, u5, z⟩ c
    cases e1 : lText (xT A) with
    | inr p => rw [e1] at z; exact absurd (z.1.symm.trans c) (by decide)
    | inl e =>
      rw [e1] at z
      rw [oLaw_l e1]
      obtain ⟨rfl, eb, f2⟩ := z
      have f3 : jfr ([(163, 178)], [(159, 0, 0), (159, 5, 10), (159, 13, 13)]) h (jput h2 159 10 (h2 159 8)) := ((f1.mono rfl).tr2 (f2.mono rfl)).put rfl
      refine bX12_law_18 (bX12_law_22 (fun c2 => absurd rfl c2) (fun _ => bX12_law_30 (bX12_law_35 tX12_throws1 ?_ ?_)))
      · rintro _ _ ⟨rfl, -⟩ c2; exact absurd c2 (by decide)
      · rintro _ _ ⟨-, rfl⟩ -
        have f4 : jfr ([(163, 178)], [(159, 0, 0), (159, 5, 10), (159, 13, 13)]) h (jput (jput h2 159 10 (h2 159 8)) 159 0 1) := f3.put rfl
        refine bX12_law_42 (jint_i ⟨fun q => absurd q Nat.one_ne_zero, rfl, ⟨by rw [f4.cell (k := 160) (fun _ => rfl)]; exact k.1, k.2.1.eq (f4 159 3 rfl) (f4.cell (fun _ => rfl)), ⟨?_, fun i hi => absurd hi (Nat.not_lt_zero _)⟩, ?_⟩, fM.of f4 ⟨rfl, rfl⟩⟩)
        · exact (f2 159 5 rfl).trans u4
        · exact eb
  · rintro h1 - x2 h2 ⟨h1', f1, u4, u5, z⟩ c
    cases e1 : lText (xT A) with
    | inl e => rw [e1] at z; exact absurd z.1 c
    | inr ls =>
      rw [e1] at z
      rw [oLaw_r e1]
      obtain ⟨rfl, st, rows, dp, f2⟩ := z
      have hs := (ok_law h400 e1).1
      have hl := hs.2.2.2
      have f3 : jfr ([(163, 178)], [(159, 0, 0), (159, 5, 10), (159, 13, 13)]) h (jput h2 159 10 (-1)) := ((f1.mono rfl).tr2 (f2.mono rfl)).put rfl
      refine bX12_law_14 (bX12_law_22 (fun _ => bX12_law_34 (bX12_law_35 tX12_throws0 ?_ ?_)) (fun c2 => absurd c2 (by decide)))
      · rintro _ _ ⟨-, rfl⟩ -
        refine bX12_law_44 ?_
        have e13 : jput h2 159 10 (-1) 159 13 = nI (sAllSteps ls).length := st
        rw [e13]
        have s0 : jput (jput h2 159 10 (-1)) 160 653 (nI (sAllSteps ls).length) 160 653 = nI (sAllSteps ls).length := jput_at
        have r0 : ∀ j, jput (jput h2 159 10 (-1)) 160 653 (nI (sAllSteps ls).length) 165 j = h2 165 j := fun j => rfl
        have e10 : jput (jput h2 159 10 (-1)) 160 653 (nI (sAllSteps ls).length) 159 10 = -1 := rfl
        have e0 : jput (jput h2 159 10 (-1)) 160 653 (nI (sAllSteps ls).length) 159 0 = 0 := (f2 159 0 rfl).trans u5
        have e5 : jput (jput h2 159 10 (-1)) 160 653 (nI (sAllSteps ls).length) 159 5 = 0 := (f2 159 5 rfl).trans u4
        have f4 : jfr ([(163, 178)], [(159, 0, 0), (159, 5, 10), (159, 13, 13), (160, 653, 653)]) h (jput (jput h2 159 10 (-1)) 160 653 (nI (sAllSteps ls).length)) := (f3.mono rfl).put rfl
        generalize jput (jput h2 159 10 (-1)) 160 653 (nI (sAllSteps ls).length) = h4 at *
        refine jloop (fun i (h6 : jH) => WP mX12_law _ 58 [some (.ref 159), some (.int 1), some (.int (nI i))] [] (jG0 sc) h6 (0, 0))
          (fun i h6 => jfr ([], [(160, 654, 1453)]) h4 h6 ∧ ∀ j, j < i → h6 160 (654 + j) = h4 165 j) 800 ?_ ?_ 0 h4 (by omega) ⟨jfr.rf, fun j hj => absurd hj (Nat.not_lt_zero _)⟩
        · rintro h6 ⟨f6, i6⟩
          refine bX12_law_58 (fun _ => bX12_law_87 ?_) (fun c => absurd (by decide) c)
          have f7 : jfr ([(163, 178)], [(159, 0, 0), (159, 5, 10), (159, 13, 13), (160, 653, 1453)]) h h6 := (f4.mono rfl).tr2 (f6.mono rfl)
          have o9 : ∀ j, h6 159 j = h4 159 j := fun j => f6 159 j (by rw [jin_f]; simp)
          refine jint_i ⟨fun _ => rfl, (o9 0).trans e0, ⟨?_, k.2.1.eq (f7 159 3 rfl) (f7.cell (fun _ => rfl)), ⟨(o9 5).trans e5, fun i hi => absurd hi (Nat.not_lt_zero _)⟩, (o9 10).trans e10⟩, fM.of f7 ⟨rfl, rfl⟩⟩
          refine rM_law (w := h 160) k.1 ok.1 (fun j hj => f7 160 j (by rw [jin_f]; simp; omega)) ⟨(f6 160 653 rfl).trans s0, fun i hi => ?_⟩
          rw [i6 (2 * i) (by omega), show 654 + 2 * i + 1 = 654 + (2 * i + 1) by omega, i6 (2 * i + 1) (by omega), r0, r0]
          exact rows i hi
        · rintro i h6 hi ⟨f6, i6⟩ kk
          refine bX12_law_58 (fun c => absurd ((jn_le (a := 800) (by decide) (by omega)).mp c) (by omega)) (fun _ => bX12_law_65 (vp_in_nI hi (by decide)) ?_ ?_)
          · rw [show (654 : Int32) = nI 654 from rfl, nI_add]; exact vp_in_nI (by omega) (by decide)
          · rw [show (654 : Int32) = nI 654 from rfl, nI_add, nI_clamp (by omega), nI_clamp (by omega), f6.cell (k := 165) (fun j => by rw [jin_f]; simp), ← nI_succ]
            refine kk _ ⟨f6.put (by rw [jin_iff]; simp; omega), fun j hj => ?_⟩
            by_cases z : j = i
            · subst z; exact jput_at
            · rw [jput_sl (by omega)]; exact i6 j (by omega)
      · rintro _ _ ⟨rfl, -⟩ c2; exact absurd rfl c2
end OLW
