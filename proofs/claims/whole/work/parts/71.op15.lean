/-! Operation run: the class. -/
section OP15
variable {sc : Nat × (Nat → Int32)} {h : jH} {A : aA} {n : Nat} {p q : List Int32} {rs : List aRun} {T : aT} {P : Nat → Prop}
def uRun (S : aS) (r : aRun) (T : aT) : aS := (aBody S, aSecond S, aRuns S ++ [r], aLaw S, T, aTaught S, aMade S, aBox S)
def uPl (T : aT) (x : Int32) : aT := (tKept T, tTried T, tAll T, x, tBarred T, tRows T)
/-- what is put out as one is RIGHT by a run no more -/
noncomputable def tPut (T : aT) (P : Nat → Prop) : aT := uPl (uKept T (sFilt P (tKept T))) (tPleased T + nI ((tKept T).length - (sFilt P (tKept T)).length))
def sPleases (p : List Int32) (r : aRun) (k : Nat) : Prop := sIsRight (sShape p k) r
def aRunOk (x y d : Int32) : Prop := aIx x 16 ∧ aIx y 16 ∧ ¬ d < -999999 ∧ ¬ 999999 < d
noncomputable def oRun (A : aA) (x y d : Int32) : aO := sIf (aRunOk x y d) (sIf ((aRuns (xS A)).length = 12) (2, 0, A) (0, nI (aRuns (xS A)).length, uS A (uRun (xS A) (x, y, d) (tPut (aTr (xS A)) (sPleases (aBody (xS A)) (x, y, d)))))) (1, 0, A)
theorem aRunOk_ok {x y d : Int32} (k : aRunOk x y d) : aOkRun (x, y, d) := by
  obtain ⟨⟨a, ha, rfl⟩, ⟨b, hb, rfl⟩, c1, c2⟩ := k
  have e1 := nI_toInt (n := a) (by omega)
  have e2 := nI_toInt (n := b) (by omega)
  rw [toInt_lt_iff] at c1 c2
  have e3 : (-999999 : Int32).toInt = -999999 := rfl
  have e4 : (999999 : Int32).toInt = 999999 := rfl
  refine ⟨⟨?_, ?_⟩, ⟨?_, ?_⟩, ⟨?_, ?_⟩⟩
  · show 0 ≤ (nI a).toInt; omega
  · show (nI a).toInt ≤ 15; omega
  · show 0 ≤ (nI b).toInt; omega
  · show (nI b).toInt ≤ 15; omega
  · show -999999 ≤ d.toInt; omega
  · show d.toInt ≤ 999999; omega
theorem sTrOk_put (ok : sTrOk p T) : sTrOk p (tPut T P) := ⟨Nat.le_trans sFilt_len ok.1, fun k hk => ok.2.1 k (sFilt_mem hk), ok.2.2.1, ok.2.2.2⟩
theorem okRun1 {r : aRun} (ok : aOk n A) (hr : aOkRun r) (h12 : (aRuns (xS A)).length < 12) (ht : sTrOk (aBody (xS A)) T) : aOk n (uS A (uRun (xS A) r T)) := by
  refine ⟨⟨ok.1.1, ok.1.2.1, ⟨?_, fun z hz => ?_⟩, ok.1.2.2.2.1, ht, ok.1.2.2.2.2.2⟩, ok.2⟩
  · show (aRuns (xS A) ++ [r]).length ≤ 12; rw [List.length_append, List.length_singleton]; omega
  · rcases List.mem_append.mp hz with e | e
    · exact ok.1.2.2.1.2 z e
    · rw [List.mem_singleton.mp e]; exact hr
theorem okRun {x y d : Int32} (ok : aOk n A) : aOk n (oRun A x y d).2.2 := by
  unfold oRun
  by_cases q : aRunOk x y d
  · rw [sIf_t q]
    by_cases q2 : (aRuns (xS A)).length = 12
    · rw [sIf_t q2]; exact ok
    · rw [sIf_f q2]
      have := ok.1.2.2.1.1
      exact okRun1 ok (aRunOk_ok q) (by omega) (sTrOk_put ok.1.2.2.2.2.1)
  · rw [sIf_f q]; exact ok
theorem tX5_add {r : aRun} (k : isRuns h 14 rs) (h12 : rs.length < 12) : JM mX5_add [.ref 14, .int r.1, .int r.2.1, .int r.2.2] (jG0 sc) h (jvoid sc (fun h' => isRuns h' 14 (rs ++ [r]) ∧ jfr ([(15, 17)], [(14, 3, 3)]) h h')) := by
  have t_h : jI5 14 := by unfold jI5; decide
  have e : h 14 3 = nI rs.length := k.1
  have v : vp_in (h 14 3) 12 := by rw [e]; exact vp_in_nI h12 (by decide)
  refine jM_of rfl (Nat.le_of_ble_eq_true rfl) (by decide +kernel) rfl (rX5_add_0 t_h (fun c => absurd c (by rw [e]; exact nI_pos (by omega))) (fun _ c => absurd ((jn_le (a := 12) (b := rs.length) (by decide) (by omega)).mp (by rw [← e]; exact c)) (by omega)) (fun _ _ => v) (fun _ _ => by rw [jput_ne (by decide)]; exact v) (fun _ _ => by rw [jput_ne (by decide), jput_ne (by decide)]; exact v) (fun _ _ => jvoid_i ?_))
  simp only [show (14 + 1 : Nat) = 15 from rfl, show (14 + 2 : Nat) = 16 from rfl, show (14 + 3 : Nat) = 17 from rfl, jput_ne (show (14 : Nat) ≠ 15 by decide), jput_ne (show (14 : Nat) ≠ 16 by decide), jput_ne (show (14 : Nat) ≠ 17 by decide), e, nI_clamp (show rs.length < 2 ^ 31 by omega)]
  refine ⟨⟨?_, fun i hi => ?_⟩, (((jfr.rf.put (by rw [jin_iff]; simp)).put (by rw [jin_iff]; simp)).put (by rw [jin_iff]; simp)).put rfl⟩
  · rw [jput_at, List.length_append, List.length_singleton, nI_succ]
  · rw [List.length_append, List.length_singleton] at hi
    rw [getD_ap1]
    simp only [show (14 + 1 : Nat) = 15 from rfl, show (14 + 2 : Nat) = 16 from rfl, show (14 + 3 : Nat) = 17 from rfl, jput_ne (show (15 : Nat) ≠ 14 by decide), jput_ne (show (15 : Nat) ≠ 16 by decide), jput_ne (show (15 : Nat) ≠ 17 by decide), jput_ne (show (16 : Nat) ≠ 14 by decide), jput_ne (show (16 : Nat) ≠ 15 by decide), jput_ne (show (16 : Nat) ≠ 17 by decide), jput_ne (show (17 : Nat) ≠ 14 by decide), jput_ne (show (17 : Nat) ≠ 15 by decide), jput_ne (show (17 : Nat) ≠ 16 by decide)]
    by_cases z : i = rs.length
    · subst z; rw [if_neg (Nat.lt_irrefl _), if_pos rfl, jput_at, jput_at, jput_at]; exact ⟨rfl, rfl, rfl⟩
    · rw [if_pos (show i < rs.length by omega), jput_sl z, jput_sl z, jput_sl z]
      exact k.2 i (by omega)
theorem RC_run {r : aRun} {h' : jH} (k : RC h A) (ok : aOk n A) (f : jfr ([(15, 17)], [(14, 3, 3)]) h h') (ht : isRuns h' 14 (aRuns (xS A) ++ [r])) : RC h' (uS A (uRun (xS A) r (aTr (xS A)))) := by
  obtain ⟨k1, k2, k3, k4, k5, k6, k7, k8⟩ := k.1
  refine k.uS f rfl (k.img ok (g_img f ⟨rfl, rfl⟩)) rfl (fun _ => rfl) rfl rfl ?_ (k.2.2.2.2.2.fr75 f ⟨rfl, rfl⟩)
  exact ⟨k1.fr f rfl (fun _ => rfl), k2.fr f rfl (fun _ => rfl), ht, k4.fr f rfl (fun _ => rfl), k5.fr f rfl rfl rfl rfl rfl rfl (fun _ => rfl) (fun _ => rfl) (fun _ => rfl) (fun _ => rfl), fun i hi => (f 25 i rfl).trans (k6 i hi), k7.fr f ok.1.2.2.2.2.2.2.1.1 rfl (g_made ⟨rfl, rfl⟩), (f 9 8 rfl).trans k8⟩
abbrev fCk : jF := ([(3, 8), (21, 24), (70, 74), (82, 158)], [(1, 2, 5), (20, 1, 9), (69, 2, 4), (69, 6, 11), (75, 7, 8)])
theorem mends_fCk {h' : jH} (k : isMends h 75 p) (f : jfr fCk h h') : isMends h' 75 p := k.fr f rfl (fun c h1 h2 j => by rw [jin_f]; simp <;> omega)
theorem RC_tr2 {h' : jH} (k : RC h A) (ok : aOk n A) (f : jfr fCk h h') (ht : isTries h' 20 T) : RC h' (uS A (uTr (xS A) T)) := by
  obtain ⟨k1, k2, k3, k4, k5, k6, k7, k8⟩ := k.1
  refine k.uS f rfl (k.img ok (g_img f ⟨rfl, rfl⟩)) rfl (fun _ => rfl) rfl rfl ?_ (mends_fCk k.2.2.2.2.2 f)
  exact ⟨k1.fr f rfl (fun _ => rfl), k2.fr f rfl (fun _ => rfl), k3.fr f rfl (fun _ => rfl) (fun _ => rfl) (fun _ => rfl), k4.fr f rfl (fun _ => rfl), ht, fun i hi => (f 25 i rfl).trans (k6 i hi), k7.fr f ok.1.2.2.2.2.2.2.1.1 rfl (g_made ⟨rfl, rfl⟩), (f 9 8 rfl).trans k8⟩
theorem tX11_putOutPleased {r : aRun} (ok : aOk n A) (k : RC h A) : JM mX11_putOutPleased [.ref 0, .int r.1, .int r.2.1, .int r.2.2] (jG0 sc) h (jvoid sc (fun h' => RC h' (uS A (uTr (xS A) (tPut (aTr (xS A)) (sPleases (aBody (xS A)) r)))) ∧ fC h h')) := by
  have b_h : jI4 89 := by unfold jI4; decide
  have h30 : (aKept A).length ≤ 30 := ok.1.2.2.2.2.1.1
  obtain ⟨e1, e2, e3, e4, e5, e6, e7, e8⟩ := k.1.2.2.2.2.1
  have e1 : h 20 1 = nI (aKept A).length := e1
  have e2 : ∀ i, i < (aKept A).length → h 21 i = nI ((aKept A).getD i 0) := e2
  generalize hP : sPleases (aBody (xS A)) r = P
  refine jM_of rfl (Nat.le_of_ble_eq_true rfl) (by decide +kernel) rfl (rX11_putOutPleased_0 ?_)
  refine jloop2 (fun i (h2 : jH) (s : Nat) => WP mX11_putOutPleased _ 18 [some (.ref 0), some (.int r.1), some (.int r.2.1), some (.int r.2.2), some (.ref 20), some (.int (nI (i - s))), some (.int (nI s)), some (.int (nI i))] [] (jG0 sc) h2 (0, 0))
    (fun i h2 s => s = (sFilt P ((aKept A).take i)).length ∧ jfr ([(3, 8), (21, 21), (70, 74), (82, 158)], [(1, 2, 5), (69, 2, 4), (69, 6, 11), (75, 7, 8)]) h h2 ∧ (∀ j, j < s → h2 21 j = nI ((sFilt P ((aKept A).take i)).getD j 0)) ∧ ∀ j, i ≤ j → j < (aKept A).length → h2 21 j = nI ((aKept A).getD j 0)) (aKept A).length ?_ ?_ 0 h 0 (by omega) ⟨rfl, jfr.rf, fun j hj => absurd hj (by omega), fun j _ hj => e2 j hj⟩
  · rintro h2 s ⟨i1, f, i2, i3⟩
    rw [List.take_length] at i1 i2
    have e1' : h2 20 1 = nI (aKept A).length := (f 20 1 rfl).trans e1
    refine rX11_putOutPleased_18 (fun _ => jvoid_i ?_) (fun c => absurd (by rw [e1']; exact nI_le (Nat.le_refl _) (by omega)) c) (fun c => absurd (by rw [e1']; exact nI_le (Nat.le_refl _) (by omega)) c) (P1 := fun _ _ => True) (P2 := fun _ _ => True) (fun c => absurd (by rw [e1']; exact nI_le (Nat.le_refl _) (by omega)) c) (fun c => absurd (by rw [e1']; exact nI_le (Nat.le_refl _) (by omega)) c) (fun c => absurd (by rw [e1']; exact nI_le (Nat.le_refl _) (by omega)) c) (fun c => absurd (by rw [e1']; exact nI_le (Nat.le_refl _) (by omega)) c) (fun c => absurd (by rw [e1']; exact nI_le (Nat.le_refl _) (by omega)) c) (fun c => absurd (by rw [e1']; exact nI_le (Nat.le_refl _) (by omega)) c)
    have f3 : jfr ([(3, 8), (21, 21), (70, 74), (82, 158)], [(1, 2, 5), (20, 1, 1), (20, 4, 4), (69, 2, 4), (69, 6, 11), (75, 7, 8)]) h (jput (jput h2 20 1 (nI s)) 20 4 (jput h2 20 1 (nI s) 20 4 + nI ((aKept A).length - s))) := ((f.mono rfl).put rfl).put rfl
    refine ⟨RC_tr2 k ok (f3.mono rfl) ⟨?_, fun i hi => ?_, (f3 20 2 rfl).trans e3, (f3 20 3 rfl).trans e4, ?_, (f3 20 5 rfl).trans e6, (f3 20 9 rfl).trans e7, fun i hi => ?_⟩, fC.of f3 ⟨rfl, rfl⟩⟩
    · rw [jput_sl (by decide), jput_at, i1]; rfl
    · have hi' : i < (sFilt P (aKept A)).length := hi
      exact i2 i (by omega)
    · rw [jput_at, jput_sl (by decide), show h2 20 4 = _ from (f 20 4 rfl).trans e5, i1]; rfl
    · obtain ⟨a, b, c⟩ := e8 i hi
      exact ⟨(f3 22 i rfl).trans a, (f3 23 i rfl).trans b, (f3 24 i rfl).trans c⟩
  · rintro i h2 s hi ⟨i1, f, i2, i3⟩ kk
    have hsi : s ≤ i := by rw [i1]; refine Nat.le_trans sFilt_len ?_; rw [List.length_take]; omega
    have e1' : h2 20 1 = nI (aKept A).length := (f 20 1 rfl).trans e1
    have nle : ¬ h2 20 1 ≤ nI i := by rw [e1', jn_le (by omega) (by omega)]; omega
    have nle2 : ¬ (30 : Int32) ≤ nI i := fun c => by have := (jn_le (a := 30) (by decide) (by omega)).mp c; omega
    have q : aIx (nI i) (aKept A).length := ⟨i, hi, rfl⟩
    have eK : (nI i).toNatClampNeg = i := nI_clamp (by omega)
    have e21 : h2 21 i = nI ((aKept A).getD i 0) := i3 i (Nat.le_refl _) hi
    have fk : jfr fCk h h2 := f.mono rfl
    have hp2 : isP h2 10 (aBody (xS A)) := k.1.1.fr f rfl (fun _ => rfl)
    have eP : P ((aKept A).getD i 0) ↔ sEnd (sShape (aBody (xS A)) ((aKept A).getD i 0)) r.1 r.2.1 = r.2.2 := by rw [← hP]; exact Iff.rfl
    refine rX11_putOutPleased_18 (fun c => absurd c nle) (fun _ c => absurd c nle2) (fun _ _ => vp_in_nI (by omega) (by decide))
      (P1 := fun _ h' => isP h' 89 (sShape (aBody (xS A)) ((aKept A).getD i 0)) ∧ jfr ([(3, 8), (21, 21), (70, 74), (82, 158)], [(1, 2, 5), (69, 2, 4), (69, 6, 11), (75, 7, 8)]) h h' ∧ h' 21 = h2 21) (fun _ _ => ?_)
      (P2 := fun x h' => x = sEnd (sShape (aBody (xS A)) ((aKept A).getD i 0)) r.1 r.2.1 ∧ jfr ([(3, 8), (21, 21), (70, 74), (82, 158)], [(1, 2, 5), (69, 2, 4), (69, 6, 11), (75, 7, 8)]) h h' ∧ h' 21 = h2 21) (fun _ _ x1 h3 z => ?_) (fun _ _ x1 h3 _ x2 h4 z c => ?_) (fun _ _ _ _ _ _ _ _ _ => vp_in_nI (by omega) (by decide)) (fun _ _ _ _ _ _ _ _ _ => vp_in_nI (by omega) (by decide)) (fun _ _ x1 h3 _ x2 h4 z c => ?_)
    · rw [eK, e21]
      have := tX3_kept (sc := sc) b_h (Or.inr (by decide)) (Or.inr (by decide)) ok (mends_fCk k.2.2.2.2.2 fk) hp2 q
      rw [eK] at this
      exact jM_int this (fun x h' y => ⟨y.1, f.tr2 (y.2.mono rfl), y.2.cell (fun _ => rfl)⟩)
    · exact jM_int (tX10_end b_h (Or.inr (by decide)) z.1 (sProg_sh ok.1.1) ((z.2.1 69 5 rfl).trans k.2.2.2.2.1)) (fun x h' y => ⟨y.1, z.2.1.tr2 (y.2.2.2.2.mono rfl), (y.2.2.2.2.cell (fun _ => rfl)).trans z.2.2⟩)
    · rw [z.1] at c
      have nP : ¬ P ((aKept A).getD i 0) := fun w => c (eP.mp w)
      have eF : sFilt P ((aKept A).take (i + 1)) = sFilt P ((aKept A).take i) := by rw [take_at hi, sFilt_app, sFilt_f nP]; exact List.append_nil _
      rw [← nI_succ, ← nI_succ, show i - s + 1 = i + 1 - s by omega]
      refine kk h4 s ⟨by rw [eF]; exact i1, z.2.1, fun j hj => ?_, fun j a b => ?_⟩
      · rw [eF, z.2.2]; exact i2 j hj
      · rw [z.2.2]; exact i3 j (by omega) b
    · rw [z.1] at c
      have yP : P ((aKept A).getD i 0) := eP.mpr c
      have eF : sFilt P ((aKept A).take (i + 1)) = sFilt P ((aKept A).take i) ++ [(aKept A).getD i 0] := by rw [take_at hi, sFilt_app, sFilt_t yP]; rfl
      rw [← nI_succ, ← nI_succ, eK, nI_clamp (by omega), z.2.2, e21, show i - s = i + 1 - (s + 1) by omega]
      refine kk _ (s + 1) ⟨by rw [eF, List.length_append, List.length_singleton]; omega, z.2.1.put (by rw [jin_iff]; simp), fun j hj => ?_, fun j a b => ?_⟩
      · rw [eF, getD_ap1]
        by_cases w : j = s
        · rw [w, jput_at, if_neg (by omega), if_pos i1]
        · rw [jput_sl w, if_pos (show j < (sFilt P ((aKept A).take i)).length by omega), z.2.2]; exact i2 j (by omega)
      · rw [jput_sl (by omega), z.2.2]; exact i3 j (by omega) b
abbrev eRun : List String := ["java/lang/IllegalArgumentException", "java/lang/UnsupportedOperationException"]
theorem ccRun {x y d : Int32} (ok : aOk n A) (k : RC h A) : JM mX11_run [.ref 0, .int x, .int y, .int d] (jG0 sc) h (cQ sc eRun (oRun A x y d) h) := by
  have h12 := ok.1.2.2.1.1
  have hr : isRuns h 14 (aRuns (xS A)) := k.1.2.2.1
  have e3 : h 14 3 = nI (aRuns (xS A)).length := hr.1
  have no : ¬ aRunOk x y d → cQ sc eRun (oRun A x y d) h (.inr "java/lang/IllegalArgumentException") (jG0 sc) h := fun q => by
    rw [oRun, sIf_f q]; exact cQ_x rfl k (fun _ _ => rfl)
  have yes : ¬ x < 0 → ¬ 15 < x → ¬ y < 0 → y ≤ 15 → ¬ d < -999999 → d ≤ 999999 → aRunOk x y d := fun a1 a2 a3 a4 a5 a6 => ⟨(aIx_le1 (n := 15) (by omega)).mp ⟨a1, i_nlt.mp a2⟩, (aIx_le1 (n := 15) (by omega)).mp ⟨a3, a4⟩, a5, i_nlt.mpr a6⟩
  have lt12 : h 14 3 < 12 → (aRuns (xS A)).length < 12 := fun c => (jn_lt (b := 12) (by omega) (by decide)).mp (by rw [← e3]; exact c)
  refine jM_of rfl (Nat.le_of_ble_eq_true rfl) (by decide +kernel) rfl (rX11_run_0 (fun c => no (fun q => ((aIx_lt (by omega)).mpr q.1).1 c)) (fun _ c => no (fun q => i_nlt.mpr ((aIx_le1 (n := 15) (by omega)).mpr q.1).2 c)) (fun _ _ c => no (fun q => ((aIx_lt (by omega)).mpr q.2.1).1 c)) (fun _ _ _ _ c => no (fun q => q.2.2.1 c))
    (P1 := fun h' => RC h' (uS A (uRun (xS A) (x, y, d) (aTr (xS A)))) ∧ fC h h') (fun a1 a2 a3 a4 a5 a6 a7 => ?_)
    (P2 := fun h' => RC h' (uS A (uRun (xS A) (x, y, d) (tPut (aTr (xS A)) (sPleases (aBody (xS A)) (x, y, d))))) ∧ fC h h') (fun a1 a2 a3 a4 a5 a6 a7 h1 z => ?_) (fun a1 a2 a3 a4 a5 a6 a7 h1 _ h2 z => ?_) (fun a1 a2 a3 a4 a5 a6 a7 => ?_) (fun _ _ _ _ _ c => no (fun q => q.2.2.2 (i_nle.mp c))) (fun _ _ _ c => no (fun q => c ((aIx_le1 (n := 15) (by omega)).mpr q.2.1).2)))
  · exact jM_void (tX5_add (r := (x, y, d)) hr (lt12 a7)) (fun h' z => ⟨RC_run k ok z.2 z.1, fC.of z.2 ⟨rfl, rfl⟩⟩)
  · have okk := okRun1 (T := aTr (xS A)) ok (aRunOk_ok (yes a1 a2 a3 a4 a5 a6)) (lt12 a7) ok.1.2.2.2.2.1
    exact jM_void (tX11_putOutPleased (r := (x, y, d)) okk z.1) (fun h' w => ⟨w.1, z.2.tr w.2⟩)
  · have l12 := lt12 a7
    have e : h2 14 3 = nI ((aRuns (xS A)).length + 1) := by
      have := z.1.1.2.2.1.1
      rw [show h2 (9 + 5) 3 = h2 14 3 from rfl] at this
      rw [this]
      show nI (aRuns (xS A) ++ [(x, y, d)]).length = _
      rw [List.length_append]; rfl
    rw [oRun, sIf_t (yes a1 a2 a3 a4 a5 a6), sIf_f (by omega), e, nI_succ, show nI (aRuns (xS A)).length + 1 - 1 = nI (aRuns (xS A)).length from Int32.add_sub_cancel _ _]
    exact cQ_v z.1 z.2
  · have e12 : (aRuns (xS A)).length = 12 := by
      rw [e3, show (12 : Int32) = nI 12 from rfl, jn_lt (by omega) (by decide)] at a7
      omega
    rw [oRun, sIf_t (yes a1 a2 a3 a4 a5 a6), sIf_t e12]
    exact cQ_x rfl k (fun _ _ => rfl)
end OP15
