/-! Operation tries: the class, all of it. -/
section OP8
variable {sc : Nat × (Nat → Int32)} {h : jH} {A : aA} {n : Nat} {p q : List Int32} {rs : List aRun} {T : aT}
theorem sShape_O {k : Nat} : sShape p k = sByO p ((sAll (sMends p))[k]?) := by unfold sShape sByO; rfl
theorem okTr (ok : aOk n A) (h1 : sTrOk (aBody (xS A)) T) : aOk n (uS A (uTr (xS A) T)) := ⟨⟨ok.1.1, ok.1.2.1, ok.1.2.2.1, ok.1.2.2.2.1, h1, ok.1.2.2.2.2.2⟩, ok.2⟩
theorem RC_tr {h' : jH} (k : RC h A) (ok : aOk n A) (f : jfr fTr h h') (ht : isTries h' 20 T) : RC h' (uS A (uTr (xS A) T)) := by
  obtain ⟨k1, k2, k3, k4, k5, k6, k7, k8⟩ := k.1
  refine k.uS f rfl (k.img ok (g_img f ⟨rfl, rfl⟩)) rfl (fun _ => rfl) rfl rfl ?_ (k.2.2.2.2.2.fr75 f ⟨rfl, rfl⟩)
  exact ⟨k1.fr f rfl (fun _ => rfl), k2.fr f rfl (fun _ => rfl), k3.fr f rfl (fun _ => rfl) (fun _ => rfl) (fun _ => rfl), k4.fr f rfl (fun _ => rfl), ht, fun i hi => (f 25 i rfl).trans (k6 i hi), k7.fr f ok.1.2.2.2.2.2.2.1.1 rfl (g_made ⟨rfl, rfl⟩), (f 9 8 rfl).trans k8⟩
/-- how many are tried -/
def sTryMany (A : aA) (c : Int32) : Nat := min c.toNatClampNeg ((sAll (sMends (aBody (xS A)))).length - tTried (aTr (xS A)))
noncomputable def oTries (A : aA) (c : Int32) : aO := sIf (aIx c 401) (sIf (aBody (xS A) = []) (2, 0, A) (0, nI (sTryMany A c), uS A (uTr (xS A) (tIter (aBody (xS A)) (aRuns (xS A)) (sTryMany A c) (aTr (xS A)))))) (1, 0, A)
theorem oTries_ok {c : Int32} (ok : aOk n A) : aOk n (oTries A c).2.2 := by
  unfold oTries
  by_cases h1 : aIx c 401
  · rw [sIf_t h1]
    by_cases h2 : aBody (xS A) = []
    · rw [sIf_t h2]; exact ok
    · rw [sIf_f h2]
      have h3 := ok.1.2.2.2.2.1.2.2.1
      exact okTr ok (tIter_ok ok.1.2.2.2.2.1 _ (by unfold sTryMany; omega))
  · rw [sIf_f h1]; exact ok
/-- all mends are few -/
theorem sPairs_le {ms : List sMd} : (sPairs ms).length ≤ ms.length * ms.length := by
  have : ∀ (l : List Nat) (f : Nat → List (Nat × Option Nat)) (c : Nat), (∀ a, (f a).length ≤ c) → (l.flatMap f).length ≤ l.length * c := by
    intro l f c hf
    induction l with
    | nil => simp
    | cons a l ih =>
      rw [List.flatMap_cons, List.length_append, List.length_cons, Nat.succ_mul]
      have := hf a
      omega
  have h1 := this (List.range ms.length) (sPairsOf ms) ms.length (fun a => by
    unfold sPairsOf
    rw [List.length_map]
    have := List.length_filter_le (fun b => decide (a < b) && sCan ms a b) (List.range ms.length)
    rwa [List.length_range] at this)
  rw [List.length_range] at h1
  exact h1
theorem sAll_few (hs : sProg p) : (sAll (sMends p)).length < 90000 := by
  have h1 := sMends_280 hs
  have h2 := sPairs_le (ms := sMends p)
  have h3 : (sMends p).length * (sMends p).length ≤ 280 * 280 := Nat.mul_le_mul h1 h1
  unfold sAll
  rw [List.length_append, List.length_map, List.length_range]
  omega
abbrev eTries : List String := ["java/lang/IllegalArgumentException", "java/lang/IllegalStateException"]
theorem ccTries {c : Int32} (ok : aOk n A) (k : RC h A) : JM mX11_tries [.ref 0, .int c] (jG0 sc) h (cQ sc eTries (oTries A c) h) := by
  have a_h : jI4 10 := by unfold jI4; decide
  have b_h : jI4 89 := by unfold jI4; decide
  have t_h : jI3 75 := by unfold jI3; decide
  have hs := ok.1.1
  have hfew := sAll_few hs
  have hp : isP h 10 (aBody (xS A)) := k.1.1
  have no : ¬ aIx c 401 → cQ sc eTries (oTries A c) h (.inr "java/lang/IllegalArgumentException") (jG0 sc) h := fun q => by
    rw [oTries, sIf_f q]; exact cQ_x rfl k (fun _ _ => rfl)
  refine jM_of rfl (Nat.le_of_ble_eq_true rfl) (by decide +kernel) rfl (rX11_tries_0 (fun d => no (fun q => ((aIx_lt (by omega)).mpr q).1 d)) (fun _ _ => tX11_hasBody hp) ?_ ?_ (fun _ d => no (fun q => d ((aIx_le1 (n := 400) (by omega)).mpr q).2)))
  · rintro d1 d2 _ _ ⟨rfl, rfl⟩ d3
    rw [sB_ne] at d3
    have q1 : aIx c 401 := (aIx_le1 (n := 400) (by omega)).mp ⟨d1, d2⟩
    have eo : oTries A c = (0, nI (sTryMany A c), uS A (uTr (xS A) (tIter (aBody (xS A)) (aRuns (xS A)) (sTryMany A c) (aTr (xS A))))) := by rw [oTries, sIf_t q1, sIf_f d3]
    rw [eo]
    have htr := ok.1.2.2.2.2.1.2.2.1
    have em : sTryMany A c ≤ (sAll (sMends (aBody (xS A)))).length - tTried (aTr (xS A)) ∧ sTryMany A c ≤ c.toNatClampNeg ∧ (sTryMany A c = c.toNatClampNeg ∨ tTried (aTr (xS A)) + sTryMany A c = (sAll (sMends (aBody (xS A)))).length) := by unfold sTryMany; omega
    obtain ⟨hd, er⟩ := aIx_c (by omega) q1
    generalize sTryMany A c = e at *
    generalize c.toNatClampNeg = d at *
    subst er
    have okI : ∀ i, i ≤ e → aOk n (uS A (uTr (xS A) (tIter (aBody (xS A)) (aRuns (xS A)) i (aTr (xS A))))) := fun i hi => okTr ok (tIter_ok ok.1.2.2.2.2.1 i (by omega))
    have ti : ∀ i, tTried (tIter (aBody (xS A)) (aRuns (xS A)) i (aTr (xS A))) = tTried (aTr (xS A)) + i := fun i => tIter_tried i
    -- a step's call of shape
    have shp : ∀ (i : Nat) (h1 : jH), i ≤ e → RC h1 (uS A (uTr (xS A) (tIter (aBody (xS A)) (aRuns (xS A)) i (aTr (xS A))))) → JM mX3_shape [.ref 75, .ref 10, .int (h1 20 2), .ref 89] (jG0 sc) h1 (jint sc (shPost 75 89 (aBody (xS A)) ((sAll (sMends (aBody (xS A))))[tTried (aTr (xS A)) + i]?) h1)) := fun i h1 hi kk => by
      have e2 : h1 20 2 = nI (tTried (aTr (xS A)) + i) := by rw [← ti i]; exact kk.1.2.2.2.2.1.2.2.1
      rw [e2]
      exact tX3_shape t_h a_h b_h hs kk.2.2.2.2.2 kk.1.1 (Or.inl (by decide)) (Or.inl (by decide)) (Or.inr (by decide)) (by omega)
    refine jloop (fun i (h1 : jH) => WP mX11_tries _ 49 [some (.ref 0), some (.int (nI d)), some (.ref 20), some (.int (nI i))] [] (jG0 sc) h1 (0, 0))
      (fun i h1 => RC h1 (uS A (uTr (xS A) (tIter (aBody (xS A)) (aRuns (xS A)) i (aTr (xS A))))) ∧ fC h h1) e ?_ ?_ 0 h (by omega) ⟨k, fun _ _ => rfl⟩
    · rintro h1 ⟨i1, i2⟩
      by_cases z : e = d
      · refine rX11_tries_49 (fun _ => by rw [← z]; exact cQ_v i1 i2) (P1 := fun _ _ => True) (P2 := fun _ _ => True) (P3 := fun _ => True) (fun q => absurd (by rw [z]; exact nI_le (Nat.le_refl _) (by omega)) q) (fun q => absurd (by rw [z]; exact nI_le (Nat.le_refl _) (by omega)) q) (fun q => absurd (by rw [z]; exact nI_le (Nat.le_refl _) (by omega)) q) (fun q => absurd (by rw [z]; exact nI_le (Nat.le_refl _) (by omega)) q) (fun q => absurd (by rw [z]; exact nI_le (Nat.le_refl _) (by omega)) q)
      · have eN : (sAll (sMends (aBody (xS A))))[tTried (aTr (xS A)) + e]? = none := List.getElem?_eq_none (by omega)
        have nle : ¬ nI d ≤ nI e := by rw [jn_le (by omega) (by omega)]; omega
        refine rX11_tries_49 (fun q => absurd q nle) (fun _ => shp e h1 (Nat.le_refl _) i1) (P2 := fun _ _ => True) (P3 := fun _ => True) ?_ ?_ ?_ ?_
        · rintro - x1 h2 y q
          exact absurd (y.1.trans (sB_f (by rw [eN]; simp))) q
        · rintro - x1 h2 y q
          exact absurd (y.1.trans (sB_f (by rw [eN]; simp))) q
        · rintro - x1 h2 y q
          exact absurd (y.1.trans (sB_f (by rw [eN]; simp))) q
        · rintro - x1 h2 y q
          have f : jfr fCs h1 h2 := y.2.2.mono rfl
          exact cQ_v (i1.fr (okI e (Nat.le_refl _)) f) (i2.tr (fC.of f ⟨rfl, rfl⟩))
    · rintro i h1 hi ⟨i1, i2⟩ kk
      have nle : ¬ nI d ≤ nI i := by rw [jn_le (by omega) (by omega)]; omega
      have hlt : tTried (aTr (xS A)) + i < (sAll (sMends (aBody (xS A)))).length := by omega
      have eS : ((sAll (sMends (aBody (xS A))))[tTried (aTr (xS A)) + i]?).isSome = true := by rw [List.getElem?_eq_getElem hlt]; rfl
      have okk := okI i (by omega)
      refine rX11_tries_49 (fun q => absurd q nle) (fun _ => shp i h1 (by omega) i1)
        (P2 := fun x h' => x = sFirstWrong (sShape (aBody (xS A)) (tTried (aTr (xS A)) + i)) (aRuns (xS A)) ∧ RC h' (uS A (uTr (xS A) (tIter (aBody (xS A)) (aRuns (xS A)) i (aTr (xS A))))) ∧ fC h h') (fun _ x1 h2 y q => ?_)
        (P3 := fun h' => RC h' (uS A (uTr (xS A) (tIter (aBody (xS A)) (aRuns (xS A)) (i + 1) (aTr (xS A))))) ∧ fC h h') (fun _ x1 h2 y q x2 h3 z => ?_) (fun _ x1 h2 y q x2 h3 z h4 u => ?_) (fun _ x1 h2 y q => absurd (q ▸ y.1) (by rw [sB_t eS]; decide))
      · have f : jfr fCs h1 h2 := y.2.2.mono rfl
        have k2 := i1.fr okk f
        rw [sShape_O]
        refine jM_int (tX11_firstWrong b_h (Or.inr (by decide)) y.2.1 (sProg_byO hs _) k2.1.2.2.1 ok.1.2.2.1.1 k2.2.2.2.2.1) (fun x h' v => ⟨v.1, k2.fr okk (fWalk_Cs v.2), (i2.tr (fC.of f ⟨rfl, rfl⟩)).tr (fC.of v.2 ⟨rfl, rfl⟩)⟩)
      · rw [z.1]
        refine jM_void (tX9_add (p := aBody (xS A)) z.2.1.1.2.2.2.2.1 okk.1.2.2.2.2.1 (by have := ti i; show tTried (tIter (aBody (xS A)) (aRuns (xS A)) i (aTr (xS A))) < _; omega)) (fun h' v => ⟨?_, z.2.2.tr (fC.of v.2 ⟨rfl, rfl⟩)⟩)
        have := RC_tr z.2.1 okk v.2 v.1
        show RC h' (uS A (uTr (xS A) (tAdd _ (sFirstWrong (sShape _ (tTried (tIter (aBody (xS A)) (aRuns (xS A)) i (aTr (xS A))))) _))))
        rw [ti]
        exact this
      · rw [← nI_succ]
        exact kk h4 u
  · rintro d1 d2 _ _ ⟨rfl, rfl⟩ d3
    rw [sB_eq, Classical.not_not] at d3
    rw [oTries, sIf_t ((aIx_le1 (n := 400) (by omega)).mp ⟨d1, d2⟩), sIf_t d3]
    exact cQ_x rfl k (fun _ _ => rfl)
end OP8
