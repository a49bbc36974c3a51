/-! Operation first: the class. -/
section FSC
variable {sc : Nat × (Nat → Int32)} {h : jH} {A : aA} {n : Nat} {p : List Int32} {rs : List aRun} {T : Nat → Int32}
/-- the most taught form that is not used -/
def isMost (T : Nat → Int32) (u : Int32) (f : Nat) : Prop := f < 6 ∧ ¬ bt u f = true ∧ ∀ g, g < 6 → ¬ bt u g = true → g ≠ f → fAhead T f g
theorem tX11_mostTaught {u : Int32} (hT : ∀ i, i < 6 → h 25 i = T i) (hn : ∀ i, i < 6 → ¬ T i < 0) (he : ∃ f, f < 6 ∧ ¬ bt u f = true) : JM mX11_mostTaught [.ref 0, .int u] (jG0 sc) h (jint sc (fun x h' => (∃ f, x = nI f ∧ isMost T u f) ∧ h' = h)) := by
  refine jM_of rfl (Nat.le_of_ble_eq_true rfl) (by decide +kernel) rfl (rX11_mostTaught_0 ?_)
  refine jloop2 (fun i (a : Int32) (m : Int32) => WP mX11_mostTaught _ 7 [some (.ref 0), some (.int u), some (.int a), some (.int m), some (.int (nI i))] [] (jG0 sc) h (0, 0))
    (fun i a m => (a = 0 ∧ m = -1 ∧ ∀ g, g < i → bt u g = true) ∨ ∃ f, f < i ∧ a = nI f ∧ m = T f ∧ ¬ bt u f = true ∧ ∀ g, g < i → ¬ bt u g = true → g ≠ f → fAhead T f g) 6 ?_ ?_ 0 0 (-1) (by omega) (Or.inl ⟨rfl, rfl, fun g hg => absurd hg (Nat.not_lt_zero _)⟩)
  · rintro a m inv
    refine rX11_mostTaught_7 (fun _ => jint_i ⟨?_, rfl⟩) (fun c => absurd (by decide) c) (fun c => absurd (by decide) c) (fun c => absurd (by decide) c) (fun c => absurd (by decide) c) (fun c => absurd (by decide) c)
    rcases inv with ⟨-, -, q⟩ | ⟨f, h1, h2, h3, h4, h5⟩
    · obtain ⟨f, hf, c⟩ := he
      exact absurd (q f hf) c
    · exact ⟨f, h2, h1, h4, h5⟩
  · rintro i a m hi inv kk
    have no : ¬ (6 : Int32) ≤ nI i := fun c => by have := (jn_le (a := 6) (by decide) (by omega)).mp c; omega
    have vi : vp_in (nI i) 6 := vp_in_nI hi (by decide)
    have ei : h 25 (nI i).toNatClampNeg = T i := by rw [nI_clamp (by omega)]; exact hT i hi
    refine rX11_mostTaught_7 (fun c => absurd c no) (fun _ c => ?_) (fun _ _ => vi) (fun _ c c2 => ?_) (fun _ _ _ => vi) (fun _ c c2 => ?_)
    · rw [x_bit0 (by omega), Classical.not_not] at c
      rw [← nI_succ]
      refine kk a m ?_
      rcases inv with ⟨h1, h2, q⟩ | ⟨f, h1, h2, h3, h4, h5⟩
      · exact Or.inl ⟨h1, h2, fun g hg => by
          by_cases z : g = i
          · subst z; exact c
          · exact q g (by omega)⟩
      · exact Or.inr ⟨f, by omega, h2, h3, h4, fun g hg hu hne => by
          by_cases z : g = i
          · subst z; exact absurd c hu
          · exact h5 g (by omega) hu hne⟩
    · rw [x_bit0 (by omega)] at c
      rw [ei] at c2
      rw [← nI_succ]
      refine kk a m ?_
      rcases inv with ⟨h1, h2, q⟩ | ⟨f, h1, h2, h3, h4, h5⟩
      · rw [h2, toInt_le_iff] at c2
        have := hn i hi
        rw [toInt_lt_iff] at this
        have e0 : (0 : Int32).toInt = 0 := rfl
        have em : (-1 : Int32).toInt = -1 := rfl
        omega
      · refine Or.inr ⟨f, by omega, h2, h3, h4, fun g hg hu hne => ?_⟩
        by_cases z : g = i
        · subst z
          rw [h3, toInt_le_iff] at c2
          unfold fAhead
          simp only [toInt_lt_iff, toInt_eq_iff]
          omega
        · exact h5 g (by omega) hu hne
    · rw [x_bit0 (by omega)] at c
      rw [ei] at c2 ⊢
      rw [← nI_succ]
      refine kk (nI i) (T i) (Or.inr ⟨i, by omega, rfl, rfl, c, fun g hg hu hne => ?_⟩)
      rcases inv with ⟨h1, h2, q⟩ | ⟨f, h1, h2, h3, h4, h5⟩
      · exact absurd (q g (by omega)) hu
      · rw [h3, toInt_le_iff] at c2
        have fi : fAhead T i f := Or.inl (by rw [toInt_lt_iff]; omega)
        by_cases z : g = f
        · rw [z]; exact fi
        · exact fAhead_tr fi (h5 g (by omega) hu z)
/-- forms used: k of them, all ahead of the others -/
def isUsed (T : Nat → Int32) (u : Int32) (k : Nat) : Prop := sCnt (fun f => bt u f = true) 6 = k ∧ ∀ f g, f < 6 → g < 6 → bt u f = true → ¬ bt u g = true → fAhead T f g
theorem isUsed_s {u : Int32} {k f : Nat} (hu : isUsed T u k) (hf : isMost T u f) : isUsed T (u ||| ((1 : Int32) <<< (nI f &&& 31))) (k + 1) := by
  obtain ⟨c, o⟩ := hu
  obtain ⟨f1, f2, f3⟩ := hf
  have e : ∀ g, g < 6 → (bt (u ||| ((1 : Int32) <<< (nI f &&& 31))) g = true ↔ bt u g = true ∨ g = f) := fun g hg => by
    rw [b_or, bt_one (by omega) (by omega), Bool.or_eq_true, decide_eq_true_eq]
  refine ⟨?_, fun a g ha hg ua ug => ?_⟩
  · rw [sCnt_ext (Q := fun g => bt u g = true ∨ g = f) e, sCnt_or (fun i _ h1 h2 => by subst h2; exact f2 h1), c, sCnt_1 f1]
  · rw [e a ha] at ua
    rw [e g hg] at ug
    rcases ua with ua | ua
    · exact o a g ha hg ua (fun q => ug (Or.inl q))
    · subst ua; exact f3 g hg (fun q => ug (Or.inl q)) (fun q => ug (Or.inr q))
theorem isUsed_ex {u : Int32} {k : Nat} (hu : isUsed T u k) (hk : k < 6) : ∃ f, f < 6 ∧ ¬ bt u f = true := Classical.byContradiction fun q => by
  have := sCnt_full (P := fun f => bt u f = true) 6 (fun i hi => Classical.byContradiction fun c => q ⟨i, hi, c⟩)
  have h1 := hu.1
  omega
/-- mends of used forms, and those of a form ahead of i -/
noncomputable def sSeen (p : List Int32) (u : Int32) (f : Nat) (i : Nat) : Nat := sCnt (fun m => bt u (sForm p m) = true) (sMends p).length + sCnt (fun m => sForm p m = f) i
theorem sSeen_s {u : Int32} {f : Nat} (hf : ¬ bt u f = true) (hf6 : f < 6) : sCnt (fun m => bt (u ||| ((1 : Int32) <<< (nI f &&& 31))) (sForm p m) = true) (sMends p).length = sSeen p u f (sMends p).length := by
  rw [sCnt_ext (Q := fun m => bt u (sForm p m) = true ∨ sForm p m = f) (fun m hm => by
    have := (sForm_ok hm).1
    rw [b_or, bt_one (by omega) (by omega), Bool.or_eq_true, decide_eq_true_eq])]
  exact sCnt_or (fun i _ h1 h2 => by rw [h2] at h1; exact hf h1)
/-- found: that many are ahead -/
theorem first_found {u : Int32} {k f i : Nat} (hu : isUsed T u k) (hf : isMost T u f) (hi : i < (sMends p).length) (ei : sForm p i = f) (hg : sMendGood p rs i)
    (b1 : ∀ m, m < (sMends p).length → bt u (sForm p m) = true → ¬ sMendGood p rs m) (b2 : ∀ m, m < i → sForm p m = f → ¬ sMendGood p rs m) : isFirst T p rs true (nI (sSeen p u f i + 1)) := by
  have pre : ∀ m, m < (sMends p).length → (sPre T p true m i ↔ bt u (sForm p m) = true ∨ (sForm p m = f ∧ m < i)) := fun m hm => by
    have m6 := (sForm_ok hm).1
    show (fAhead T (sForm p m) (sForm p i) ∨ (sForm p m = sForm p i ∧ m < i)) ↔ _
    rw [ei]
    constructor
    · rintro (q | q)
      · refine Or.inl (Classical.byContradiction fun c => ?_)
        by_cases z : sForm p m = f
        · rw [z] at q; exact fAhead_ir q
        · exact fAhead_ir (fAhead_tr q (hf.2.2 _ m6 c z))
      · exact Or.inr q
    · rintro (q | q)
      · exact Or.inl (hu.2 _ _ m6 hf.1 q hf.2.1)
      · exact Or.inr q
  refine Or.inr ⟨i, hi, hg, fun m hm gm q => ?_, ?_⟩
  · rcases (pre m hm).mp q with q | q
    · exact b1 m hm q gm
    · exact b2 m q.2 q.1 gm
  · rw [sCnt_ext pre, sCnt_or (fun m _ h1 h2 => by rw [h2.1] at h1; exact hf.2.1 h1), sCnt_lt (P := fun m => sForm p m = f) _ (Nat.le_of_lt hi), sSeen, Nat.add_comm 1]
theorem ccFirst {z : Int32} {o : Bool} (hN : n < 2 ^ 31) (hz : z = if o then 1 else 0) (ok : aOk n A) (k : RC h A) : JM mX11_first [.ref 0, .int z] (jG0 sc) h (cQ sc ["java/lang/IllegalStateException"] (oFirst A o) h) := by
  have a_h : jI4 10 := by unfold jI4; decide
  have b_h : jI4 89 := by unfold jI4; decide
  have t_h : jI3 75 := by unfold jI3; decide
  have h12 := ok.1.2.2.1.1
  have hs := ok.1.1
  have hr : isRuns h 14 (aRuns (xS A)) := k.1.2.2.1
  have hp : isP h 10 (aBody (xS A)) := k.1.1
  have h280 := sMends_280 hs
  have hT : ∀ i, i < 6 → h 25 i = aTaught (xS A) i := k.1.2.2.2.2.2.1
  have hn : ∀ i, i < 6 → ¬ aTaught (xS A) i < 0 := fun i hi => by
    obtain ⟨m, h1, h2⟩ := ok.1.2.2.2.2.2.1 i hi
    rw [h2]; exact nI_pos (by omega)
  generalize hM : (sMends (aBody (xS A))).length = M at *
  have fin : ∀ {v : Int32} {h2 : jH}, ¬ aBody (xS A) = [] → isFirst (aTaught (xS A)) (aBody (xS A)) (aRuns (xS A)) o v → jfr fCs h h2 → cQ sc ["java/lang/IllegalStateException"] (oFirst A o) h (.inl (some (.int v))) (jG0 sc) h2 := fun a b f => by
    rw [oFirst, sIf_f a, sFirstV_e b]; exact cQ_q ok k f
  have e75 : ∀ {h1 : jH}, jfr fCs h h1 → h1 75 6 = nI M := fun f => by rw [← hM]; exact (f 75 6 rfl).trans k.2.2.2.2.2.1.1
  have f76 : ∀ {h1 : jH} {m : Nat}, jfr fCs h h1 → m < M → h1 76 (nI m).toNatClampNeg = nI (sForm (aBody (xS A)) m) := fun {h1 m} f hm => by
    rw [nI_clamp (by omega), f 76 m rfl, ← (sForm_ok (by omega)).2]
    exact (k.2.2.2.2.2.1.2 m (by omega)).1
  -- one mend tried
  have shp : ∀ {h1 : jH} {m : Nat}, jfr fCs h h1 → m < M → JM mX3_shape [.ref 75, .ref 10, .int (nI m), .ref 89] (jG0 sc) h1 (jint sc (fun x h' => isP h' 89 (sBy (aBody (xS A)) (m, none)) ∧ jfr fCs h h')) := fun {h1 m} f hm => by
    refine jM_int (tX3_shape t_h a_h b_h hs (k.fr ok f).2.2.2.2.2 (hp.fr f rfl (fun _ => rfl)) (Or.inl (by decide)) (Or.inl (by decide)) (Or.inr (by decide)) (by omega)) (fun x h' y => ?_)
    obtain ⟨-, y2, y3⟩ := y
    rw [sAll_1 (by omega)] at y2
    exact ⟨y2, f.tr2 (y3.mono rfl)⟩
  have tst : ∀ {h1 : jH} {m : Nat}, m < M → isP h1 89 (sBy (aBody (xS A)) (m, none)) ∧ jfr fCs h h1 → JM mX11_firstWrong [.ref 0, .ref 89] (jG0 sc) h1 (jint sc (fun x h' => x = sFirstWrong (sBy (aBody (xS A)) (m, none)) (aRuns (xS A)) ∧ jfr fCs h h')) := fun {h1 m} hm y =>
    jM_int (tX11_firstWrong b_h (Or.inr (by decide)) y.1 (sProg_1 hs (by omega)) (hr.fr y.2 rfl (fun _ => rfl) (fun _ => rfl) (fun _ => rfl)) h12 ((k.fr ok y.2).2.2.2.2.1)) (fun x h' w => ⟨w.1, y.2.tr2 (fWalk_Cs w.2)⟩)
  refine jM_of rfl (Nat.le_of_ble_eq_true rfl) (by decide +kernel) rfl (rX11_first_0 (tX11_hasBody hp) ?_ ?_)
  · rintro _ _ ⟨rfl, rfl⟩ c
    rw [sB_ne] at c
    cases o with
    | false =>
      subst hz
      have nz : (if false = true then (1 : Int32) else 0) = 0 := rfl
      rw [nz]
      refine rX11_first_24 (P1 := fun _ _ => True) (fun c => absurd c (by decide)) (fun _ _ _ => ?_) (fun _ _ c => absurd rfl c) (fun _ c => absurd rfl c) (fun _ c => absurd rfl c) (fun _ c => absurd rfl c)
      refine jloop (fun i (h1 : jH) => WP mX11_first _ 64 [some (.ref 0), some (.int 0), some (.int (0 ||| 0)), some (.int (nI i)), some (.int 0), some (.int (-1)), some (.int (nI i))] [] (jG0 sc) h1 (0, 0))
        (fun i h1 => (∀ m, m < i → ¬ sMendGood (aBody (xS A)) (aRuns (xS A)) m) ∧ jfr fCs h h1) M ?_ ?_ 0 _ (by omega) ⟨fun m hm => absurd hm (Nat.not_lt_zero _), jfr.rf⟩
      · rintro h1 ⟨i1, f⟩
        have le : h1 75 6 ≤ nI M := by rw [e75 f]; exact nI_le (Nat.le_refl _) (by omega)
        exact rX11_first_64 (P1 := fun _ _ => True) (P2 := fun _ _ => True) (P3 := fun _ _ => True) (P4 := fun _ _ => True) (fun _ c => absurd rfl c) (fun _ _ => fin c (Or.inl ⟨rfl, by rw [hM]; exact i1⟩) f) (fun c => absurd le c) (fun c => absurd le c) (fun c => absurd le c) (fun c => absurd le c) (fun c => absurd le c) (fun c => absurd le c) (fun c => absurd le c) (fun c => absurd le c) (fun c => absurd le c) (fun c => absurd le c) (fun c => absurd le c) (fun c => absurd le c)
      · rintro i h1 hi ⟨i1, f⟩ kk
        have n1 : ¬ h1 75 6 ≤ nI i := by rw [e75 f, jn_le (by omega) (by omega)]; omega
        have n2 : ¬ (300 : Int32) ≤ nI i := fun c => by have := (jn_le (a := 300) (by decide) (by omega)).mp c; omega
        refine rX11_first_64 (P3 := fun _ _ => True) (P4 := fun _ _ => True) (fun c => absurd c n1) (fun c => absurd c n1) (fun _ c => absurd c n2) (fun _ c => absurd c n2) (fun _ _ _ => shp f hi) (fun _ _ _ _ _ y => tst hi y) (fun _ _ _ _ _ _ x2 h2 y c2 => ?_) (fun _ _ _ _ _ _ x2 h2 y c2 => ?_) (fun _ _ c => absurd rfl c) (fun _ _ c => absurd rfl c) (fun _ _ c => absurd rfl c) (fun _ _ c => absurd rfl c) (fun _ _ c => absurd rfl c) (fun _ _ c => absurd rfl c)
        · rw [y.1] at c2
          rw [← nI_succ]
          refine kk h2 ⟨fun m hm => ?_, y.2⟩
          by_cases z : m = i
          · subst z; exact c2
          · exact i1 m (by omega)
        · rw [y.1] at c2
          rw [← nI_succ]
          refine fin c (Or.inr ⟨i, by omega, c2, fun m _ gm q => i1 m q gm, ?_⟩) y.2
          have : sCnt (fun m => sPre (aTaught (xS A)) (aBody (xS A)) false m i) (sMends (aBody (xS A))).length = i := by
            rw [show (fun m => sPre (aTaught (xS A)) (aBody (xS A)) false m i) = fun m => True ∧ m < i from funext fun m => propext ⟨fun q => ⟨trivial, q⟩, fun q => q.2⟩, sCnt_lt (P := fun _ => True) _ (by omega)]
            exact sCnt_full i (fun _ _ => trivial)
          rw [this, Nat.add_comm]
    | true =>
      subst hz
      have nz : (if true = true then (1 : Int32) else 0) = 1 := rfl
      rw [nz]
      refine jloop2 (fun r (h1 : jH) (s : Int32 × Nat) => WP mX11_first _ 24 [some (.ref 0), some (.int 1), some (.int s.1), some (.int (nI s.2)), some (.int (nI r)), none, none] [] (jG0 sc) h1 (0, 0))
        (fun r h1 s => isUsed (aTaught (xS A)) s.1 r ∧ s.2 = sCnt (fun m => bt s.1 (sForm (aBody (xS A)) m) = true) M ∧ (∀ m, m < M → bt s.1 (sForm (aBody (xS A)) m) = true → ¬ sMendGood (aBody (xS A)) (aRuns (xS A)) m) ∧ jfr fCs h h1) 6 ?_ ?_ 0 _ (0, 0) (by omega) ⟨⟨sCnt_none 6 (fun i _ q => by rw [b_0] at q; cases q), fun f g _ _ q _ => (by rw [b_0] at q; cases q)⟩, (sCnt_none M (fun i _ q => by rw [b_0] at q; cases q)).symm, fun m _ q => (by rw [b_0] at q; cases q), jfr.rf⟩
      · rintro h1 s ⟨i1, i2, i3, f⟩
        refine rX11_first_24 (P1 := fun _ _ => True) (fun _ => fin c (Or.inl ⟨rfl, fun m hm => ?_⟩) f) (fun c => absurd (by decide) c) (fun c => absurd (by decide) c) (fun c => absurd (by decide) c) (fun c => absurd (by decide) c) (fun c => absurd (by decide) c)
        exact i3 m (by omega) (sCnt_all 6 i1.1 _ (sForm_ok hm).1)
      · rintro r h1 s hr6 ⟨i1, i2, i3, f⟩ kk
        have n6 : ¬ (6 : Int32) ≤ nI r := fun c => by have := (jn_le (a := 6) (by decide) (by omega)).mp c; omega
        refine rX11_first_24 (fun c => absurd c n6) (fun _ c => absurd c (by decide)) (fun _ c => absurd c (by decide)) (fun _ _ => tX11_mostTaught (T := aTaught (xS A)) (fun i hi => (f 25 i rfl).trans (hT i hi)) hn (isUsed_ex i1 hr6)) (fun _ _ _ _ _ c => absurd c (by decide)) ?_
        rintro - - x1 _ ⟨⟨g, rfl, hg⟩, rfl⟩ -
        have eM : sCnt (fun m => bt s.1 (sForm (aBody (xS A)) m) = true) M + 0 = sSeen (aBody (xS A)) s.1 g 0 := by rw [sSeen, hM]; rfl
        refine jloop2 (fun i (h2 : jH) (t : Nat) => WP mX11_first _ 64 [some (.ref 0), some (.int 1), some (.int (s.1 ||| ((1 : Int32) <<< (nI g &&& 31)))), some (.int (nI t)), some (.int (nI r)), some (.int (nI g)), some (.int (nI i))] [] (jG0 sc) h2 (0, 0))
          (fun i h2 t => t = sSeen (aBody (xS A)) s.1 g i ∧ (∀ m, m < i → sForm (aBody (xS A)) m = g → ¬ sMendGood (aBody (xS A)) (aRuns (xS A)) m) ∧ jfr fCs h h2) M ?_ ?_ 0 _ s.2 (by omega) ⟨by rw [i2]; exact eM, fun m hm => absurd hm (Nat.not_lt_zero _), f⟩
        · rintro h2 t ⟨j1, j2, f2⟩
          have le : h2 75 6 ≤ nI M := by rw [e75 f2]; exact nI_le (Nat.le_refl _) (by omega)
          refine rX11_first_64 (P1 := fun _ _ => True) (P2 := fun _ _ => True) (P3 := fun _ _ => True) (P4 := fun _ _ => True) (fun _ _ => ?_) (fun _ c => absurd c (by decide)) (fun c => absurd le c) (fun c => absurd le c) (fun c => absurd le c) (fun c => absurd le c) (fun c => absurd le c) (fun c => absurd le c) (fun c => absurd le c) (fun c => absurd le c) (fun c => absurd le c) (fun c => absurd le c) (fun c => absurd le c) (fun c => absurd le c)
          rw [← nI_succ]
          refine kk h2 (s.1 ||| ((1 : Int32) <<< (nI g &&& 31)), t) ⟨isUsed_s i1 hg, ?_, fun m hm q => ?_, f2⟩
          · show t = _
            have := sSeen_s (p := aBody (xS A)) hg.2.1 hg.1
            rw [hM] at this
            rw [this, j1]
          · have m6 := (sForm_ok (p := aBody (xS A)) (m := m) (by omega)).1
            have g6 := hg.1
            have q : bt (s.1 ||| ((1 : Int32) <<< (nI g &&& 31))) (sForm (aBody (xS A)) m) = true := q
            rw [b_or, bt_one (by omega) (by omega), Bool.or_eq_true, decide_eq_true_eq] at q
            exact q.elim (i3 m hm) (j2 m hm)
        · rintro i h2 t hi ⟨j1, j2, f2⟩ kk2
          have g6 := hg.1
          have i6 := (sForm_ok (p := aBody (xS A)) (m := i) (by omega)).1
          have n1 : ¬ h2 75 6 ≤ nI i := by rw [e75 f2, jn_le (by omega) (by omega)]; omega
          have n2 : ¬ (300 : Int32) ≤ nI i := fun c => by have := (jn_le (a := 300) (by decide) (by omega)).mp c; omega
          have one : ¬ (1 : Int32) = 0 := by decide
          refine rX11_first_64 (P1 := fun _ _ => True) (P2 := fun _ _ => True) (fun c => absurd c n1) (fun c => absurd c n1) (fun _ c => absurd c n2) (fun _ c => absurd c n2) (fun _ _ c => absurd c one) (fun _ _ c => absurd c one) (fun _ _ c => absurd c one) (fun _ _ c => absurd c one) (fun _ _ _ => vp_in_nI (by omega) (by decide)) (fun _ _ _ c2 => ?_) (fun _ _ _ _ => shp f2 hi) (fun _ _ _ _ _ _ y => tst hi y) (fun _ _ _ c2 _ _ _ x2 h3 y c3 => ?_) (fun _ _ _ c2 _ _ _ x2 h3 y c3 => ?_)
          all_goals rw [f76 f2 hi, jn_eq (by omega) (by omega)] at c2
          · rw [← nI_succ i]
            refine kk2 h2 t ⟨by rw [j1, sSeen, sSeen, sCnt_f (P := fun m => sForm (aBody (xS A)) m = g) c2], fun m hm q => ?_, f2⟩
            by_cases w : m = i
            · subst w; exact absurd q c2
            · exact j2 m (by omega) q
          · rw [y.1] at c3
            rw [← nI_succ i, ← nI_succ t]
            refine kk2 h3 (t + 1) ⟨by rw [j1, sSeen, sSeen, sCnt_t (P := fun m => sForm (aBody (xS A)) m = g) c2, Nat.add_assoc], fun m hm q => ?_, y.2⟩
            by_cases w : m = i
            · subst w; exact c3
            · exact j2 m (by omega) q
          · rw [y.1] at c3
            rw [← nI_succ t, j1]
            exact fin c (first_found i1 hg (by omega) c2 c3 (fun m hm => i3 m (by omega)) j2) y.2
  · rintro _ _ ⟨rfl, rfl⟩ c
    rw [oFirst, sIf_t (Classical.not_not.mp (sB_eq.mp c))]; exact cQ_x rfl k (fun _ _ => rfl)
end FSC
