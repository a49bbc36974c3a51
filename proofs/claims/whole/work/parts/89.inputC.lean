/-! Operation input: the class. -/
section INC
variable {sc : Nat × (Nat → Int32)} {h : jH} {A : aA} {n : Nat} {p : List Int32} {rs : List aRun}
theorem tX5_stepsTo {x y : Nat} (hx : x ≤ 15) (hy : y ≤ 15) (hr : isRuns h 14 rs) (h12 : rs.length ≤ 12) (kr : ∀ r ∈ rs, aOkRun r) : JM mX5_stepsTo [.ref 14, .int (nI x), .int (nI y)] (jG0 sc) h (jgets sc (nI (sNear rs x y)) h) := by
  have t_h : jI5 14 := by unfold jI5; decide
  have e3 : h 14 3 = nI rs.length := hr.1
  have main : ∀ s0, (rs.length ≠ 0 → s0 = 1000) → (rs.length = 0 → s0 = 0) → WP mX5_stepsTo (jgets sc (nI (sNear rs x y)) h) 18 [some (.ref 14), some (.int (nI x)), some (.int (nI y)), some (.int (nI s0)), some (.int 0)] [] (jG0 sc) h (0, 0) := by
    intro s0 z1 z2
    refine jloop (fun i (s : Nat) => WP mX5_stepsTo _ 18 [some (.ref 14), some (.int (nI x)), some (.int (nI y)), some (.int (nI s)), some (.int (nI i))] [] (jG0 sc) h (0, 0))
      (fun i s => if rs.length = 0 then s = 0 else s = sNr rs x y i) rs.length ?_ ?_ 0 s0 (by omega) ?_
    · rintro s es
      have no : ¬ h 14 3 ≤ nI rs.length → False := fun c => c (by rw [e3]; exact nI_le (Nat.le_refl _) (by omega))
      refine rX5_stepsTo_18 t_h (fun _ => jgets_i ?_) (fun c => (no c).elim) (fun c => (no c).elim) (fun c => (no c).elim)
      unfold sNear
      by_cases z : rs.length = 0
      · rw [if_pos z] at es ⊢; rw [es]
      · rw [if_neg z] at es ⊢; rw [es]
    · rintro i s hi es kk
      have z : ¬ rs.length = 0 := by omega
      rw [if_neg z] at es
      have no : ¬ h 14 3 ≤ nI i := by rw [e3, jn_le (by omega) (by omega)]; omega
      have no2 : ¬ (12 : Int32) ≤ nI i := fun c => by have := (jn_le (a := 12) (by decide) (by omega)).mp c; omega
      refine rX5_stepsTo_18 t_h (fun c => absurd c no) (fun _ c => absurd c no2) (fun _ _ => vp_in_nI (by omega) (by decide)) (fun _ _ => ?_)
      obtain ⟨q1, q2, -⟩ := hr.at hi h12
      have okr := kr _ (getD_mem (d := aRun0) hi)
      obtain ⟨a1, a2, b1, b2⟩ := aOkRun_n okr
      have d30 := sRunD_30 okr hx hy
      have s1000 := sNr_1000 (rs := rs) (x := x) (y := y) i
      rw [q1, q2, a1, b1, abs_d (by omega) (by omega), abs_d (by omega) (by omega), nI_add, show sDist x (rs.getD i aRun0).1.toInt.toNat + sDist y (rs.getD i aRun0).2.1.toInt.toNat = sRunD (rs.getD i aRun0) x y from rfl, min_n (by omega) (by rw [es]; omega), ← nI_succ]
      exact kk _ (by rw [if_neg z, es]; rfl)
    · by_cases z : rs.length = 0
      · rw [if_pos z]; exact z2 z
      · rw [if_neg z]; exact z1 z
  refine jM_of rfl (Nat.le_of_ble_eq_true rfl) (by decide +kernel) rfl (rX5_stepsTo_0 t_h (fun c => main 1000 (fun _ => rfl) (fun z => absurd (by rw [e3, z]; rfl) c)) (fun c => main 0 (fun z => absurd (by rw [e3, show (0 : Int32) = nI 0 from rfl, jn_eq (by omega) (by omega)] at c; exact c) z) (fun _ => rfl)))
/-- the kept ones' programs lie ready -/
def isShapes (h : jH) (A : aA) (m : Nat) : Prop := ∀ i, i < m → isP h (99 + 2 * i) (sShape (aBody (xS A)) ((aKept A).getD i 0))
theorem isShapes.fr {F : jF} {h h' : jH} {m : Nat} (k : isShapes h A m) (hm : m ≤ 30) (f : jfr F h h') (hF : F.1.all (fun r => Nat.blt r.2 99) = true ∧ F.2.all (fun r => Nat.blt r.1 99) = true) : isShapes h' A m := fun i hi => by
  simp only [List.all_eq_true, Nat.blt_eq] at hF
  have g : ∀ c, 99 ≤ c → ∀ j, jin F c j = false := fun c hc j => by rw [jin_f]; exact ⟨fun r hr => by have := hF.1 r hr; omega, fun r hr => by have := hF.2 r hr; omega⟩
  exact (k i hi).fr f (g _ (by omega) _) (fun j => g _ (by omega) j)
theorem rt93 : ∀ i, i < 30 → (jRt.getD 93 []).getD i none = some (99 + 2 * i) := by decide +kernel
theorem ri93 : ∀ i, i < 30 → jI4 (99 + 2 * i) := by unfold jI4; decide +kernel
/-- one of them goes -/
theorem tX10_kept {h1 : jH} {m i x y : Nat} (ok : aOk n A) (hm : m ≤ 30) (k : isShapes h1 A m) (hi : i < m) (h5 : h1 69 5 = -1) :
    JM mX10_through [.ref 69, .ref (99 + 2 * i), .int (nI x), .int (nI y)] (jG0 sc) h1 (jint sc (fun r h' => r = sKE A x y i ∧ jfr fWalk h1 h')) :=
  jM_int (tX10_end (ri93 i (by omega)) (Or.inr (by omega)) (k i hi) (sProg_sh ok.1.1) h5) (fun r h' z => ⟨z.1, z.2.2.2.2⟩)
theorem tX11_endApart {x y m : Nat} (ok : aOk n A) (hm : m = (aKept A).length) (h2 : 2 ≤ m) (k : isShapes h A m) (h5 : h 69 5 = -1) (e1 : h 20 1 = nI m) :
    JM mX11_endApart [.ref 0, .int (nI x), .int (nI y)] (jG0 sc) h (jint sc (fun r h' => r = sB (sCand A false x y) ∧ jfr fWalk h h')) := by
  have h30 : (aKept A).length ≤ 30 := ok.1.2.2.2.2.1.1
  refine jM_of rfl (Nat.le_of_ble_eq_true rfl) (by decide +kernel) rfl (rX11_endApart_0 (q1 := 99 + 2 * 0) (rt93 0 (by omega)) (ri93 0 (by omega)) (tX10_kept (i := 0) (x := x) (y := y) ok (by omega) k (by omega) h5) (fun x2 h2 z => ?_))
  rw [z.1]
  refine jloop (fun i (h1 : jH) => WP mX11_endApart _ 19 [some (.ref 0), some (.int (nI x)), some (.int (nI y)), some (.int (sKE A x y 0)), some (.int (nI i))] [] (jG0 sc) h1 (0, 0))
    (fun i h1 => (∀ j, j < i → sKE A x y j = sKE A x y 0) ∧ jfr fWalk h h1) m ?_ ?_ 1 h2 (by omega) ⟨fun j hj => by rw [show j = 0 by omega], z.2⟩
  · rintro h1 ⟨i1, f⟩
    have le : h1 20 1 ≤ nI m := by rw [(f 20 1 rfl).trans e1]; exact nI_le (Nat.le_refl _) (by omega)
    exact rX11_endApart_19 (q1 := 0) (P1 := fun _ _ => True) (fun _ => jint_i ⟨(sB_f (fun q => q (by rw [← hm]; exact i1))).symm, f⟩) (fun c => absurd le c) (fun c => absurd le c) (fun c => absurd le c) (fun c => absurd le c) (fun c => absurd le c) (fun c => absurd le c) (fun c => absurd le c)
  · rintro i h1 hi ⟨i1, f⟩ kk
    have no : ¬ h1 20 1 ≤ nI i := by rw [(f 20 1 rfl).trans e1, jn_le (by omega) (by omega)]; omega
    have no2 : ¬ (30 : Int32) ≤ nI i := fun c => by have := (jn_le (a := 30) (by decide) (by omega)).mp c; omega
    refine rX11_endApart_19 (q1 := 99 + 2 * i) (fun c => absurd c no) (fun _ c => absurd c no2) (fun _ _ => vp_in_nI (by omega) (by decide)) (fun _ _ => by rw [nI_clamp (by omega)]; exact rt93 i (by omega)) (fun _ _ => ri93 i (by omega)) (fun _ _ => tX10_kept (x := x) (y := y) ok (by omega) (k.fr (by omega) f ⟨rfl, rfl⟩) hi ((f 69 5 rfl).trans h5)) (fun _ _ x3 h3 w c => ?_) (fun _ _ x3 h3 w c => ?_)
    · rw [w.1] at c
      rw [← nI_succ]
      refine kk h3 ⟨fun j hj => ?_, f.tr2 w.2⟩
      by_cases v : j = i
      · subst v; exact c
      · exact i1 j (by omega)
    · rw [w.1] at c
      exact jint_i ⟨(sB_t (fun q => c (q i (by omega)))).symm, f.tr2 w.2⟩
abbrev fAlike : jF := ([(70, 71), (94, 94)], [(69, 2, 4), (69, 7, 11)])
theorem tX11_mostAlike {x y m : Nat} (ok : aOk n A) (hm : m = (aKept A).length) (k : isShapes h A m) (h5 : h 69 5 = -1) (e1 : h 20 1 = nI m) :
    JM mX11_mostAlike [.ref 0, .int (nI x), .int (nI y)] (jG0 sc) h (jint sc (fun r h' => r = nI (sMx (sKE A x y) m) ∧ jfr fAlike h h')) := by
  have h30 : (aKept A).length ≤ 30 := ok.1.2.2.2.2.1.1
  refine jM_of rfl (Nat.le_of_ble_eq_true rfl) (by decide +kernel) rfl (rX11_mostAlike_0 ?_)
  refine jloop2 (fun i (h1 : jH) (s : Nat) => WP mX11_mostAlike _ 5 [some (.ref 0), some (.int (nI x)), some (.int (nI y)), some (.int (nI s)), some (.int (nI i)), none, none] [] (jG0 sc) h1 (0, 0))
    (fun i h1 s => s = sMx (sKE A x y) i ∧ (∀ j, j < i → h1 94 j = sKE A x y j) ∧ jfr fAlike h h1) m ?_ ?_ 0 h 0 (by omega) ⟨rfl, fun j hj => absurd hj (Nat.not_lt_zero _), jfr.rf⟩
  · rintro h1 s ⟨es, i1, f⟩
    have le : h1 20 1 ≤ nI m := by rw [(f 20 1 rfl).trans e1]; exact nI_le (Nat.le_refl _) (by omega)
    exact rX11_mostAlike_5 (q1 := 0) (P1 := fun _ _ => True) (fun _ => jint_i ⟨by rw [es], f⟩) (fun c => absurd le c) (fun c => absurd le c) (fun c => absurd le c) (fun c => absurd le c) (fun c => absurd le c) (fun c => absurd le c) (fun c => absurd le c)
  · rintro i h1 s hi ⟨es, i1, f⟩ kk
    have no : ¬ h1 20 1 ≤ nI i := by rw [(f 20 1 rfl).trans e1, jn_le (by omega) (by omega)]; omega
    have no2 : ¬ (30 : Int32) ≤ nI i := fun c => by have := (jn_le (a := 30) (by decide) (by omega)).mp c; omega
    have vi : vp_in (nI i) 30 := vp_in_nI (by omega) (by decide)
    have s30 := sMx_30 (e := sKE A x y) (m := i)
    refine rX11_mostAlike_5 (q1 := 99 + 2 * i) (fun c => absurd c no) (fun _ c => absurd c no2) (fun _ _ => vi) (fun _ _ => by rw [nI_clamp (by omega)]; exact rt93 i (by omega)) (fun _ _ => ri93 i (by omega)) (fun _ _ => tX10_kept (x := x) (y := y) ok (by omega) (k.fr (by omega) f ⟨rfl, rfl⟩) hi ((f 69 5 rfl).trans h5)) (fun _ _ _ _ _ => vi) (fun _ _ x2 h2 w => ?_)
    rw [w.1, nI_clamp (by omega)]
    have f2 : jfr fAlike h (jput h2 94 i (sKE A x y i)) := (f.tr2 (w.2.mono rfl)).put (by rw [jin_iff]; simp)
    have i2 : ∀ j, j < i + 1 → jput h2 94 i (sKE A x y i) 94 j = sKE A x y j := fun j hj => by
      by_cases v : j = i
      · subst v; exact jput_at
      · rw [jput_sl v]; exact (w.2 94 j rfl).trans (i1 j (by omega))
    generalize jput h2 94 i (sKE A x y i) = h3 at *
    refine jloop (fun j (t : Nat) => WP mX11_mostAlike _ 59 [some (.ref 0), some (.int (nI x)), some (.int (nI y)), some (.int (nI s)), some (.int (nI i)), some (.int (nI t)), some (.int (nI j))] [] (jG0 sc) h3 (0, 0))
      (fun j t => t = sCnt (fun j => sKE A x y j = sKE A x y i) j) (i + 1) ?_ ?_ 0 0 (by omega) rfl
    · rintro t et
      have t30 := sCnt_le (P := fun j => sKE A x y j = sKE A x y i) (i + 1)
      have lt : nI i < nI (i + 1) := (jn_lt (by omega) (by omega)).mpr (by omega)
      refine rX11_mostAlike_59 (fun _ => ?_) (fun c => absurd lt c) (fun c => absurd lt c) (fun c => absurd lt c) (fun c => absurd lt c)
      rw [max_n (by omega) (by omega), ← nI_succ]
      exact kk h3 _ ⟨by rw [es, et]; rfl, i2, f2⟩
    · rintro j t hj et kk2
      have t30 := sCnt_le (P := fun j => sKE A x y j = sKE A x y i) j
      have nlt : ¬ nI i < nI j := by rw [jn_lt (by omega) (by omega)]; omega
      have ej : h3 94 (nI j).toNatClampNeg = sKE A x y j := by rw [nI_clamp (by omega)]; exact i2 j hj
      have ei : h3 94 (nI i).toNatClampNeg = sKE A x y i := by rw [nI_clamp (by omega)]; exact i2 i (by omega)
      refine rX11_mostAlike_59 (fun c => absurd c nlt) (fun _ => vp_in_nI (by omega) (by decide)) (fun _ => vi) (fun _ c => ?_) (fun _ c => ?_)
      all_goals rw [ej, ei] at c
      · rw [← nI_succ, Int32.add_zero]
        exact kk2 t (by rw [et, sCnt_f (P := fun j => sKE A x y j = sKE A x y i) c])
      · rw [← nI_succ j, ← nI_succ t]
        exact kk2 (t + 1) (by rw [et, sCnt_t (P := fun j => sKE A x y j = sKE A x y i) c])
/-- the class's two numbers of the best one -/
def cNear (l : Int32 × Int32) (st : oP) : Prop := (st = none ∧ l = (-1, 1000)) ∨ ∃ b s, st = some (b, s) ∧ l = (nI b, nI s) ∧ s ≤ 30
theorem tX11_nearInput {m : Nat} (ok : aOk n A) (hm : m = (aKept A).length) (hm2 : 2 ≤ m) (k : isShapes h A m) (h5 : h 69 5 = -1) (e1 : h 20 1 = nI m) (hr : isRuns h 14 (aRuns (xS A))) (eb : h 9 8 = nI (aBox (xS A))) :
    JM mX11_nearInput [.ref 0] (jG0 sc) h (jint sc (fun r h' => r = pVal (pBox (sCand A false) (sKey A false) (aBox (xS A)) (aBox (xS A) + 1)) ∧ jfr fWalk h h')) := by
  have h30 : (aKept A).length ≤ 30 := ok.1.2.2.2.2.1.1
  have h15 : aBox (xS A) ≤ 15 := ok.1.2.2.2.2.2.2.2
  have h12 := ok.1.2.2.1.1
  have kr := ok.1.2.2.1.2
  refine jM_of rfl (Nat.le_of_ble_eq_true rfl) (by decide +kernel) rfl (rX11_nearInput_0 ?_)
  refine jloop2 (fun x (h1 : jH) (l : Int32 × Int32) => WP mX11_nearInput _ 8 [some (.ref 0), some (.int l.1), some (.int l.2), some (.int (nI x)), none, none] [] (jG0 sc) h1 (0, 0))
    (fun x h1 l => cNear l (pBox (sCand A false) (sKey A false) (aBox (xS A)) x) ∧ jfr fWalk h h1) (aBox (xS A) + 1) ?_ ?_ 0 h (-1, 1000) (by omega) ⟨Or.inl ⟨rfl, rfl⟩, jfr.rf⟩
  · rintro h1 l ⟨i1, f⟩
    refine rX11_nearInput_8 (fun _ => jint_i ⟨?_, f⟩) (fun c => absurd (by rw [(f 9 8 rfl).trans eb, jn_lt (by omega) (by omega)]; omega) c)
    rcases i1 with ⟨q1, q2⟩ | ⟨b, s, q1, q2, -⟩
    · rw [q1, q2]; rfl
    · rw [q1, q2]; rfl
  · rintro x h1 l hx ⟨i1, f⟩ kk
    refine rX11_nearInput_8 (fun c => absurd c (by rw [(f 9 8 rfl).trans eb, jn_lt (by omega) (by omega)]; omega)) (fun _ => ?_)
    refine jloop2 (fun y (h2 : jH) (l : Int32 × Int32) => WP mX11_nearInput _ 22 [some (.ref 0), some (.int l.1), some (.int l.2), some (.int (nI x)), some (.int (nI y)), none] [] (jG0 sc) h2 (0, 0))
      (fun y h2 l => cNear l (pRow (sCand A false) (sKey A false) x (pBox (sCand A false) (sKey A false) (aBox (xS A)) x) y) ∧ jfr fWalk h h2) (aBox (xS A) + 1) ?_ ?_ 0 h1 l (by omega) ⟨i1, f⟩
    · rintro h2 l2 ⟨j1, f2⟩
      have lt : h2 9 8 < nI (aBox (xS A) + 1) := by rw [(f2 9 8 rfl).trans eb, jn_lt (by omega) (by omega)]; omega
      refine rX11_nearInput_22 (fun _ => ?_) (P1 := fun _ _ => True) (P2 := fun _ _ => True) (fun c => absurd lt c) (fun c => absurd lt c) (fun c => absurd lt c) (fun c => absurd lt c) (fun c => absurd lt c)
      rw [← nI_succ]
      exact kk h2 l2 ⟨j1, f2⟩
    · rintro y h2 l2 hy ⟨j1, f2⟩ kk2
      have nlt : ¬ h2 9 8 < nI y := by rw [(f2 9 8 rfl).trans eb, jn_lt (by omega) (by omega)]; omega
      have n30 : sNear (aRuns (xS A)) x y ≤ 30 := sNear_30 kr (by omega) (by omega)
      refine rX11_nearInput_22 (fun c => absurd c nlt) (fun _ => tX5_stepsTo (by omega) (by omega) (hr.walk f2) h12 kr) (fun _ x1 h3 z c => ?_) (P2 := fun r h' => r = sB (sCand A false x y) ∧ jfr fWalk h h') (fun _ x1 h3 z c => ?_) (fun _ x1 h3 z c x4 h4 w c2 => ?_) (fun _ x1 h3 z c x4 h4 w c2 => ?_)
      all_goals
        obtain ⟨z1, z2⟩ := z
        subst z1; subst z2
      · rw [← nI_succ]
        refine kk2 h2 l2 ⟨?_, f2⟩
        rcases j1 with ⟨q1, q2⟩ | ⟨b, s, q1, q2, q3⟩
        · rw [q2] at c
          exact absurd ((jn_le (a := 1000) (by decide) (by omega)).mp c) (by omega)
        · rw [q2, jn_le (by omega) (by omega)] at c
          refine Or.inr ⟨b, s, ?_, q2, q3⟩
          rw [pRow, q1, pStep_f (fun v => absurd v (show ¬ sNear (aRuns (xS A)) x y < s by omega))]
      · exact jM_int (tX11_endApart ok hm hm2 (k.fr (by omega) f2 ⟨rfl, rfl⟩) ((f2 69 5 rfl).trans h5) ((f2 20 1 rfl).trans e1)) (fun r h' w => ⟨w.1, f2.tr2 w.2⟩)
      · rw [w.1, sB_eq] at c2
        rw [← nI_succ]
        refine kk2 h4 l2 ⟨?_, w.2⟩
        rw [pRow, pStep_c c2]; exact j1
      · rw [w.1, sB_ne] at c2
        rw [← nI_succ, pk16 (by omega) (by omega)]
        refine kk2 h4 (nI (16 * x + y), nI (sNear (aRuns (xS A)) x y)) ⟨Or.inr ⟨16 * x + y, sNear (aRuns (xS A)) x y, ?_, rfl, n30⟩, w.2⟩
        rcases j1 with ⟨q1, q2⟩ | ⟨b, s, q1, q2, q3⟩
        · rw [pRow, q1, pStep_n c2]; rfl
        · rw [q2, jn_le (by omega) (by omega)] at c
          rw [pRow, q1, pStep_t c2 (show sNear (aRuns (xS A)) x y < s by omega)]; rfl
def cAsk (l : Int32 × Int32 × Int32) (st : oP) : Prop := (st = none ∧ l = (-1, 1000, 1000)) ∨ ∃ b m s, st = some (b, 100 * m + s) ∧ l = (nI b, nI m, nI s) ∧ s ≤ 30 ∧ m ≤ 30
theorem tX11_askedInput {m : Nat} (ok : aOk n A) (hm : m = (aKept A).length) (k : isShapes h A m) (h5 : h 69 5 = -1) (e1 : h 20 1 = nI m) (hr : isRuns h 14 (aRuns (xS A))) (eb : h 9 8 = nI (aBox (xS A))) :
    JM mX11_askedInput [.ref 0] (jG0 sc) h (jint sc (fun r h' => r = pVal (pBox (sCand A true) (sKey A true) (aBox (xS A)) (aBox (xS A) + 1)) ∧ jfr fAlike h h')) := by
  have h30 : (aKept A).length ≤ 30 := ok.1.2.2.2.2.1.1
  have h15 : aBox (xS A) ≤ 15 := ok.1.2.2.2.2.2.2.2
  have h12 := ok.1.2.2.1.1
  have kr := ok.1.2.2.1.2
  refine jM_of rfl (Nat.le_of_ble_eq_true rfl) (by decide +kernel) rfl (rX11_askedInput_0 ?_)
  refine jloop2 (fun x (h1 : jH) (l : Int32 × Int32 × Int32) => WP mX11_askedInput _ 13 [some (.ref 0), some (.int l.1), some (.int l.2.1), some (.int l.2.2), some (.int (nI x)), none, none, none] [] (jG0 sc) h1 (0, 0))
    (fun x h1 l => cAsk l (pBox (sCand A true) (sKey A true) (aBox (xS A)) x) ∧ jfr fAlike h h1) (aBox (xS A) + 1) ?_ ?_ 0 h (-1, 1000, 1000) (by omega) ⟨Or.inl ⟨rfl, rfl⟩, jfr.rf⟩
  · rintro h1 l ⟨i1, f⟩
    refine rX11_askedInput_13 (fun _ => jint_i ⟨?_, f⟩) (fun c => absurd (by rw [(f 9 8 rfl).trans eb, jn_lt (by omega) (by omega)]; omega) c)
    rcases i1 with ⟨q1, q2⟩ | ⟨b, m, s, q1, q2, -⟩
    · rw [q1, q2]; rfl
    · rw [q1, q2]; rfl
  · rintro x h1 l hx ⟨i1, f⟩ kk
    refine rX11_askedInput_13 (fun c => absurd c (by rw [(f 9 8 rfl).trans eb, jn_lt (by omega) (by omega)]; omega)) (fun _ => ?_)
    refine jloop2 (fun y (h2 : jH) (l : Int32 × Int32 × Int32) => WP mX11_askedInput _ 28 [some (.ref 0), some (.int l.1), some (.int l.2.1), some (.int l.2.2), some (.int (nI x)), some (.int (nI y)), none, none] [] (jG0 sc) h2 (0, 0))
      (fun y h2 l => cAsk l (pRow (sCand A true) (sKey A true) x (pBox (sCand A true) (sKey A true) (aBox (xS A)) x) y) ∧ jfr fAlike h h2) (aBox (xS A) + 1) ?_ ?_ 0 h1 l (by omega) ⟨i1, f⟩
    · rintro h2 l2 ⟨j1, f2⟩
      have lt : h2 9 8 < nI (aBox (xS A) + 1) := by rw [(f2 9 8 rfl).trans eb, jn_lt (by omega) (by omega)]; omega
      refine rX11_askedInput_28 (fun _ => ?_) (P1 := fun _ _ => True) (P2 := fun _ _ => True) (fun c => absurd lt c) (fun c => absurd lt c) (fun c => absurd lt c) (fun c => absurd lt c) (fun c => absurd lt c) (fun c => absurd lt c)
      rw [← nI_succ]
      exact kk h2 l2 ⟨j1, f2⟩
    · rintro y h2 l2 hy ⟨j1, f2⟩ kk2
      have nlt : ¬ h2 9 8 < nI y := by rw [(f2 9 8 rfl).trans eb, jn_lt (by omega) (by omega)]; omega
      have n30 : sNear (aRuns (xS A)) x y ≤ 30 := sNear_30 kr (by omega) (by omega)
      have m30 : sMx (sKE A x y) m ≤ 30 := Nat.le_trans sMx_30 (by omega)
      have ek : sKey A true x y = 100 * sMx (sKE A x y) m + sNear (aRuns (xS A)) x y := by rw [hm]; rfl
      have take : ∀ {h4 : jH}, jfr fAlike h h4 → pStep (sCand A true) (sKey A true) x y (pRow (sCand A true) (sKey A true) x (pBox (sCand A true) (sKey A true) (aBox (xS A)) x) y) = some (16 * x + y, sKey A true x y) → WP mX11_askedInput (jint sc (fun r h' => r = pVal (pBox (sCand A true) (sKey A true) (aBox (xS A)) (aBox (xS A) + 1)) ∧ jfr fAlike h h')) 28 [some (.ref 0), some (.int (16 * nI x + nI y)), some (.int (nI (sMx (sKE A x y) m))), some (.int (nI (sNear (aRuns (xS A)) x y))), some (.int (nI x)), some (.int (nI y + 1)), none, none] [] (jG0 sc) h4 (0, 0) := fun {h4} g q => by
        rw [← nI_succ, pk16 (by omega) (by omega)]
        exact kk2 h4 (nI (16 * x + y), nI (sMx (sKE A x y) m), nI (sNear (aRuns (xS A)) x y)) ⟨Or.inr ⟨16 * x + y, sMx (sKE A x y) m, sNear (aRuns (xS A)) x y, by rw [pRow, q, ek], rfl, n30, m30⟩, g⟩
      have stay : ∀ {h4 : jH}, jfr fAlike h h4 → (∃ b v, pRow (sCand A true) (sKey A true) x (pBox (sCand A true) (sKey A true) (aBox (xS A)) x) y = some (b, v) ∧ ¬ sKey A true x y < v) → WP mX11_askedInput (jint sc (fun r h' => r = pVal (pBox (sCand A true) (sKey A true) (aBox (xS A)) (aBox (xS A) + 1)) ∧ jfr fAlike h h')) 28 [some (.ref 0), some (.int l2.1), some (.int l2.2.1), some (.int l2.2.2), some (.int (nI x)), some (.int (nI y + 1)), none, none] [] (jG0 sc) h4 (0, 0) := fun {h4} g q => by
        obtain ⟨b, v, q1, q2⟩ := q
        rw [← nI_succ]
        refine kk2 h4 l2 ⟨?_, g⟩
        rw [pRow, q1, pStep_f q2, ← q1]; exact j1
      refine rX11_askedInput_28 (fun c => absurd c nlt) (fun _ => tX5_stepsTo (by omega) (by omega) (hr.fr f2 rfl (fun _ => rfl) (fun _ => rfl) (fun _ => rfl)) h12 kr) (P2 := fun r h' => r = nI (sMx (sKE A x y) m) ∧ jfr fAlike h h') ?_ ?_ ?_ ?_ ?_
      · rintro - x1 _ ⟨rfl, rfl⟩
        exact jM_int (tX11_mostAlike ok hm (k.fr (by omega) f2 ⟨rfl, rfl⟩) ((f2 69 5 rfl).trans h5) ((f2 20 1 rfl).trans e1)) (fun r h' w => ⟨w.1, f2.tr2 w.2⟩)
      · rintro - x1 _ ⟨rfl, rfl⟩ x4 h4 ⟨rfl, w⟩ c
        refine take w ?_
        rcases j1 with ⟨q1, q2⟩ | ⟨b, m', s, q1, q2, q3, q4⟩
        · rw [q1]; exact pStep_n (c := sCand A true) trivial
        · rw [q2, jn_lt (by omega) (by omega)] at c
          rw [q1]; exact pStep_t (c := sCand A true) trivial (by rw [ek]; show _ < 100 * m' + s; omega)
      · rintro - x1 _ ⟨rfl, rfl⟩ x4 h4 ⟨rfl, w⟩ c c2
        rcases j1 with ⟨q1, q2⟩ | ⟨b, m', s, q1, q2, q3, q4⟩
        · rw [q2, show ((-1, 1000, 1000) : Int32 × Int32 × Int32).2.1 = nI 1000 from rfl, jn_lt (by omega) (by decide)] at c; omega
        · have q2' := q2
          rw [q2] at c c2
          rw [jn_lt (by omega) (by omega)] at c
          rw [jn_eq (by omega) (by omega)] at c2
          exact stay w ⟨b, _, q1, by rw [ek]; omega⟩
      · rintro - x1 _ ⟨rfl, rfl⟩ x4 h4 ⟨rfl, w⟩ c c2 c3
        rcases j1 with ⟨q1, q2⟩ | ⟨b, m', s, q1, q2, q3, q4⟩
        · rw [q2, show ((-1, 1000, 1000) : Int32 × Int32 × Int32).2.1 = nI 1000 from rfl, jn_lt (by omega) (by decide)] at c; omega
        · rw [q2] at c c2 c3
          rw [jn_lt (by omega) (by omega)] at c
          rw [jn_eq (by omega) (by omega)] at c2
          rw [jn_le (by omega) (by omega)] at c3
          exact stay w ⟨b, _, q1, by rw [ek]; omega⟩
      · rintro - x1 _ ⟨rfl, rfl⟩ x4 h4 ⟨rfl, w⟩ c c2 c3
        refine take w ?_
        rcases j1 with ⟨q1, q2⟩ | ⟨b, m', s, q1, q2, q3, q4⟩
        · rw [q1]; exact pStep_n (c := sCand A true) trivial
        · rw [q2] at c c2 c3
          rw [jn_eq (by omega) (by omega)] at c2
          rw [jn_le (by omega) (by omega)] at c3
          rw [q1]; exact pStep_t (c := sCand A true) trivial (by rw [ek]; show _ < 100 * m' + s; omega)
theorem ccInput {z : Int32} {o : Bool} (hz : z = if o then 1 else 0) (ok : aOk n A) (k : RC h A) : JM mX11_input [.ref 0, .int z] (jG0 sc) h (cQ sc [] (oInput A o) h) := by
  have h30 : (aKept A).length ≤ 30 := ok.1.2.2.2.2.1.1
  have e1 : h 20 1 = nI (aKept A).length := k.1.2.2.2.2.1.1
  have zo : (z = 0 ↔ o = false) := by subst hz; cases o <;> decide
  generalize hM : (aKept A).length = m at *
  refine jM_of rfl (Nat.le_of_ble_eq_true rfl) (by decide +kernel) rfl (rX11_input_0 ?_)
  refine jloop (fun i (h1 : jH) => WP mX11_input _ 2 [some (.ref 0), some (.int z), some (.int (nI i))] [] (jG0 sc) h1 (0, 0))
    (fun i h1 => isShapes h1 A i ∧ jfr fCs h h1) m ?_ ?_ 0 h (by omega) ⟨fun j hj => absurd hj (Nat.not_lt_zero _), jfr.rf⟩
  · rintro h1 ⟨s, f⟩
    have k1 := k.fr ok f
    have g1 : h1 20 1 = nI m := (f 20 1 rfl).trans e1
    have le : h1 20 1 ≤ nI m := by rw [g1]; exact nI_le (Nat.le_refl _) (by omega)
    have fin : ∀ {v : Int32} {h2 : jH} {o' : Bool}, o = o' → (2 : Int32) ≤ h1 20 1 → v = pVal (pBox (sCand A o') (sKey A o') (aBox (xS A)) (aBox (xS A) + 1)) → jfr fCs h h2 → cQ sc [] (oInput A o) h (.inl (some (.int v))) (jG0 sc) h2 := fun eo c e g => by
      subst eo
      rw [g1, show (2 : Int32) = nI 2 from rfl, jn_le (by decide) (by omega)] at c
      rw [oInput, sIf_f (by omega), e]; exact cQ_q ok k g
    refine rX11_input_2 (q6 := 0) (P5 := fun _ _ => True) (P6 := fun _ _ => True) (P3 := fun _ _ => True) (P4 := fun _ _ => True) (P1 := fun r h' => r = pVal (pBox (sCand A false) (sKey A false) (aBox (xS A)) (aBox (xS A) + 1)) ∧ jfr fCs h h') (fun _ c _ => ?_) (fun _ c c2 x2 h2 y => fin (zo.mp c2) c y.1 y.2) (P2 := fun r h' => r = pVal (pBox (sCand A true) (sKey A true) (aBox (xS A)) (aBox (xS A) + 1)) ∧ jfr fCs h h') (fun _ c _ => ?_) (fun _ c c2 x2 h2 y => fin (by rw [zo] at c2; cases o <;> simp_all) c y.1 y.2) (fun _ c => ?_) (fun c => absurd le c) (fun c => absurd le c) (fun c => absurd le c) (fun c => absurd le c) (fun c => absurd le c) (fun c => absurd le c) (fun c => absurd le c) (fun c => absurd le c) (fun c => absurd le c) (fun c => absurd le c) (fun c => absurd le c)
    · rw [g1, show (2 : Int32) = nI 2 from rfl, jn_le (by decide) (by omega)] at c
      exact jM_int (tX11_nearInput ok hM.symm c s k1.2.2.2.2.1 g1 k1.1.2.2.1 k1.1.2.2.2.2.2.2.2) (fun r h' y => ⟨y.1, f.tr2 (y.2.mono rfl)⟩)
    · exact jM_int (tX11_askedInput ok hM.symm s k1.2.2.2.2.1 g1 k1.1.2.2.1 k1.1.2.2.2.2.2.2.2) (fun r h' y => ⟨y.1, f.tr2 (y.2.mono rfl)⟩)
    · rw [g1, show (2 : Int32) = nI 2 from rfl, jn_le (by decide) (by omega)] at c
      rw [oInput, sIf_t (by omega)]; exact cQ_q ok k f
  · rintro i h1 hi ⟨s, f⟩ kk
    have k1 := k.fr ok f
    have g1 : h1 20 1 = nI m := (f 20 1 rfl).trans e1
    have no : ¬ h1 20 1 ≤ nI i := by rw [g1, jn_le (by omega) (by omega)]; omega
    have no2 : ¬ (30 : Int32) ≤ nI i := fun c => by have := (jn_le (a := 30) (by decide) (by omega)).mp c; omega
    have qi : aIx (nI i) (aKept A).length := ⟨i, by omega, rfl⟩
    refine rX11_input_2 (q6 := 99 + 2 * i) (P1 := fun _ _ => True) (P2 := fun _ _ => True) (P3 := fun _ _ => True) (P4 := fun _ _ => True) (P6 := fun _ h' => isShapes h' A (i + 1) ∧ jfr fCs h h') (fun c => absurd c no) (fun c => absurd c no) (fun c => absurd c no) (fun c => absurd c no) (fun c => absurd c no) (fun _ c => absurd c no2) (fun _ c => absurd c no2) (fun _ c => absurd c no2) (fun _ c => absurd c no2) (fun _ c => absurd c no2) (fun _ _ => tX11_keptNumber ok k1) (fun _ _ _ _ _ => vp_in_nI (by omega) (by decide)) (fun _ _ _ _ _ => by rw [nI_clamp (by omega)]; exact rt93 i (by omega)) (fun _ _ _ _ _ => ri93 i (by omega)) ?_ ?_
    · rintro - - x5 _ ⟨rfl, rfl⟩
      rw [sIf_t qi]
      refine jM_int (tX3_kept (b := 99 + 2 * i) (ri93 i (by omega)) (Or.inr (by omega)) (Or.inr (by omega)) ok k1.2.2.2.2.2 k1.1.1 qi) (fun x h' y => ?_)
      rw [show (nI i).toNatClampNeg = i from nI_clamp (by omega)] at y
      have f3 : jfr fCs h1 h' := fun c j hcj => y.2 c j (by rw [jin_f] at hcj ⊢; simp at hcj ⊢; omega)
      refine ⟨fun j hj => ?_, f.tr2 f3⟩
      by_cases v : j = i
      · subst v; exact y.1
      · exact (s j (by omega)).fr y.2 (by rw [jin_f]; simp; omega) (fun q => by rw [jin_f]; simp; omega)
    · rintro - - x5 h5 - x7 h7 y
      rw [← nI_succ]
      exact kk h7 y
end INC
