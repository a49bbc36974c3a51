/-! Operation input: the reference. -/
section INM
variable {sc : Nat × (Nat → Int32)} {h : jH} {A : aA} {n : Nat} {p : List Int32} {rs : List aRun}
theorem tX12_nearest {x y : Nat} (hx : x ≤ 15) (hy : y ≤ 15) (hr : isMRuns (h 160) rs) (h12 : rs.length ≤ 12) (kr : ∀ r ∈ rs, aOkRun r) : JM mX12_nearest [.ref 159, .int (nI x), .int (nI y)] (jG0 sc) h (jgets sc (nI (sNear rs x y)) h) := by
  have e3 : h 160 122 = nI rs.length := hr.1
  refine jM_of rfl (Nat.le_of_ble_eq_true rfl) (by decide +kernel) rfl (rX12_nearest_0 ?_)
  refine jloop (fun i (s : Int32) => WP mX12_nearest _ 5 [some (.ref 159), some (.int (nI x)), some (.int (nI y)), some (.int s), some (.int (nI i)), none] [] (jG0 sc) h (0, 0))
    (fun i s => (i = 0 ∧ s = -1) ∨ (0 < i ∧ s = nI (sNr rs x y i) ∧ sNr rs x y i ≤ 30)) rs.length ?_ ?_ 0 (-1) (by omega) (Or.inl ⟨rfl, rfl⟩)
  · rintro s inv
    have no : ¬ h 160 122 ≤ nI rs.length → False := fun c => c (by rw [e3]; exact nI_le (Nat.le_refl _) (by omega))
    refine rX12_nearest_5 (fun _ => jgets_i ?_) (fun c => (no c).elim) (fun c => (no c).elim) (fun c => (no c).elim) (fun c => (no c).elim)
    unfold sNear
    rcases inv with ⟨q1, q2⟩ | ⟨q1, q2, q3⟩
    · rw [if_pos q1, q2]; decide
    · rw [if_neg (show ¬ rs.length = 0 by omega), q2, show (0 : Int32) = nI 0 from rfl, max_n (by omega) (by omega)]
      exact congrArg nI (by omega)
  · rintro i s hi inv kk
    have no : ¬ h 160 122 ≤ nI i := by rw [e3, jn_le (by omega) (by omega)]; omega
    obtain ⟨g0, g1, -⟩ := mr_ix (i := i) (by omega)
    obtain ⟨q1, q2, -⟩ := hr.2 i hi
    have okr := kr _ (getD_mem (d := aRun0) hi)
    obtain ⟨a1, a2, b1, b2⟩ := aOkRun_n okr
    have d30 := sRunD_30 okr hx hy
    have ed : ((if (0 : Int32) ≤ nI x - h 160 ((123 + 3 * nI i).toNatClampNeg) then nI x - h 160 ((123 + 3 * nI i).toNatClampNeg) else 0 - (nI x - h 160 ((123 + 3 * nI i).toNatClampNeg))) + (if (0 : Int32) ≤ nI y - h 160 (((123 + 3 * nI i) + 1).toNatClampNeg) then nI y - h 160 (((123 + 3 * nI i) + 1).toNatClampNeg) else 0 - (nI y - h 160 (((123 + 3 * nI i) + 1).toNatClampNeg)))) = nI (sRunD (rs.getD i aRun0) x y) := by
      rw [g0, g1, nI_clamp (by omega), nI_clamp (by omega), q1, q2, a1, b1, abs_d (by omega) (by omega), abs_d (by omega) (by omega), nI_add]; rfl
    refine rX12_nearest_5 (fun c => absurd c no) (fun _ => by rw [g0]; exact vp_in_nI (by omega) (by decide)) (fun _ => by rw [g0, g1]; exact vp_in_nI (by omega) (by decide)) (fun _ c => ?_) (fun _ c => ?_)
    · rw [ed]
      rcases inv with ⟨-, w2⟩ | ⟨w1, w2, w3⟩
      · rw [w2] at c; exact absurd c (by decide)
      · rw [w2, min_n (by omega) (by omega), ← nI_succ]
        exact kk _ (Or.inr ⟨by omega, rfl, by rw [sNr]; omega⟩)
    · rw [ed]
      rcases inv with ⟨w1, w2⟩ | ⟨w1, w2, w3⟩
      · rw [← nI_succ]
        subst w1
        refine kk _ (Or.inr ⟨by omega, ?_, ?_⟩)
        · rw [show sNr rs x y (0 + 1) = min (sRunD (rs.getD 0 aRun0) x y) 1000 from rfl]; exact congrArg nI (by omega)
        · rw [show sNr rs x y (0 + 1) = min (sRunD (rs.getD 0 aRun0) x y) 1000 from rfl]; omega
      · rw [w2] at c; exact absurd (nI_le (a := 0) (by omega) (by omega)) c
theorem tX12_mostAlike {e : Nat → Int32} {m : Nat} (hm : m ≤ 30) (e1 : h 160 163 = nI m) (he : ∀ j, j < m → h 174 j = e j) : JM mX12_mostAlike [.ref 159] (jG0 sc) h (jgets sc (nI (sMx e m)) h) := by
  refine jM_of rfl (Nat.le_of_ble_eq_true rfl) (by decide +kernel) rfl (rX12_mostAlike_0 ?_)
  refine jloop (fun i (s : Nat) => WP mX12_mostAlike _ 4 [some (.ref 159), some (.int (nI s)), some (.int (nI i)), none, none] [] (jG0 sc) h (0, 0))
    (fun i s => s = sMy e m i) m ?_ ?_ 0 0 (by omega) rfl
  · rintro s es
    exact rX12_mostAlike_4 (fun _ => jgets_i (by rw [es, sMy_e])) (fun c => absurd (by rw [e1]; exact nI_le (Nat.le_refl _) (by omega)) c)
  · rintro i s hi es kk
    have s30 := sMy_le (e := e) (m := m) i (by omega)
    have m30 := sMx_30 (e := e) (m := m)
    refine rX12_mostAlike_4 (fun c => absurd c (by rw [e1, jn_le (by omega) (by omega)]; omega)) (fun _ => ?_)
    refine jloop (fun j (t : Nat) => WP mX12_mostAlike _ 21 [some (.ref 159), some (.int (nI s)), some (.int (nI i)), some (.int (nI t)), some (.int (nI j))] [] (jG0 sc) h (0, 0))
      (fun j t => t = sCnt (fun j => e j = e i) j) m ?_ ?_ 0 0 (by omega) rfl
    · rintro t et
      have t30 := sCnt_le (P := fun j => e j = e i) m
      have le : h 160 163 ≤ nI m := by rw [e1]; exact nI_le (Nat.le_refl _) (by omega)
      refine rX12_mostAlike_21 (fun _ => ?_) (fun c => absurd le c) (fun c => absurd le c) (fun c => absurd le c) (fun c => absurd le c)
      rw [max_n (by omega) (by omega), ← nI_succ]
      exact kk _ (by rw [es, et]; rfl)
    · rintro j t hj et kk2
      have nle : ¬ h 160 163 ≤ nI j := by rw [e1, jn_le (by omega) (by omega)]; omega
      have ej : h 174 (nI j).toNatClampNeg = e j := by rw [nI_clamp (by omega)]; exact he j hj
      have ei : h 174 (nI i).toNatClampNeg = e i := by rw [nI_clamp (by omega)]; exact he i hi
      refine rX12_mostAlike_21 (fun c => absurd c nle) (fun _ => vp_in_nI (by omega) (by decide)) (fun _ => vp_in_nI (by omega) (by decide)) (fun _ c => ?_) (fun _ c => ?_)
      all_goals rw [ej, ei] at c
      · rw [← nI_succ, Int32.add_zero]
        exact kk2 t (by rw [et, sCnt_f (P := fun j => e j = e i) c])
      · rw [← nI_succ j, ← nI_succ t]
        exact kk2 (t + 1) (by rw [et, sCnt_t (P := fun j => e j = e i) c])
abbrev fEnds : jF := ([(167, 169), (174, 174)], [(159, 19, 21)])
theorem tX12_endsOfAll {x y : Nat} (ok : aOk n A) (l : isML h (aBody (xS A))) (kt : isMTries (h 160) (aBody (xS A)) (aTr (xS A))) :
    JM mX12_endsOfAll [.ref 159, .int (nI x), .int (nI y)] (jG0 sc) h (jvoid sc (fun h' => (∀ j, j < (aKept A).length → h' 174 j = sKE A x y j) ∧ jfr fEnds h h')) := by
  have h30 : (aKept A).length ≤ 30 := ok.1.2.2.2.2.1.1
  have e1 : h 160 163 = nI (aKept A).length := kt.1
  refine jM_of rfl (Nat.le_of_ble_eq_true rfl) (by decide +kernel) rfl (rX12_endsOfAll_0 ?_)
  refine jloop (fun i (h1 : jH) => WP mX12_endsOfAll _ 2 [some (.ref 159), some (.int (nI x)), some (.int (nI y)), some (.int (nI i))] [] (jG0 sc) h1 (0, 0))
    (fun i h1 => (∀ j, j < i → h1 174 j = sKE A x y j) ∧ jfr fEnds h h1) (aKept A).length ?_ ?_ 0 h (by omega) ⟨fun j hj => absurd hj (Nat.not_lt_zero _), jfr.rf⟩
  · rintro h1 ⟨i1, f⟩
    have le : h1 160 163 ≤ nI (aKept A).length := by rw [(f 160 163 rfl).trans e1]; exact nI_le (Nat.le_refl _) (by omega)
    exact rX12_endsOfAll_2 (P1 := fun _ => True) (P2 := fun _ _ => True) (fun _ => jvoid_i ⟨i1, f⟩) (fun c => absurd le c) (fun c => absurd le c) (fun c => absurd le c) (fun c => absurd le c)
  · rintro i h1 hi ⟨i1, f⟩ kk
    have nle : ¬ h1 160 163 ≤ nI i := by rw [(f 160 163 rfl).trans e1, jn_le (by omega) (by omega)]; omega
    have e160 : h1 160 = h 160 := f.cell (fun _ => rfl)
    have lay := tX12_laysAlive (sc := sc) (i := nI i) ok (l.fr f rfl (fun _ => rfl) (fun _ => rfl) (fun _ => rfl) (fun _ => rfl)) (by rw [e160]; exact kt) ⟨i, hi, rfl⟩
    rw [show (nI i).toNatClampNeg = i from nI_clamp (by omega)] at lay
    refine rX12_endsOfAll_2 (fun c => absurd c nle) (P1 := fun h' => isMP (h' 167) 0 (sShape (aBody (xS A)) ((aKept A).getD i 0)) ∧ jfr fProg h1 h') (fun _ => lay) (P2 := fun r h' => r = sKE A x y i ∧ jfr fTurn h1 h') (fun _ h2 z => jM_int (tX12_endAt z.1 (sProg_sh ok.1.1)) (fun r h' w => ⟨w.1, (z.2.mono rfl).tr2 (w.2.2.2.2.mono rfl)⟩)) (fun _ _ _ _ _ _ => vp_in_nI (by omega) (by decide)) (fun _ h2 _ x3 h3 w => ?_)
    rw [w.1, nI_clamp (by omega), ← nI_succ]
    refine kk _ ⟨fun j hj => ?_, (f.tr2 (w.2.mono rfl)).put (by rw [jin_iff]; simp)⟩
    by_cases v : j = i
    · subst v; exact jput_at
    · rw [jput_sl v]; exact (w.2 174 j rfl).trans (i1 j (by omega))
def cRef (l : Int32 × Int32) (st : oP) : Prop := (st = none ∧ l.1 = -1) ∨ ∃ b v, st = some (b, v) ∧ l = (nI b, nI v) ∧ v ≤ 4000 ∧ b < 300
theorem mmInput {z : Int32} {o : Bool} (hz : z = if o then 1 else 0) (ok : aOk n A) (k : RM h A) : JM mX12_input [.ref 159, .int z] (jG0 sc) h (mQ sc (oInput A o) h) := by
  have h30 : (aKept A).length ≤ 30 := ok.1.2.2.2.2.1.1
  have h15 : aBox (xS A) ≤ 15 := ok.1.2.2.2.2.2.2.2
  have h12 := ok.1.2.2.1.1
  have kr := ok.1.2.2.1.2
  have hs := ok.1.1
  have hr : isMRuns (h 160) (aRuns (xS A)) := k.1.2.2.1
  have hp : isMP (h 160) 0 (aBody (xS A)) := k.1.1
  have hT : isMTries (h 160) (aBody (xS A)) (aTr (xS A)) := k.1.2.2.2.2.1
  have eB : h 160 285 = nI (aBox (xS A)) := k.1.2.2.2.2.2.2.2
  have f0 : jfr fMs h (jput h 159 0 0) := jfr.rf.put rfl
  have e63 : jput h 159 0 0 160 163 = nI (aKept A).length := hT.1
  have zo : (z = 0 ↔ o = false) := by subst hz; cases o <;> decide
  refine jM_of rfl (Nat.le_of_ble_eq_true rfl) (by decide +kernel) rfl (bX12_input_0 (fun c => bX12_input_19 (P1 := fun h' => isML h' (aBody (xS A)) ∧ jfr fMs h h' ∧ h' 159 0 = 0) (jM_void (tX12_listed hp hs) (fun h' y => ⟨y.1, f0.tr2 (y.2.mono rfl), (y.2 159 0 rfl).trans rfl⟩)) (fun h0 y0 => ?_)) (fun c => bX12_input_17 ?_))
  · rw [e63, show (2 : Int32) = nI 2 from rfl, jn_le (by decide) (by omega)] at c
    obtain ⟨l0, g0, z0⟩ := y0
    rw [oInput, sIf_f (by omega)]
    have e160 : ∀ {h1 : jH}, jfr fEnds h0 h1 → h1 160 = h 160 := fun f => (f.cell (fun _ => rfl)).trans (g0.cell (fun _ => rfl))
    have e85 : ∀ {h1 : jH}, jfr fEnds h0 h1 → h1 160 285 = nI (aBox (xS A)) := fun f => by rw [e160 f]; exact eB
    refine jloop2 (fun x (h1 : jH) (l : Int32 × Int32) => WP mX12_input _ 30 [some (.ref 159), some (.int z), some (.int l.1), some (.int l.2), some (.int (nI x)), none, none, none] [] (jG0 sc) h1 (0, 0))
      (fun x h1 l => cRef l (pBox (sCand A o) (sKey A o) (aBox (xS A)) x) ∧ jfr fEnds h0 h1) (aBox (xS A) + 1) ?_ ?_ 0 h0 (-1, 0) (by omega) ⟨Or.inl ⟨rfl, rfl⟩, jfr.rf⟩
    · rintro h1 l ⟨i1, f⟩
      refine bX12_input_30 (fun _ => bX12_input_154 ?_) (fun c => absurd (by rw [e85 f, jn_lt (by omega) (by omega)]; omega) c)
      have : l.1 = pVal (pBox (sCand A o) (sKey A o) (aBox (xS A)) (aBox (xS A) + 1)) := by
        rcases i1 with ⟨q1, q2⟩ | ⟨b, v, q1, q2, -⟩
        · rw [q1, q2]; rfl
        · rw [q1, q2]; rfl
      rw [this]
      exact mQ_q k (g0.tr2 (f.mono rfl)) ((f 159 0 rfl).trans z0)
    · rintro x h1 l hx ⟨i1, f⟩ kk
      refine bX12_input_30 (fun c => absurd c (by rw [e85 f, jn_lt (by omega) (by omega)]; omega)) (fun _ => bX12_input_43 ?_)
      refine jloop2 (fun y (h2 : jH) (l : Int32 × Int32) => WP mX12_input _ 46 [some (.ref 159), some (.int z), some (.int l.1), some (.int l.2), some (.int (nI x)), some (.int (nI y)), none, none] [] (jG0 sc) h2 (0, 0))
        (fun y h2 l => cRef l (pRow (sCand A o) (sKey A o) x (pBox (sCand A o) (sKey A o) (aBox (xS A)) x) y) ∧ jfr fEnds h0 h2) (aBox (xS A) + 1) ?_ ?_ 0 h1 l (by omega) ⟨i1, f⟩
      · rintro h2 l2 ⟨j1, f2⟩
        refine bX12_input_46 (fun _ => bX12_input_148 ?_) (fun c => absurd (by rw [e85 f2, jn_lt (by omega) (by omega)]; omega) c)
        rw [← nI_succ]
        exact kk h2 l2 ⟨j1, f2⟩
      · rintro y h2 l2 hy ⟨j1, f2⟩ kk2
        have n30 : sNear (aRuns (xS A)) x y ≤ 30 := sNear_30 kr (by omega) (by omega)
        have m30 : sMx (sKE A x y) (aKept A).length ≤ 30 := Nat.le_trans sMx_30 (by omega)
        have stay : ∀ {h4 : jH} {l6 : Int32}, jfr fEnds h0 h4 → pStep (sCand A o) (sKey A o) x y (pRow (sCand A o) (sKey A o) x (pBox (sCand A o) (sKey A o) (aBox (xS A)) x) y) = pRow (sCand A o) (sKey A o) x (pBox (sCand A o) (sKey A o) (aBox (xS A)) x) y → WP mX12_input (mQ sc ((0, pVal (pBox (sCand A o) (sKey A o) (aBox (xS A)) (aBox (xS A) + 1)), A) : aO) h) 142 [some (.ref 159), some (.int z), some (.int l2.1), some (.int l2.2), some (.int (nI x)), some (.int (nI y)), some (.int l6), none] [] (jG0 sc) h4 (0, 0) := fun {h4 l6} g q => by
          refine bX12_input_142 ?_
          rw [← nI_succ]
          exact kk2 h4 l2 ⟨by rw [pRow, q]; exact j1, g⟩
        -- the input is a candidate
        have cand : ∀ {h3 : jH}, jfr fEnds h0 h3 → sCand A o x y → WP mX12_input (mQ sc ((0, pVal (pBox (sCand A o) (sKey A o) (aBox (xS A)) (aBox (xS A) + 1)), A) : aO) h) 93 [some (.ref 159), some (.int z), some (.int l2.1), some (.int l2.2), some (.int (nI x)), some (.int (nI y)), some (.int (nI (sMx (sKE A x y) (aKept A).length))), none] [] (jG0 sc) h3 (0, 0) := fun {h3} f3 q => by
          have key : ∀ s0 : Int32, s0 + nI (sNear (aRuns (xS A)) x y) = nI (sKey A o x y) → sKey A o x y ≤ 4000 → WP mX12_input (mQ sc ((0, pVal (pBox (sCand A o) (sKey A o) (aBox (xS A)) (aBox (xS A) + 1)), A) : aO) h) 106 [some (.ref 159), some (.int z), some (.int l2.1), some (.int l2.2), some (.int (nI x)), some (.int (nI y)), some (.int (nI (sMx (sKE A x y) (aKept A).length))), none] [.int s0] (jG0 sc) h3 (0, 0) := fun s0 es k4 => by
            have take : pStep (sCand A o) (sKey A o) x y (pRow (sCand A o) (sKey A o) x (pBox (sCand A o) (sKey A o) (aBox (xS A)) x) y) = some (16 * x + y, sKey A o x y) → WP mX12_input (mQ sc ((0, pVal (pBox (sCand A o) (sKey A o) (aBox (xS A)) (aBox (xS A) + 1)), A) : aO) h) 130 [some (.ref 159), some (.int z), some (.int l2.1), some (.int l2.2), some (.int (nI x)), some (.int (nI y)), some (.int (nI (sMx (sKE A x y) (aKept A).length))), some (.int (s0 + nI (sNear (aRuns (xS A)) x y)))] [] (jG0 sc) h3 (0, 0) := fun q2 => by
              rw [es]
              refine bX12_input_130 (bX12_input_142 ?_)
              rw [← nI_succ, pk16 (by omega) (by omega)]
              exact kk2 h3 (nI (16 * x + y), nI (sKey A o x y)) ⟨Or.inr ⟨16 * x + y, sKey A o x y, by rw [pRow, q2], rfl, k4, by omega⟩, f3⟩
            refine bX12_input_106 (tX12_nearest (by omega) (by omega) (by rw [e160 f3]; exact hr) h12 kr) ?_ ?_
            · rintro x1 _ ⟨rfl, rfl⟩ c2
              refine take ?_
              rcases j1 with ⟨w1, w2⟩ | ⟨b, v, w1, w2, w3, w4⟩
              · rw [w1]; exact pStep_n q
              · rw [w2] at c2; exact absurd c2 (nI_pos (by omega))
            · rintro x1 _ ⟨rfl, rfl⟩ c2
              rcases j1 with ⟨w1, w2⟩ | ⟨b, v, w1, w2, w3, w4⟩
              · rw [w2] at c2; exact absurd (by decide) c2
              · refine bX12_input_121 (fun c3 => ?_) (fun c3 => bX12_input_127 ?_)
                all_goals rw [es, w2, jn_lt (by omega) (by omega)] at c3
                · exact take (by rw [w1]; exact pStep_t q c3)
                · exact stay f3 (by rw [w1]; exact pStep_f c3)
          refine bX12_input_93 (fun c2 => bX12_input_105 ?_) (fun c2 => bX12_input_97 ?_)
          · rw [zo] at c2
            subst c2
            exact key 0 (Int32.zero_add _) (Nat.le_trans n30 (by omega))
          · rw [zo] at c2
            have ot : o = true := by cases o <;> simp_all
            subst ot
            refine key _ ?_ (by show 100 * _ + _ ≤ 4000; omega)
            rw [show (100 : Int32) = nI 100 from rfl, pk_mul, nI_add]; rfl
        refine bX12_input_46 (fun c => absurd c (by rw [e85 f2, jn_lt (by omega) (by omega)]; omega)) (fun _ => bX12_input_59 (P1 := fun h' => (∀ j, j < (aKept A).length → h' 174 j = sKE A x y j) ∧ jfr fEnds h0 h') (P2 := fun r h' => r = nI (sMx (sKE A x y) (aKept A).length) ∧ jfr fEnds h0 h') (jM_void (tX12_endsOfAll ok (l0.fr f2 rfl (fun _ => rfl) (fun _ => rfl) (fun _ => rfl) (fun _ => rfl)) (by rw [e160 f2]; exact hT)) (fun h' w => ⟨w.1, f2.tr2 w.2⟩)) (fun h3 w => jM_get (tX12_mostAlike h30 (by rw [e160 w.2]; exact hT.1) w.1) w.2) (fun h3 _ x4 h4 w c2 => ?_) (fun h3 _ x4 h4 w c2 => ?_))
        · rw [w.1]
          rw [zo] at c2
          have ot : o = true := by cases o <;> simp_all
          subst ot
          exact cand w.2 trivial
        · rw [w.1]
          rw [zo] at c2
          subst c2
          have e4 : h4 160 163 = nI (aKept A).length := by rw [e160 w.2]; exact hT.1
          have al := sMx_all (e := sKE A x y) (m := (aKept A).length) (by omega)
          refine bX12_input_77 (fun c3 => cand w.2 ?_) (fun c3 => bX12_input_90 (stay w.2 (pStep_c ?_)))
          all_goals rw [e4, jn_eq (by omega) (by omega), al] at c3
          · exact c3
          · exact fun q => q c3
  · rw [e63, show (2 : Int32) = nI 2 from rfl, jn_le (by decide) (by omega)] at c
    rw [oInput, sIf_t (by omega)]
    exact mQ_q k f0 rfl
end INM
