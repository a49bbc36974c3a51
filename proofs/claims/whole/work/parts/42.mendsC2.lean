/-! The class's list of mends: signs, bounds, whole lines, all of it. -/
section MD
variable {sc : Nat × (Nat → Int32)} {h : jH} {t at' : Nat} {ms : List sMd} {l : Int32}
theorem tX3_isNumberAtom {a : Int32} : JM mX3_isNumberAtom [.int a] (jG0 sc) h (jgets sc (sB (¬ a < 10 ∧ ¬ 109 < a)) h) :=
  jM_of rfl (Nat.le_of_ble_eq_true rfl) (by decide +kernel) rfl (rX3_isNumberAtom_0 (fun c => jgets_i (sB_f (fun q => q.1 c)).symm) (fun _ c => jgets_i (sB_f (fun q => q.2 c)).symm) (fun c c2 => jgets_i (sB_t ⟨c, c2⟩).symm))
abbrev gLv (t : Nat) (a l s lo hi k : Int32) : List (Option Value) := [some (.ref t), some (.int a), some (.int l), some (.int s), some (.int lo), some (.int hi), some (.int k)]
theorem signsLoop {Q : jQ} {h0 : jH} {lo n : Nat} (t_h : jI3 t) (hn : lo + n < 100) (hn1 : 1 ≤ lo + n) (m0 : isMs h0 t ms) (hl : ms.length + n ≤ 300)
    (kk : ∀ h1, jfr (fMd t) h0 h1 → isMs h1 t (sPut ms 1 at' ((sEach (nI lo) n (sSign l)).map (sWithSign l))) → Q (.inl none) (jG0 sc) h1) :
    WP mX3_addSigns Q 42 (gLv t (nI at') l (sSign l) (nI lo) (nI (lo + n - 1)) (nI lo)) [] (jG0 sc) h0 (0, 0) := by
  refine jloop (fun i (h1 : jH) => WP mX3_addSigns _ 42 (gLv t (nI at') l (sSign l) (nI lo) (nI (lo + n - 1)) (nI (lo + i))) [] (jG0 sc) h1 (0, 0))
    (fun i h1 => jfr (fMd t) h0 h1 ∧ isMs h1 t (sPut ms 1 at' ((sEach (nI lo) i (sSign l)).map (sWithSign l)))) n ?_ ?_ 0 h0 (by omega) ⟨jfr.rf, by rw [show sEach (nI lo) 0 (sSign l) = [] from rfl, List.map_nil, sPut_nil]; exact m0⟩
  · rintro h1 ⟨i1, i2⟩
    have c : nI (lo + n - 1) < nI (lo + n) := nI_lt (by omega) (by omega)
    exact rX3_addSigns_42 t_h (fun _ => kk h1 i1 i2) (P1 := fun _ _ => True) (P2 := fun _ => True) (fun q => absurd c q) (fun q => absurd c q) (fun q => absurd c q) (fun q => absurd c q)
  · rintro i h1 hi ⟨i1, i2⟩ k
    have no : ¬ nI (lo + n - 1) < nI (lo + i) := by rw [jn_lt (by omega) (by omega)]; omega
    have ea : nI (lo + i) = nI lo + nI i := (nI_add _ _).symm
    have es : nI (lo + i) + 1 = nI (lo + (i + 1)) := (nI_succ _).symm
    refine rX3_addSigns_42 t_h (P2 := fun h' => isMs h' t (sPut ms 1 at' ((sEach (nI lo) i (sSign l)).map (sWithSign l)) ++ [(1, at', sWithSign l (nI (lo + i)))]) ∧ jfr (fMd t) h1 h') (fun c => absurd c no) (fun _ c => ?_) (fun _ _ => tX11_withSign) (fun _ c x1 h2 p => ?_) (fun _ c => ?_)
    · rw [es]
      refine k _ ⟨i1, ?_⟩
      rw [sEach_succ, if_pos (by rw [← ea]; exact c)]; exact i2
    · rw [← p.2, p.1]
      exact tX3_add t_h i2 (by rw [sPut_len, List.length_map]; have := @sEach_len (nI lo) (sSign l) i; omega)
    · rintro _ _ ⟨rfl, rfl⟩ h5 ⟨g1, g2⟩
      rw [es]
      refine k _ ⟨i1.tr2 g2, ?_⟩
      rw [sPut_app] at g1
      rw [sEach_succ, if_neg (by rw [← ea]; exact c), List.map_append, List.map_singleton, ← ea]
      exact g1
theorem tX3_addSigns (t_h : jI3 t) (hm : isMs h t ms) (hl : ms.length + 5 ≤ 300) : JM mX3_addSigns [.ref t, .int (nI at'), .int l] (jG0 sc) h (jvoid sc (fun h' => isMs h' t (sPut ms 1 at' (sSigns l)) ∧ jfr (fMd t) h h')) := by
  refine jM_of rfl (Nat.le_of_ble_eq_true rfl) (by decide +kernel) rfl (rX3_addSigns_0 t_h tX11_signOf ?_ ?_ ?_ ?_ ?_)
  all_goals rintro _ _ ⟨rfl, rfl⟩ c
  · intro c2 _
    have e : sSigns l = (sEach (nI 6) 3 (sSign l)).map (sWithSign l) := by unfold sSigns; rw [if_neg c, if_neg (i_nlt.mpr c2)]; rfl
    exact signsLoop (lo := 6) (n := 3) t_h (by decide) (by decide) hm (by omega) (fun h1 f1 m1 => jvoid_i ⟨by rw [e]; exact m1, f1⟩)
  · intro c2 c3; exact absurd c2 c3
  · intro c2 c3; exact absurd c3 c2
  · intro c2 _
    have e : sSigns l = (sEach (nI 1) 5 (sSign l)).map (sWithSign l) := by unfold sSigns; rw [if_neg c, if_pos (i_nle.mp c2)]; rfl
    exact signsLoop (lo := 1) (n := 5) t_h (by decide) (by decide) hm (by omega) (fun h1 f1 m1 => jvoid_i ⟨by rw [e]; exact m1, f1⟩)
  · exact jvoid_i ⟨by rw [show sSigns l = [] by unfold sSigns; rw [if_pos c], sPut_nil]; exact hm, jfr.rf⟩
abbrev bLv (t : Nat) (a l x y z k : Int32) : List (Option Value) := [some (.ref t), some (.int a), some (.int l), some (.int x), some (.int y), some (.int z), some (.int k)]
theorem m1_sub (x : Int32) : x + -1 = x - 1 := (Int32.sub_eq_add_neg x 1).symm
theorem num_lo {x : Int32} (hx : sIn x 10 109) : (¬ x - 1 < 10 ∧ ¬ 109 < x - 1) ↔ 10 < x := by
  obtain ⟨h1, h2⟩ := hx
  have e := toInt_sub' (x := x) (y := 1) (by have : (1 : Int32).toInt = 1 := rfl; omega) (by have : (1 : Int32).toInt = 1 := rfl; omega)
  simp only [toInt_lt_iff, e]
  have e1 : (1 : Int32).toInt = 1 := rfl
  have e10 : (10 : Int32).toInt = 10 := rfl
  have e109 : (109 : Int32).toInt = 109 := rfl
  omega
theorem num_hi {x : Int32} (hx : sIn x 10 109) : (¬ x + 1 < 10 ∧ ¬ 109 < x + 1) ↔ x < 109 := by
  obtain ⟨h1, h2⟩ := hx
  have e := toInt_add' (x := x) (y := 1) (by have : (1 : Int32).toInt = 1 := rfl; omega) (by have : (1 : Int32).toInt = 1 := rfl; omega)
  simp only [toInt_lt_iff, e]
  have e1 : (1 : Int32).toInt = 1 := rfl
  have e10 : (10 : Int32).toInt = 10 := rfl
  have e109 : (109 : Int32).toInt = 109 := rfl
  omega
theorem cnt_lo {x : Int32} (hx : sIn x 1 9) : (¬ x - 1 < 1 ∧ ¬ 9 < x - 1) ↔ 1 < x := by
  obtain ⟨h1, h2⟩ := hx
  have e := toInt_sub' (x := x) (y := 1) (by have : (1 : Int32).toInt = 1 := rfl; omega) (by have : (1 : Int32).toInt = 1 := rfl; omega)
  simp only [toInt_lt_iff, e]
  have e1 : (1 : Int32).toInt = 1 := rfl
  have e9 : (9 : Int32).toInt = 9 := rfl
  omega
theorem cnt_hi {x : Int32} (hx : sIn x 1 9) : (¬ x + 1 < 1 ∧ ¬ 9 < x + 1) ↔ x < 9 := by
  obtain ⟨h1, h2⟩ := hx
  have e := toInt_add' (x := x) (y := 1) (by have : (1 : Int32).toInt = 1 := rfl; omega) (by have : (1 : Int32).toInt = 1 := rfl; omega)
  simp only [toInt_lt_iff, e]
  have e1 : (1 : Int32).toInt = 1 := rfl
  have e9 : (9 : Int32).toInt = 9 := rfl
  omega
theorem bndF {Q : jQ} {h0 : jH} {ls : List Int32} {x y z : Int32} (t_h : jI3 t) (hx : x < 10 ∨ sIn x 10 109) (m0 : isMs h0 t (sPut ms 2 at' ls)) (hl : ms.length + ls.length + 2 ≤ 300)
    (kk : ∀ h1, jfr (fMd t) h0 h1 → isMs h1 t (sPut ms 2 at' (ls ++ if x < 10 then [] else (sBeside 10 109 x).map (sWithFirst l))) → WP mX3_addBounds Q 65 (bLv t (nI at') l x y z (-1)) [] (jG0 sc) h1 (0, 0)) :
    WP mX3_addBounds Q 20 (bLv t (nI at') l x y z (-1)) [] (jG0 sc) h0 (0, 0) := by
  by_cases c : x < 10
  · rw [if_pos c, List.append_nil] at kk
    refine rX3_addBounds_20 t_h (fun q => absurd q (by decide)) (fun _ _ => ?_) (P1 := fun _ _ => True) (P2 := fun _ _ => True) (P3 := fun _ => True) (fun _ q => absurd c q) (fun _ q => absurd c q) (fun _ q => absurd c q) (fun _ q => absurd c q) (fun _ q => absurd c q)
    refine rX3_addBounds_20 t_h (fun q => absurd q (by decide)) (fun _ _ => ?_) (P1 := fun _ _ => True) (P2 := fun _ _ => True) (P3 := fun _ => True) (fun _ q => absurd c q) (fun _ q => absurd c q) (fun _ q => absurd c q) (fun _ q => absurd c q) (fun _ q => absurd c q)
    exact rX3_addBounds_20 t_h (fun _ => kk h0 jfr.rf m0) (fun q => absurd (by decide) q) (P1 := fun _ _ => True) (P2 := fun _ _ => True) (P3 := fun _ => True) (fun q => absurd (by decide) q) (fun q => absurd (by decide) q) (fun q => absurd (by decide) q) (fun q => absurd (by decide) q) (fun q => absurd (by decide) q)
  · have hx := hx.resolve_left c
    rw [if_neg c] at kk
    have J3 : ∀ h1, jfr (fMd t) h0 h1 → isMs h1 t (sPut ms 2 at' (ls ++ (sBeside 10 109 x).map (sWithFirst l))) → WP mX3_addBounds Q 20 (bLv t (nI at') l x y z (-1 + 2 + 2)) [] (jG0 sc) h1 (0, 0) := fun h1 f1 m1 =>
      rX3_addBounds_20 t_h (fun _ => kk h1 f1 m1) (fun q => absurd (by decide) q) (P1 := fun _ _ => True) (P2 := fun _ _ => True) (P3 := fun _ => True) (fun q => absurd (by decide) q) (fun q => absurd (by decide) q) (fun q => absurd (by decide) q) (fun q => absurd (by decide) q) (fun q => absurd (by decide) q)
    have J2 : ∀ h1, jfr (fMd t) h0 h1 → isMs h1 t (sPut ms 2 at' (ls ++ (if 10 < x then [x - 1] else []).map (sWithFirst l))) → WP mX3_addBounds Q 20 (bLv t (nI at') l x y z (-1 + 2)) [] (jG0 sc) h1 (0, 0) := by
      intro h1 f1 m1
      have e1 : x + (-1 + 2) = x + 1 := rfl
      refine rX3_addBounds_20 t_h (P3 := fun h' => isMs h' t (sPut ms 2 at' (ls ++ (if 10 < x then [x - 1] else []).map (sWithFirst l)) ++ [(2, at', sWithFirst l (x + (-1 + 2)))]) ∧ jfr (fMd t) h1 h') (fun q => absurd q (by decide)) (fun _ q => absurd q c) (fun _ _ => tX3_isNumberAtom) (fun _ _ => ?_) (fun _ _ _ _ p _ => by rw [← p.2]; exact tX11_withFirst) (fun _ _ _ _ p _ _ _ q => ?_) (fun _ _ => ?_)
      · rintro _ _ ⟨rfl, rfl⟩ c2
        rw [sB_eq, e1, num_hi hx] at c2
        exact J3 _ f1 (by unfold sBeside; rw [if_neg c2, List.append_nil]; exact m1)
      · rw [← q.2, q.1]
        exact tX3_add t_h m1 (by rw [sPut_len, List.length_append, List.length_map]; split <;> simp <;> omega)
      · rintro _ _ ⟨rfl, rfl⟩ c2 _ _ ⟨rfl, rfl⟩ h5 ⟨g1, g2⟩
        rw [sB_ne, e1, num_hi hx] at c2
        refine J3 _ (f1.tr2 g2) ?_
        rw [sPut_app, e1] at g1
        unfold sBeside
        rw [if_pos c2, List.map_append, List.map_singleton, ← List.append_assoc]
        exact g1
    refine rX3_addBounds_20 t_h (P3 := fun h' => isMs h' t (sPut ms 2 at' ls ++ [(2, at', sWithFirst l (x + -1))]) ∧ jfr (fMd t) h0 h') (fun q => absurd q (by decide)) (fun _ q => absurd q c) (fun _ _ => tX3_isNumberAtom) (fun _ _ => ?_) (fun _ _ _ _ p _ => by rw [← p.2]; exact tX11_withFirst) (fun _ _ _ _ p _ _ _ q => ?_) (fun _ _ => ?_)
    · rintro _ _ ⟨rfl, rfl⟩ c2
      rw [sB_eq, m1_sub, num_lo hx] at c2
      exact J2 _ jfr.rf (by rw [if_neg c2, List.map_nil, List.append_nil]; exact m0)
    · rw [← q.2, q.1]
      exact tX3_add t_h m0 (by rw [sPut_len]; omega)
    · rintro _ _ ⟨rfl, rfl⟩ c2 _ _ ⟨rfl, rfl⟩ h5 ⟨g1, g2⟩
      rw [sB_ne, m1_sub, num_lo hx] at c2
      refine J2 _ g2 ?_
      rw [sPut_app, m1_sub] at g1
      rw [if_pos c2, List.map_singleton]
      exact g1
theorem bndS {Q : jQ} {h0 : jH} {ls : List Int32} {x y z : Int32} (t_h : jI3 t) (hx : y < 10 ∨ sIn y 10 109) (m0 : isMs h0 t (sPut ms 2 at' ls)) (hl : ms.length + ls.length + 2 ≤ 300)
    (kk : ∀ h1, jfr (fMd t) h0 h1 → isMs h1 t (sPut ms 2 at' (ls ++ if y < 10 then [] else (sBeside 10 109 y).map (sWithSecond l))) → WP mX3_addBounds Q 113 (bLv t (nI at') l x y z (-1)) [] (jG0 sc) h1 (0, 0)) :
    WP mX3_addBounds Q 65 (bLv t (nI at') l x y z (-1)) [] (jG0 sc) h0 (0, 0) := by
  by_cases c : y < 10
  · rw [if_pos c, List.append_nil] at kk
    refine rX3_addBounds_65 t_h (fun q => absurd q (by decide)) (fun _ _ => ?_) (P1 := fun _ _ => True) (P2 := fun _ _ => True) (P3 := fun _ => True) (fun _ q => absurd c q) (fun _ q => absurd c q) (fun _ q => absurd c q) (fun _ q => absurd c q) (fun _ q => absurd c q)
    refine rX3_addBounds_65 t_h (fun q => absurd q (by decide)) (fun _ _ => ?_) (P1 := fun _ _ => True) (P2 := fun _ _ => True) (P3 := fun _ => True) (fun _ q => absurd c q) (fun _ q => absurd c q) (fun _ q => absurd c q) (fun _ q => absurd c q) (fun _ q => absurd c q)
    exact rX3_addBounds_65 t_h (fun _ => kk h0 jfr.rf m0) (fun q => absurd (by decide) q) (P1 := fun _ _ => True) (P2 := fun _ _ => True) (P3 := fun _ => True) (fun q => absurd (by decide) q) (fun q => absurd (by decide) q) (fun q => absurd (by decide) q) (fun q => absurd (by decide) q) (fun q => absurd (by decide) q)
  · have hx := hx.resolve_left c
    rw [if_neg c] at kk
    have J3 : ∀ h1, jfr (fMd t) h0 h1 → isMs h1 t (sPut ms 2 at' (ls ++ (sBeside 10 109 y).map (sWithSecond l))) → WP mX3_addBounds Q 65 (bLv t (nI at') l x y z (-1 + 2 + 2)) [] (jG0 sc) h1 (0, 0) := fun h1 f1 m1 =>
      rX3_addBounds_65 t_h (fun _ => kk h1 f1 m1) (fun q => absurd (by decide) q) (P1 := fun _ _ => True) (P2 := fun _ _ => True) (P3 := fun _ => True) (fun q => absurd (by decide) q) (fun q => absurd (by decide) q) (fun q => absurd (by decide) q) (fun q => absurd (by decide) q) (fun q => absurd (by decide) q)
    have J2 : ∀ h1, jfr (fMd t) h0 h1 → isMs h1 t (sPut ms 2 at' (ls ++ (if 10 < y then [y - 1] else []).map (sWithSecond l))) → WP mX3_addBounds Q 65 (bLv t (nI at') l x y z (-1 + 2)) [] (jG0 sc) h1 (0, 0) := by
      intro h1 f1 m1
      have e1 : y + (-1 + 2) = y + 1 := rfl
      refine rX3_addBounds_65 t_h (P3 := fun h' => isMs h' t (sPut ms 2 at' (ls ++ (if 10 < y then [y - 1] else []).map (sWithSecond l)) ++ [(2, at', sWithSecond l (y + (-1 + 2)))]) ∧ jfr (fMd t) h1 h') (fun q => absurd q (by decide)) (fun _ q => absurd q c) (fun _ _ => tX3_isNumberAtom) (fun _ _ => ?_) (fun _ _ _ _ p _ => by rw [← p.2]; exact tX11_withSecond) (fun _ _ _ _ p _ _ _ q => ?_) (fun _ _ => ?_)
      · rintro _ _ ⟨rfl, rfl⟩ c2
        rw [sB_eq, e1, num_hi hx] at c2
        exact J3 _ f1 (by unfold sBeside; rw [if_neg c2, List.append_nil]; exact m1)
      · rw [← q.2, q.1]
        exact tX3_add t_h m1 (by rw [sPut_len, List.length_append, List.length_map]; split <;> simp <;> omega)
      · rintro _ _ ⟨rfl, rfl⟩ c2 _ _ ⟨rfl, rfl⟩ h5 ⟨g1, g2⟩
        rw [sB_ne, e1, num_hi hx] at c2
        refine J3 _ (f1.tr2 g2) ?_
        rw [sPut_app, e1] at g1
        unfold sBeside
        rw [if_pos c2, List.map_append, List.map_singleton, ← List.append_assoc]
        exact g1
    refine rX3_addBounds_65 t_h (P3 := fun h' => isMs h' t (sPut ms 2 at' ls ++ [(2, at', sWithSecond l (y + -1))]) ∧ jfr (fMd t) h0 h') (fun q => absurd q (by decide)) (fun _ q => absurd q c) (fun _ _ => tX3_isNumberAtom) (fun _ _ => ?_) (fun _ _ _ _ p _ => by rw [← p.2]; exact tX11_withSecond) (fun _ _ _ _ p _ _ _ q => ?_) (fun _ _ => ?_)
    · rintro _ _ ⟨rfl, rfl⟩ c2
      rw [sB_eq, m1_sub, num_lo hx] at c2
      exact J2 _ jfr.rf (by rw [if_neg c2, List.map_nil, List.append_nil]; exact m0)
    · rw [← q.2, q.1]
      exact tX3_add t_h m0 (by rw [sPut_len]; omega)
    · rintro _ _ ⟨rfl, rfl⟩ c2 _ _ ⟨rfl, rfl⟩ h5 ⟨g1, g2⟩
      rw [sB_ne, m1_sub, num_lo hx] at c2
      refine J2 _ g2 ?_
      rw [sPut_app, m1_sub] at g1
      rw [if_pos c2, List.map_singleton]
      exact g1
theorem bndC {Q : jQ} {h0 : jH} {ls : List Int32} {x y z : Int32} (t_h : jI3 t) (hx : z = 0 ∨ sIn z 1 9) (m0 : isMs h0 t (sPut ms 2 at' ls)) (hl : ms.length + ls.length + 2 ≤ 300)
    (kk : ∀ h1, jfr (fMd t) h0 h1 → isMs h1 t (sPut ms 2 at' (ls ++ if 0 < z then (sBeside 1 9 z).map (sWithCount l) else [])) → Q (.inl none) (jG0 sc) h1) :
    WP mX3_addBounds Q 113 (bLv t (nI at') l x y z (-1)) [] (jG0 sc) h0 (0, 0) := by
  by_cases c : z ≤ 0
  · rw [if_neg (i_nlt.mpr c), List.append_nil] at kk
    refine rX3_addBounds_113 t_h (fun q => absurd q (by decide)) (fun _ _ => ?_) (fun _ q => absurd c q) (fun _ q => absurd c q) (P1 := fun _ _ => True) (P2 := fun _ => True) (fun _ q => absurd c q) (fun _ q => absurd c q) (fun _ q => absurd c q)
    refine rX3_addBounds_113 t_h (fun q => absurd q (by decide)) (fun _ _ => ?_) (fun _ q => absurd c q) (fun _ q => absurd c q) (P1 := fun _ _ => True) (P2 := fun _ => True) (fun _ q => absurd c q) (fun _ q => absurd c q) (fun _ q => absurd c q)
    exact rX3_addBounds_113 t_h (fun _ => kk h0 jfr.rf m0) (fun q => absurd (by decide) q) (fun q => absurd (by decide) q) (fun q => absurd (by decide) q) (P1 := fun _ _ => True) (P2 := fun _ => True) (fun q => absurd (by decide) q) (fun q => absurd (by decide) q) (fun q => absurd (by decide) q)
  · have hx := hx.resolve_left (fun q => c (by rw [q]; decide))
    rw [if_pos (i_nle.mp c)] at kk
    have J3 : ∀ h1, jfr (fMd t) h0 h1 → isMs h1 t (sPut ms 2 at' (ls ++ (sBeside 1 9 z).map (sWithCount l))) → WP mX3_addBounds Q 113 (bLv t (nI at') l x y z (-1 + 2 + 2)) [] (jG0 sc) h1 (0, 0) := fun h1 f1 m1 =>
      rX3_addBounds_113 t_h (fun _ => kk h1 f1 m1) (fun q => absurd (by decide) q) (fun q => absurd (by decide) q) (fun q => absurd (by decide) q) (P1 := fun _ _ => True) (P2 := fun _ => True) (fun q => absurd (by decide) q) (fun q => absurd (by decide) q) (fun q => absurd (by decide) q)
    have J2 : ∀ h1, jfr (fMd t) h0 h1 → isMs h1 t (sPut ms 2 at' (ls ++ (if 1 < z then [z - 1] else []).map (sWithCount l))) → WP mX3_addBounds Q 113 (bLv t (nI at') l x y z (-1 + 2)) [] (jG0 sc) h1 (0, 0) := by
      intro h1 f1 m1
      have e1 : z + (-1 + 2) = z + 1 := rfl
      have skip : ¬ (¬ z + 1 < 1 ∧ ¬ 9 < z + 1) → WP mX3_addBounds Q 113 (bLv t (nI at') l x y z (-1 + 2 + 2)) [] (jG0 sc) h1 (0, 0) := by
        intro q
        rw [cnt_hi hx] at q
        exact J3 _ f1 (by unfold sBeside; rw [if_neg q, List.append_nil]; exact m1)
      refine rX3_addBounds_113 t_h (P2 := fun h' => isMs h' t (sPut ms 2 at' (ls ++ (if 1 < z then [z - 1] else []).map (sWithCount l)) ++ [(2, at', sWithCount l (z + (-1 + 2)))]) ∧ jfr (fMd t) h1 h') (fun q => absurd q (by decide)) (fun _ q => absurd q c) (fun _ _ q => skip (fun r => r.1 q)) (fun _ _ _ q => skip (fun r => r.2 q)) (fun _ _ _ _ => tX11_withCount) (fun _ _ _ _ _ _ q => ?_) (fun _ _ q1 q2 => ?_)
      · rw [← q.2, q.1]
        exact tX3_add t_h m1 (by rw [sPut_len, List.length_append, List.length_map]; split <;> simp <;> omega)
      · rintro _ _ ⟨rfl, rfl⟩ h5 ⟨g1, g2⟩
        have c2 := (cnt_hi hx).mp ⟨q1, q2⟩
        refine J3 _ (f1.tr2 g2) ?_
        rw [sPut_app, e1] at g1
        unfold sBeside
        rw [if_pos c2, List.map_append, List.map_singleton, ← List.append_assoc]
        exact g1
    have skip : ¬ (¬ z + -1 < 1 ∧ ¬ 9 < z + -1) → WP mX3_addBounds Q 113 (bLv t (nI at') l x y z (-1 + 2)) [] (jG0 sc) h0 (0, 0) := by
      intro q
      rw [m1_sub, cnt_lo hx] at q
      exact J2 _ jfr.rf (by rw [if_neg q, List.map_nil, List.append_nil]; exact m0)
    refine rX3_addBounds_113 t_h (P2 := fun h' => isMs h' t (sPut ms 2 at' ls ++ [(2, at', sWithCount l (z + -1))]) ∧ jfr (fMd t) h0 h') (fun q => absurd q (by decide)) (fun _ q => absurd q c) (fun _ _ q => skip (fun r => r.1 q)) (fun _ _ _ q => skip (fun r => r.2 q)) (fun _ _ _ _ => tX11_withCount) (fun _ _ _ _ _ _ q => ?_) (fun _ _ q1 q2 => ?_)
    · rw [← q.2, q.1]
      exact tX3_add t_h m0 (by rw [sPut_len]; omega)
    · rintro _ _ ⟨rfl, rfl⟩ h5 ⟨g1, g2⟩
      rw [m1_sub] at q1 q2
      have c2 := (cnt_lo hx).mp ⟨q1, q2⟩
      refine J2 _ g2 ?_
      rw [sPut_app, m1_sub] at g1
      rw [if_pos c2, List.map_singleton]
      exact g1
theorem beside_len {lo hi x : Int32} : (sBeside lo hi x).length ≤ 2 := by unfold sBeside; split <;> split <;> simp
theorem atom_10 {a : Int32} (h : sAtom a ∨ a = -1) : a < 10 ∨ sIn a 10 109 := by
  rcases h with (h | h) | h
  · left; rw [toInt_lt_iff]; have := h.2; have e : (10 : Int32).toInt = 10 := rfl; omega
  · exact Or.inr h
  · left; rw [h]; decide
theorem sOk_ab (hl : sOk l) : (sAtom (sFirst l) ∨ sFirst l = -1) ∧ (sAtom (sSecond l) ∨ sSecond l = -1) ∧ (sCount l = 0 ∨ sIn (sCount l) 1 9) := by
  rcases hl with rfl | ⟨-, a, ⟨-, b, c⟩ | ⟨-, -, -, d, e⟩⟩
  · exact ⟨Or.inr (by decide), Or.inr (by decide), Or.inl (by decide)⟩
  · exact ⟨Or.inl a, b.elim (fun q => Or.inr q.2) (fun q => Or.inl q.2), Or.inl c⟩
  · exact ⟨Or.inl a, Or.inl d, Or.inr e⟩
theorem tX3_addBounds (t_h : jI3 t) (hok : sOk l) (hm : isMs h t ms) (hl : ms.length + 6 ≤ 300) : JM mX3_addBounds [.ref t, .int (nI at'), .int l] (jG0 sc) h (jvoid sc (fun h' => isMs h' t (sPut ms 2 at' (sBoundF l ++ sBoundS l ++ sBoundC l)) ∧ jfr (fMd t) h h')) := by
  obtain ⟨o1, o2, o3⟩ := sOk_ab hok
  refine jM_of rfl (Nat.le_of_ble_eq_true rfl) (by decide +kernel) rfl (rX3_addBounds_0 t_h tX11_firstOf (fun _ _ p => by rw [← p.2]; exact tX11_secondOf) (fun _ _ p _ _ q => by rw [← q.2]; exact tX11_countOf) ?_)
  rintro _ _ ⟨rfl, rfl⟩ _ _ ⟨rfl, rfl⟩ _ _ ⟨rfl, rfl⟩
  have lF : (sBoundF l).length ≤ 2 := by
    unfold sBoundF
    split
    · simp
    · rw [List.length_map]; exact beside_len
  have lS : (sBoundS l).length ≤ 2 := by
    unfold sBoundS
    split
    · simp
    · rw [List.length_map]; exact beside_len
  refine bndF (ls := []) t_h (atom_10 o1) (by rw [sPut_nil]; exact hm) (by simp; omega) (fun h1 f1 m1 => ?_)
  refine bndS t_h (atom_10 o2) m1 (by rw [List.length_append]; show _ + (0 + (sBoundF l).length) + 2 ≤ 300; omega) (fun h2 f2 m2 => ?_)
  refine bndC t_h o3 m2 (by rw [List.length_append, List.length_append]; show _ + (0 + (sBoundF l).length + (sBoundS l).length) + 2 ≤ 300; omega) (fun h3 f3 m3 => ?_)
  exact jvoid_i ⟨m3, (f1.tr2 f2).tr2 f3⟩
end MD
