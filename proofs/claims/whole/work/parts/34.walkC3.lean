/-! The class's walk: a step, and all of them. -/
section WE
variable {sc : Nat × (Nat → Int32)} {h : jH} {x y fl fv l T : Int32} {n : Nat} {V R : Nat → Int32}
theorem wSt.put2 (w : wSt h x y fl fv V R T) (t : Int32) : wSt (jput h 69 2 t) x y fl fv V R t := by
  obtain ⟨w1, w2, w3, w4, w5, w6, w7⟩ := w
  refine ⟨?_, ?_, ?_, ?_, ?_, ?_, ?_⟩
  · rw [jput_ne (by decide)]; exact w1
  · rw [jput_ne (by decide)]; exact w2
  all_goals simp [jput, *]
theorem sOk_count (hl : sOk l) (h4 : ¬ sKind l = 4) : sIn (sCount l) 0 15 := by
  rcases hl with rfl | ⟨-, -, ⟨-, -, c⟩ | ⟨-, -, -, -, c⟩⟩
  · exact absurd (by decide) h4
  · rw [c]; decide
  · exact ⟨by have := c.1; omega, by have := c.2; omega⟩
theorem sOk_made (hl : sOk l) (h4 : ¬ sKind l = 4) (h1 : ¬ sKind l = 1) (h2 : ¬ sKind l = 2) (h3 : ¬ sKind l = 3) : sKind l = 0 ∧ sIn (sMade l) 0 3 := by
  rcases hl with rfl | ⟨-, -, ⟨c, -, -⟩ | ⟨c, -⟩⟩
  · exact absurd (by decide) h4
  · rcases c with c | c
    · exact c
    · exact absurd c.1 h3
  · exact absurd c (fun q => q.elim h1 h2)
abbrev wLv (n : Nat) (l : Int32) (u : Int32) (s m : Option Value) : List (Option Value) := [some (.ref 69), some (.int (nI n)), some (.int l), some (.int (sKind l)), some (.int (sFirst l)), some (.int (sSecond l)), some (.int u), s, m]
theorem w55 (hn : n < 2 ^ 30) (hl : sOk l) (h4 : ¬ sKind l = 4) (hw : wSt h x y fl fv V R T) (h11 : h 69 11 = 0) {u : Int32} (hu : u = sUnder R n l) (hk : sKind l = 1 ∨ sKind l = 2) :
    WP mX10_step (jint sc (wPost x y fl fv (sStep x y fl fv l n V R T) h)) 55 (wLv n l u none none) [] (jG0 sc) h (0, 0) := by
  have ev : ∀ a, sVal (jput h 69 2 (h 69 2 ||| u) 70) (jput h 69 2 (h 69 2 ||| u) 69 3) (jput h 69 2 (h 69 2 ||| u) 69 4) a = sVal V x y a := by
    intro a
    rw [jput_ne (by decide), jput_sl (by decide), jput_sl (by decide), hw.2.2.2.1, hw.2.2.2.2.1]
    exact sVal_rel hw.1 x y a
  have e2 : h 69 2 ||| u = T ||| sUnder R n l := by rw [hw.2.2.1, hu]
  refine bX10_step_55 tX11_signOf (fun _ _ p => by first | (rw [p.1, ← p.2]; exact tX10_holds) | (rw [← p.2]; exact tX10_holds)) ?_ ?_
  · rintro _ _ ⟨rfl, rfl⟩ _ _ ⟨rfl, rfl⟩ c
    rw [sB_eq, ev, ev] at c
    refine bX10_step_93 (bX10_step_96 (jint_i ?_))
    rw [(sStep_j hk).1 c]
    exact ⟨(nI_succ n).symm, jfr.rf.put rfl, Or.inr ⟨rfl, by simpa [jput] using h11, by rw [e2]; exact hw.put2 _⟩⟩
  · rintro _ _ ⟨rfl, rfl⟩ _ _ ⟨rfl, rfl⟩ c
    rw [sB_ne, ev, ev] at c
    refine bX10_step_81 tX11_countOf (fun _ _ p => by first | (rw [p.1, ← p.2]; exact tX10_jump hn (sOk_count hl h4)) | (rw [← p.2]; exact tX10_jump hn (sOk_count hl h4))) ?_
    rintro _ _ ⟨rfl, rfl⟩ _ _ ⟨rfl, rfl⟩
    refine bX10_step_96 (jint_i ?_)
    by_cases k1 : sKind l = 1
    · rw [(sStep_j hk).2.1 c k1]
      exact ⟨by rw [if_pos k1], jfr.rf.put rfl, Or.inr ⟨rfl, by simpa [jput] using h11, by rw [e2]; exact hw.put2 _⟩⟩
    · rw [(sStep_j hk).2.2 c k1]
      exact ⟨by rw [if_neg k1], jfr.rf.put rfl, Or.inr ⟨rfl, by simpa [jput] using h11, by rw [e2]; exact hw.put2 _⟩⟩
theorem w128 (hl : sOk l) (h4 : ¬ sKind l = 4) (h1 : ¬ sKind l = 1) (h2 : ¬ sKind l = 2) (hw : wSt h x y fl fv V R T) (h11 : h 69 11 = 0) {u s : Int32} (hu : u = sUnder R n l)
    (hs : (sKind l = 0 ∧ nI n = fl ∧ s = fv) ∨ (¬ (sKind l = 0 ∧ nI n = fl) ∧ s = sSum (sVal V x y (sFirst l)) (sSign l) (sVal V x y (sSecond l)))) :
    WP mX10_step (jint sc (wPost x y fl fv (sStep x y fl fv l n V R T) h)) 128 (wLv n l u none none) [.int s] (jG0 sc) h (0, 0) := by
  have out : (sKind l = 3 ∨ 999999 < s) → WP mX10_step (jint sc (wPost x y fl fv (sStep x y fl fv l n V R T) h)) 143 (wLv n l u (some (.int s)) none) [] (jG0 sc) h (0, 0) := by
    intro q
    refine bX10_step_143 (jint_i ?_)
    rw [(sStep_s h4 h1 h2 hs).1 q]
    refine ⟨rfl, ((jfr.rf.put rfl).put rfl).put rfl, Or.inl ⟨rfl, ?_, ?_, ?_⟩⟩
    · simp [jput]
    · simp [jput]
    · simp [jput, hw.2.2.1, hu]
  refine bX10_step_128 (fun c => out (Or.inl c)) (fun c3 => ?_)
  refine bX10_step_135 tX11_isNumber ?_ ?_
  · rintro _ _ ⟨rfl, rfl⟩ c
    rw [sB_ne] at c
    obtain ⟨k0, m1, m2⟩ := sOk_made hl h4 h1 h2 c3
    have em : sMade l = nI (sMade l).toInt.toNat := toInt_nn m1
    have c0 : (0 : Int32).toInt = 0 := rfl
    have c40 : (4 : Int32).toInt = 4 := rfl
    refine bX10_step_167 tX11_madeOf ?_ ?_
    · rintro _ _ ⟨rfl, rfl⟩ c; rw [toInt_lt_iff] at c; omega
    · rintro _ _ ⟨rfl, rfl⟩ c5
      refine bX10_step_178 (fun c => ?_) (fun c6 => ?_)
      · rw [toInt_le_iff] at c; omega
      · refine bX10_step_184 (in_of (n := 4) c5 c6 (by decide)) (in_of (n := 4) c5 c6 (by decide)) ?_
        refine bX10_step_207 (jint_i ?_)
        rw [(sStep_s h4 h1 h2 hs).2 (fun q => q.elim c3 c)]
        refine ⟨(nI_succ n).symm, (jfr.rf.put rfl).put rfl, Or.inr ⟨rfl, by simpa [jput] using h11, ?_⟩⟩
        obtain ⟨w1, w2, w3, w4, w5, w6, w7⟩ := hw
        refine ⟨fun i hi => ?_, fun i hi => ?_, by simpa [jput] using w3, by simpa [jput] using w4, by simpa [jput] using w5, by simpa [jput] using w6, by simpa [jput] using w7⟩
        · have := w1 i hi
          simp only [jput, sUp] at this ⊢
          simp [this]
        · have := w2 i hi
          simp only [jput, sUp] at this ⊢
          simp [this, w3, hu]
  · rintro _ _ ⟨rfl, rfl⟩ c
    rw [sB_eq] at c
    exact out (Or.inr (Classical.byContradiction c))
theorem w97 (hl : sOk l) (h4 : ¬ sKind l = 4) (h1 : ¬ sKind l = 1) (h2 : ¬ sKind l = 2) (hw : wSt h x y fl fv V R T) (h11 : h 69 11 = 0) {u : Int32} (hu : u = sUnder R n l) :
    WP mX10_step (jint sc (wPost x y fl fv (sStep x y fl fv l n V R T) h)) 97 (wLv n l u none none) [] (jG0 sc) h (0, 0) := by
  have J : ¬ (sKind l = 0 ∧ nI n = fl) → WP mX10_step (jint sc (wPost x y fl fv (sStep x y fl fv l n V R T) h)) 116 (wLv n l u none none) [] (jG0 sc) h (0, 0) := by
    intro q
    refine bX10_step_116 tX11_signOf (fun _ _ p => by first | (rw [p.1, ← p.2]; exact tX10_sumOf) | (rw [← p.2]; exact tX10_sumOf)) ?_
    rintro _ _ ⟨rfl, rfl⟩ _ _ ⟨rfl, rfl⟩
    refine w128 hl h4 h1 h2 hw h11 hu (Or.inr ⟨q, ?_⟩)
    rw [hw.2.2.2.1, hw.2.2.2.2.1, sVal_rel hw.1, sVal_rel hw.1]
  have e5 := hw.2.2.2.2.2.1
  refine bX10_step_97 (fun c => J (fun q => c q.1)) (fun c0 => ?_)
  refine bX10_step_101 (fun c => J (fun q => c (by rw [e5]; exact q.2))) (fun c => ?_)
  exact bX10_step_109 (w128 hl h4 h1 h2 hw h11 hu (Or.inl ⟨c0, by rw [← e5]; exact c, hw.2.2.2.2.2.2⟩))
theorem tX10_step (hn : n < 2 ^ 30) (hl : sOk l) (hw : wSt h x y fl fv V R T) (h11 : h 69 11 = 0) :
    JM mX10_step [.ref 69, .int (nI n), .int l] (jG0 sc) h (jint sc (wPost x y fl fv (sStep x y fl fv l n V R T) h)) := by
  refine jM_of rfl (Nat.le_of_ble_eq_true rfl) (by decide +kernel) rfl (bX10_step_0 tX11_kindOf ?_ ?_)
  · rintro _ _ ⟨rfl, rfl⟩ c4
    refine bX10_step_14 tX11_firstOf (fun _ _ p => by first | (rw [p.1, ← p.2]; exact tX11_secondOf) | (rw [← p.2]; exact tX11_secondOf)) (fun _ _ p _ _ q => by rw [← q.2, p.1]; exact tX10_restsOf) ?_
    rintro _ _ ⟨rfl, rfl⟩ _ _ ⟨rfl, rfl⟩ _ _ ⟨rfl, rfl⟩
    refine bX10_step_37 tX10_restsOf ?_ ?_
    · rintro _ _ ⟨rfl, rfl⟩ c1
      exact w55 hn hl c4 hw h11 (sUnder_rel hw.2.1 n l) (Or.inl c1)
    · rintro _ _ ⟨rfl, rfl⟩ c1
      refine bX10_step_50 (fun c2 => ?_) (fun c2 => ?_)
      · exact w97 hl c4 c1 c2 hw h11 (sUnder_rel hw.2.1 n l)
      · exact w55 hn hl c4 hw h11 (sUnder_rel hw.2.1 n l) (Or.inr c2)
  · rintro _ _ ⟨rfl, rfl⟩ c4
    refine bX10_step_10 (jint_i ?_)
    rw [sStep_4 c4]
    exact ⟨(nI_succ n).symm, jfr.rf, Or.inr ⟨rfl, h11, hw⟩⟩
/-- places stay small -/
theorem sStep_at (hl : sOk l) : (sStep x y fl fv l n V R T).2.2.2.1 ≤ n + 17 := by
  by_cases h4 : sKind l = 4
  · rw [sStep_4 h4]; show n + 1 ≤ _; omega
  have hc := sOk_count hl h4
  have hc2 : (sCount l).toNatClampNeg ≤ 15 := by
    have := hc.2
    have := hc.1
    rw [Int32.toNatClampNeg]
    omega
  by_cases h1 : sKind l = 1 ∨ sKind l = 2
  · by_cases q : sHolds (sVal V x y (sFirst l)) (sSign l) (sVal V x y (sSecond l))
    · by_cases k1 : sKind l = 1
      · rw [(sStep_j h1).2.1 q k1]; show n + 1 + _ ≤ _; omega
      · rw [(sStep_j h1).2.2 q k1]; show n - _ ≤ _; omega
    · rw [(sStep_j h1).1 q]; show n + 1 ≤ _; omega
  have a1 : ¬ sKind l = 1 := fun q => h1 (Or.inl q)
  have a2 : ¬ sKind l = 2 := fun q => h1 (Or.inr q)
  by_cases f : sKind l = 0 ∧ nI n = fl
  · by_cases q : sKind l = 3 ∨ 999999 < fv
    · rw [(sStep_s h4 a1 a2 (Or.inl ⟨f.1, f.2, rfl⟩)).1 q]; show n ≤ _; omega
    · rw [(sStep_s h4 a1 a2 (Or.inl ⟨f.1, f.2, rfl⟩)).2 q]; show n + 1 ≤ _; omega
  · by_cases q : sKind l = 3 ∨ 999999 < sSum (sVal V x y (sFirst l)) (sSign l) (sVal V x y (sSecond l))
    · rw [(sStep_s h4 a1 a2 (Or.inr ⟨f, rfl⟩)).1 q]; show n ≤ _; omega
    · rw [(sStep_s h4 a1 a2 (Or.inr ⟨f, rfl⟩)).2 q]; show n + 1 ≤ _; omega
abbrev fWalk : jF := ([(70, 71)], [(69, 2, 4), (69, 7, 11)])
def thPost (W : sRes) (h : jH) (r : Int32) (h' : jH) : Prop := r = W.1 ∧ h' 69 7 = W.2.1 ∧ h' 69 8 = W.2.2.1 ∧ h' 69 9 = W.2.2.2 ∧ jfr fWalk h h'
theorem isP.walk {h h1 : jH} {t : Nat} {p : List Int32} (hp : isP h t p) (f : jfr fWalk h h1) (ht : t + 1 < 69 ∨ 71 < t) : isP h1 t p :=
  hp.fr f (by rw [jin_f]; simp; omega) (fun j => by rw [jin_f]; simp; omega)
theorem w78 {h1 : jH} {t a : Nat} {p : List Int32} {W : sRes} {i : Int32} (t_h : jI4 t) (hp : isP h1 t p) (ha : a < 2 ^ 31) (f : jfr fWalk h h1)
    (hj : (¬ h1 69 11 = 0 ∧ h1 69 10 = W.1 ∧ h1 69 7 = W.2.1 ∧ h1 69 8 = W.2.2.1 ∧ h1 69 9 = W.2.2.2) ∨ (h1 69 11 = 0 ∧ ∃ V R T, wSt h1 x y fl fv V R T ∧ W = if a < p.length then (2000003, h1 69 7, h1 69 8, T) else (V 0, h1 69 7, h1 69 8, T ||| R 0))) :
    WP mX10_through (jint sc (thPost W h)) 78 [some (.ref 69), some (.ref t), some (.int x), some (.int y), some (.int (nI a)), some (.int i)] [] (jG0 sc) h1 (0, 0) := by
  have h10 : p.length < 2 ^ 31 := Nat.lt_of_le_of_lt hp.2.1 (by decide)
  rcases hj with ⟨e1, e2, e3, e4, e5⟩ | ⟨e1, V, R, T, w, e2⟩
  · refine bX10_through_78 t_h (fun _ => ?_) (fun c => absurd c e1)
    refine bX10_through_111 t_h (fun _ => ?_) (fun c => absurd c e1)
    exact bX10_through_143 t_h (jint_i ⟨e2, e3, e4, e5, f⟩)
  · obtain ⟨w1, w2, w3, w4, w5, w6, w7⟩ := w
    refine bX10_through_78 t_h (fun c => absurd e1 c) (fun _ => ?_)
    refine bX10_through_85 t_h (fun c => ?_) (fun c => ?_)
    · rw [hp.1, jn_le h10 ha] at c
      refine bX10_through_111 t_h (fun c => absurd e1 c) (fun _ => ?_)
      refine bX10_through_118 t_h (bX10_through_143 t_h (jint_i ?_))
      rw [if_neg (by omega)] at e2
      subst e2
      refine ⟨?_, ?_, ?_, ?_, (f.put rfl).put rfl⟩
      · have := w1 0 (by decide); simpa [jput] using this
      · simp [jput]
      · simp [jput]
      · have := w2 0 (by decide); simp [jput, w3, this]
    · rw [hp.1, jn_le h10 ha] at c
      refine bX10_through_94 t_h (bX10_through_143 t_h (jint_i ?_))
      rw [if_pos (by omega)] at e2
      subst e2
      refine ⟨?_, ?_, ?_, ?_, (f.put rfl).put rfl⟩
      · simp [jput]
      · simp [jput]
      · simp [jput]
      · simp [jput, w3]
theorem tX10_through {t : Nat} {p : List Int32} (t_h : jI4 t) (ht : t + 1 < 69 ∨ 71 < t) (hp : isP h t p) (hs : sProg p) (hf : h 69 5 = fl) (hv : h 69 6 = fv) :
    JM mX10_through [.ref 69, .ref t, .int x, .int y] (jG0 sc) h (jint sc (thPost (sGo p x y fl fv) h)) := by
  refine jM_of rfl (Nat.le_of_ble_eq_true rfl) (by decide +kernel) rfl (bX10_through_0 t_h tX10_begin ?_)
  rintro h0 ⟨b1, b2, b3, b4, b5⟩
  rw [hf, hv] at b1
  refine jloop2 (fun i (h1 : jH) (a : Nat) => WP mX10_through _ 12 [some (.ref 69), some (.ref t), some (.int x), some (.int y), some (.int (nI a)), some (.int (nI i))] [] (jG0 sc) h1 (0, 0))
    (fun i h1 a => a < 2 ^ 30 ∧ jfr fWalk h h1 ∧ ((¬ h1 69 11 = 0 ∧ h1 69 10 = (sGo p x y fl fv).1 ∧ h1 69 7 = (sGo p x y fl fv).2.1 ∧ h1 69 8 = (sGo p x y fl fv).2.2.1 ∧ h1 69 9 = (sGo p x y fl fv).2.2.2) ∨
      (h1 69 11 = 0 ∧ ∃ V R T, wSt h1 x y fl fv V R T ∧ sGo p x y fl fv = sRun p x y fl fv (100 - i) a V R T (h1 69 7) (h1 69 8)))) 100 ?_ ?_ 0 h0 0 (by omega) ⟨by decide, b5, Or.inr ⟨b4, _, _, _, b1, by rw [b2, b3]; rfl⟩⟩
  · rintro h1 a ⟨i1, i2, i3⟩
    refine bX10_through_12 t_h (fun _ => ?_) (fun c => absurd (by decide) c)
    refine w78 (fl := fl) (fv := fv) t_h (hp.walk i2 ht) (Nat.lt_trans i1 (by decide)) i2 (i3.imp id (fun q => ⟨q.1, ?_⟩))
    obtain ⟨-, V, R, T, w, e⟩ := q
    exact ⟨V, R, T, w, e⟩
  · rintro i h1 a hi ⟨i1, i2, i3⟩ k
    have hpw := hp.walk i2 ht
    have h10 : p.length < 2 ^ 31 := Nat.lt_of_le_of_lt hp.2.1 (by decide)
    have ha31 : a < 2 ^ 31 := Nat.lt_trans i1 (by decide)
    have hi31 : i < 2 ^ 31 := Nat.lt_trans hi (by decide)
    obtain ⟨m, hm⟩ : ∃ m, 100 - i = m + 1 := ⟨99 - i, by omega⟩
    have hm2 : 100 - (i + 1) = m := by omega
    refine bX10_through_12 t_h (fun c => absurd ((jn_le (a := 100) (by decide) hi31).mp c) (by omega)) (fun _ => ?_)
    refine bX10_through_19 t_h (fun c => ?_) (fun c => ?_)
    · rw [hpw.1, jn_le h10 ha31] at c
      refine w78 (fl := fl) (fv := fv) t_h hpw ha31 i2 (i3.imp id (fun q => ⟨q.1, ?_⟩))
      obtain ⟨-, V, R, T, w, e⟩ := q
      refine ⟨V, R, T, w, ?_⟩
      rw [e, hm, if_neg (by omega), sRun, if_neg (by show ¬ a < p.length; omega)]
    · rw [hpw.1, jn_le h10 ha31] at c
      have hal : a < p.length := by omega
      refine bX10_through_28 t_h (fun c1 => ?_) (fun c1 => ?_)
      · rcases i3 with i3 | i3
        · exact w78 (fl := fl) (fv := fv) t_h hpw ha31 i2 (Or.inl i3)
        · exact absurd i3.1 c1
      · rcases i3 with i3 | ⟨-, V, R, T, w, e⟩
        · exact absurd c1 i3.1
        have hl : sOk (p.getD a 4) := hs.2 _ (getD_mem hal)
        have hpp : isP (jput (jput h1 69 7 (h1 69 7 ||| (1 : Int32) <<< (nI a &&& 31))) 69 8 (jput h1 69 7 (h1 69 7 ||| (1 : Int32) <<< (nI a &&& 31)) 69 8 + 1)) t p := hp.walk ((i2.put rfl).put rfl) ht
        refine bX10_through_35 t_h (tX4_lineAt t_h hpp ha31) ?_
        rintro _ _ ⟨rfl, rfl⟩
        obtain ⟨w1, w2, w3, w4, w5, w6, w7⟩ := w
        refine bX10_through_67 t_h (tX10_step (V := V) (R := R) (T := T) (fl := fl) (fv := fv) (x := x) (y := y) i1 hl ⟨?_, ?_, ?_, ?_, ?_, ?_, ?_⟩ ?_) ?_
        · rw [jput_ne (by decide), jput_ne (by decide)]; exact w1
        · rw [jput_ne (by decide), jput_ne (by decide)]; exact w2
        · simpa [jput] using w3
        · simpa [jput] using w4
        · simpa [jput] using w5
        · simpa [jput] using w6
        · simpa [jput] using w7
        · simpa [jput] using c1
        · rintro r h2 ⟨q1, q2, q3⟩
          rw [q1]
          have hat := sStep_at (x := x) (y := y) (fl := fl) (fv := fv) (n := a) (V := V) (R := R) (T := T) hl
          have e7 : h2 69 7 = h1 69 7 ||| (1 : Int32) <<< (nI a &&& 31) := by
            rw [q2 69 7 rfl]; simp [jput]
          have e8 : h2 69 8 = h1 69 8 + 1 := by
            rw [q2 69 8 rfl]; simp [jput]
          rw [hm, sRun, if_pos (show a < p.length from hal)] at e
          dsimp only at e
          rw [← nI_succ]
          refine k h2 _ ⟨?_, ?_, ?_⟩
          · have := hp.2.1; omega
          · exact ((i2.put rfl).put rfl).tr2 (q2.mono rfl)
          · rcases q3 with ⟨z1, z2, z3, z4⟩ | ⟨z1, z2, z3⟩
            · rw [if_pos z1] at e
              refine Or.inl ⟨by rw [z2]; decide, ?_, ?_, ?_, ?_⟩
              all_goals rw [e]
              · exact z3
              · exact e7
              · exact e8
              · exact z4
            · rw [if_neg (by rw [z1]; decide)] at e
              refine Or.inr ⟨z2, _, _, _, z3, ?_⟩
              rw [e, hm2, e7, e8]
end WE
