/-! The reference reads a LAW. -/
section LWM
variable {sc : Nat × (Nat → Int32)} {h h' h0 : jH} {T : List Int32} {b p d : Nat} {S : List (Int32 × Int32)} {W W' : jH → Prop}
abbrev fLm : jF := ([(165, 165)], [(159, 6, 6), (159, 8, 9), (159, 13, 13)])
def wL (h0 : jH) (S : List (Int32 × Int32)) (d : Nat) (h : jH) : Prop := h 159 13 = nI S.length ∧ (∀ i, i < S.length → h 165 (2 * i) = (S.getD i (0, 0)).1 ∧ h 165 (2 * i + 1) = (S.getD i (0, 0)).2) ∧ h 159 9 = nI d ∧ jfr fLm h0 h
theorem wL_st : ∀ x y, jfr fPt x y → wL h0 S d x → wL h0 S d y := fun x y f k => ⟨(f 159 13 rfl).trans k.1, fun i hi => ⟨(f 165 _ rfl).trans (k.2.1 i hi).1, (f 165 _ rfl).trans (k.2.1 i hi).2⟩, (f 159 9 rfl).trans k.2.2.1, k.2.2.2.tr2 (f.mono rfl)⟩
theorem ms.rowL (k : ms W T p h) (f : jfr ([(165, 165)], [(159, 9, 9), (159, 13, 13)]) h h') (hs : ∀ x y, jfr fPt x y → W' x → W' y) (hw : W' h') : ms W' T p h' :=
  ⟨fun i hi => (f 162 i rfl).trans (k.1 i hi), k.2.1, k.2.2.1, (f 159 7 rfl).trans k.2.2.2.1, (f 159 6 rfl).trans k.2.2.2.2.1, k.2.2.2.2.2.1, hs, hw⟩
theorem ms.dp {e : Nat} {v : Int32} (k : ms (wL h0 S d) T p h) (hv : v = nI e) : ms (wL h0 S e) T p (jput h 159 9 v) := by
  have f : jfr ([(165, 165)], [(159, 9, 9), (159, 13, 13)]) h (jput h 159 9 v) := jfr.rf.put rfl
  have g : jfr ([], [(159, 9, 9)]) h (jput h 159 9 v) := jfr.rf.put rfl
  have w := k.w
  exact k.rowL f wL_st ⟨(g 159 13 rfl).trans w.1, fun i hi => ⟨(g 165 _ rfl).trans (w.2.1 i hi).1, (g 165 _ rfl).trans (w.2.1 i hi).2⟩, jput_at.trans hv, w.2.2.2.tr2 (g.mono rfl)⟩
theorem getD_ap1S {x : Int32 × Int32} {i : Nat} : (S ++ [x]).getD i (0, 0) = if i < S.length then S.getD i (0, 0) else if i = S.length then x else (0, 0) := by
  rw [List.getD_eq_getElem?_getD, List.getD_eq_getElem?_getD]
  by_cases c : i < S.length
  · rw [if_pos c, List.getElem?_append_left c]
  · rw [if_neg c, List.getElem?_append_right (by omega)]
    by_cases e : i = S.length
    · rw [if_pos e, e, Nat.sub_self]; rfl
    · rw [if_neg e, List.getElem?_eq_none (by rw [List.length_singleton]; omega)]; rfl
theorem tX12_emits {x y : Int32} (k : ms (wL h0 S d) T p h) (hS : S.length < 400) : JM mX12_emits [.ref 159, .int x, .int y] (jG0 sc) h (jvoid sc (ms (wL h0 (S ++ [(x, y)]) d) T p)) := by
  have w := k.w
  have e2 : (2 : Int32) * nI S.length = nI (2 * S.length) := by rw [show (2 : Int32) = nI 2 from rfl, pk_mul]
  have e3 : (2 : Int32) * nI S.length + 1 = nI (2 * S.length + 1) := by rw [e2, ← nI_succ]
  have n1 : ∀ {g : jH} {i : Nat} {v : Int32}, jput g 165 i v 159 13 = g 159 13 := fun {g i v} => by rw [jput_ne (by decide)]
  refine jM_of rfl (Nat.le_of_ble_eq_true rfl) (by decide +kernel) rfl (rX12_emits_0 (by rw [w.1, e2]; exact vp_in_nI (by omega) (by decide)) (by rw [n1, w.1, e3]; exact vp_in_nI (by omega) (by decide)) (jvoid_i ?_))
  rw [n1, n1, w.1, e3, e2, nI_clamp (by omega), nI_clamp (by omega), n1, w.1, ← nI_succ]
  have f : jfr ([(165, 165)], [(159, 9, 9), (159, 13, 13)]) h (jput (jput (jput h 165 (2 * S.length) x) 165 (2 * S.length + 1) y) 159 13 (nI (S.length + 1))) := ((jfr.rf.put (by rw [jin_iff]; simp)).put (by rw [jin_iff]; simp)).put rfl
  refine k.rowL f wL_st ⟨by rw [jput_at, List.length_append, List.length_singleton], fun i hi => ?_, ?_, w.2.2.2.tr2 (f.mono rfl)⟩
  · rw [List.length_append, List.length_singleton] at hi
    rw [getD_ap1S, jput_ne (show (165 : Nat) ≠ 159 by decide)]
    by_cases z : i = S.length
    · subst z
      rw [if_neg (Nat.lt_irrefl _), if_pos rfl, jput_sl (by omega), jput_at, jput_at]
      exact ⟨rfl, rfl⟩
    · rw [if_pos (show i < S.length by omega), jput_sl (by omega), jput_sl (by omega), jput_sl (by omega), jput_sl (by omega)]
      exact w.2.1 i (by omega)
  · rw [jput_sl (by decide), jput_ne (by decide), jput_ne (by decide)]
    exact w.2.2.1
def mLr (h0 : jH) (T : List Int32) (S : List (Int32 × Int32)) (d : Nat) (r : lR) (x : Int32) (h : jH) : Prop := match r with
  | .inl e => x = 0 ∧ h 159 8 = nI e ∧ jfr fLm h0 h
  | .inr q => x = 1 ∧ ∃ p', ms (wL h0 (S ++ sAllSteps q.1) d) T p' h ∧ sSkip T p' = q.2
theorem ms2.failL (k : ms2 (wL h0 S d) T b p h) {e : Nat} {S' : List (Int32 × Int32)} : mLr h0 T S' e (.inl b) 0 h := ⟨rfl, k.2, k.1.w.2.2.2⟩
theorem mLr.l {r : lR} {x : Int32} (k : mLr h0 T S d r x h) (hx : x = 0) : ∃ e, r = .inl e ∧ h 159 8 = nI e ∧ jfr fLm h0 h := by
  match r, k with
  | .inl e, k => exact ⟨e, rfl, k.2⟩
  | .inr q, k => exact absurd (k.1.symm.trans hx) (by decide)
theorem mLr.r {r : lR} {x : Int32} (k : mLr h0 T S d r x h) (hx : ¬ x = 0) : ∃ q, r = .inr q ∧ ∃ p', ms (wL h0 (S ++ sAllSteps q.1) d) T p' h ∧ sSkip T p' = q.2 := by
  match r, k with
  | .inl e, k => exact absurd k.1 hx
  | .inr q, k => exact ⟨q, rfl, k.2⟩
theorem idx8 (c : Int32) : sIdx 8 c = if c = 114 then 0 else if c = 120 then 1 else if c = 121 then 2 else -1 := rfl
theorem let_w {n : Nat} {c v : Int32} (h1 : jTxtL.getD n 0 = 1) (hc : jch n 0 = c) (hv : sIdx 8 c = v) (h : tWd T b n) : tLet T b 8 = v := by
  obtain ⟨k1, k2, k3⟩ := h
  rw [h1] at k2
  have := k3 0 (by rw [h1]; decide)
  rw [Nat.add_zero, hc] at this
  unfold tLet
  rw [sIf_t ⟨k1, k2⟩, this]; exact hv
theorem let_none (h1 : ¬ tWd T b 17) (h2 : ¬ tWd T b 18) (h3 : ¬ tWd T b 19) : tLet T b 8 = -1 := by
  unfold tLet
  by_cases c : tKind T b = 1 ∧ tEnd T b - b = 1
  · rw [sIf_t c, idx8]
    have e : ∀ n, jTxtL.getD n 0 = 1 → ¬ tWd T b n → ¬ T.getD b 0 = jch n 0 := fun n hn hw q => hw ⟨c.1, by rw [hn]; exact c.2, fun j hj => by
      rw [hn] at hj
      rw [show j = 0 by omega, Nat.add_zero]; exact q⟩
    rw [if_neg (show ¬ T.getD b 0 = 114 from e 17 rfl h1), if_neg (show ¬ T.getD b 0 = 120 from e 18 rfl h2), if_neg (show ¬ T.getD b 0 = 121 from e 19 rfl h3)]
  · rw [sIf_f c]
abbrev mLA (h0 : jH) (T : List Int32) (S : List (Int32 × Int32)) (d b : Nat) (x : Int32) (h : jH) : Prop := (sAt T b 4 8 = -1 ∧ x = 0 ∧ h 159 8 = nI b ∧ jfr fLm h0 h) ∨ (¬ sAt T b 4 8 = -1 ∧ x = 1 ∧ ms (wL h0 (S ++ [sAtomStep (sAt T b 4 8)]) d) T (tEnd T b) h)
theorem mAtom (k : ms (wL h0 S d) T p h) (eb : sSkip T p = b) (hS : b < T.length → S.length < 400) : JM mX12_readLawAtom [.ref 159] (jG0 sc) h (jint sc (mLA h0 T S d b)) := by
  have h4 := k.2.1
  have hb : b ≤ T.length := by rw [← eb]; exact skip_le k.2.2.2.2.2.1
  have hsk : sSkip T b = b := by rw [← eb]; exact sSkip_idem k.2.2.2.2.2.1
  obtain ⟨w1, w2, w3⟩ := span_word hb
  obtain ⟨n1, n2, n3⟩ := span_num hb
  have hs := sSpan_in (P := isLet) hb
  have all := sSpan_all (T := T) (P := isLet) _ b rfl
  have ki : ∀ {h1 : jH}, ms2 (wL h0 S d) T b (sSpan isLet T b) h1 → (h1 159 6 ≤ h1 159 8 ↔ ¬ tKind T b = 1) := fun z => by
    rw [z.1.2.2.2.2.1, z.2, jn_le (by omega) (by omega), w1]; omega
  have nonum : tKind T b = 1 → sAt T b 4 8 = tLet T b 8 := fun q => sIf_f (fun c => by have := c.1; rw [this] at q; cases q)
  have lt := tX12_letters (sc := sc) k
  rw [eb] at lt
  have iw := fun {h3} n (hn : n < 22) (w : ms2 (wL h0 S d) T b (sSpan isLet T b) h3) => jM_get (tX12_isWord (sc := sc) w hb hn) w
  -- a letter
  have some0 : ∀ h3 v u, tKind T b = 1 → ms2 (wL h0 S d) T b (sSpan isLet T b) h3 → sAt T b 4 8 = u → ¬ u = -1 → sAtomStep u = (v, 0) → 0 ≤ v → WP mX12_readLawAtom (jint sc (mLA h0 T S d b)) 55 [some (.ref 159), none] [.int v] (jG0 sc) h3 (0, 0) := fun h3 v u q w e1 e2 e3 e4 => by
    refine bX12_readLawAtom_55 (fun _ => ?_) (fun c => absurd e4 c)
    have lb := w1.mp q
    have w' := w.1
    rw [← w2 lb] at w'
    refine bX12_readLawAtom_62 (tX12_emits w' (hS (by omega))) (fun h4 y => jint_i (Or.inr ⟨by rw [e1]; exact e2, rfl, ?_⟩))
    rw [e1, e3]; exact y
  refine jM_of rfl (Nat.le_of_ble_eq_true rfl) (by decide +kernel) rfl (bX12_readLawAtom_0 lt (fun h1 z c => ?_) (fun h1 z c => ?_))
  · have nk := (ki z).mp c
    have e : sSpan isLet T b = b := w3 (fun q => nk (w1.mpr q))
    have z1 := z.1
    rw [e] at z1
    have nm := tX12_number (sc := sc) (d := 4) (lo := 0) z1 (by decide)
    rw [hsk] at nm
    refine bX12_readLawAtom_70 nm ?_ ?_
    · rintro x2 h2 ⟨rfl, y⟩ c2
      have q : tNumb T b 4 ∧ 0 ≤ sNumAt T b := Classical.byContradiction fun q => by rw [sIf_f q] at c2; exact absurd c2 (by decide)
      rw [sIf_t q] at c2 ⊢
      have e1 : sAt T b 4 8 = sNumAt T b + 10 := sIf_t q.1
      have le := num_lt q.1 hb
      have lb := n1.mp q.1.1
      have hl := (sSpan_in (P := isDig) hb).2.1
      have y' := y.1
      rw [← n2 lb] at y'
      have em : sNumAt T b + 10 = nI (sNum T b (tEnd T b - b) + 10) := nI_add _ _
      have ne1 : ¬ sAt T b 4 8 = -1 := by rw [e1, em]; exact no_m1 (by omega)
      have st : sAtomStep (sAt T b 4 8) = (0, sNumAt T b) := by
        unfold sAtomStep
        have nn : ∀ m, m < 10 → ¬ sAt T b 4 8 = nI m := fun m hm q => by
          rw [e1, em, jn_eq (by omega) (by omega)] at q; omega
        rw [if_neg (show ¬ sAt T b 4 8 = 0 from nn 0 (by decide)), if_neg (show ¬ sAt T b 4 8 = 1 from nn 1 (by decide)), if_neg (show ¬ sAt T b 4 8 = 2 from nn 2 (by decide)), e1, Int32.add_sub_cancel]
      refine bX12_readLawAtom_83 (tX12_emits y' (hS (by omega))) (fun h4 w => jint_i (Or.inr ⟨ne1, rfl, ?_⟩))
      rw [st]; exact w
    · rintro x2 h2 ⟨rfl, y⟩ c2
      have nq : ¬ tNumb T b 4 := fun q => by
        have lt := num_lt q hb
        have q0 : (0 : Int32) ≤ sNumAt T b := by unfold sNumAt; exact nI_le (a := 0) (by omega) (by omega)
        rw [sIf_t ⟨q, q0⟩] at c2
        exact c2 q0
      exact bX12_readLawAtom_81 (jint_i (Or.inl ⟨(sIf_f nq).trans (sIf_f (fun q => nk q.1)), rfl, y.2, y.1.w.2.2.2⟩))
  · have kw := Classical.byContradiction fun q => c ((ki z).mpr q)
    have ea := nonum kw
    refine bX12_readLawAtom_15 (iw 17 (by decide) z) ?_ ?_
    · rintro x3 h3 ⟨rfl, z⟩ c1
      have f1 := sB_eq.mp c1
      refine bX12_readLawAtom_28 (iw 18 (by decide) z) ?_ ?_
      · rintro x3 h3 ⟨rfl, z⟩ c2
        have f2 := sB_eq.mp c2
        refine bX12_readLawAtom_41 (iw 19 (by decide) z) ?_ ?_
        · rintro x3 h3 ⟨rfl, z⟩ c3
          have f3 := sB_eq.mp c3
          exact bX12_readLawAtom_54 (bX12_readLawAtom_55 (fun q => absurd q (by decide)) (fun _ => bX12_readLawAtom_60 (jint_i (Or.inl ⟨ea.trans (let_none f1 f2 f3), rfl, z.2, z.1.w.2.2.2⟩))))
        · rintro x3 h3 ⟨rfl, z⟩ c3
          exact bX12_readLawAtom_50 (some0 h3 3 2 kw z (ea.trans (let_w (n := 19) rfl rfl (by decide) (sB_ne.mp c3))) (by decide) rfl (by decide))
      · rintro x3 h3 ⟨rfl, z⟩ c2
        exact bX12_readLawAtom_37 (some0 h3 2 1 kw z (ea.trans (let_w (n := 18) rfl rfl (by decide) (sB_ne.mp c2))) (by decide) rfl (by decide))
    · rintro x3 h3 ⟨rfl, z⟩ c1
      exact bX12_readLawAtom_24 (some0 h3 1 0 kw z (ea.trans (let_w (n := 17) rfl rfl (by decide) (sB_ne.mp c1))) (by decide) rfl (by decide))
theorem mLA.t {x : Int32} (k : mLA h0 T S d b x h) (hx : ¬ x = 0) : ¬ sAt T b 4 8 = -1 ∧ ms (wL h0 (S ++ [sAtomStep (sAt T b 4 8)]) d) T (tEnd T b) h := by
  rcases k with k | k
  · exact absurd k.2.1 hx
  · exact ⟨k.1, k.2.2⟩
theorem mLA.f {x : Int32} (k : mLA h0 T S d b x h) (hx : x = 0) : sAt T b 4 8 = -1 ∧ h 159 8 = nI b ∧ jfr fLm h0 h := by
  rcases k with k | k
  · exact ⟨k.1, k.2.2⟩
  · rw [k.2.1] at hx; exact absurd hx (by decide)
theorem mCmp {z z1 : Nat} (hz : z1 < z) (zb : 13 ≤ z1) (k : ms (wL h0 S d) T p h) (eb : sSkip T p = b) (hS : S.length ≤ b) : WP (mX12_readItem z) (jint sc (mLr h0 T S d (lCmp T b))) 114 [some (.ref 159), none] [] (jG0 sc) h (0, 0) := by
  have h4 := k.2.1
  have hb : b ≤ T.length := by rw [← eb]; exact skip_le k.2.2.2.2.2.1
  obtain ⟨n0, l1, m1⟩ := nx_le hb
  obtain ⟨n2, l2, m2⟩ := nx_le l1
  obtain ⟨n3, l3, m3⟩ := nx_le l2
  have t1 := at_lt (d := 4) (n := 8) hb
  have a1 := sAt_law hb
  have a2 := sAt_law l2
  have t2 := sg_lt l1
  have t3 := at_lt (d := 4) (n := 8) l2
  have sm : ∀ {c}, tMark T (nx T b) c → tSgn T (nx T b) = sSg c := fun h => sgn_mark h
  have sn := sgn_no3 (T := T) (b := nx T b)
  have hsk : sSkip T (nx T b) = nx T b := sSkip_idem (te_le hb).2.1
  have eb1 : sSkip T (tEnd T b) = nx T b := rfl
  have eb2 : sSkip T (tEnd T (nx T b)) = nx T (nx T b) := rfl
  have eb3 : sSkip T (tEnd T (nx T (nx T b))) = nx T (nx T (nx T b)) := rfl
  refine bX12_readItem_114 hz zb (mAtom k eb (fun q => by omega)) (fun x1 h1 w c => ?_) (fun x1 h1 w c => ?_)
  · obtain ⟨c1, w1⟩ := w.t c
    have x1 := m1 (t1 c1)
    unfold lCmp
    rw [sIf_f c1]
    generalize nx T (nx T (nx T b)) = b3 at *
    generalize nx T (nx T b) = b2 at *
    generalize nx T b = b1 at *
    have a1' := a1.resolve_left c1
    generalize sAt T b 4 8 = x at *
    generalize tSgn T b1 = s at *
    have none0 : ∀ h3, ms2 (wL h0 (S ++ [sAtomStep x]) d) T b1 b1 h3 → ¬ (¬ s < 6 ∧ s ≤ 8) → WP (mX12_readItem z) (jint sc (mLr h0 T S d (sIf (¬ s < 6 ∧ s ≤ 8) (sIf (sAt T b2 4 8 = -1) (.inl b2) (.inr ([sCmpCode x s (sAt T b2 4 8)], b3))) (.inl b1)))) 164 [some (.ref 159), none] [.int (-1)] (jG0 sc) h3 (0, 0) := fun h3 w c2 => by
      rw [sIf_f c2]
      exact bX12_readItem_164 hz zb (fun _ => bX12_readItem_176 hz zb (jint_i w.failL)) (fun q => absurd (by decide) q)
    have some0 : ∀ c3 v h3, tMark T b1 c3 → ms2 (wL h0 (S ++ [sAtomStep x]) d) T b1 (tEnd T b1) h3 → ¬ sSg c3 < 6 → sSg c3 ≤ 8 → 4 + (sSg c3 - 6) = v → ¬ v < 0 → WP (mX12_readItem z) (jint sc (mLr h0 T S d (sIf (¬ s < 6 ∧ s ≤ 8) (sIf (sAt T b2 4 8 = -1) (.inl b2) (.inr ([sCmpCode x s (sAt T b2 4 8)], b3))) (.inl b1)))) 164 [some (.ref 159), none] [.int v] (jG0 sc) h3 (0, 0) := fun c3 v h3 tm w g1 g2 ev nv => by
      have es := sm tm
      rw [← es] at g1 g2 ev
      have x2 := m2 (t2 g1)
      rw [sIf_t ⟨g1, g2⟩]
      refine bX12_readItem_164 hz zb (fun q => absurd q nv) (fun _ => bX12_readItem_169 hz zb (mAtom w.1 eb2 (fun q => by rw [List.length_append, List.length_singleton]; omega)) (fun x4 h4 y c4 => ?_) (fun x4 h4 y c4 => ?_))
      · obtain ⟨c5, y1⟩ := y.t c4
        have x3 := m3 (t3 c5)
        rw [sIf_f c5]
        refine bX12_readItem_178 hz zb (tX12_emits y1 (by rw [List.length_append, List.length_append, List.length_singleton, List.length_singleton]; have := t3 c5; omega)) (fun h5 u => jint_i ⟨rfl, tEnd T b2, ?_, eb3⟩)
        have est : S ++ sAllSteps [sCmpCode x s (sAt T b2 4 8)] = ((S ++ [sAtomStep x]) ++ [sAtomStep (sAt T b2 4 8)]) ++ [(v, 0)] := by
          rw [cmp_steps a1' (a2.resolve_left c5) (in68 ⟨g1, g2⟩), ev]; simp
        rw [est]; exact u
      · obtain ⟨c5, y1, y2⟩ := y.f c4
        rw [sIf_t c5]
        exact bX12_readItem_176 hz zb (jint_i ⟨rfl, y1, y2⟩)
    refine bX12_readItem_123 hz zb (P1 := mSg _ T b1 60) (tX12_signE w1 eb1 mk_60) (fun x3 h3 w c3 => ?_) (fun x3 h3 w c3 => ?_)
    · obtain ⟨mm1, w1⟩ := w.f c3
      refine bX12_readItem_136 hz zb (P1 := mSg _ T b1 62) (tX12_signE w1.1 hsk mk_62) (fun x3 h3 w c3 => ?_) (fun x3 h3 w c3 => ?_)
      · obtain ⟨mm2, w2⟩ := w.f c3
        refine bX12_readItem_149 hz zb (P1 := mSg _ T b1 61) (tX12_signE w2.1 hsk mk_61) (fun x3 h3 w c3 => ?_) (fun x3 h3 w c3 => ?_)
        · obtain ⟨mm3, w3⟩ := w.f c3
          exact bX12_readItem_163 hz zb (none0 _ w3 (sn mm1 mm2 mm3))
        · obtain ⟨m, w⟩ := w.t c3
          exact bX12_readItem_158 hz zb (some0 61 6 _ m w (by decide) (by decide) (by decide) (by decide))
      · obtain ⟨m, w⟩ := w.t c3
        exact bX12_readItem_145 hz zb (some0 62 5 _ m w (by decide) (by decide) (by decide) (by decide))
    · obtain ⟨m, w⟩ := w.t c3
      exact bX12_readItem_132 hz zb (some0 60 4 _ m w (by decide) (by decide) (by decide) (by decide))
  · obtain ⟨c1, w1, w2⟩ := w.f c
    have e : lCmp T b = .inl b := sIf_t c1
    rw [e]
    exact bX12_readItem_121 hz zb (jint_i ⟨rfl, w1, w2⟩)
/-- how an item is read, at some room -/
abbrev rdsM (sc : Nat × (Nat → Int32)) (M : jM) (T : List Int32) (d : Nat) (I : Nat → lR) : Prop := ∀ {h0 h : jH} {p b : Nat} {S : List (Int32 × Int32)}, S.length ≤ b → ms (wL h0 S d) T p h → sSkip T p = b → JM M [.ref 159] (jG0 sc) h (jint sc (mLr h0 T S d (I b)))
theorem wd_20 : tWd T b 20 ↔ tWd T b 9 := Iff.rfl
theorem wd_21 : tWd T b 21 ↔ tWd T b 10 := Iff.rfl
theorem wd_16 : tWd T b 16 ↔ tWd T b 7 := Iff.rfl
theorem steps_1 : sAllSteps [(-1 : Int32)] = [(8, 0)] := by simp [sAllSteps, sSteps]
theorem steps_2 : sAllSteps [(-2 : Int32)] = [(9, 0)] := by simp [sAllSteps, sSteps]
theorem steps_3 : sAllSteps [(-3 : Int32)] = [(7, 0)] := by simp [sAllSteps, sSteps]
theorem steps_app {a c : List Int32} : sAllSteps (a ++ c) = sAllSteps a ++ sAllSteps c := by unfold sAllSteps; rw [List.flatMap_append]
theorem mAllX {z z1 m d : Nat} {I : Nat → lR} (hz : z1 < z) (zb : 13 ≤ z1) (hI : rdsM sc (mX12_readItem z1) T d I) (g : gd T m I) : rdsM sc (mX12_readAllOf z) T d (lSeq T 9 (-1) I) := by
  intro h0 h p b S hS k eb
  have h4 := k.2.1
  have hb0 : b ≤ T.length := by rw [← eb]; exact skip_le k.2.2.2.2.2.1
  have go : ∀ f p1 b1 c1 h1, T.length ≤ b1 + f → ms (wL h0 (S ++ sAllSteps c1) d) T p1 h1 → sSkip T p1 = b1 → (S ++ sAllSteps c1).length ≤ b1 → WP (mX12_readAllOf z) (jint sc (mLr h0 T S d (lLoop T 9 (-1) I f b1 c1))) 9 [some (.ref 159)] [] (jG0 sc) h1 (0, 0) := by
    intro f
    induction f with
    | zero =>
      intro p1 b1 c1 h1 ef z e1 hl1
      have hb1 : b1 ≤ T.length := by rw [← e1]; exact skip_le z.2.2.2.2.2.1
      have hsk : sSkip T b1 = b1 := by rw [← e1]; exact sSkip_idem z.2.2.2.2.2.1
      have ps := tX12_passes (sc := sc) (n := 20) z (by decide)
      rw [e1] at ps
      refine bX12_readAllOf_9 hz zb ps (fun x2 h2 w c => ?_) (fun x2 h2 w c => ?_)
      · rcases w with ⟨-, rfl, -⟩ | ⟨-, -, w⟩
        · exact absurd c (by decide)
        · exact bX12_readAllOf_37 hz zb (jint_i ⟨rfl, b1, w.1, hsk⟩)
      · rcases w with ⟨tw, -, -⟩ | ⟨-, rfl, -⟩
        · exact absurd (wd_lt hb1 tw) (by omega)
        · exact absurd rfl c
    | succ f ih =>
      intro p1 b1 c1 h1 ef z e1 hl1
      have hb1 : b1 ≤ T.length := by rw [← e1]; exact skip_le z.2.2.2.2.2.1
      have hsk : sSkip T b1 = b1 := by rw [← e1]; exact sSkip_idem z.2.2.2.2.2.1
      have ps := tX12_passes (sc := sc) (n := 20) z (by decide)
      rw [e1] at ps
      unfold lLoop
      refine bX12_readAllOf_9 hz zb ps (fun x2 h2 w c => ?_) (fun x2 h2 w c => ?_)
      · rcases w with ⟨-, rfl, -⟩ | ⟨tw, -, w⟩
        · exact absurd c (by decide)
        · rw [sIf_f (show ¬ tWd T b1 9 from tw)]
          exact bX12_readAllOf_37 hz zb (jint_i ⟨rfl, b1, w.1, hsk⟩)
      · rcases w with ⟨tw, -, w⟩ | ⟨-, rfl, -⟩
        · rw [sIf_t (show tWd T b1 9 from tw)]
          have n1 := nx_le hb1
          have lt := n1.2.2 (wd_lt hb1 tw)
          refine bX12_readAllOf_18 hz zb (hI (S := S ++ sAllSteps c1) (b := nx T b1) (by omega) w.1 rfl) (fun x3 h3 y c3 => ?_) (fun x3 h3 y c3 => ?_)
          · obtain ⟨q, e, p', y1, y2⟩ := y.r c3
            obtain ⟨g1, g2, g3, -, -⟩ := g _ q n1.2.1 e
            rw [e]
            have el : ((S ++ sAllSteps c1) ++ sAllSteps q.1).length = (S ++ sAllSteps c1).length + (sAllSteps q.1).length := List.length_append
            refine bX12_readAllOf_27 hz zb (tX12_emits y1 (by rw [el]; omega)) (fun h5 u => ?_)
            have es : S ++ sAllSteps (c1 ++ q.1 ++ [-1]) = ((S ++ sAllSteps c1) ++ sAllSteps q.1) ++ [(8, 0)] := by
              rw [steps_app, steps_app, steps_1]; simp
            exact ih p' q.2 (c1 ++ q.1 ++ [-1]) h5 (by omega) (by rw [es]; exact u) y2 (by rw [es, List.length_append, el, List.length_singleton]; omega)
          · obtain ⟨e', e, y1⟩ := y.l c3
            rw [e]
            exact bX12_readAllOf_25 hz zb (jint_i ⟨rfl, y1⟩)
        · exact absurd rfl c
  refine jM_of rfl (Nat.le_of_ble_eq_true rfl) (by decide +kernel : plainName (mY (mX12_readAllOf 0)).cls = true) rfl (bX12_readAllOf_0 hz zb (hI hS k eb) (fun x1 h1 w c => ?_) (fun x1 h1 w c => ?_))
  · obtain ⟨q, e, p', w1, w2⟩ := w.r c
    obtain ⟨g1, g2, g3, -, -⟩ := g _ q hb0 e
    have : lSeq T 9 (-1) I b = lLoop T 9 (-1) I 400 q.2 q.1 := by unfold lSeq; rw [e]
    rw [this]
    exact go 400 p' q.2 q.1 h1 (by omega) w1 w2 (by rw [List.length_append]; omega)
  · obtain ⟨e', e, w1⟩ := w.l c
    have : lSeq T 9 (-1) I b = .inl e' := by unfold lSeq; rw [e]
    rw [this]
    exact bX12_readAllOf_7 hz zb (jint_i ⟨rfl, w1⟩)
theorem mCondX {z z1 m d : Nat} {I : Nat → lR} (hz : z1 < z) (zb : 13 ≤ z1) (hI : rdsM sc (mX12_readAllOf z1) T d I) (g : gd T m I) : rdsM sc (mX12_readCond z) T d (lSeq T 10 (-2) I) := by
  intro h0 h p b S hS k eb
  have h4 := k.2.1
  have hb0 : b ≤ T.length := by rw [← eb]; exact skip_le k.2.2.2.2.2.1
  have go : ∀ f p1 b1 c1 h1, T.length ≤ b1 + f → ms (wL h0 (S ++ sAllSteps c1) d) T p1 h1 → sSkip T p1 = b1 → (S ++ sAllSteps c1).length ≤ b1 → WP (mX12_readCond z) (jint sc (mLr h0 T S d (lLoop T 10 (-2) I f b1 c1))) 9 [some (.ref 159)] [] (jG0 sc) h1 (0, 0) := by
    intro f
    induction f with
    | zero =>
      intro p1 b1 c1 h1 ef z e1 hl1
      have hb1 : b1 ≤ T.length := by rw [← e1]; exact skip_le z.2.2.2.2.2.1
      have hsk : sSkip T b1 = b1 := by rw [← e1]; exact sSkip_idem z.2.2.2.2.2.1
      have ps := tX12_passes (sc := sc) (n := 21) z (by decide)
      rw [e1] at ps
      refine bX12_readCond_9 hz zb ps (fun x2 h2 w c => ?_) (fun x2 h2 w c => ?_)
      · rcases w with ⟨-, rfl, -⟩ | ⟨-, -, w⟩
        · exact absurd c (by decide)
        · exact bX12_readCond_37 hz zb (jint_i ⟨rfl, b1, w.1, hsk⟩)
      · rcases w with ⟨tw, -, -⟩ | ⟨-, rfl, -⟩
        · exact absurd (wd_lt hb1 tw) (by omega)
        · exact absurd rfl c
    | succ f ih =>
      intro p1 b1 c1 h1 ef z e1 hl1
      have hb1 : b1 ≤ T.length := by rw [← e1]; exact skip_le z.2.2.2.2.2.1
      have hsk : sSkip T b1 = b1 := by rw [← e1]; exact sSkip_idem z.2.2.2.2.2.1
      have ps := tX12_passes (sc := sc) (n := 21) z (by decide)
      rw [e1] at ps
      unfold lLoop
      refine bX12_readCond_9 hz zb ps (fun x2 h2 w c => ?_) (fun x2 h2 w c => ?_)
      · rcases w with ⟨-, rfl, -⟩ | ⟨tw, -, w⟩
        · exact absurd c (by decide)
        · rw [sIf_f (show ¬ tWd T b1 10 from tw)]
          exact bX12_readCond_37 hz zb (jint_i ⟨rfl, b1, w.1, hsk⟩)
      · rcases w with ⟨tw, -, w⟩ | ⟨-, rfl, -⟩
        · rw [sIf_t (show tWd T b1 10 from tw)]
          have n1 := nx_le hb1
          have lt := n1.2.2 (wd_lt hb1 tw)
          refine bX12_readCond_18 hz zb (hI (S := S ++ sAllSteps c1) (b := nx T b1) (by omega) w.1 rfl) (fun x3 h3 y c3 => ?_) (fun x3 h3 y c3 => ?_)
          · obtain ⟨q, e, p', y1, y2⟩ := y.r c3
            obtain ⟨g1, g2, g3, -, -⟩ := g _ q n1.2.1 e
            rw [e]
            have el : ((S ++ sAllSteps c1) ++ sAllSteps q.1).length = (S ++ sAllSteps c1).length + (sAllSteps q.1).length := List.length_append
            refine bX12_readCond_27 hz zb (tX12_emits y1 (by rw [el]; omega)) (fun h5 u => ?_)
            have es : S ++ sAllSteps (c1 ++ q.1 ++ [-2]) = ((S ++ sAllSteps c1) ++ sAllSteps q.1) ++ [(9, 0)] := by
              rw [steps_app, steps_app, steps_2]; simp
            exact ih p' q.2 (c1 ++ q.1 ++ [-2]) h5 (by omega) (by rw [es]; exact u) y2 (by rw [es, List.length_append, el, List.length_singleton]; omega)
          · obtain ⟨e', e, y1⟩ := y.l c3
            rw [e]
            exact bX12_readCond_25 hz zb (jint_i ⟨rfl, y1⟩)
        · exact absurd rfl c
  refine jM_of rfl (Nat.le_of_ble_eq_true rfl) (by decide +kernel : plainName (mY (mX12_readCond 0)).cls = true) rfl (bX12_readCond_0 hz zb (hI hS k eb) (fun x1 h1 w c => ?_) (fun x1 h1 w c => ?_))
  · obtain ⟨q, e, p', w1, w2⟩ := w.r c
    obtain ⟨g1, g2, g3, -, -⟩ := g _ q hb0 e
    have : lSeq T 10 (-2) I b = lLoop T 10 (-2) I 400 q.2 q.1 := by unfold lSeq; rw [e]
    rw [this]
    exact go 400 p' q.2 q.1 h1 (by omega) w1 w2 (by rw [List.length_append]; omega)
  · obtain ⟨e', e, w1⟩ := w.l c
    have : lSeq T 10 (-2) I b = .inl e' := by unfold lSeq; rw [e]
    rw [this]
    exact bX12_readCond_7 hz zb (jint_i ⟨rfl, w1⟩)
theorem mItem : ∀ r d z, r + d = 6 → 39 + 3 * r ≤ z → rdsM sc (mX12_readItem z) T d (lItem T r) := by
  intro r
  induction r with
  | zero =>
    intro d z0 hd hz h0 h p b S hS k eb
    have h4 := k.2.1
    have hb : b ≤ T.length := by rw [← eb]; exact skip_le k.2.2.2.2.2.1
    have hsk : sSkip T b = b := by rw [← eb]; exact sSkip_idem k.2.2.2.2.2.1
    have e6 : nI d = 6 := by rw [show d = 6 by omega]; rfl
    have hz1 : 13 < z0 := by omega
    unfold lItem
    refine jM_of rfl (Nat.le_of_ble_eq_true rfl) (by decide +kernel : plainName (mY (mX12_readItem 0)).cls = true) rfl (bX12_readItem_0 hz1 (by decide) (P1 := mSg _ T b 40) (tX12_signE k eb mk_40) (fun x1 h1 w c => ?_) (fun x1 h1 w c => ?_))
    · obtain ⟨nm, w1⟩ := w.f c
      have ps := tX12_passes (sc := sc) (n := 16) w1.1 (by decide)
      rw [hsk] at ps
      refine bX12_readItem_56 hz1 (by decide) ps (fun x2 h2 w c => ?_) (fun x2 h2 w c => ?_)
      · rcases w with ⟨-, rfl, -⟩ | ⟨tw, -, w⟩
        · exact absurd c (by decide)
        · rw [sIf_f (fun q => q.elim (fun y => tw y) nm)]
          exact mCmp hz1 (by decide) w.1 hsk hS
      · rcases w with ⟨tw, -, w⟩ | ⟨-, rfl, -⟩
        · rw [sIf_t (Or.inl (show tWd T b 7 from tw))]
          exact bX12_readItem_65 hz1 (by decide) (fun q => absurd (w.1.w.2.2.1.trans e6) q) (fun _ => bX12_readItem_74 hz1 (by decide) (jint_i w.failL))
        · exact absurd rfl c
    · obtain ⟨tm, w1⟩ := w.t c
      rw [sIf_t (Or.inr tm)]
      exact bX12_readItem_9 hz1 (by decide) (fun q => absurd (w1.1.w.2.2.1.trans e6) q) (fun _ => bX12_readItem_18 hz1 (by decide) (jint_i w1.failL))
  | succ r ih =>
    intro d z0 hd hz h0 h p b S hS k eb
    have h4 := k.2.1
    have hb : b ≤ T.length := by rw [← eb]; exact skip_le k.2.2.2.2.2.1
    have hsk : sSkip T b = b := by rw [← eb]; exact sSkip_idem k.2.2.2.2.2.1
    have n6 : ¬ nI d = 6 := fun q => absurd ((jn_eq (b := 6) (by omega) (by decide)).mp q) (by omega)
    have ed : nI d + 1 = nI (d + 1) := (nI_succ d).symm
    have ed2 : nI (d + 1) - 1 = nI d := by rw [nI_succ]; exact Int32.add_sub_cancel _ _
    have n1 := nx_le hb
    have hi1 : rdsM sc (mX12_readItem (z0 - 3)) T (d + 1) (lItem T r) := ih (d + 1) (z0 - 3) (by omega) (by omega)
    have hi2 : rdsM sc (mX12_readItem (z0 - 1)) T (d + 1) (lItem T r) := ih (d + 1) (z0 - 1) (by omega) (by omega)
    have ha : rdsM sc (mX12_readAllOf (z0 - 2)) T (d + 1) (lSeq T 9 (-1) (lItem T r)) := mAllX (z := z0 - 2) (z1 := z0 - 3) (by omega) (by omega) hi1 (gd_item r)
    have hc : rdsM sc (mX12_readCond (z0 - 1)) T (d + 1) (lCond T (lItem T r)) := mCondX (z := z0 - 1) (z1 := z0 - 2) (by omega) (by omega) ha (gd_seq (gd_item r) (Or.inl rfl))
    have hz1 : z0 - 1 < z0 := by omega
    have zb : 13 ≤ z0 - 1 := by omega
    have hlc : S.length ≤ nx T b := by omega
    unfold lItem
    refine jM_of rfl (Nat.le_of_ble_eq_true rfl) (by decide +kernel : plainName (mY (mX12_readItem 0)).cls = true) rfl (bX12_readItem_0 hz1 zb (P1 := mSg _ T b 40) (tX12_signE k eb mk_40) (fun x1 h1 w c => ?_) (fun x1 h1 w c => ?_))
    · obtain ⟨nm, w1⟩ := w.f c
      have ps := tX12_passes (sc := sc) (n := 16) w1.1 (by decide)
      rw [hsk] at ps
      refine bX12_readItem_56 hz1 zb ps (fun x2 h2 w c => ?_) (fun x2 h2 w c => ?_)
      · rcases w with ⟨-, rfl, -⟩ | ⟨tw, -, w⟩
        · exact absurd c (by decide)
        · rw [sIf_f (show ¬ tWd T b 7 from tw), sIf_f nm]
          exact mCmp hz1 zb w.1 hsk hS
      · rcases w with ⟨tw, -, w⟩ | ⟨-, rfl, -⟩
        · rw [sIf_t (show tWd T b 7 from tw)]
          have lt := n1.2.2 (wd_lt hb tw)
          refine bX12_readItem_65 hz1 zb (fun _ => ?_) (fun q => absurd (w.1.w.2.2.1.symm.trans q) n6)
          refine bX12_readItem_76 hz1 zb (hi2 hlc (w.1.dp (by rw [w.1.w.2.2.1, ed])) rfl) (fun x3 h3 y c3 => ?_) (fun x3 h3 y c3 => ?_)
          · obtain ⟨q, e, p', y1, y2⟩ := y.r c3
            obtain ⟨g1, g2, g3, -, -⟩ := gd_item r _ q n1.2.1 e
            rw [e]
            refine bX12_readItem_95 hz1 zb (tX12_emits (d := d) (y1.dp (by rw [y1.w.2.2.1, ed2])) (by rw [List.length_append]; omega)) (fun h5 u => jint_i ⟨rfl, p', ?_, y2⟩)
            show ms (wL h0 (S ++ sAllSteps (q.1 ++ [-3])) d) T p' h5
            rw [steps_app, steps_3, ← List.append_assoc]; exact u
          · obtain ⟨e', e, y1⟩ := y.l c3
            rw [e]
            exact bX12_readItem_93 hz1 zb (jint_i ⟨rfl, y1⟩)
        · exact absurd rfl c
    · obtain ⟨tm, w1⟩ := w.t c
      have nw : ¬ tWd T b 7 := fun q => by have := q.1; rw [tm.1] at this; cases this
      rw [sIf_f nw, sIf_t tm]
      refine bX12_readItem_9 hz1 zb (fun _ => ?_) (fun q => absurd (w1.1.w.2.2.1.symm.trans q) n6)
      refine bX12_readItem_20 hz1 zb (hc hlc (w1.1.dp (by rw [w1.1.w.2.2.1, ed])) rfl) (fun x3 h3 y c3 => ?_) (fun x3 h3 y c3 => ?_)
      · obtain ⟨q, e, p', y1, y2⟩ := y.r c3
        rw [e]
        refine bX12_readItem_39 hz1 zb (P1 := mSg _ T q.2 41) (tX12_signE (y1.dp (e := d) (by rw [y1.w.2.2.1, ed2])) y2 mk_41) (fun x5 h5 u => ?_) (fun x5 h5 u => ?_)
        · rcases u with u | u
          · exact Or.inr u.2.1
          · exact Or.inl u.2.1
        · refine jint_i ?_
          show mLr h0 T S d (sIf (tMark T q.2 41) (Sum.inr (q.1, nx T q.2)) (Sum.inl q.2)) x5 h5
          rcases u with ⟨u1, rfl, u3⟩ | ⟨u1, rfl, u3⟩
          · rw [sIf_t u1]; exact ⟨rfl, tEnd T q.2, u3.1, rfl⟩
          · rw [sIf_f u1]; exact u3.failL
      · obtain ⟨e', e, y1⟩ := y.l c3
        rw [e]
        exact bX12_readItem_37 hz1 zb (jint_i ⟨rfl, y1⟩)
def mWL (h0 : jH) (r : Nat ⊕ List Int32) (x : Int32) (h : jH) : Prop := match r with
  | .inl e => x = 0 ∧ h 159 8 = nI e ∧ jfr fLm h0 h
  | .inr p => x = 1 ∧ wL h0 (sAllSteps p) 0 h
theorem mLawR (k : ms (jfr fLm h0) T 0 h) : JM mX12_readLaw [.ref 159] (jG0 sc) h (jint sc (mWL h0 (lText T))) := by
  have ha : rdsM sc (mX12_readAllOf 58) T 0 (lSeq T 9 (-1) (lItem T 6)) := mAllX (z := 58) (z1 := 57) (by decide) (by decide) (mItem 6 0 57 rfl (by decide)) (gd_item 6)
  have hc : rdsM sc (mX12_readCond 59) T 0 (lCond T (lItem T 6)) := mCondX (z := 59) (z1 := 58) (by decide) (by decide) ha (gd_seq (gd_item 6) (Or.inl rfl))
  have k1 : ms (wL h0 [] 0) T 0 (jput (jput h 159 13 0) 159 9 0) := by
    have f : jfr ([(165, 165)], [(159, 9, 9), (159, 13, 13)]) h (jput (jput h 159 13 0) 159 9 0) := (jfr.rf.put rfl).put rfl
    exact k.rowL f wL_st ⟨rfl, fun i hi => absurd hi (Nat.not_lt_zero _), rfl, k.w.tr2 (f.mono rfl)⟩
  have h4 := k.2.1
  refine jM_of rfl (Nat.le_of_ble_eq_true rfl) (by decide +kernel) rfl (rX12_readLaw_0 (P1 := mLr h0 T [] 0 (lCond T (lItem T 6) (sSkip T 0))) (P2 := fun h' => ∃ q, lCond T (lItem T 6) (sSkip T 0) = .inr q ∧ ms2 (wL h0 (sAllSteps q.1) 0) T q.2 q.2 h') (hc (Nat.zero_le _) k1 rfl) ?_ ?_ ?_ ?_)
  · rintro x1 h1 w c
    obtain ⟨q, e, p', w1, w2⟩ := w.r c
    have bl := tX12_blanks (sc := sc) w1
    rw [w2, List.nil_append] at bl
    exact jM_void bl (fun h' y => ⟨q, e, y⟩)
  · rintro x1 h1 - - h2 ⟨q, e, y⟩ c
    have hq := y.1.2.2.2.2.2.1
    rw [y.1.2.2.2.2.1, y.1.2.2.2.1, jn_eq (by omega) (by omega)] at c
    have : lText T = .inl q.2 := by unfold lText; rw [e]; exact sIf_f (by omega)
    rw [this]
    exact jint_i ⟨rfl, y.2, y.1.w.2.2.2⟩
  · rintro x1 h1 - - h2 ⟨q, e, y⟩ c
    have hq := y.1.2.2.2.2.2.1
    rw [y.1.2.2.2.2.1, y.1.2.2.2.1, jn_eq (by omega) (by omega)] at c
    have : lText T = .inr q.1 := by unfold lText; rw [e]; exact sIf_t (by omega)
    rw [this]
    exact jint_i ⟨rfl, y.1.w⟩
  · rintro x1 h1 w c
    obtain ⟨e', e, y1⟩ := w.l c
    have : lText T = .inl e' := by unfold lText; rw [e]
    rw [this]
    exact jint_i ⟨rfl, y1⟩
end LWM
