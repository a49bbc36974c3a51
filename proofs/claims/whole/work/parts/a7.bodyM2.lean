/-! The reference reads a line, all lines. -/
section BDM2
variable {sc : Nat × (Nat → Int32)} {h h0 : jH} {T : List Int32} {b p n : Nat} {ls : List Int32} {kd md v : Int32} {W : jH → Prop}
theorem mTest (k : ms (wB h0 ls (rw6 kd (-1) (-1) 0 (-1) v)) T p h) (hb : b ≤ T.length) (hw : tWd T b 4) (eb : sSkip T p = nx T b) (hl : ls.length < 10) (hk : sIn kd 0 7) (hv : sIn v 1 9) :
    JM mX12_readTest [.ref 159, .int (nI (1 + 6 * ls.length))] (jG0 sc) h (jint sc (mRd h0 T ls (pTest T kd v b))) := by
  have hb1 : nx T b ≤ T.length := (nx_le hb).2.1
  have hv15 : sIn v 0 15 := ⟨by have := hv.1; omega, by have := hv.2; omega⟩
  unfold pTest
  rw [sIf_t hw]
  have l2 := (nx_le hb1).2.1
  have l3 := (nx_le l2).2.1
  have a1 := sAt_in hb1
  have a3 := sAt_in l3
  have s2 := tSgn_in (T := T) (b := nx T (nx T b))
  have sm : ∀ {c}, tMark T (nx T (nx T b)) c → tSgn T (nx T (nx T b)) = sSg c := fun h => sgn_mark h
  have sn := sgn_no3 (T := T) (b := nx T (nx T b))
  have hsk : sSkip T (nx T (nx T b)) = nx T (nx T b) := sSkip_idem (te_le hb1).2.1
  have eb4 : sSkip T (tEnd T (nx T (nx T (nx T b)))) = nx T (nx T (nx T (nx T b))) := rfl
  have eb3 : sSkip T (tEnd T (nx T (nx T b))) = nx T (nx T (nx T b)) := rfl
  have eb2 : sSkip T (tEnd T (nx T b)) = nx T (nx T b) := rfl
  have at1 := fun {h} (z : ms (wB h0 ls (rw6 kd (-1) (-1) 0 (-1) v)) T p h) => tX12_readAtom (sc := sc) z eb
  have at3 := fun {h W} (z : ms W T (tEnd T (nx T (nx T b))) h) => tX12_readAtom (sc := sc) z eb3
  generalize nx T (nx T (nx T (nx T b))) = b4 at *
  generalize nx T (nx T (nx T b)) = b3 at *
  generalize nx T (nx T b) = b2 at *
  generalize nx T b = b1 at *
  generalize sAt T b1 2 2 = x at *
  generalize sAt T b3 2 2 = y at *
  generalize tSgn T b2 = s at *
  obtain ⟨i2, j2⟩ := dr_ix (n := ls.length) (j := 2) (by omega) (by decide)
  obtain ⟨i3, j3⟩ := dr_ix (n := ls.length) (j := 3) (by omega) (by decide)
  obtain ⟨i4, j4⟩ := dr_ix (n := ls.length) (j := 4) (by omega) (by decide)
  replace i2 : nI (1 + 6 * ls.length) + 2 = nI (1 + 6 * ls.length + 2) := i2
  replace i3 : nI (1 + 6 * ls.length) + 3 = nI (1 + 6 * ls.length + 3) := i3
  replace i4 : nI (1 + 6 * ls.length) + 4 = nI (1 + 6 * ls.length + 4) := i4
  have v2 : vp_in (nI (1 + 6 * ls.length) + 2) 61 := by rw [i2]; exact vp_in_nI (by omega) (by decide)
  have v3 : vp_in (nI (1 + 6 * ls.length) + 3) 61 := by rw [i3]; exact vp_in_nI (by omega) (by decide)
  have v4 : vp_in (nI (1 + 6 * ls.length) + 4) 61 := by rw [i4]; exact vp_in_nI (by omega) (by decide)
  refine jM_of rfl (Nat.le_of_ble_eq_true rfl) (by decide +kernel) rfl (bX12_readTest_0 (at1 k) (fun _ _ _ => v2) (fun _ _ _ => v2) ?_ ?_)
  · rintro x1 h1 ⟨rfl, q, z, hq⟩ c
    rw [jput_at] at c
    have c1 := (atom_ge a1).1.mp c
    have ax := a1.resolve_left c1
    obtain rfl := hq c1
    rw [i2, j2]
    have z1 : ms2 (wB h0 ls (rw6 kd (-1) x1 0 (-1) v)) T b1 (tEnd T b1) _ := z.dr (v := x1) (i := 1 + 6 * ls.length + 2) (j := 2) (by decide) rfl (fun i hi => by match i, hi with | 0, _ => rfl | 1, _ => rfl | 2, _ => rfl | 3, _ => rfl | 4, _ => rfl | 5, _ => rfl)
    generalize jput h1 164 (1 + 6 * ls.length + 2) x1 = h2 at *
    rw [sIf_f c1]
    have none0 : ∀ h3, ms2 (wB h0 ls (rw6 kd (-1) x1 0 (-1) v)) T b2 b2 h3 → ¬ (¬ s < 6 ∧ s ≤ 8) → WP mX12_readTest (jint sc (mRd h0 T ls (sIf (¬ s < 6 ∧ s ≤ 8) (sIf (y = -1) (.inl b3) (.inr (sPack kd (-1) x1 s y v, b4))) (.inl b2)))) 75 [some (.ref 159), some (.int (nI (1 + 6 * ls.length)))] [.int 0, .int (nI (1 + 6 * ls.length) + 3), .ref 164] (jG0 sc) h3 (0, 0) := fun h3 w c2 => by
      rw [sIf_f c2]
      refine bX12_readTest_75 v3 v3 (fun q => absurd jput_at q) (fun _ => bX12_readTest_87 (jint_i ?_))
      rw [i3, j3]
      exact (w.dr (v := 0) (i := 1 + 6 * ls.length + 3) (j := 3) (r' := rw6 kd (-1) x1 0 (-1) v) (by decide) rfl (fun i hi => by match i, hi with | 0, _ => rfl | 1, _ => rfl | 2, _ => rfl | 3, _ => rfl | 4, _ => rfl | 5, _ => rfl)).fail
    have some0 : ∀ c3 h3, tMark T b2 c3 → ms2 (wB h0 ls (rw6 kd (-1) x1 0 (-1) v)) T b2 (tEnd T b2) h3 → ¬ sSg c3 < 6 → sSg c3 ≤ 8 → WP mX12_readTest (jint sc (mRd h0 T ls (sIf (¬ s < 6 ∧ s ≤ 8) (sIf (y = -1) (.inl b3) (.inr (sPack kd (-1) x1 s y v, b4))) (.inl b2)))) 75 [some (.ref 159), some (.int (nI (1 + 6 * ls.length)))] [.int (sSg c3), .int (nI (1 + 6 * ls.length) + 3), .ref 164] (jG0 sc) h3 (0, 0) := fun c3 h3 tm w g1 g2 => by
      have es := sm tm
      rw [← es] at g1 g2 ⊢
      rw [sIf_t ⟨g1, g2⟩]
      have n0 : ¬ s = 0 := fun q => g1 (by rw [q]; decide)
      refine bX12_readTest_75 v3 v3 (fun _ => ?_) (fun q => absurd (jput_at.symm.trans q) n0)
      have w1 : ms2 (wB h0 ls (rw6 kd (-1) x1 s (-1) v)) T b2 (tEnd T b2) (jput h3 164 (nI (1 + 6 * ls.length) + 3).toNatClampNeg s) := by
        rw [i3, j3]
        exact w.dr (j := 3) (by decide) rfl (fun i hi => by match i, hi with | 0, _ => rfl | 1, _ => rfl | 2, _ => rfl | 3, _ => rfl | 4, _ => rfl | 5, _ => rfl)
      refine bX12_readTest_89 (at3 w1.1) (fun _ _ _ => v4) (fun _ _ _ => v4) ?_ ?_
      · rintro x4 h4 ⟨rfl, q, z, hq⟩ c
        rw [jput_at] at c
        have cy := (atom_ge a3).2.mp c
        rw [sIf_t cy, i4, j4]
        have z2 := z.dr (v := x4) (i := 1 + 6 * ls.length + 4) (j := 4) (r' := rw6 kd (-1) x1 s x4 v) (by decide) rfl (fun i hi => by match i, hi with | 0, _ => rfl | 1, _ => rfl | 2, _ => rfl | 3, _ => rfl | 4, _ => rfl | 5, _ => rfl)
        exact bX12_readTest_116 (bX12_readTest_117 (Or.inl rfl) (jint_i z2.fail))
      · rintro x4 h4 ⟨rfl, q, z, hq⟩ c
        rw [jput_at] at c
        have cy : ¬ x4 = -1 := fun q => c ((atom_ge a3).2.mpr q)
        have ay := a3.resolve_left cy
        obtain rfl := hq cy
        rw [sIf_f cy, i4, j4]
        have z2 := z.dr (v := x4) (i := 1 + 6 * ls.length + 4) (j := 4) (r' := rw6 kd (-1) x1 s x4 v) (by decide) rfl (fun i hi => by match i, hi with | 0, _ => rfl | 1, _ => rfl | 2, _ => rfl | 3, _ => rfl | 4, _ => rfl | 5, _ => rfl)
        exact bX12_readTest_112 (bX12_readTest_117 (Or.inr rfl) (jint_i ⟨rfl, tEnd T b3, z2.1.to wN_st (z2.1.w.line (fld6 hk ⟨by decide, by decide⟩ (atom_rg ax) ⟨by have := s2.1; omega, by have := s2.2; omega⟩ (atom_rg ay) hv15)), eb4⟩))
    refine bX12_readTest_25 (P1 := mSg _ T b2 60) (tX12_signE z1.1 eb2 mk_60) (fun x3 h3 w c3 => ?_) (fun x3 h3 w c3 => ?_)
    · obtain ⟨m1, w1⟩ := w.f c3
      refine bX12_readTest_46 (P1 := mSg _ T b2 62) (tX12_signE w1.1 hsk mk_62) (fun x3 h3 w c3 => ?_) (fun x3 h3 w c3 => ?_)
      · obtain ⟨m2, w2⟩ := w.f c3
        refine bX12_readTest_60 (P1 := mSg _ T b2 61) (tX12_signE w2.1 hsk mk_61) (fun x3 h3 w c3 => ?_) (fun x3 h3 w c3 => ?_)
        · obtain ⟨m3, w3⟩ := w.f c3
          exact bX12_readTest_74 (none0 _ w3 (sn m1 m2 m3))
        · obtain ⟨m, w⟩ := w.t c3
          exact bX12_readTest_69 (some0 61 _ m w (by decide) (by decide))
      · obtain ⟨m, w⟩ := w.t c3
        exact bX12_readTest_55 (some0 62 _ m w (by decide) (by decide))
    · obtain ⟨m, w⟩ := w.t c3
      exact bX12_readTest_41 (some0 60 _ m w (by decide) (by decide))
  · rintro x1 h1 ⟨rfl, q, z, -⟩ c
    rw [jput_at] at c
    have c1 : x1 = -1 := Classical.byContradiction fun q => c ((atom_ge a1).1.mpr q)
    rw [sIf_t c1, i2, j2]
    have z1 := z.dr (v := x1) (i := 1 + 6 * ls.length + 2) (j := 2) (r' := rw6 kd (-1) x1 0 (-1) v) (by decide) rfl (fun i hi => by match i, hi with | 0, _ => rfl | 1, _ => rfl | 2, _ => rfl | 3, _ => rfl | 4, _ => rfl | 5, _ => rfl)
    exact bX12_readTest_23 (jint_i z1.fail)
theorem mClears (k : ms2 (wN h0 ls) T b p h) (hl : ls.length < 10) : JM mX12_clears [.ref 164, .int (nI (1 + 6 * ls.length))] (jG0 sc) h (jvoid sc (ms2 (wB h0 ls (rw6 4 (-1) (-1) 0 (-1) 0)) T b p)) := by
  have ix : ∀ j, j < 6 → nI (1 + 6 * ls.length) + nI j = nI (1 + 6 * ls.length + j) ∧ (nI (1 + 6 * ls.length + j)).toNatClampNeg = 1 + 6 * ls.length + j ∧ vp_in (nI (1 + 6 * ls.length + j)) 61 := fun j hj => ⟨(dr_ix (by omega) hj).1, (dr_ix (by omega) hj).2, vp_in_nI (by omega) (by decide)⟩
  obtain ⟨e0, f0, g0⟩ := ix 0 (by decide)
  obtain ⟨e1, f1, g1⟩ := ix 1 (by decide)
  obtain ⟨e2, f2, g2⟩ := ix 2 (by decide)
  obtain ⟨e3, f3, g3⟩ := ix 3 (by decide)
  obtain ⟨e4, f4, g4⟩ := ix 4 (by decide)
  obtain ⟨e5, f5, g5⟩ := ix 5 (by decide)
  replace e0 : nI (1 + 6 * ls.length) + 0 = nI (1 + 6 * ls.length + 0) := e0
  replace e1 : nI (1 + 6 * ls.length) + 1 = nI (1 + 6 * ls.length + 1) := e1
  replace e2 : nI (1 + 6 * ls.length) + 2 = nI (1 + 6 * ls.length + 2) := e2
  replace e3 : nI (1 + 6 * ls.length) + 3 = nI (1 + 6 * ls.length + 3) := e3
  replace e4 : nI (1 + 6 * ls.length) + 4 = nI (1 + 6 * ls.length + 4) := e4
  replace e5 : nI (1 + 6 * ls.length) + 5 = nI (1 + 6 * ls.length + 5) := e5
  have aN : jIA 164 61 := by unfold jIA; decide
  refine jM_of rfl (Nat.le_of_ble_eq_true rfl) (by decide +kernel) rfl (rX12_clears_0 aN (by rw [e0]; exact g0) (by rw [e1]; exact g1) (by rw [e2]; exact g2) (by rw [e3]; exact g3) (by rw [e4]; exact g4) (by rw [e5]; exact g5) (jvoid_i ?_))
  rw [e0, e1, e2, e3, e4, e5, f0, f1, f2, f3, f4, f5]
  have f : jfr ([(164, 164)], []) h (jput (jput (jput (jput (jput (jput h 164 (1 + 6 * ls.length + 0) 4) 164 (1 + 6 * ls.length + 1) (-1)) 164 (1 + 6 * ls.length + 2) (-1)) 164 (1 + 6 * ls.length + 3) 0) 164 (1 + 6 * ls.length + 4) (-1)) 164 (1 + 6 * ls.length + 5) 0) :=
    (((((jfr.rf.put (by rw [jin_iff]; simp)).put (by rw [jin_iff]; simp)).put (by rw [jin_iff]; simp)).put (by rw [jin_iff]; simp)).put (by rw [jin_iff]; simp)).put (by rw [jin_iff]; simp)
  refine k.row f wB_st ⟨⟨fun i hi j hj => ?_, k.1.w.2.tr2 (f.mono rfl)⟩, fun j hj => ?_⟩
  · rw [jput_sl (by omega), jput_sl (by omega), jput_sl (by omega), jput_sl (by omega), jput_sl (by omega), jput_sl (by omega)]
    exact k.1.w.1 i hi j hj
  · match j, hj with
    | 0, _ => rw [jput_sl (by omega), jput_sl (by omega), jput_sl (by omega), jput_sl (by omega), jput_sl (by omega), jput_at]; rfl
    | 1, _ => rw [jput_sl (by omega), jput_sl (by omega), jput_sl (by omega), jput_sl (by omega), jput_at]; rfl
    | 2, _ => rw [jput_sl (by omega), jput_sl (by omega), jput_sl (by omega), jput_at]; rfl
    | 3, _ => rw [jput_sl (by omega), jput_sl (by omega), jput_at]; rfl
    | 4, _ => rw [jput_sl (by omega), jput_at]; rfl
    | 5, _ => rw [jput_at]; rfl
theorem wd_11 : tWd T b 11 ↔ tWd T b 0 := Iff.rfl
theorem wd_12 : tWd T b 12 ↔ tWd T b 3 := Iff.rfl
theorem wd_13 : tWd T b 13 ↔ tWd T b 5 := Iff.rfl
theorem wd_14 : tWd T b 14 ↔ tWd T b 6 := Iff.rfl
theorem wd_15 : tWd T b 15 ↔ tWd T b 4 := Iff.rfl
theorem wd_end (hb : b ≤ T.length) (q : tKind T b = 1) : sSpan isLet T b = tEnd T b := by
  obtain ⟨w1, w2, -⟩ := span_word hb
  exact (w2 (w1.mp q)).symm
end BDM2
