/-! A BODY's text; the reference reads it. -/
section BDM
variable {sc : Nat × (Nat → Int32)} {h h0 : jH} {T : List Int32} {b p n : Nat} {ls : List Int32} {kd md v : Int32} {W : jH → Prop}
abbrev fBm : jF := ([(164, 164)], [(159, 6, 6), (159, 8, 8)])
def wN (h0 : jH) (ls : List Int32) (h : jH) : Prop := (∀ i, i < ls.length → ∀ j, j < 6 → h 164 (1 + 6 * i + j) = sFld (ls.getD i 4) j) ∧ jfr fBm h0 h
def wB (h0 : jH) (ls : List Int32) (r : Nat → Int32) (h : jH) : Prop := wN h0 ls h ∧ ∀ j, j < 6 → h 164 (1 + 6 * ls.length + j) = r j
def rw6 (k m a s b c : Int32) (j : Nat) : Int32 := match j with
  | 0 => k
  | 1 => m
  | 2 => a
  | 3 => s
  | 4 => b
  | _ => c
theorem wN_st : ∀ x y, jfr fPt x y → wN h0 ls x → wN h0 ls y := fun x y f k => ⟨fun i hi j hj => (f 164 _ rfl).trans (k.1 i hi j hj), k.2.tr2 (f.mono rfl)⟩
theorem wB_st {r : Nat → Int32} : ∀ x y, jfr fPt x y → wB h0 ls r x → wB h0 ls r y := fun x y f k => ⟨wN_st x y f k.1, fun j hj => (f 164 _ rfl).trans (k.2 j hj)⟩
/-- other things are known of the same place -/
theorem ms.to {W' : jH → Prop} (k : ms W T p h) (hs : ∀ x y, jfr fPt x y → W' x → W' y) (hw : W' h) : ms W' T p h := ⟨k.1, k.2.1, k.2.2.1, k.2.2.2.1, k.2.2.2.2.1, k.2.2.2.2.2.1, hs, hw⟩
theorem ms.w (k : ms W T p h) : W h := k.2.2.2.2.2.2.2
theorem ms2.to {W' : jH → Prop} (k : ms2 W T b p h) (hs : ∀ x y, jfr fPt x y → W' x → W' y) (hw : W' h) : ms2 W' T b p h := ⟨k.1.to hs hw, k.2⟩
theorem ms2.row {W' : jH → Prop} {h' : jH} (k : ms2 W T b p h) (f : jfr ([(164, 164)], []) h h') (hs : ∀ x y, jfr fPt x y → W' x → W' y) (hw : W' h') : ms2 W' T b p h' :=
  ⟨⟨fun i hi => (f 162 i rfl).trans (k.1.1 i hi), k.1.2.1, k.1.2.2.1, (f 159 7 rfl).trans k.1.2.2.2.1, (f 159 6 rfl).trans k.1.2.2.2.2.1, k.1.2.2.2.2.2.1, hs, hw⟩, (f 159 8 rfl).trans k.2⟩
theorem wB.put {r r' : Nat → Int32} {j i : Nat} (k : wB h0 ls r h) (hj : j < 6) (hi : i = 1 + 6 * ls.length + j) (hr : ∀ i, i < 6 → r' i = if i = j then v else r i) : wB h0 ls r' (jput h 164 i v) := by
  subst hi
  refine ⟨⟨fun i hi a ha => ?_, k.1.2.put (by rw [jin_iff]; simp)⟩, fun a ha => ?_⟩
  · rw [jput_sl (by omega)]; exact k.1.1 i hi a ha
  · rw [hr a ha]
    by_cases z : a = j
    · subst z; rw [if_pos rfl, jput_at]
    · rw [if_neg z, jput_sl (by omega)]; exact k.2 a ha
theorem ms2.dr {r r' : Nat → Int32} {j i : Nat} (k : ms2 (wB h0 ls r) T b p h) (hj : j < 6) (hi : i = 1 + 6 * ls.length + j) (hr : ∀ i, i < 6 → r' i = if i = j then v else r i) : ms2 (wB h0 ls r') T b p (jput h 164 i v) := k.row (jfr.rf.put (by rw [jin_iff]; simp)) wB_st (k.1.w.put hj hi hr)
/-- a row is a line -/
theorem wB.line {l : Int32} {r : Nat → Int32} (k : wB h0 ls r h) (hr : ∀ j, j < 6 → r j = sFld l j) : wN h0 (ls ++ [l]) h := by
  refine ⟨fun i hi j hj => ?_, k.1.2⟩
  rw [List.length_append, List.length_singleton] at hi
  by_cases z : i = ls.length
  · subst z
    rw [k.2 j hj, hr j hj]
    congr 1
    rw [List.getD_eq_getElem?_getD, List.getElem?_append_right (Nat.le_refl _), Nat.sub_self]; rfl
  · rw [k.1.1 i (by omega) j hj]
    congr 1
    rw [List.getD_eq_getElem?_getD, List.getD_eq_getElem?_getD, List.getElem?_append_left (by omega)]
theorem fld6 {k m a s b c : Int32} (hk : sIn k 0 7) (hm : sIn m (-1) 6) (ha : sIn a (-1) 126) (hs : sIn s 0 15) (hb : sIn b (-1) 126) (hc : sIn c 0 15) : ∀ j, j < 6 → rw6 k m a s b c j = sFld (sPack k m a s b c) j := by
  obtain ⟨f1, f2, f3, f4, f5, f6⟩ := pack_fld hk hm ha hs hb hc
  intro j hj
  match j, hj with
  | 0, _ => exact f1.symm
  | 1, _ => exact f2.symm
  | 2, _ => exact f3.symm
  | 3, _ => exact f4.symm
  | 4, _ => exact f5.symm
  | 5, _ => exact f6.symm
/-- what the reference's reader leaves -/
def mRd (h0 : jH) (T : List Int32) (ls : List Int32) (r : pR) (x : Int32) (h : jH) : Prop := match r with
  | .inl e => x = 0 ∧ h 159 8 = nI e ∧ jfr fBm h0 h
  | .inr q => x = 1 ∧ ∃ p', ms (wN h0 (ls ++ [q.1])) T p' h ∧ sSkip T p' = q.2
theorem mRd.zo {r : pR} {x : Int32} (k : mRd h0 T ls r x h) : x = 0 ∨ x = 1 := by
  match r, k with
  | .inl e, k => exact Or.inl k.1
  | .inr q, k => exact Or.inr k.1
theorem mRd.z {r : pR} {x y : Int32} (k : mRd h0 T ls r x h) (hx : x = 0) (hy : y = 0) : mRd h0 T ls r y h := by rw [hy, ← hx]; exact k
theorem mRd.o {r : pR} {x : Int32} (k : mRd h0 T ls r x h) (hx : ¬ x = 0) : mRd h0 T ls r 1 h := by
  rcases k.zo with q | q
  · exact absurd q hx
  · rw [← q]; exact k
theorem ms2.fail {r : Nat → Int32} (k : ms2 (wB h0 ls r) T b p h) : mRd h0 T ls (.inl b) 0 h := ⟨rfl, k.2, k.1.w.1.2⟩
theorem ms2.failN (k : ms2 (wN h0 ls) T b p h) : mRd h0 T ls (.inl b) 0 h := ⟨rfl, k.2, k.1.w.2⟩
theorem i_ge0 {x : Int32} : 0 ≤ x ↔ 0 ≤ x.toInt := by rw [toInt_le_iff]; rfl
theorem i_lt0 {x : Int32} : x < 0 ↔ x.toInt < 0 := by rw [toInt_lt_iff]; rfl
theorem atom_ge {x : Int32} (h : x = -1 ∨ sAtom x) : (0 ≤ x ↔ ¬ x = -1) ∧ (x < 0 ↔ x = -1) := by
  rw [i_ge0, i_lt0]
  rcases h with rfl | h
  · exact ⟨⟨fun q => absurd q (by decide), fun q => absurd rfl q⟩, fun _ => rfl, fun _ => by decide⟩
  · have h1 : 0 ≤ x.toInt := by
      rcases h with h | h
      · exact h.1
      · have := h.1; omega
    have h2 : ¬ x = -1 := fun q => by rw [q] at h1; exact absurd h1 (by decide)
    exact ⟨⟨fun _ => h2, fun _ => h1⟩, fun q => absurd q (by omega), fun q => absurd q h2⟩
/-- an atom -/
theorem tX12_readAtom (k : ms W T p h) (eb : sSkip T p = b) : JM mX12_readAtom [.ref 159] (jG0 sc) h (jint sc (fun x h' => x = sAt T b 2 2 ∧ ∃ q, ms2 W T b q h' ∧ (¬ sAt T b 2 2 = -1 → q = tEnd T b))) := by
  have h4 := k.2.1
  have hb : b ≤ T.length := by rw [← eb]; exact skip_le k.2.2.2.2.2.1
  have hsk : sSkip T b = b := by rw [← eb]; exact sSkip_idem k.2.2.2.2.2.1
  obtain ⟨w1, w2, w3⟩ := span_word hb
  obtain ⟨n1, n2, n3⟩ := span_num hb
  have hs := sSpan_in (P := isLet) hb
  have all := sSpan_all (T := T) (P := isLet) _ b rfl
  have ki : ∀ {h1 : jH}, ms2 W T b (sSpan isLet T b) h1 → (h1 159 6 ≤ h1 159 8 ↔ ¬ tKind T b = 1) := fun z => by
    rw [z.1.2.2.2.2.1, z.2, jn_le (by omega) (by omega), w1]; omega
  have len : ∀ {h1 : jH}, ms2 W T b (sSpan isLet T b) h1 → h1 159 6 - h1 159 8 = nI (sSpan isLet T b - b) := fun z => by rw [z.1.2.2.2.2.1, z.2, nI_subN hs.1]
  have nonum : tKind T b = 1 → sAt T b 2 2 = tLet T b 2 := fun q => sIf_f (fun c => by rw [c.1] at q; cases q)
  have chr : ∀ {h1 : jH}, ms2 W T b (sSpan isLet T b) h1 → tKind T b = 1 → isLet (T.getD b 0) ∧ h1 162 (h1 159 8).toNatClampNeg = T.getD b 0 ∧ vp_in (h1 159 8) 400 := fun z q => by
    obtain ⟨l1, l2⟩ := all b (Nat.le_refl _) (w1.mp q)
    refine ⟨l2, ?_, by rw [z.2]; exact vp_in_nI (by omega) (by decide)⟩
    rw [z.2, nI_clamp (by omega), z.1.1 b l1]; exact byte_lo (z.1.by8 l1) (let_lo l2)
  have one : ∀ {h1 : jH}, ms2 W T b (sSpan isLet T b) h1 → tKind T b = 1 → h1 159 6 - h1 159 8 ≤ 1 → tEnd T b - b = 1 := fun z q c => by
    have lt := w1.mp q
    rw [len z, show (1 : Int32) = nI 1 from rfl, jn_le (by omega) (by decide)] at c
    rw [w2 lt]; omega
  have fin : ∀ {h1 : jH}, ms2 W T b (sSpan isLet T b) h1 → tKind T b = 1 → ∀ x, x = tLet T b 2 → x = sAt T b 2 2 ∧ ∃ q, ms2 W T b q h1 ∧ (¬ sAt T b 2 2 = -1 → q = tEnd T b) := fun z q x e => ⟨by rw [nonum q]; exact e, _, z, fun _ => (w2 (w1.mp q)).symm⟩
  have val : tKind T b = 1 → tEnd T b - b = 1 → isLet (T.getD b 0) → tLet T b 2 = if T.getD b 0 ≤ 100 then T.getD b 0 - 97 else if T.getD b 0 = 120 then 4 else if T.getD b 0 = 121 then 5 else -1 := fun q c l => by
    unfold tLet
    rw [sIf_t ⟨q, c⟩]
    obtain ⟨m, hm, e⟩ := let_nat l
    rw [e]; exact idx2 m hm
  refine jM_of rfl (Nat.le_of_ble_eq_true rfl) (by decide +kernel) rfl (rX12_readAtom_0 (P1 := ms2 W T b (sSpan isLet T b)) (P2 := fun x h' => ¬ tKind T b = 1 ∧ x = sIf (tNumb T b 2 ∧ 0 ≤ sNumAt T b) (sNumAt T b) (-1) ∧ ms2 W T b (sSpan isDig T b) h') ?_ ?_ ?_ ?_ ?_ ?_ ?_ ?_ ?_ ?_)
  · rw [← eb]; exact tX12_letters k
  · rintro h1 z c
    have nk := (ki z).mp c
    have e : sSpan isLet T b = b := w3 (fun q => nk (w1.mpr q))
    have z1 := z.1
    rw [e] at z1
    have := tX12_number (sc := sc) (d := 2) (lo := 0) z1 (by decide)
    rw [hsk] at this
    exact jM_int this (fun x h' y => ⟨nk, y⟩)
  · rintro h1 - - x2 h2 ⟨nk, rfl, z⟩ c
    by_cases q : tNumb T b 2 ∧ 0 ≤ sNumAt T b
    · rw [sIf_t q] at c ⊢
      have e : sAt T b 2 2 = sNumAt T b + 10 := sIf_t q.1
      exact jint_i ⟨e.symm, _, z, fun _ => (n2 (n1.mp q.1.1)).symm⟩
    · rw [sIf_f q] at c; exact absurd c (by decide)
  · rintro h1 - - x2 h2 ⟨nk, rfl, z⟩ c
    have nq : ¬ tNumb T b 2 := fun q => by
      have lt := num_lt q hb
      have q0 : (0 : Int32) ≤ sNumAt T b := by unfold sNumAt; exact nI_le (a := 0) (by omega) (by omega)
      rw [sIf_t ⟨q, q0⟩] at c
      exact c q0
    have e : sAt T b 2 2 = -1 := (sIf_f nq).trans (sIf_f (fun q => nk q.1))
    rw [e]
    exact jint_i ⟨rfl, _, z, fun q => absurd rfl q⟩
  · rintro h1 z c -
    exact (chr z (Classical.byContradiction fun q => c ((ki z).mpr q))).2.2
  · rintro h1 z c c1 c2 c3 c4
    have q := Classical.byContradiction fun q => c ((ki z).mpr q)
    obtain ⟨l, e, -⟩ := chr z q
    rw [e] at c2 c3 c4
    refine jint_i (fin z q _ ?_)
    rw [val q (one z q c1) l, if_neg (i_nle.mpr c2), if_neg c3, if_neg c4]
  · rintro h1 z c c1 c2 c3 c4
    have q := Classical.byContradiction fun q => c ((ki z).mpr q)
    obtain ⟨l, e, -⟩ := chr z q
    rw [e] at c2 c3 c4
    refine jint_i (fin z q _ ?_)
    rw [val q (one z q c1) l, if_neg (i_nle.mpr c2), if_neg c3, if_pos c4]
  · rintro h1 z c c1 c2 c3
    have q := Classical.byContradiction fun q => c ((ki z).mpr q)
    obtain ⟨l, e, -⟩ := chr z q
    rw [e] at c2 c3
    refine jint_i (fin z q _ ?_)
    rw [val q (one z q c1) l, if_neg (i_nle.mpr c2), if_pos c3]
  · rintro h1 z c c1 c2
    have q := Classical.byContradiction fun q => c ((ki z).mpr q)
    obtain ⟨l, e, -⟩ := chr z q
    rw [e] at c2 ⊢
    refine jint_i (fin z q _ ?_)
    rw [val q (one z q c1) l, if_pos (i_nlt.mp c2)]
  · rintro h1 z c c1
    have q := Classical.byContradiction fun q => c ((ki z).mpr q)
    refine jint_i (fin z q _ (sIf_f (fun y => c1 ?_)).symm)
    rw [len z, ← w2 (w1.mp q), y.2]; decide
/-- a sign -/
theorem tX12_signE {c : Int32} (k : ms W T p h) (eb : sSkip T p = b) (hc : isMk c) : JM mX12_sign [.ref 159, .int c] (jG0 sc) h (jint sc (fun x h' => (tMark T b c ∧ x = 1 ∧ ms2 W T b (tEnd T b) h') ∨ (¬ tMark T b c ∧ x = 0 ∧ ms2 W T b b h'))) := by
  rw [← eb]; exact tX12_sign k hc
abbrev mSg (W : jH → Prop) (T : List Int32) (b : Nat) (c x : Int32) (h' : jH) : Prop := (tMark T b c ∧ x = 1 ∧ ms2 W T b (tEnd T b) h') ∨ (¬ tMark T b c ∧ x = 0 ∧ ms2 W T b b h')
theorem mSg.t {c x : Int32} (k : mSg W T b c x h) (hx : ¬ x = 0) : tMark T b c ∧ ms2 W T b (tEnd T b) h := by
  rcases k with k | k
  · exact ⟨k.1, k.2.2⟩
  · exact absurd k.2.1 hx
theorem mSg.f {c x : Int32} (k : mSg W T b c x h) (hx : x = 0) : ¬ tMark T b c ∧ ms2 W T b b h := by
  rcases k with k | k
  · rw [k.2.1] at hx; exact absurd hx (by decide)
  · exact ⟨k.1, k.2.2⟩
theorem mk_43 : isMk 43 := by unfold isMk isLet isDig; decide
theorem mk_45 : isMk 45 := by unfold isMk isLet isDig; decide
theorem mk_42 : isMk 42 := by unfold isMk isLet isDig; decide
theorem mk_47 : isMk 47 := by unfold isMk isLet isDig; decide
theorem mk_37 : isMk 37 := by unfold isMk isLet isDig; decide
theorem mk_60 : isMk 60 := by unfold isMk isLet isDig; decide
theorem mk_62 : isMk 62 := by unfold isMk isLet isDig; decide
theorem mk_61 : isMk 61 := by unfold isMk isLet isDig; decide
theorem mk_59 : isMk 59 := by unfold isMk isLet isDig; decide
theorem mk_40 : isMk 40 := by unfold isMk isLet isDig; decide
theorem mk_41 : isMk 41 := by unfold isMk isLet isDig; decide
theorem dr_ix {n j : Nat} (hn : n ≤ 10) (hj : j < 6) : nI (1 + 6 * n) + nI j = nI (1 + 6 * n + j) ∧ (nI (1 + 6 * n + j)).toNatClampNeg = 1 + 6 * n + j := ⟨nI_add _ _, nI_clamp (by omega)⟩
theorem mSum (k : ms (wB h0 ls (rw6 kd md (-1) 0 (-1) 0)) T p h) (eb : sSkip T p = nx T b) (hl : ls.length < 10) (hk : sIn kd 0 7) (hm : sIn md (-1) 6) :
    JM mX12_readSum [.ref 159, .int (nI (1 + 6 * ls.length))] (jG0 sc) h (jint sc (mRd h0 T ls (pSum T kd md b))) := by
  have hb1 : nx T b ≤ T.length := by rw [← eb]; exact skip_le k.2.2.2.2.2.1
  unfold pSum
  have l2 := (nx_le hb1).2.1
  have l3 := (nx_le l2).2.1
  have a1 := sAt_in hb1
  have a3 := sAt_in l3
  have s2 := tSgn_in (T := T) (b := nx T (nx T b))
  have sm : ∀ {c}, tMark T (nx T (nx T b)) c → tSgn T (nx T (nx T b)) = sSg c := fun h => sgn_mark h
  have sn := sgn_no5 (T := T) (b := nx T (nx T b))
  have hsk : sSkip T (nx T (nx T b)) = nx T (nx T b) := sSkip_idem (te_le hb1).2.1
  have eb4 : sSkip T (tEnd T (nx T (nx T (nx T b)))) = nx T (nx T (nx T (nx T b))) := rfl
  have eb3 : sSkip T (tEnd T (nx T (nx T b))) = nx T (nx T (nx T b)) := rfl
  have eb2 : sSkip T (tEnd T (nx T b)) = nx T (nx T b) := rfl
  have at1 := fun {h} (z : ms (wB h0 ls (rw6 kd md (-1) 0 (-1) 0)) T p h) => tX12_readAtom (sc := sc) z eb
  have at3 := fun {h W} (z : ms W T (tEnd T (nx T (nx T b))) h) => tX12_readAtom (sc := sc) z eb3
  generalize nx T (nx T (nx T (nx T b))) = b4 at *
  generalize nx T (nx T (nx T b)) = b3 at *
  generalize nx T (nx T b) = b2 at *
  generalize nx T b = b1 at *
  generalize sAt T b1 2 2 = x at *
  generalize sAt T b3 2 2 = y at *
  generalize tSgn T b2 = s at *
  obtain ⟨i2, j2⟩ := dr_ix (n := ls.length) (j := 2) (by omega) (by decide)
  obtain ⟨i3, j3⟩ := dr_ix (n := ls.length) (j := 3) (by omega) (by decide)
  obtain ⟨i4, j4⟩ := dr_ix (n := ls.length) (j := 4) (by omega) (by decide)
  replace i2 : nI (1 + 6 * ls.length) + 2 = nI (1 + 6 * ls.length + 2) := i2
  replace i3 : nI (1 + 6 * ls.length) + 3 = nI (1 + 6 * ls.length + 3) := i3
  replace i4 : nI (1 + 6 * ls.length) + 4 = nI (1 + 6 * ls.length + 4) := i4
  have v2 : vp_in (nI (1 + 6 * ls.length) + 2) 61 := by rw [i2]; exact vp_in_nI (by omega) (by decide)
  have v3 : vp_in (nI (1 + 6 * ls.length) + 3) 61 := by rw [i3]; exact vp_in_nI (by omega) (by decide)
  have v4 : vp_in (nI (1 + 6 * ls.length) + 4) 61 := by rw [i4]; exact vp_in_nI (by omega) (by decide)
  refine jM_of rfl (Nat.le_of_ble_eq_true rfl) (by decide +kernel) rfl (bX12_readSum_0 (at1 k) (fun _ _ _ => v2) (fun _ _ _ => v2) ?_ ?_)
  · rintro x1 h1 ⟨rfl, q, z, hq⟩ c
    rw [jput_at] at c
    have c1 := (atom_ge a1).1.mp c
    have ax := a1.resolve_left c1
    obtain rfl := hq c1
    rw [i2, j2]
    have z1 : ms2 (wB h0 ls (rw6 kd md x1 0 (-1) 0)) T b1 (tEnd T b1) _ := z.dr (v := x1) (i := 1 + 6 * ls.length + 2) (j := 2) (by decide) rfl (fun i hi => by match i, hi with | 0, _ => rfl | 1, _ => rfl | 2, _ => rfl | 3, _ => rfl | 4, _ => rfl | 5, _ => rfl)
    generalize jput h1 164 (1 + 6 * ls.length + 2) x1 = h2 at *
    rw [sIf_f c1]
    -- no sign
    have none0 : ∀ h3, ms2 (wB h0 ls (rw6 kd md x1 0 (-1) 0)) T b2 b2 h3 → ¬ (¬ s < 1 ∧ s ≤ 5) → WP mX12_readSum (jint sc (mRd h0 T ls (sIf (¬ s < 1 ∧ s ≤ 5) (sIf (y = -1) (.inl b3) (.inr (sPack kd md x1 s y 0, b4))) (.inr (sPack kd md x1 0 (-1) 0, b2))))) 90 [some (.ref 159), some (.int (nI (1 + 6 * ls.length))), none] [] (jG0 sc) h3 (0, 0) := fun h3 w c2 => by
      rw [sIf_f c2]
      refine bX12_readSum_90 (bX12_readSum_91 (fun q => absurd rfl q) (fun _ => bX12_readSum_96 (jint_i ⟨rfl, b2, w.1.to wN_st (w.1.w.line (fld6 hk hm (atom_rg ax) ⟨by decide, by decide⟩ ⟨by decide, by decide⟩ ⟨by decide, by decide⟩)), hsk⟩)))
    -- a sign
    have some0 : ∀ c3 h3, tMark T b2 c3 → ms2 (wB h0 ls (rw6 kd md x1 0 (-1) 0)) T b2 (tEnd T b2) h3 → ¬ sSg c3 < 1 → sSg c3 ≤ 5 → WP mX12_readSum (jint sc (mRd h0 T ls (sIf (¬ s < 1 ∧ s ≤ 5) (sIf (y = -1) (.inl b3) (.inr (sPack kd md x1 s y 0, b4))) (.inr (sPack kd md x1 0 (-1) 0, b2))))) 91 [some (.ref 159), some (.int (nI (1 + 6 * ls.length))), none] [.int (sSg c3)] (jG0 sc) h3 (0, 0) := fun c3 h3 tm w g1 g2 => by
      have es := sm tm
      rw [← es] at g1 g2 ⊢
      rw [sIf_t ⟨g1, g2⟩]
      have n0 : ¬ s = 0 := fun q => g1 (by rw [q]; decide)
      refine bX12_readSum_91 (fun _ => ?_) (fun q => absurd q n0)
      have w1 : ms2 (wB h0 ls (rw6 kd md x1 s (-1) 0)) T b2 (tEnd T b2) (jput h3 164 (nI (1 + 6 * ls.length) + 3).toNatClampNeg s) := by
        rw [i3, j3]
        exact w.dr (j := 3) (by decide) rfl (fun i hi => by match i, hi with | 0, _ => rfl | 1, _ => rfl | 2, _ => rfl | 3, _ => rfl | 4, _ => rfl | 5, _ => rfl)
      refine bX12_readSum_98 v3 (at3 w1.1) (fun _ _ _ => v4) ?_
      rintro x4 h4 ⟨rfl, q, z, hq⟩
      refine bX12_readSum_126 v4 (fun c => ?_) (fun c => ?_)
      · rw [jput_at] at c
        have cy := (atom_ge a3).2.mp c
        rw [sIf_t cy, i4, j4]
        have z2 := z.dr (v := x4) (i := 1 + 6 * ls.length + 4) (j := 4) (r' := rw6 kd md x1 s x4 0) (by decide) rfl (fun i hi => by match i, hi with | 0, _ => rfl | 1, _ => rfl | 2, _ => rfl | 3, _ => rfl | 4, _ => rfl | 5, _ => rfl)
        exact bX12_readSum_134 (bX12_readSum_135 (Or.inl rfl) (jint_i z2.fail))
      · rw [jput_at] at c
        have cy : ¬ x4 = -1 := fun q => c ((atom_ge a3).2.mpr q)
        have ay := a3.resolve_left cy
        obtain rfl := hq cy
        rw [sIf_f cy, i4, j4]
        have z2 := z.dr (v := x4) (i := 1 + 6 * ls.length + 4) (j := 4) (r' := rw6 kd md x1 s x4 0) (by decide) rfl (fun i hi => by match i, hi with | 0, _ => rfl | 1, _ => rfl | 2, _ => rfl | 3, _ => rfl | 4, _ => rfl | 5, _ => rfl)
        exact bX12_readSum_130 (bX12_readSum_135 (Or.inr rfl) (jint_i ⟨rfl, tEnd T b3, z2.1.to wN_st (z2.1.w.line (fld6 hk hm (atom_rg ax) ⟨by have := s2.1; omega, by have := s2.2; omega⟩ (atom_rg ay) ⟨by decide, by decide⟩)), eb4⟩))
    refine bX12_readSum_25 (P1 := mSg _ T b2 43) (tX12_signE z1.1 eb2 mk_43) (fun x3 h3 w c3 => ?_) (fun x3 h3 w c3 => ?_)
    · obtain ⟨m1, w1⟩ := w.f c3
      refine bX12_readSum_38 (P1 := mSg _ T b2 45) (tX12_signE w1.1 hsk mk_45) (fun x3 h3 w c3 => ?_) (fun x3 h3 w c3 => ?_)
      · obtain ⟨m2, w2⟩ := w.f c3
        refine bX12_readSum_51 (P1 := mSg _ T b2 42) (tX12_signE w2.1 hsk mk_42) (fun x3 h3 w c3 => ?_) (fun x3 h3 w c3 => ?_)
        · obtain ⟨m3, w3⟩ := w.f c3
          refine bX12_readSum_64 (P1 := mSg _ T b2 47) (tX12_signE w3.1 hsk mk_47) (fun x3 h3 w c3 => ?_) (fun x3 h3 w c3 => ?_)
          · obtain ⟨m4, w4⟩ := w.f c3
            refine bX12_readSum_77 (P1 := mSg _ T b2 37) (tX12_signE w4.1 hsk mk_37) (fun x3 h3 w c3 => ?_) (fun x3 h3 w c3 => ?_)
            · obtain ⟨m5, w5⟩ := w.f c3
              exact none0 _ w5 (sn m1 m2 m3 m4 m5)
            · obtain ⟨m, w⟩ := w.t c3
              exact bX12_readSum_86 (some0 37 _ m w (by decide) (by decide))
          · obtain ⟨m, w⟩ := w.t c3
            exact bX12_readSum_73 (some0 47 _ m w (by decide) (by decide))
        · obtain ⟨m, w⟩ := w.t c3
          exact bX12_readSum_60 (some0 42 _ m w (by decide) (by decide))
      · obtain ⟨m, w⟩ := w.t c3
        exact bX12_readSum_47 (some0 45 _ m w (by decide) (by decide))
    · obtain ⟨m, w⟩ := w.t c3
      exact bX12_readSum_34 (some0 43 _ m w (by decide) (by decide))
  · rintro x1 h1 ⟨rfl, q, z, -⟩ c
    rw [jput_at] at c
    have c1 : x1 = -1 := Classical.byContradiction fun q => c ((atom_ge a1).1.mpr q)
    rw [sIf_t c1, i2, j2]
    have z1 := z.dr (v := x1) (i := 1 + 6 * ls.length + 2) (j := 2) (r' := rw6 kd md x1 0 (-1) 0) (by decide) rfl (fun i hi => by match i, hi with | 0, _ => rfl | 1, _ => rfl | 2, _ => rfl | 3, _ => rfl | 4, _ => rfl | 5, _ => rfl)
    exact bX12_readSum_23 (jint_i z1.fail)
end BDM
