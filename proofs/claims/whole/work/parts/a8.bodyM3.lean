/-! The reference reads a line; all lines. -/
section BDM3
variable {sc : Nat × (Nat → Int32)} {h h0 : jH} {T : List Int32} {b p n : Nat} {ls : List Int32} {kd md v : Int32} {W : jH → Prop}
theorem mdLine (k : ms (wN h0 ls) T p h) (hl : ls.length < 10) (eb : sSkip T p = b) : JM mX12_readLine [.ref 159, .int (nI ls.length)] (jG0 sc) h (jint sc (mRd h0 T ls (pLine T b))) := by
  have hb : b ≤ T.length := by rw [← eb]; exact skip_le k.2.2.2.2.2.1
  have h4 := k.2.1
  have ek : (1 : Int32) + 6 * nI ls.length = nI (1 + 6 * ls.length) := by rw [show (6 : Int32) = nI 6 from rfl, show (1 : Int32) = nI 1 from rfl, pk_mul, nI_add]
  have vk : vp_in (nI (1 + 6 * ls.length)) 61 := vp_in_nI (by omega) (by decide)
  have ck : (nI (1 + 6 * ls.length)).toNatClampNeg = 1 + 6 * ls.length := nI_clamp (by omega)
  have hb1 : nx T b ≤ T.length := (nx_le hb).2.1
  have hb2 : nx T (nx T b) ≤ T.length := (nx_le hb1).2.1
  have row0 : ∀ {h3 : jH} {kd q}, ms2 (wB h0 ls (rw6 kd (-1) (-1) 0 (-1) 0)) T b q h3 → h3 164 (nI (1 + 6 * ls.length)).toNatClampNeg = kd := fun w => by
    rw [ck]; exact w.1.w.2 0 (by decide)
  have kEnd : ∀ h3, ms2 (wB h0 ls (rw6 3 (-1) (-1) 0 (-1) 0)) T b (tEnd T b) h3 → pLine T b = pSum T 3 (-1) b → WP mX12_readLine (jint sc (mRd h0 T ls (pLine T b))) 98 [some (.ref 159), some (.int (nI ls.length)), some (.int (nI (1 + 6 * ls.length)))] [] (jG0 sc) h3 (0, 0) := fun h3 w e => by
    rw [e]
    refine bX12_readLine_98 vk (fun q => absurd (row0 w) q) (fun _ => bX12_readLine_108 (mSum w.1 rfl hl ⟨by decide, by decide⟩ ⟨by decide, by decide⟩) (fun _ _ z => z.zo) (fun _ _ z => jint_i z))
  have kSet : ∀ h3, ms2 (wB h0 ls (rw6 0 (-1) (-1) 0 (-1) 0)) T b (tEnd T b) h3 → pLine T b = pSet T b → WP mX12_readLine (jint sc (mRd h0 T ls (pLine T b))) 98 [some (.ref 159), some (.int (nI ls.length)), some (.int (nI (1 + 6 * ls.length)))] [] (jG0 sc) h3 (0, 0) := fun h3 w e => by
    rw [e]
    refine bX12_readLine_98 vk (fun _ => bX12_readLine_114 vk (fun q => absurd (row0 w) q) (fun _ => ?_)) (fun q => absurd ((row0 w).symm.trans q) (by decide))
    unfold pSet
    have eb1 : sSkip T (tEnd T b) = nx T b := rfl
    have lt := tX12_letters (sc := sc) w.1
    rw [eb1] at lt
    have eb2 : sSkip T (tEnd T (nx T b)) = nx T (nx T b) := rfl
    have esum : ∀ {v h}, ms (wB h0 ls (rw6 0 v (-1) 0 (-1) 0)) T (tEnd T (nx T (nx T b))) h → sIn v (-1) 6 → _ := fun {v h} z hv => mSum (sc := sc) (b := nx T (nx T b)) z rfl hl ⟨by decide, by decide⟩ hv
    generalize nx T (nx T b) = b2 at *
    generalize nx T b = b1 at *
    obtain ⟨w1, w2, w3⟩ := span_word hb1
    have hs := sSpan_in (P := isLet) hb1
    have all := sSpan_all (T := T) (P := isLet) _ b1 rfl
    have len : ∀ {h4 : jH} {W}, ms2 W T b1 (sSpan isLet T b1) h4 → h4 159 6 - h4 159 8 = nI (sSpan isLet T b1 - b1) := fun z => by rw [z.1.2.2.2.2.1, z.2, nI_subN hs.1]
    refine bX12_readLine_123 lt (fun h4 z c => ?_) (fun h4 z c => ?_)
    · have e1 : tLet T b1 1 = -1 := sIf_f (fun y => c (by rw [len z, ← w2 (w1.mp y.1), y.2]; rfl))
      rw [sIf_t e1]
      exact bX12_readLine_154 (jint_i z.fail)
    · rw [len z, show (1 : Int32) = nI 1 from rfl, jn_eq (by omega) (by decide)] at c
      have lt1 : b1 < sSpan isLet T b1 := by omega
      have kd1 := w1.mpr lt1
      obtain ⟨l1, l2⟩ := all b1 (Nat.le_refl _) lt1
      have ec : h4 162 (h4 159 8).toNatClampNeg = T.getD b1 0 := by rw [z.2, nI_clamp (by omega), z.1.1 b1 l1]; exact byte_lo (z.1.by8 l1) (let_lo l2)
      have v8 : vp_in (h4 159 8) 400 := by rw [z.2]; exact vp_in_nI (by omega) (by decide)
      obtain ⟨m, hm, em⟩ := let_nat l2
      have eL : tLet T b1 1 = if T.getD b1 0 ≤ 100 then T.getD b1 0 - 97 else -1 := by
        unfold tLet
        rw [sIf_t ⟨kd1, by rw [w2 lt1]; exact c⟩, em]
        exact idx1 m hm
      refine bX12_readLine_140 v8 (fun q => ?_) (fun q => ?_)
      · rw [ec] at q
        rw [if_pos q] at eL
        have ev : T.getD b1 0 - 97 = nI m := by rw [em, show (97 : Int32) = nI 97 from rfl, nI_subN (by omega), Nat.add_sub_cancel_left]
        have in4 : sIn (tLet T b1 1) (-1) 6 ∧ ¬ tLet T b1 1 = -1 := by
          rcases tLet_in (T := T) (b := b1) (n := 1) with y | ⟨j, h1, h2⟩
          · rw [y] at eL
            exact absurd (by rw [← ev, ← eL]; decide : nI m < 0) (nI_pos (by omega))
          · have h1' : j < 4 := h1
            have e := nI_toInt (n := j) (by omega)
            rw [h2]
            exact ⟨⟨by omega, by omega⟩, fun y => by rw [y] at e; exact absurd e (by have : (-1 : Int32).toInt = -1 := rfl; omega)⟩
        rw [sIf_f in4.2]
        obtain ⟨i1, j1⟩ := dr_ix (n := ls.length) (j := 1) (by omega) (by decide)
        replace i1 : nI (1 + 6 * ls.length) + 1 = nI (1 + 6 * ls.length + 1) := i1
        refine bX12_readLine_156 v8 (by rw [i1]; exact vp_in_nI (by omega) (by decide)) (P1 := mSg (wB h0 ls (rw6 0 (tLet T b1 1) (-1) 0 (-1) 0)) T b2 61) ?_ (fun x5 h5 y c5 => ?_) (fun x5 h5 y c5 => ?_)
        · rw [ec, ← eL, i1, j1]
          have z1 := z.dr (v := tLet T b1 1) (i := 1 + 6 * ls.length + 1) (j := 1) (r' := rw6 0 (tLet T b1 1) (-1) 0 (-1) 0) (by decide) rfl (fun i hi => by match i, hi with | 0, _ => rfl | 1, _ => rfl | 2, _ => rfl | 3, _ => rfl | 4, _ => rfl | 5, _ => rfl)
          have z2 := z1.1
          rw [← w2 lt1] at z2
          exact tX12_signE z2 eb2 mk_61
        · obtain ⟨nm, w5⟩ := y.f c5
          rw [sIf_f nm]
          exact bX12_readLine_197 (bX12_readLine_198 (Or.inl rfl) (jint_i w5.fail))
        · obtain ⟨tm, w5⟩ := y.t c5
          rw [sIf_t tm]
          refine bX12_readLine_185 (esum w5.1 in4.1) (fun x6 h6 y c6 => ?_) (fun x6 h6 y c6 => ?_)
          · exact bX12_readLine_197 (bX12_readLine_198 (Or.inl rfl) (jint_i (y.z c6 rfl)))
          · exact bX12_readLine_193 (bX12_readLine_198 (Or.inr rfl) (jint_i (y.o c6)))
      · rw [ec] at q
        rw [if_neg q] at eL
        rw [sIf_t eL]
        exact bX12_readLine_154 (jint_i z.fail)
  have kJump : ∀ kd h3, kd = 1 ∨ kd = 2 → ms2 (wB h0 ls (rw6 kd (-1) (-1) 0 (-1) 0)) T b (tEnd T b) h3 → pLine T b = pJump T kd b → WP mX12_readLine (jint sc (mRd h0 T ls (pLine T b))) 98 [some (.ref 159), some (.int (nI ls.length)), some (.int (nI (1 + 6 * ls.length)))] [] (jG0 sc) h3 (0, 0) := fun kd h3 hk w e => by
    rw [e]
    have n3 : ¬ kd = 3 := by rcases hk with rfl | rfl <;> decide
    have n0 : ¬ kd = 0 := by rcases hk with rfl | rfl <;> decide
    have kin : sIn kd 0 7 := by rcases hk with rfl | rfl <;> exact ⟨by decide, by decide⟩
    refine bX12_readLine_98 vk (fun _ => bX12_readLine_114 vk (fun _ => ?_) (fun q => absurd ((row0 w).symm.trans q) n0)) (fun q => absurd ((row0 w).symm.trans q) n3)
    unfold pJump
    have nm := tX12_number (sc := sc) (d := 1) (lo := 1) w.1 (by decide)
    rw [show sSkip T (tEnd T b) = nx T b from rfl] at nm
    have nin := fun q => numAt_in (T := T) (b := nx T b) q hb1
    have eb2 : sSkip T (tEnd T (nx T b)) = nx T (nx T b) := rfl
    have etest : ∀ {v h}, ms (wB h0 ls (rw6 kd (-1) (-1) 0 (-1) v)) T (tEnd T (nx T (nx T b))) h → tWd T (nx T (nx T b)) 4 → sIn v 1 9 → _ := fun {v h} z hw hv => mTest (sc := sc) (b := nx T (nx T b)) z hb2 hw rfl hl kin hv
    have enot : ¬ tWd T (nx T (nx T b)) 4 → ∀ v, pTest T kd v (nx T (nx T b)) = .inl (nx T (nx T b)) := fun q v => sIf_f q
    generalize nx T (nx T b) = b2 at *
    generalize nx T b = b1 at *
    obtain ⟨n1, n2, n4⟩ := span_num hb1
    obtain ⟨i5, j5⟩ := dr_ix (n := ls.length) (j := 5) (by omega) (by decide)
    replace i5 : nI (1 + 6 * ls.length) + 5 = nI (1 + 6 * ls.length + 5) := i5
    have v5 : vp_in (nI (1 + 6 * ls.length) + 5) 61 := by rw [i5]; exact vp_in_nI (by omega) (by decide)
    generalize sNumAt T b1 = num at *
    refine bX12_readLine_199 nm (fun _ _ _ => v5) (fun _ _ _ => v5) ?_ ?_
    · rintro x4 h4 ⟨rfl, z⟩ c
      rw [jput_at] at c
      have no : ¬ (tNumb T b1 1 ∧ ¬ num = 0) := fun q => by
        have r := nin q.1 q.2
        have e1 : (1 : Int32).toInt = 1 := rfl
        have ge : (1 : Int32) ≤ num := toInt_le_iff.mpr (by have := r.1; omega)
        rw [sIf_t ⟨q.1, ge⟩, toInt_le_iff] at c
        have e0 : (0 : Int32).toInt = 0 := rfl
        have := r.1
        omega
      rw [sIf_f no, i5, j5]
      exact bX12_readLine_245 (bX12_readLine_246 (Or.inl rfl) (jint_i (z.dr (j := 5) (r' := rw6 kd (-1) (-1) 0 (-1) (sIf (tNumb T b1 1 ∧ 1 ≤ num) num (-1))) (by decide) rfl (fun i hi => by match i, hi with | 0, _ => rfl | 1, _ => rfl | 2, _ => rfl | 3, _ => rfl | 4, _ => rfl | 5, _ => rfl)).fail))
    · rintro x4 h4 ⟨rfl, z⟩ c
      rw [jput_at] at c
      have yes : tNumb T b1 1 ∧ 1 ≤ num := Classical.byContradiction fun q => by rw [sIf_f q] at c; exact c (by decide)
      rw [sIf_t yes] at c ⊢
      have n0 : ¬ num = 0 := fun q => by have := yes.2; rw [q] at this; exact absurd this (by decide)
      rw [sIf_t ⟨yes.1, n0⟩, i5, j5]
      have r := nin yes.1 n0
      have z1 := z.dr (v := num) (i := 1 + 6 * ls.length + 5) (j := 5) (r' := rw6 kd (-1) (-1) 0 (-1) num) (by decide) rfl (fun i hi => by match i, hi with | 0, _ => rfl | 1, _ => rfl | 2, _ => rfl | 3, _ => rfl | 4, _ => rfl | 5, _ => rfl)
      have z2 := z1.1
      rw [← n2 (n1.mp yes.1.1)] at z2
      have nd := tX12_needs (sc := sc) (n := 15) z2 (by decide)
      rw [eb2] at nd
      refine bX12_readLine_224 nd ?_ ?_
      · rintro x5 h5 ⟨rfl, y⟩ c5
        rw [enot (sB_eq.mp c5)]
        exact bX12_readLine_245 (bX12_readLine_246 (Or.inl rfl) (jint_i y.fail))
      · rintro x5 h5 ⟨rfl, y⟩ c5
        have hw : tWd T b2 4 := sB_ne.mp c5
        have y1 := y.1
        rw [wd_end hb2 hw.1] at y1
        refine bX12_readLine_233 (etest y1 hw r) (fun x6 h6 y c6 => ?_) (fun x6 h6 y c6 => ?_)
        · exact bX12_readLine_245 (bX12_readLine_246 (Or.inl rfl) (jint_i (y.z c6 rfl)))
        · exact bX12_readLine_241 (bX12_readLine_246 (Or.inr rfl) (jint_i (y.o c6)))
  -- a kind is written
  have put : ∀ kd h3 q, ¬ kd = 4 → ms2 (wB h0 ls (rw6 4 (-1) (-1) 0 (-1) 0)) T b q h3 → (∀ h4, ms2 (wB h0 ls (rw6 kd (-1) (-1) 0 (-1) 0)) T b q h4 → WP mX12_readLine (jint sc (mRd h0 T ls (pLine T b))) 98 [some (.ref 159), some (.int (nI ls.length)), some (.int (nI (1 + 6 * ls.length)))] [] (jG0 sc) h4 (0, 0)) →
      WP mX12_readLine (jint sc (mRd h0 T ls (pLine T b))) 85 [some (.ref 159), some (.int (nI ls.length)), some (.int (nI (1 + 6 * ls.length)))] [.int kd, .int (nI (1 + 6 * ls.length)), .ref 164] (jG0 sc) h3 (0, 0) := fun kd h3 q n4 w kk => by
    refine bX12_readLine_85 vk vk (fun _ => ?_) (fun c => absurd (jput_at.symm.trans c) n4)
    refine kk _ ?_
    rw [ck]
    exact w.dr (j := 0) (by decide) rfl (fun i hi => by match i, hi with | 0, _ => rfl | 1, _ => rfl | 2, _ => rfl | 3, _ => rfl | 4, _ => rfl | 5, _ => rfl)
  have lt := tX12_letters (sc := sc) k
  rw [eb] at lt
  have iw := fun {h3 W} n (hn : n < 22) (w : ms2 W T b (sSpan isLet T b) h3) => jM_get (tX12_isWord (sc := sc) w hb hn) w
  refine jM_of rfl (Nat.le_of_ble_eq_true rfl) (by decide +kernel) rfl (bX12_readLine_0 lt (fun h1 w _ => ?_) (fun h1 w c => ?_))
  · have go := fun (h2 : jH) (z : ms2 (wB h0 ls (rw6 4 (-1) (-1) 0 (-1) 0)) T b (sSpan isLet T b) h2) => iw (h3 := h2) 11 (by decide) z
    refine bX12_readLine_12 (P1 := ms2 (wB h0 ls (rw6 4 (-1) (-1) 0 (-1) 0)) T b (sSpan isLet T b)) (by rw [ek]; exact mClears w hl) go ?_ ?_
    · rintro h2 - x3 h3 ⟨rfl, z⟩ c3
      have f0 : ¬ tWd T b 0 := sB_eq.mp c3
      rw [ek]
      refine bX12_readLine_45 (iw 12 (by decide) z) ?_ ?_
      · rintro x3 h3 ⟨rfl, z⟩ c3
        have f1 : ¬ tWd T b 3 := sB_eq.mp c3
        refine bX12_readLine_58 (iw 13 (by decide) z) ?_ ?_
        · rintro x3 h3 ⟨rfl, z⟩ c3
          have f2 : ¬ tWd T b 5 := sB_eq.mp c3
          refine bX12_readLine_71 (iw 14 (by decide) z) ?_ ?_
          · rintro x3 h3 ⟨rfl, z⟩ c3
            have f3 : ¬ tWd T b 6 := sB_eq.mp c3
            have e : pLine T b = .inl b := by unfold pLine; rw [sIf_f f0, sIf_f f1, sIf_f f2, sIf_f f3]
            rw [e]
            refine bX12_readLine_84 (bX12_readLine_85 vk vk (fun c => absurd jput_at c) (fun _ => bX12_readLine_96 (jint_i ?_)))
            rw [ck]
            exact (z.dr (j := 0) (r' := rw6 4 (-1) (-1) 0 (-1) 0) (by decide) rfl (fun i hi => by match i, hi with | 0, _ => rfl | 1, _ => rfl | 2, _ => rfl | 3, _ => rfl | 4, _ => rfl | 5, _ => rfl)).fail
          · rintro x3 h3 ⟨rfl, z⟩ c3
            have f3 : tWd T b 6 := sB_ne.mp c3
            rw [wd_end hb f3.1] at z
            exact bX12_readLine_80 (put 3 _ _ (by decide) z (fun h4 w => kEnd h4 w (by unfold pLine; rw [sIf_f f0, sIf_f f1, sIf_f f2, sIf_t f3])))
        · rintro x3 h3 ⟨rfl, z⟩ c3
          have f2 : tWd T b 5 := sB_ne.mp c3
          rw [wd_end hb f2.1] at z
          exact bX12_readLine_67 (put 2 _ _ (by decide) z (fun h4 w => kJump 2 h4 (Or.inr rfl) w (by unfold pLine; rw [sIf_f f0, sIf_f f1, sIf_t f2])))
      · rintro x3 h3 ⟨rfl, z⟩ c3
        have f1 : tWd T b 3 := sB_ne.mp c3
        rw [wd_end hb f1.1] at z
        exact bX12_readLine_54 (put 1 _ _ (by decide) z (fun h4 w => kJump 1 h4 (Or.inl rfl) w (by unfold pLine; rw [sIf_f f0, sIf_t f1])))
    · rintro h2 - x3 h3 ⟨rfl, z⟩ c3
      have f0 : tWd T b 0 := sB_ne.mp c3
      rw [wd_end hb f0.1] at z
      rw [ek]
      exact bX12_readLine_41 (put 0 _ _ (by decide) z (fun h4 w => kSet h4 w (by unfold pLine; rw [sIf_t f0])))
  · exact absurd ((jn_eq (b := 10) (by omega) (by decide)).mp c) (by omega)
theorem mdLine10 (k : ms (wN h0 ls) T p h) (hl : ls.length = 10) (eb : sSkip T p = b) : JM mX12_readLine [.ref 159, .int (nI ls.length)] (jG0 sc) h (jint sc (mRd h0 T ls (.inl b))) := by
  have lt := tX12_letters (sc := sc) k
  rw [eb] at lt
  refine jM_of rfl (Nat.le_of_ble_eq_true rfl) (by decide +kernel) rfl (bX12_readLine_0 lt (fun h1 w c => ?_) (fun h1 w c => bX12_readLine_10 (jint_i w.failN)))
  rw [hl] at c; exact absurd rfl c
/-- what the reading of all lines leaves -/
def mW (h0 : jH) (r : Nat ⊕ List Int32) (x : Int32) (h : jH) : Prop := match r with
  | .inl e => x = -1 ∧ h 159 8 = nI e ∧ jfr fBm h0 h
  | .inr p => x = nI p.length ∧ wN h0 p h
theorem mAll (k : ms (wN h0 []) T 0 h) : JM mX12_readAll [.ref 159] (jG0 sc) h (jint sc (mW h0 (pText T))) := by
  refine jM_of rfl (Nat.le_of_ble_eq_true rfl) (by decide +kernel) rfl (rX12_readAll_0 ?_)
  have go : ∀ m p b ls h1, ls.length + m = 10 → ms (wN h0 ls) T p h1 → sSkip T p = b → WP mX12_readAll (jint sc (mW h0 (pBody T m b ls))) 2 [some (.ref 159), some (.int (nI ls.length))] [] (jG0 sc) h1 (0, 0) := by
    intro m
    induction m with
    | zero =>
      intro p b ls h1 em z eb
      refine bX12_readAll_2 (mdLine10 z em eb) (fun x2 h2 w c => absurd w.1 c) (fun x2 h2 w c => bX12_readAll_10 (jint_i ⟨rfl, w.2⟩))
    | succ m ih =>
      intro p b ls h1 em z eb
      have hb : b ≤ T.length := by rw [← eb]; exact skip_le z.2.2.2.2.2.1
      unfold pBody
      refine bX12_readAll_2 (mdLine z (by omega) eb) (fun x2 h2 w c => ?_) (fun x2 h2 w c => ?_)
      · cases e : pLine T b with
        | inl e' => rw [e] at w; exact absurd w.1 c
        | inr q =>
          rw [e] at w
          obtain ⟨-, p', w1, w2⟩ := w
          have hq := (ok_line hb e).2
          have bl := tX12_blanks (sc := sc) w1
          rw [w2] at bl
          show WP mX12_readAll (jint sc (mW h0 (sIf (T.length ≤ q.2) (Sum.inr (ls ++ [q.1])) (sIf (tMark T q.2 59) (pBody T m (nx T q.2) (ls ++ [q.1])) (Sum.inl q.2))))) 12 _ _ _ _ _
          have h4 := w1.2.1
          refine bX12_readAll_12 bl (fun h3 y c3 => ?_) (fun h3 y c3 => ?_)
          · rw [y.1.2.2.2.2.1, y.1.2.2.2.1, jn_eq (by omega) (by omega)] at c3
            rw [sIf_f (by omega)]
            have mi := mark_iff (T := T) (b := q.2) mk_59
            refine bX12_readAll_31 (jM_get (tX12_isAt y.1 (by decide) (by decide)) y) ?_ ?_
            · rintro x5 h5 ⟨rfl, y5⟩ c5
              have c6 := sB_ne.mp c5
              have tm := mi.mpr ⟨c6.1, bt_eq.mp c6.2⟩
              rw [sIf_t tm]
              refine bX12_readAll_44 ?_
              rw [← nI_succ]
              have := ih (q.2 + 1) (nx T q.2) (ls ++ [q.1]) _ (by rw [List.length_append, List.length_singleton]; omega) (y5.1.pt (v := h5 159 6 + 1) c6.1 (by rw [y5.1.2.2.2.2.1, ← nI_succ])) (by unfold nx; rw [mark_end mk_59 tm])
              rw [List.length_append, List.length_singleton] at this
              exact this
            · rintro x5 h5 ⟨rfl, y5⟩ c5
              have c6 := sB_eq.mp c5
              rw [sIf_f (fun tm => c6 ⟨(mi.mp tm).1, bt_eq.mpr (mi.mp tm).2⟩)]
              exact bX12_readAll_42 (jint_i ⟨rfl, y5.2, y5.1.w.2⟩)
          · rw [y.1.2.2.2.2.1, y.1.2.2.2.1, jn_eq (by omega) (by omega)] at c3
            rw [sIf_t (by omega)]
            refine bX12_readAll_27 (jint_i ⟨?_, y.1.w⟩)
            rw [List.length_append, List.length_singleton, ← nI_succ]
      · cases e : pLine T b with
        | inr q => rw [e] at w; exact absurd (w.1.symm.trans c) (by decide)
        | inl e' =>
          rw [e] at w
          exact bX12_readAll_10 (jint_i ⟨rfl, w.2⟩)
  exact go 10 0 (sSkip T 0) [] h rfl k rfl
end BDM3
