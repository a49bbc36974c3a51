/-! A LAW's text. -/
section LWP
variable {sc : Nat × (Nat → Int32)} {h h0 : jH} {T : List Int32} {b w : Nat} {ls cs' : List Int32} {code : Int32}
abbrev lR : Type := Nat ⊕ (List Int32 × Nat)
def sCmpCode (l s r : Int32) : Int32 := (l ||| (r <<< 14)) ||| ((s - 6) <<< 28)
noncomputable def lCmp (T : List Int32) (b : Nat) : lR :=
  sIf (sAt T b 4 8 = -1) (.inl b)
    (sIf (¬ tSgn T (nx T b) < 6 ∧ tSgn T (nx T b) ≤ 8)
      (sIf (sAt T (nx T (nx T b)) 4 8 = -1) (.inl (nx T (nx T b)))
        (.inr ([sCmpCode (sAt T b 4 8) (tSgn T (nx T b)) (sAt T (nx T (nx T b)) 4 8)], nx T (nx T (nx T b)))))
      (.inl (nx T b)))
noncomputable def lLoop (T : List Int32) (w : Nat) (code : Int32) (I : Nat → lR) : Nat → Nat → List Int32 → lR
  | 0, b, cs => .inr (cs, b)
  | k + 1, b, cs => sIf (tWd T b w) (match I (nx T b) with
    | .inl e => .inl e
    | .inr q => lLoop T w code I k q.2 (cs ++ q.1 ++ [code])) (.inr (cs, b))
noncomputable def lSeq (T : List Int32) (w : Nat) (code : Int32) (I : Nat → lR) (b : Nat) : lR := match I b with
  | .inl e => .inl e
  | .inr q => lLoop T w code I 400 q.2 q.1
noncomputable def lCond (T : List Int32) (I : Nat → lR) : Nat → lR := lSeq T 10 (-2) (lSeq T 9 (-1) I)
noncomputable def lNot (r : lR) : lR := match r with
  | .inl e => .inl e
  | .inr q => .inr (q.1 ++ [-3], q.2)
noncomputable def lShut (T : List Int32) (r : lR) : lR := match r with
  | .inl e => .inl e
  | .inr q => sIf (tMark T q.2 41) (.inr (q.1, nx T q.2)) (.inl q.2)
noncomputable def lItem (T : List Int32) : Nat → Nat → lR
  | 0, b => sIf (tWd T b 7 ∨ tMark T b 40) (.inl b) (lCmp T b)
  | r + 1, b => sIf (tWd T b 7) (lNot (lItem T r (nx T b))) (sIf (tMark T b 40) (lShut T (lCond T (lItem T r) (nx T b))) (lCmp T b))
noncomputable def lText (T : List Int32) : Nat ⊕ List Int32 := match lCond T (lItem T 6) (sSkip T 0) with
  | .inl e => .inl e
  | .inr q => sIf (T.length ≤ q.2) (.inr q.1) (.inl q.2)
/-- what a reader's success means -/
def gd (T : List Int32) (m : Nat) (I : Nat → lR) : Prop := ∀ b q, b ≤ T.length → I b = .inr q → q.2 ≤ T.length ∧ (sAllSteps q.1).length + b ≤ q.2 ∧ q.1.length + b ≤ q.2 ∧ (∀ c ∈ q.1, sCode c) ∧ (∀ d rest, d + m ≤ 20 → sDeep d (q.1 ++ rest) = sDeep (d + 1) rest)
theorem steps_ap {a c : List Int32} : (sAllSteps (a ++ c)).length = (sAllSteps a).length + (sAllSteps c).length := by unfold sAllSteps; rw [List.flatMap_append, List.length_append]
theorem b_16383 (i : Nat) (hi : i < 32) : bt 16383 i = decide (i < 14) := (by decide +kernel : ∀ i, i < 32 → bt 16383 i = decide (i < 14)) i hi
theorem b_3 (i : Nat) (hi : i < 32) : bt 3 i = decide (i < 2) := (by decide +kernel : ∀ i, i < 32 → bt 3 i = decide (i < 2)) i hi
theorem cmp_bt {l r s : Nat} {i : Nat} (hi : i < 32) : bt ((nI l ||| (nI r <<< 14)) ||| (nI s <<< 28)) i = (bt (nI l) i || (decide (14 ≤ i) && bt (nI r) (i - 14)) || (decide (28 ≤ i) && bt (nI s) (i - 28))) := by
  rw [b_or, b_or, bl 14 14 (by decide) (by decide) _ hi, bl 28 28 (by decide) (by decide) _ hi]
theorem cmp_fld {l r s : Nat} (hl : l < 2 ^ 14) (hr : r < 2 ^ 14) (hs : s < 2 ^ 2) :
    ((nI l ||| (nI r <<< 14)) ||| (nI s <<< 28)) &&& 16383 = nI l ∧ (((nI l ||| (nI r <<< 14)) ||| (nI s <<< 28)) >>> 14) &&& 16383 = nI r ∧ (((nI l ||| (nI r <<< 14)) ||| (nI s <<< 28)) >>> 28) &&& 3 = nI s := by
  have zl : ∀ i, 14 ≤ i → bt (nI l) i = false := fun i q => bt_small hl q
  have zr : ∀ i, 14 ≤ i → bt (nI r) i = false := fun i q => bt_small hr q
  have zs : ∀ i, 2 ≤ i → bt (nI s) i = false := fun i q => bt_small hs q
  refine ⟨b_ext fun i hi => ?_, b_ext fun i hi => ?_, b_ext fun i hi => ?_⟩
  · rw [b_and, b_16383 i hi, cmp_bt hi]
    by_cases c : i < 14
    · simp [c, show ¬ 14 ≤ i by omega, show ¬ 28 ≤ i by omega]
    · rw [zl i (by omega)]; simp [c]
  · rw [b_and, b_16383 i hi, br 14 14 (by decide) (by decide) _ hi]
    by_cases c : i < 14
    · rw [if_pos (by omega), cmp_bt (by omega), zl (14 + i) (by omega), Nat.add_sub_cancel_left]
      simp [c, show ¬ 28 ≤ 14 + i by omega]
    · rw [zr i (by omega)]; simp [c]
  · rw [b_and, b_3 i hi, br 28 28 (by decide) (by decide) _ hi]
    by_cases c : i < 2
    · rw [if_pos (by omega), cmp_bt (by omega), zl (28 + i) (by omega), zr (28 + i - 14) (by omega), Nat.add_sub_cancel_left]
      simp [c]
    · rw [zs i (by omega)]; simp [c]
theorem bt_neg {x : Int32} : x < 0 ↔ bt x 31 = true := by
  rw [i_lt0]
  unfold bt
  have : x.toInt = x.toBitVec.toInt := rfl
  rw [this, BitVec.toInt_neg_iff]
  rw [BitVec.getLsbD]
  rw [Nat.testBit_eq_decide_div_mod_eq]
  have h := x.toBitVec.isLt
  constructor
  · intro q
    rw [decide_eq_true_eq]
    omega
  · intro q
    rw [decide_eq_true_eq] at q
    omega
theorem cmp_nn {l r s : Nat} (hl : l < 2 ^ 14) (hr : r < 2 ^ 14) (hs : s < 2 ^ 2) : ¬ ((nI l ||| (nI r <<< 14)) ||| (nI s <<< 28)) < 0 := by
  rw [bt_neg, cmp_bt (by decide), bt_small hl (by decide), bt_small (n := r) (w := 14) hr (by decide), bt_small (n := s) (w := 2) hs (by decide)]
  decide
theorem lat_nat {x : Int32} (h : sLawAtom x) : ∃ m, m < 2 ^ 14 ∧ x = nI m := by
  have : 0 ≤ x.toInt ∧ x.toInt ≤ 10009 := by
    rcases h with h | h
    · exact ⟨h.1, by have := h.2; omega⟩
    · exact ⟨by have := h.1; omega, h.2⟩
  exact ⟨x.toInt.toNat, by omega, toInt_nn this.1⟩
theorem cmp_all {l s r : Int32} (hl : sLawAtom l) (hr : sLawAtom r) (hs : sIn s 6 8) : ¬ sCmpCode l s r < 0 ∧ sCmpCode l s r &&& 16383 = l ∧ (sCmpCode l s r >>> 14) &&& 16383 = r ∧ (sCmpCode l s r >>> 28) &&& 3 = s - 6 ∧ sIn (s - 6) 0 2 := by
  obtain ⟨l', hl', rfl⟩ := lat_nat hl
  obtain ⟨r', hr', rfl⟩ := lat_nat hr
  have e6 : (6 : Int32).toInt = 6 := rfl
  have es : (s - 6).toInt = s.toInt - 6 := by rw [toInt_sub' (by rw [e6]; have := hs.1; omega) (by rw [e6]; have := hs.2; omega), e6]
  have is : sIn (s - 6) 0 2 := ⟨by have := hs.1; omega, by have := hs.2; omega⟩
  obtain ⟨s', hs', e⟩ : ∃ s', s' < 2 ^ 2 ∧ s - 6 = nI s' := ⟨(s - 6).toInt.toNat, by have := is.2; omega, toInt_nn is.1⟩
  unfold sCmpCode
  rw [e] at is ⊢
  obtain ⟨f1, f2, f3⟩ := cmp_fld hl' hr' hs'
  exact ⟨cmp_nn hl' hr' hs', f1, f2, f3, is⟩
theorem sAt_law (hb : b ≤ T.length) : sAt T b 4 8 = -1 ∨ sLawAtom (sAt T b 4 8) := by
  unfold sAt
  by_cases c : tNumb T b 4
  · rw [sIf_t c]
    have := num_lt c hb
    generalize sNum T b (tEnd T b - b) = m at *
    rw [show (10 : Int32) = nI 10 from rfl, nI_add]
    have e := nI_toInt (n := m + 10) (by omega)
    exact Or.inr (Or.inr ⟨by omega, by omega⟩)
  · rw [sIf_f c]
    rcases tLet_in (T := T) (b := b) (n := 8) with q | ⟨j, h1, h2⟩
    · exact Or.inl q
    · have h1' : j < 3 := h1
      have e := nI_toInt (n := j) (by omega)
      rw [h2]
      exact Or.inr (Or.inl ⟨by omega, by omega⟩)
theorem at_lt {d n : Nat} (hb : b ≤ T.length) (h : ¬ sAt T b d n = -1) : b < T.length := by
  refine Classical.byContradiction fun q => h ?_
  have k := (tk0 (T := T) (b := b) (by omega)).1
  unfold sAt
  rw [sIf_f (fun c => by have := c.1; rw [k] at this; cases this)]
  exact sIf_f (fun c => by have := c.1; rw [k] at this; cases this)
theorem wd_lt {n : Nat} (hb : b ≤ T.length) (h : tWd T b n) : b < T.length := by
  refine Classical.byContradiction fun q => ?_
  have k := (tk0 (T := T) (b := b) (by omega)).1
  rw [h.1] at k; cases k
theorem mk_lt {c : Int32} (hb : b ≤ T.length) (h : tMark T b c) : b < T.length := by
  refine Classical.byContradiction fun q => ?_
  have k := (tk0 (T := T) (b := b) (by omega)).1
  rw [h.1] at k; cases k
theorem sg_lt (hb : b ≤ T.length) (h : ¬ tSgn T b < 6) : b < T.length := by
  refine Classical.byContradiction fun q => h ?_
  have k := (tk0 (T := T) (b := b) (by omega)).1
  unfold tSgn
  rw [sIf_f (fun c => by rw [k] at c; cases c)]
  decide
theorem in68 {s : Int32} (h : ¬ s < 6 ∧ s ≤ 8) : sIn s 6 8 := by
  obtain ⟨p, r⟩ := h
  rw [toInt_lt_iff] at p
  rw [toInt_le_iff] at r
  have e1 : (6 : Int32).toInt = 6 := rfl
  have e5 : (8 : Int32).toInt = 8 := rfl
  exact ⟨by omega, by omega⟩
theorem cmp_steps {l s r : Int32} (hl : sLawAtom l) (hr : sLawAtom r) (hs : sIn s 6 8) : sAllSteps [sCmpCode l s r] = [sAtomStep l, sAtomStep r, (4 + (s - 6), 0)] := by
  obtain ⟨g0, g1, g2, g3, -⟩ := cmp_all hl hr hs
  have n1 : ¬ sCmpCode l s r = -1 := fun q => g0 (by rw [q]; decide)
  have n2 : ¬ sCmpCode l s r = -2 := fun q => g0 (by rw [q]; decide)
  have n3 : ¬ sCmpCode l s r = -3 := fun q => g0 (by rw [q]; decide)
  unfold sAllSteps
  rw [List.flatMap_cons, List.flatMap_nil, List.append_nil]
  unfold sSteps
  rw [if_neg n1, if_neg n2, if_neg n3, g1, g2, g3]
theorem cmp_code {l s r : Int32} (hl : sLawAtom l) (hr : sLawAtom r) (hs : sIn s 6 8) : sCode (sCmpCode l s r) := by
  obtain ⟨g0, g1, g2, g3, g4⟩ := cmp_all hl hr hs
  exact Or.inr (Or.inr (Or.inr ⟨g0, by rw [g1]; exact hl, by rw [g2]; exact hr, by rw [g3]; exact g4⟩))
theorem lCmp_ok : ∀ b q, b ≤ T.length → lCmp T b = .inr q → ∃ l s r, q.1 = [sCmpCode l s r] ∧ sLawAtom l ∧ sLawAtom r ∧ sIn s 6 8 ∧ b + 3 ≤ q.2 ∧ q.2 ≤ T.length := by
  intro b q hb e
  unfold lCmp at e
  obtain ⟨-, l1, m1⟩ := nx_le hb
  obtain ⟨-, l2, m2⟩ := nx_le l1
  obtain ⟨-, l3, m3⟩ := nx_le l2
  have a1 := sAt_law hb
  have a2 := sAt_law l2
  have t1 := at_lt (d := 4) (n := 8) hb
  have t2 := sg_lt l1
  have t3 := at_lt (d := 4) (n := 8) l2
  by_cases c1 : sAt T b 4 8 = -1
  · rw [sIf_t c1] at e; cases e
  · rw [sIf_f c1] at e
    by_cases c2 : ¬ tSgn T (nx T b) < 6 ∧ tSgn T (nx T b) ≤ 8
    · rw [sIf_t c2] at e
      by_cases c3 : sAt T (nx T (nx T b)) 4 8 = -1
      · rw [sIf_t c3] at e; cases e
      · rw [sIf_f c3] at e
        cases e
        have x1 := m1 (t1 c1)
        have x2 := m2 (t2 c2.1)
        have x3 := m3 (t3 c3)
        exact ⟨_, _, _, rfl, a1.resolve_left c1, a2.resolve_left c3, in68 c2, by show b + 3 ≤ nx T (nx T (nx T b)); omega, l3⟩
    · rw [sIf_f c2] at e; cases e
theorem gd_cmp {m : Nat} (hm : 1 ≤ m) : gd T m (lCmp T) := by
  intro b q hb e
  obtain ⟨l, s, r, e1, hl, hr, hs, h3, hq⟩ := lCmp_ok b q hb e
  rw [e1]
  refine ⟨hq, by rw [cmp_steps hl hr hs]; show 3 + b ≤ q.2; omega, by show 1 + b ≤ q.2; omega, fun c hc => by rw [List.mem_singleton.mp hc]; exact cmp_code hl hr hs, fun d rest hd => ?_⟩
  show sDeep d (sCmpCode l s r :: rest) = _
  rw [sDeep, if_pos (cmp_all hl hr hs).1, if_pos (by omega)]
theorem gd_loop {m : Nat} {I : Nat → lR} (g : gd T m I) (hc : code = -1 ∨ code = -2) (b0 : Nat) : ∀ k b cs, b ≤ T.length → (sAllSteps cs).length + b0 ≤ b → cs.length + b0 ≤ b → (∀ c ∈ cs, sCode c) → (∀ d rest, d + (m + 1) ≤ 20 → sDeep d (cs ++ rest) = sDeep (d + 1) rest) →
    ∀ q, lLoop T w code I k b cs = .inr q → q.2 ≤ T.length ∧ (sAllSteps q.1).length + b0 ≤ q.2 ∧ q.1.length + b0 ≤ q.2 ∧ (∀ c ∈ q.1, sCode c) ∧ (∀ d rest, d + (m + 1) ≤ 20 → sDeep d (q.1 ++ rest) = sDeep (d + 1) rest) := by
  intro k
  induction k with
  | zero => intro b cs hb h1 h2 h3 h4 q e; cases e; exact ⟨hb, h1, h2, h3, h4⟩
  | succ k ih =>
    intro b cs hb h1 h2 h3 h4 q e
    unfold lLoop at e
    by_cases tw : tWd T b w
    · rw [sIf_t tw] at e
      obtain ⟨-, l1, m1⟩ := nx_le hb
      have lt := m1 (wd_lt hb tw)
      cases ei : I (nx T b) with
      | inl x => rw [ei] at e; cases e
      | inr y =>
        rw [ei] at e
        obtain ⟨g1, g2, g3, g4, g5⟩ := g _ y l1 ei
        have sc1 : sSteps code = [(8, 0)] ∨ sSteps code = [(9, 0)] := by rcases hc with rfl | rfl <;> simp [sSteps]
        have s1 : (sAllSteps [code]).length = 1 := by
          unfold sAllSteps
          rw [List.flatMap_cons, List.flatMap_nil, List.append_nil]
          rcases sc1 with q | q <;> rw [q] <;> rfl
        refine ih y.2 (cs ++ y.1 ++ [code]) g1 ?_ ?_ ?_ ?_ q e
        · rw [steps_ap, steps_ap, s1]; omega
        · rw [List.length_append, List.length_append, List.length_singleton]; omega
        · intro c hcm
          rcases List.mem_append.mp hcm with z | z
          · rcases List.mem_append.mp z with z | z
            · exact h3 c z
            · exact g4 c z
          · rw [List.mem_singleton.mp z]
            rcases hc with rfl | rfl
            · exact Or.inl rfl
            · exact Or.inr (Or.inl rfl)
        · intro d rest hd
          rw [List.append_assoc, List.append_assoc, h4 d _ hd, g5 (d + 1) _ (by omega)]
          show sDeep (d + 1 + 1) (code :: rest) = _
          rw [sDeep]
          rcases hc with rfl | rfl
          · rw [if_neg (fun z => z (by decide)), if_neg (by decide), if_pos (by omega), Nat.add_sub_cancel]
          · rw [if_neg (fun z => z (by decide)), if_neg (by decide), if_pos (by omega), Nat.add_sub_cancel]
    · rw [sIf_f tw] at e
      cases e; exact ⟨hb, h1, h2, h3, h4⟩
theorem gd_seq {m : Nat} {I : Nat → lR} (g : gd T m I) (hc : code = -1 ∨ code = -2) : gd T (m + 1) (lSeq T w code I) := by
  intro b q hb e
  unfold lSeq at e
  cases ei : I b with
  | inl x => rw [ei] at e; cases e
  | inr y =>
    rw [ei] at e
    obtain ⟨g1, g2, g3, g4, g5⟩ := g b y hb ei
    exact gd_loop g hc b 400 y.2 y.1 g1 g2 g3 g4 (fun d rest hd => g5 d rest (by omega)) q e
theorem gd_cond {m : Nat} {I : Nat → lR} (g : gd T m I) : gd T (m + 2) (lCond T I) := gd_seq (gd_seq g (Or.inl rfl)) (Or.inr rfl)
theorem gd_item : ∀ r, gd T (2 * r + 1) (lItem T r) := by
  intro r
  induction r with
  | zero =>
    intro b q hb e
    unfold lItem at e
    by_cases c : tWd T b 7 ∨ tMark T b 40
    · rw [sIf_t c] at e; cases e
    · rw [sIf_f c] at e; exact gd_cmp (Nat.le_refl _) b q hb e
  | succ r ih =>
    intro b q hb e
    unfold lItem at e
    obtain ⟨-, l1, m1⟩ := nx_le hb
    by_cases c : tWd T b 7
    · rw [sIf_t c] at e
      have lt := m1 (wd_lt hb c)
      cases ei : lItem T r (nx T b) with
      | inl x => rw [ei] at e; cases e
      | inr y =>
        rw [ei] at e
        unfold lNot at e
        cases e
        obtain ⟨g1, g2, g3, g4, g5⟩ := ih _ y l1 ei
        refine ⟨g1, ?_, ?_, ?_, ?_⟩
        · show (sAllSteps (y.1 ++ [-3])).length + b ≤ y.2
          rw [steps_ap]
          have : (sAllSteps [(-3 : Int32)]).length = 1 := by simp [sAllSteps, sSteps]
          omega
        · show (y.1 ++ [(-3 : Int32)]).length + b ≤ y.2
          rw [List.length_append, List.length_singleton]; omega
        · intro c hc
          rcases List.mem_append.mp hc with z | z
          · exact g4 c z
          · rw [List.mem_singleton.mp z]; exact Or.inr (Or.inr (Or.inl rfl))
        · intro d rest hd
          show sDeep d ((y.1 ++ [-3]) ++ rest) = _
          rw [List.append_assoc, g5 d _ (by omega)]
          show sDeep (d + 1) (-3 :: rest) = _
          rw [sDeep, if_neg (fun z => z (by decide)), if_pos rfl, if_pos (by omega)]
    · rw [sIf_f c] at e
      by_cases c2 : tMark T b 40
      · rw [sIf_t c2] at e
        cases ei : lCond T (lItem T r) (nx T b) with
        | inl x => rw [ei] at e; cases e
        | inr y =>
          rw [ei] at e
          replace e : sIf (tMark T y.2 41) (Sum.inr (y.1, nx T y.2)) (Sum.inl y.2) = Sum.inr q := e
          obtain ⟨g1, g2, g3, g4, g5⟩ := gd_cond ih _ y l1 ei
          by_cases c3 : tMark T y.2 41
          · rw [sIf_t c3] at e
            cases e
            have n2 := nx_le g1
            have lt := m1 (mk_lt hb c2)
            exact ⟨n2.2.1, by show (sAllSteps y.1).length + b ≤ nx T y.2; omega, by show y.1.length + b ≤ nx T y.2; omega, g4, fun d rest hd => g5 d rest (by omega)⟩
          · rw [sIf_f c3] at e; cases e
      · rw [sIf_f c2] at e
        exact gd_cmp (by omega) b q hb e
theorem ok_law (h4 : T.length ≤ 400) (e : lText T = .inr ls) : sLawOk ls ∧ ls ≠ [] := by
  unfold lText at e
  cases ec : lCond T (lItem T 6) (sSkip T 0) with
  | inl x => rw [ec] at e; cases e
  | inr q =>
    rw [ec] at e
    replace e : sIf (T.length ≤ q.2) (Sum.inr q.1) (Sum.inl q.2) = Sum.inr ls := e
    by_cases c : T.length ≤ q.2
    · rw [sIf_t c] at e
      cases e
      obtain ⟨g1, g2, g3, g4, g5⟩ := gd_cond (gd_item 6) _ q (skip_le (Nat.zero_le _)) ec
      have d0 := g5 0 [] (by omega)
      rw [List.append_nil] at d0
      refine ⟨⟨Or.inr d0, g4, by omega, by omega⟩, fun z => ?_⟩
      rw [z] at d0
      exact absurd d0 (by decide)
    · rw [sIf_f c] at e; cases e
end LWP
