/-! What a law says: the reference's way. -/
section LAWM
variable {sc : Nat × (Nat → Int32)} {h : jH} {Q : jQ} {ls cs : List Int32} {r x y : Int32} {i t N : Nat}
abbrev kL (r x y a b : Int32) : List (Option Value) := [some (.ref 159), some (.int r), some (.int x), some (.int y), some (.int a), some (.int b), none, none, none, none]
theorem k_ix (hi : i < 400) : (654 : Int32) + 2 * nI i = nI (654 + 2 * i) ∧ nI (654 + 2 * i) + 1 = nI (654 + 2 * i + 1) := by
  refine ⟨?_, (nI_succ _).symm⟩
  rw [show (2 : Int32) = nI 2 from rfl, show (654 : Int32) = nI 654 from rfl, pk_mul, nI_add]
theorem kPush {a : Int32} (hi : i < N) (hN : N ≤ 400) (ht : t < 400) (e0 : h 160 653 = nI N) (e1 : h 160 (654 + 2 * i) = (sAtomStep a).1) (e2 : h 160 (654 + 2 * i + 1) = (sAtomStep a).2)
    (k : WP mX12_keeps Q 14 (kL r x y (nI (t + 1)) (nI (i + 1))) [] (jG0 sc) (jput h 166 t (sLawVal a r x y)) (0, 0)) : WP mX12_keeps Q 14 (kL r x y (nI t) (nI i)) [] (jG0 sc) h (0, 0) := by
  obtain ⟨g0, g1⟩ := k_ix (i := i) (by omega)
  have es : h 160 ((654 + 2 * nI i).toNatClampNeg) = (sAtomStep a).1 := by rw [g0, nI_clamp (by omega)]; exact e1
  have ev : h 160 (((654 + 2 * nI i) + 1).toNatClampNeg) = (sAtomStep a).2 := by rw [g0, g1, nI_clamp (by omega)]; exact e2
  have vt : vp_in (nI t) 400 := vp_in_nI ht (by decide)
  have fin : ∀ {l6 v : Int32}, v = sLawVal a r x y → WP mX12_keeps Q 98 [some (.ref 159), some (.int r), some (.int x), some (.int y), some (.int (nI t)), some (.int (nI i)), some (.int l6), none, none, none] [.int v, .int (nI t), .ref 166] (jG0 sc) h (0, 0) := fun {l6 v} e => by
    refine bX12_keeps_98 vt (bX12_keeps_280 ?_)
    rw [nI_clamp (by omega), ← nI_succ, ← nI_succ, e]; exact k
  refine bX12_keeps_14 (fun c => absurd c (by rw [e0, jn_le (by omega) (by omega)]; omega)) (fun _ => bX12_keeps_27 (by rw [g0]; exact vp_in_nI (by omega) (by decide)) (fun c => ?_) (fun c => ?_))
  all_goals rw [es] at c ⊢
  · refine absurd c ?_
    unfold sAtomStep
    by_cases a0 : a = 0
    · rw [if_pos a0]; decide
    · rw [if_neg a0]
      by_cases a1 : a = 1
      · rw [if_pos a1]; decide
      · rw [if_neg a1]
        by_cases a2 : a = 2
        · rw [if_pos a2]; decide
        · rw [if_neg a2]; show ¬ (3 : Int32) < 0; decide
  · unfold sAtomStep sLawVal at *
    by_cases a0 : a = 0
    · simp only [if_pos a0] at *
      exact bX12_keeps_48 (fun _ => bX12_keeps_77 (fun c => absurd rfl c) (fun _ => bX12_keeps_83 (fin rfl))) (fun c => absurd c (by decide))
    · simp only [if_neg a0] at *
      by_cases a1 : a = 1
      · simp only [if_pos a1] at *
        exact bX12_keeps_48 (fun _ => bX12_keeps_77 (fun _ => bX12_keeps_87 (fun c => absurd rfl c) (fun _ => bX12_keeps_93 (fin rfl))) (fun c => absurd c (by decide))) (fun c => absurd c (by decide))
      · simp only [if_neg a1] at *
        by_cases a2 : a = 2
        · simp only [if_pos a2] at *
          exact bX12_keeps_48 (fun _ => bX12_keeps_77 (fun _ => bX12_keeps_87 (fun _ => bX12_keeps_97 (fin rfl)) (fun c => absurd c (by decide))) (fun c => absurd c (by decide))) (fun c => absurd c (by decide))
        · simp only [if_neg a2] at *
          refine bX12_keeps_48 (fun c => absurd rfl c) (fun _ => bX12_keeps_59 (by rw [g0, g1]; exact vp_in_nI (by omega) (by decide)) ?_)
          rw [ev]; exact fin rfl
/-- two numbers to one truth -/
theorem kFin {z l6 l7 l8 : Int32} (ht : t < 400) (hz : z = 0 ∨ z = 1) (k : WP mX12_keeps Q 14 (kL r x y (nI (t + 1)) (nI (i + 1))) [] (jG0 sc) (jput h 166 t z) (0, 0)) :
    WP mX12_keeps Q 259 [some (.ref 159), some (.int r), some (.int x), some (.int y), some (.int (nI (t + 1))), some (.int (nI i)), some (.int l6), some (.int l7), some (.int l8), none] [.int z] (jG0 sc) h (0, 0) := by
  have em : nI (t + 1) - 1 = nI t := by rw [nI_succ]; exact Int32.add_sub_cancel _ _
  have vt : vp_in (nI t) 400 := vp_in_nI ht (by decide)
  rcases hz with hz | hz
  · subst hz
    refine bX12_keeps_259 (fun _ => bX12_keeps_278 (bX12_keeps_279 (by rw [em]; exact vt) (bX12_keeps_280 ?_))) (fun c => absurd rfl c)
    rw [em, nI_clamp (by omega), ← nI_succ i]; exact k
  · subst hz
    refine bX12_keeps_259 (fun c => absurd c (by decide)) (fun _ => bX12_keeps_274 (bX12_keeps_279 (by rw [em]; exact vt) (bX12_keeps_280 ?_)))
    rw [em, nI_clamp (by omega), ← nI_succ i]; exact k
/-- into a step of two numbers -/
theorem kTwo {s : Int32} (hi : i < N) (hN : N ≤ 400) (ht : t + 2 ≤ 400) (e0 : h 160 653 = nI N) (e1 : h 160 (654 + 2 * i) = s) (s3 : 3 < s) (s7 : ¬ s = 7)
    (k4 : s = 4 → WP mX12_keeps Q 164 [some (.ref 159), some (.int r), some (.int x), some (.int y), some (.int (nI (t + 1))), some (.int (nI i)), some (.int s), some (.int (h 166 t)), some (.int (h 166 (t + 1))), none] [] (jG0 sc) h (0, 0))
    (k5 : ¬ s = 4 → WP mX12_keeps Q 179 [some (.ref 159), some (.int r), some (.int x), some (.int y), some (.int (nI (t + 1))), some (.int (nI i)), some (.int s), some (.int (h 166 t)), some (.int (h 166 (t + 1))), none] [] (jG0 sc) h (0, 0)) :
    WP mX12_keeps Q 14 (kL r x y (nI (t + 2)) (nI i)) [] (jG0 sc) h (0, 0) := by
  obtain ⟨g0, g1⟩ := k_ix (i := i) (by omega)
  have es : h 160 ((654 + 2 * nI i).toNatClampNeg) = s := by rw [g0, nI_clamp (by omega)]; exact e1
  have em : nI (t + 1) - 1 = nI t := by rw [nI_succ]; exact Int32.add_sub_cancel _ _
  have em2 : nI (t + 2) + (-1) = nI (t + 1) := by rw [← Int32.sub_eq_add_neg, nI_succ]; exact Int32.add_sub_cancel _ _
  refine bX12_keeps_14 (fun c => absurd c (by rw [e0, jn_le (by omega) (by omega)]; omega)) (fun _ => bX12_keeps_27 (by rw [g0]; exact vp_in_nI (by omega) (by decide)) (fun c => ?_) (fun c => ?_))
  all_goals rw [es] at c ⊢
  · refine bX12_keeps_105 (fun _ => bX12_keeps_135 (by rw [em2, em]; exact vp_in_nI (by omega) (by decide)) (by rw [em2]; exact vp_in_nI (by omega) (by decide)) (fun c4 => ?_) (fun c4 => ?_)) (fun c => absurd c s7)
    all_goals rw [em2, em, nI_clamp (by omega), nI_clamp (by omega)]
    · exact k5 c4
    · exact k4 c4
  · exact absurd s3 c
def sCmp3 (s a b : Int32) : Prop := if s + 6 = 6 then a < b else if s + 6 = 7 then b < a else a = b
theorem kCmp {s : Int32} (hs : sIn s 0 2) (hi : i < N) (hN : N ≤ 400) (ht : t + 2 ≤ 400) (e0 : h 160 653 = nI N) (e1 : h 160 (654 + 2 * i) = 4 + s)
    (k : WP mX12_keeps Q 14 (kL r x y (nI (t + 1)) (nI (i + 1))) [] (jG0 sc) (jput h 166 t (sB (sCmp3 s (h 166 t) (h 166 (t + 1))))) (0, 0)) :
    WP mX12_keeps Q 14 (kL r x y (nI (t + 2)) (nI i)) [] (jG0 sc) h (0, 0) := by
  have hs3 : s = 0 ∨ s = 1 ∨ s = 2 := by
    obtain ⟨a, b⟩ := hs
    have : s.toInt = 0 ∨ s.toInt = 1 ∨ s.toInt = 2 := by omega
    rcases this with q | q | q
    · exact Or.inl (i_eqI q rfl)
    · exact Or.inr (Or.inl (i_eqI q rfl))
    · exact Or.inr (Or.inr (i_eqI q rfl))
  have zf : ∀ {c : Prop} {z : Int32}, z = 0 → ¬ c → sB c = z := fun e c => by rw [e]; exact sB_f c
  have zt : ∀ {c : Prop} {z : Int32}, z = 1 → c → sB c = z := fun e c => by rw [e]; exact sB_t c
  rcases hs3 with rfl | rfl | rfl
  · refine kTwo (s := 4) hi hN ht e0 e1 (by decide) (by decide) (fun _ => bX12_keeps_164 (fun c => bX12_keeps_175 (kFin (by omega) (Or.inl rfl) ?_)) (fun c => bX12_keeps_171 (kFin (by omega) (Or.inr rfl) ?_))) (fun c => absurd rfl c)
    · rw [zf rfl (show ¬ sCmp3 0 (h 166 t) (h 166 (t + 1)) from fun q => i_nlt.mpr c q)] at k; exact k
    · rw [zt rfl (show sCmp3 0 (h 166 t) (h 166 (t + 1)) from i_nle.mp c)] at k; exact k
  · refine kTwo (s := 5) hi hN ht e0 e1 (by decide) (by decide) (fun c => absurd c (by decide)) (fun _ => bX12_keeps_179 (fun c => absurd rfl c) (fun _ => bX12_keeps_185 (fun c => bX12_keeps_196 (kFin (by omega) (Or.inl rfl) ?_)) (fun c => bX12_keeps_192 (kFin (by omega) (Or.inr rfl) ?_))))
    · rw [zf rfl (show ¬ sCmp3 1 (h 166 t) (h 166 (t + 1)) from fun q => i_nlt.mpr c q)] at k; exact k
    · rw [zt rfl (show sCmp3 1 (h 166 t) (h 166 (t + 1)) from i_nle.mp c)] at k; exact k
  · refine kTwo (s := 6) hi hN ht e0 e1 (by decide) (by decide) (fun c => absurd c (by decide)) (fun _ => bX12_keeps_179 (fun _ => bX12_keeps_200 (fun c => absurd rfl c) (fun _ => bX12_keeps_207 (fun c => bX12_keeps_218 (kFin (by omega) (Or.inl rfl) ?_)) (fun c => bX12_keeps_214 (kFin (by omega) (Or.inr rfl) ?_)))) (fun c => absurd c (by decide)))
    · rw [zf rfl (show ¬ sCmp3 2 (h 166 t) (h 166 (t + 1)) from c)] at k; exact k
    · rw [zt rfl (show sCmp3 2 (h 166 t) (h 166 (t + 1)) from c)] at k; exact k
def nB (b : Bool) : Int32 := if b then 1 else 0
theorem kBool {o a b : Bool} (hi : i < N) (hN : N ≤ 400) (ht : t + 2 ≤ 400) (e0 : h 160 653 = nI N) (e1 : h 160 (654 + 2 * i) = if o then 9 else 8) (ea : h 166 t = nB a) (eb : h 166 (t + 1) = nB b)
    (k : WP mX12_keeps Q 14 (kL r x y (nI (t + 1)) (nI (i + 1))) [] (jG0 sc) (jput h 166 t (nB (if o then a || b else a && b))) (0, 0)) :
    WP mX12_keeps Q 14 (kL r x y (nI (t + 2)) (nI i)) [] (jG0 sc) h (0, 0) := by
  cases o with
  | true =>
    refine kTwo (s := 9) hi hN ht e0 e1 (by decide) (by decide) (fun c => absurd c (by decide)) (fun _ => bX12_keeps_179 (fun _ => bX12_keeps_200 (fun _ => bX12_keeps_222 (fun _ => bX12_keeps_246 (fun c => bX12_keeps_258 (kFin (by omega) (Or.inl rfl) ?_)) (fun c => bX12_keeps_254 (kFin (by omega) (Or.inr rfl) ?_))) (fun c => absurd c (by decide))) (fun c => absurd c (by decide))) (fun c => absurd c (by decide)))
    all_goals
      rw [ea, eb] at c
      revert c k
      cases a <;> cases b <;> intro k c <;> first | exact k | exact absurd c (by decide)
  | false =>
    refine kTwo (s := 8) hi hN ht e0 e1 (by decide) (by decide) (fun c => absurd c (by decide)) (fun _ => bX12_keeps_179 (fun _ => bX12_keeps_200 (fun _ => bX12_keeps_222 (fun c => absurd rfl c) (fun _ => bX12_keeps_229 (fun c => bX12_keeps_242 (kFin (by omega) (Or.inl rfl) ?_)) (fun c => bX12_keeps_238 (kFin (by omega) (Or.inr rfl) ?_)))) (fun c => absurd c (by decide))) (fun c => absurd c (by decide)))
    all_goals
      rw [ea, eb] at c
      revert c k
      cases a <;> cases b <;> intro k c <;> first | exact k | exact absurd c (by decide)
theorem kNot {a : Bool} (hi : i < N) (hN : N ≤ 400) (ht : t + 1 ≤ 400) (e0 : h 160 653 = nI N) (e1 : h 160 (654 + 2 * i) = 7) (ea : h 166 t = nB a)
    (k : WP mX12_keeps Q 14 (kL r x y (nI (t + 1)) (nI (i + 1))) [] (jG0 sc) (jput h 166 t (nB (!a))) (0, 0)) :
    WP mX12_keeps Q 14 (kL r x y (nI (t + 1)) (nI i)) [] (jG0 sc) h (0, 0) := by
  obtain ⟨g0, g1⟩ := k_ix (i := i) (by omega)
  have es : h 160 ((654 + 2 * nI i).toNatClampNeg) = 7 := by rw [g0, nI_clamp (by omega)]; exact e1
  have em : nI (t + 1) - 1 = nI t := by rw [nI_succ]; exact Int32.add_sub_cancel _ _
  have vt : vp_in (nI (t + 1) - 1) 400 := by rw [em]; exact vp_in_nI (by omega) (by decide)
  refine bX12_keeps_14 (fun c => absurd c (by rw [e0, jn_le (by omega) (by omega)]; omega)) (fun _ => bX12_keeps_27 (by rw [g0]; exact vp_in_nI (by omega) (by decide)) (fun c => ?_) (fun c => ?_))
  all_goals rw [es] at c ⊢
  · refine bX12_keeps_105 (fun c => absurd rfl c) (fun _ => bX12_keeps_112 vt vt (bX12_keeps_280 ?_))
    rw [em, nI_clamp (by omega), ea, ← nI_succ i]
    revert k
    cases a <;> intro k <;> exact k
  · exact absurd c (by decide)
/-- the reference's truths -/
def isVs (w : Nat → Int32) : List Bool → Prop
  | [] => True
  | b :: s => w s.length = nB b ∧ isVs w s
theorem isVs.put {w : Nat → Int32} {v : Int32} {j : Nat} : ∀ {s : List Bool}, isVs w s → s.length ≤ j → isVs (fun i => if i = j then v else w i) s
  | [], _, _ => trivial
  | b :: s, k, hj => by
    rw [List.length_cons] at hj
    exact ⟨by show (if s.length = j then v else w s.length) = _; rw [if_neg (by omega)]; exact k.1, isVs.put k.2 (by omega)⟩
theorem sAllSteps_app {a b : List Int32} : sAllSteps (a ++ b) = sAllSteps a ++ sAllSteps b := by unfold sAllSteps; rw [List.flatMap_append]
theorem sAllSteps_cons {c : Int32} {b : List Int32} : sAllSteps (c :: b) = sSteps c ++ sAllSteps b := by unfold sAllSteps; rw [List.flatMap_cons]
theorem getD_mid3 {α : Type} {A B C : List α} {d : α} {k : Nat} (hk : k < B.length) : (A ++ (B ++ C)).getD (A.length + k) d = B.getD k d := by
  rw [List.getD_eq_getElem?_getD, List.getElem?_append_right (by omega), List.getElem?_append_left (by omega), List.getD_eq_getElem?_getD]
  congr 2; omega
abbrev fKeep : jF := ([(166, 166)], [])
theorem sB_nB {c : Prop} : sB c = nB (sTr c) := by
  by_cases q : c
  · rw [sB_t q, sTr_t q]; rfl
  · rw [sB_f q, sTr_f q]; rfl
theorem tX12_keeps (hl : isMLaw (h 160) ls) (ok : sLawOk ls) (hn : ls ≠ []) : JM mX12_keeps [.ref 159, .int r, .int x, .int y] (jG0 sc) h (jint sc (fun v h' => v = sB (¬ 999999 < r ∧ sLawHolds ls r x y) ∧ jfr fKeep h h')) := by
  have h4 := ok.2.2.2
  have deep := ok.1.resolve_left hn
  generalize hN : (sAllSteps ls).length = N at *
  have e0 : h 160 653 = nI N := by rw [← hN]; exact hl.1
  have go : ∀ (cs pre : List Int32) (st : List Bool) (h1 : jH), ls = pre ++ cs → st.length ≤ 20 → sDeep st.length cs = some 1 → sLawRun r x y cs st = sLawRun r x y ls [] → isVs (h1 166) st → jfr fKeep h h1 → ¬ 999999 < r →
      WP mX12_keeps (jint sc (fun v h' => v = sB (¬ 999999 < r ∧ sLawHolds ls r x y) ∧ jfr fKeep h h')) 14 (kL r x y (nI st.length) (nI (sAllSteps pre).length)) [] (jG0 sc) h1 (0, 0) := by
    intro cs
    induction cs with
    | nil =>
      intro pre st h1 e i2 i3 i4 i5 f hr
      rw [List.append_nil] at e
      subst e
      have f0 : h1 160 653 = nI N := (f 160 653 rfl).trans e0
      rw [hN]
      have i4 : st = sLawRun r x y ls [] := i4
      have i3 : some st.length = some 1 := i3
      injection i3 with i3
      have ev : h1 166 0 = nB (st.getD 0 false) := by
        match st, i3, i5 with
        | [b], _, i5 => exact i5.1
      have key : sLawHolds ls r x y ↔ st.getD 0 false = true := by unfold sLawHolds; rw [← i4]
      refine bX12_keeps_14 (fun _ => bX12_keeps_286 (fun c => bX12_keeps_300 (bX12_keeps_301 (Or.inl rfl) (jint_i ⟨(sB_f ?_).symm, f⟩))) (fun c => bX12_keeps_296 (bX12_keeps_301 (Or.inr rfl) (jint_i ⟨(sB_t ?_).symm, f⟩)))) (fun c => absurd (by rw [f0]; exact nI_le (Nat.le_refl _) (by omega)) c)
      all_goals rw [ev] at c
      · rintro ⟨-, q⟩
        rw [key] at q
        rw [q] at c
        exact c rfl
      · refine ⟨hr, key.mpr ?_⟩
        cases q : st.getD 0 false with
        | true => rfl
        | false => rw [q] at c; exact absurd c (by decide)
    | cons c cs ih =>
      intro pre st h1 e i2 i3 i4 i5 f hr
      obtain ⟨s1, s2, s3⟩ := sDeep_step (r := r) (x := x) (y := y) rfl i2 i3
      have f0 : h1 160 653 = nI N := (f 160 653 rfl).trans e0
      have okc : sCode c := ok.2.1 c (by rw [e]; exact List.mem_append_right _ (List.mem_cons_self ..))
      have eA : sAllSteps ls = sAllSteps pre ++ (sSteps c ++ sAllSteps cs) := by rw [e, sAllSteps_app, sAllSteps_cons]
      have eN : (sAllSteps pre).length + ((sSteps c).length + (sAllSteps cs).length) = N := by rw [← hN, eA, List.length_append, List.length_append]
      have at' : ∀ k, k < (sSteps c).length → h1 160 (654 + 2 * ((sAllSteps pre).length + k)) = ((sSteps c).getD k (0, 0)).1 ∧ h1 160 (654 + 2 * ((sAllSteps pre).length + k) + 1) = ((sSteps c).getD k (0, 0)).2 := fun k hk => by
        have := hl.2 ((sAllSteps pre).length + k) (by rw [eA, List.length_append, List.length_append]; omega)
        rw [eA, getD_mid3 hk] at this
        rw [f 160 _ rfl, f 160 _ rfl]
        exact this
      have e' : ls = (pre ++ [c]) ++ cs := by rw [e]; simp
      have eP : (sAllSteps (pre ++ [c])).length = (sAllSteps pre).length + (sSteps c).length := by rw [sAllSteps_app, sAllSteps_cons, List.length_append, List.length_append]; show _ + (_ + 0) = _; rfl
      have next : ∀ (h2 : jH), isVs (h2 166) (sLawStep r x y c st) → jfr fKeep h h2 → WP mX12_keeps (jint sc (fun v h' => v = sB (¬ 999999 < r ∧ sLawHolds ls r x y) ∧ jfr fKeep h h')) 14 (kL r x y (nI (sLawStep r x y c st).length) (nI ((sAllSteps pre).length + (sSteps c).length))) [] (jG0 sc) h2 (0, 0) := fun h2 v g => by
        rw [← eP]
        exact ih (pre ++ [c]) _ h2 e' s1 s2 i4 v g hr
      rcases s3 with ⟨c0, d20, q2⟩ | ⟨c0, c3, a, s, q1, q2⟩ | ⟨c0, c3, b, a, s, q1, q2⟩
      · have eS : sSteps c = [sAtomStep (c &&& 16383), sAtomStep ((c >>> 14) &&& 16383), ((4 : Int32) + ((c >>> 28) &&& 3), 0)] := by
          unfold sSteps
          rw [if_neg (fun q => by rw [q] at c0; exact c0 (by decide)), if_neg (fun q => by rw [q] at c0; exact c0 (by decide)), if_neg (fun q => by rw [q] at c0; exact c0 (by decide))]
        have okc2 : sIn ((c >>> 28) &&& 3) 0 2 := by
          rcases okc with q | q | q | q
          · rw [q] at c0; exact absurd (by decide) c0
          · rw [q] at c0; exact absurd (by decide) c0
          · rw [q] at c0; exact absurd (by decide) c0
          · exact q.2.2.2
        rw [q2] at next
        rw [eS] at next eN at'
        rw [show ([sAtomStep (c &&& 16383), sAtomStep ((c >>> 14) &&& 16383), ((4 : Int32) + ((c >>> 28) &&& 3), 0)] : List (Int32 × Int32)).length = 3 from rfl] at next eN at'
        obtain ⟨a1, a2⟩ := at' 0 (by decide)
        obtain ⟨b1, b2⟩ := at' 1 (by decide)
        obtain ⟨d1, -⟩ := at' 2 (by decide)
        refine kPush (N := N) (a := c &&& 16383) (by omega) h4 (by omega) f0 a1 a2 (kPush (N := N) (a := (c >>> 14) &&& 16383) (by omega) h4 (by omega) f0 b1 b2 (kCmp (N := N) (s := (c >>> 28) &&& 3) okc2 (by omega) h4 (by omega) f0 d1 ?_))
        have g : jput (jput h1 166 st.length (sLawVal (c &&& 16383) r x y)) 166 (st.length + 1) (sLawVal ((c >>> 14) &&& 16383) r x y) 166 st.length = sLawVal (c &&& 16383) r x y := by rw [jput_sl (by omega), jput_at]
        rw [g, jput_at]
        refine next _ ⟨?_, ?_⟩ (((f.put rfl).put rfl).put rfl)
        · rw [jput_at]; exact sB_nB
        · rw [jput_eq, jput_eq, jput_eq]
          exact ((i5.put (Nat.le_refl _)).put (by omega)).put (Nat.le_refl _)
      · have eS : sSteps c = [(7, 0)] := by unfold sSteps; rw [c3]; rfl
        subst q1
        rw [q2] at next
        rw [eS] at next eN at'
        rw [show ([(7, 0)] : List (Int32 × Int32)).length = 1 from rfl] at next eN at'
        rw [List.length_cons] at i2 ⊢
        rw [List.length_cons] at next
        exact kNot (N := N) (by omega) h4 (by omega) f0 (at' 0 (by decide)).1 i5.1 (next _ ⟨jput_at, by rw [jput_eq]; exact i5.2.put (Nat.le_refl _)⟩ (f.put rfl))
      · have eS : sSteps c = [(if sTr (c = -2) then 9 else 8, 0)] := by
          rcases okc with q | q | q | q
          · rw [q]; rw [sTr_f (by decide)]; rfl
          · rw [q]; rw [sTr_t rfl]; rfl
          · exact absurd q c3
          · exact absurd c0 q.1
        have eB : (if c = -2 then a || b else a && b) = (if sTr (c = -2) then a || b else a && b) := by
          by_cases q : c = -2
          · rw [if_pos q, sTr_t q]; rfl
          · rw [if_neg q, sTr_f q]; rfl
        subst q1
        rw [q2, eB] at next
        rw [eS] at next eN at'
        rw [show ([(if sTr (c = -2) then 9 else 8, 0)] : List (Int32 × Int32)).length = 1 from rfl] at next eN at'
        rw [List.length_cons, List.length_cons] at i2 ⊢
        rw [List.length_cons] at next
        exact kBool (N := N) (by omega) h4 (by omega) f0 (at' 0 (by decide)).1 i5.2.1 i5.1 (next _ ⟨jput_at, by rw [jput_eq]; exact i5.2.2.put (Nat.le_refl _)⟩ (f.put rfl))
  refine jM_of rfl (Nat.le_of_ble_eq_true rfl) (by decide +kernel) rfl (bX12_keeps_0 (fun c => bX12_keeps_8 ?_) (fun c => bX12_keeps_6 (jint_i ⟨(sB_f (fun q => q.1 (i_nle.mp c))).symm, jfr.rf⟩)))
  exact go ls [] [] h rfl (Nat.zero_le _) deep rfl trivial jfr.rf (i_nlt.mpr c)
end LAWM
