/-! The class reads a LAW. -/
section LWC
variable {sc : Nat × (Nat → Int32)} {h h0 : jH} {T : List Int32} {b w : Nat} {ls : List Int32} {code : Int32}
def cL (h0 : jH) (T : List Int32) (ls : List Int32) (r : lR) (x : Int32) (h : jH) : Prop := match r with
  | .inl e => x = 0 ∧ h 1 3 = nI e ∧ isTape h T ∧ jfr fRd h0 h ∧ e ≤ T.length
  | .inr q => x = 1 ∧ cs h0 false T q.2 (ls ++ q.1) h
theorem cs.failL (k : cs h0 false T b ls h) : cL h0 T ls (.inl b) 0 h := ⟨rfl, k.2.2.1.2.1, k.1, k.2.2.2.2.2, k.2.2.2.1⟩
theorem cL.zo {r : lR} {x : Int32} (k : cL h0 T ls r x h) : x = 0 ∨ x = 1 := by
  match r, k with
  | .inl e, k => exact Or.inl k.1
  | .inr q, k => exact Or.inr k.1
theorem cL.z {r : lR} {x y : Int32} (k : cL h0 T ls r x h) (hx : x = 0) (hy : y = 0) : cL h0 T ls r y h := by rw [hy, ← hx]; exact k
theorem cL.l {r : lR} {x : Int32} (k : cL h0 T ls r x h) (hx : x = 0) : ∃ e, r = .inl e ∧ cL h0 T ls (.inl e) 0 h := by
  match r, k with
  | .inl e, k => exact ⟨e, rfl, rfl, k.2⟩
  | .inr q, k => exact absurd (k.1.symm.trans hx) (by decide)
theorem cL.r {r : lR} {x : Int32} (k : cL h0 T ls r x h) (hx : ¬ x = 0) : ∃ q, r = .inr q ∧ cs h0 false T q.2 (ls ++ q.1) h := by
  match r, k with
  | .inl e, k => exact absurd k.1 hx
  | .inr q, k => exact ⟨q, rfl, k.2⟩
theorem cs.lawAtom (k : cs h0 false T b ls h) : JM mX2_lawAtom [.ref 6, .ref 1] (jG0 sc) h (jint sc (fun x h' => x = sAt T b 4 8 ∧ cs h0 false T b ls h')) := by
  refine jM_of rfl (Nat.le_of_ble_eq_true rfl) (by decide +kernel) rfl (rX2_lawAtom_0 (cs.numb (d := 4) (by decide) k) (fun x1 h1 z _ => cs.letr (n := 8) (by decide) z.2) ?_ ?_)
  · rintro x1 h1 ⟨rfl, -⟩ c x2 h2 ⟨rfl, z⟩
    exact jint_i ⟨(sIf_f (sB_eq.mp c)).symm, z⟩
  · rintro x1 h1 ⟨rfl, z⟩ c
    have c1 := sB_ne.mp c
    exact jint_i ⟨by rw [z.num c1 (by decide)]; exact (sIf_t c1).symm, z⟩
theorem cs.addL {l : Int32} (hl : ls.length < 400) (k : cs h0 false T b ls h) : JM mX1_add [.ref 7, .int l] (jG0 sc) h (jvoid sc (cs h0 false T b (ls ++ [l]))) := by
  have t_h : jI1 7 := by unfold jI1; decide
  obtain ⟨k1, k2, k3, k4, k5, k6⟩ := k
  have e1 : h 7 1 = nI ls.length := k5.1
  refine jM_of rfl (Nat.le_of_ble_eq_true rfl) (by decide +kernel) rfl (rX1_add_0 t_h (fun c => absurd (by rw [← e1]; exact c) (nI_pos (n := ls.length) (by omega))) (fun _ c => absurd ((jn_le (a := 400) (b := ls.length) (by decide) (by omega)).mp (by rw [← e1]; exact c)) (by omega)) (fun _ _ => by rw [e1]; exact vp_in_nI hl (by decide)) (fun _ _ => jvoid_i ?_))
  rw [jput_ne (show (7 : Nat) ≠ 7 + 1 by decide), e1, nI_clamp (by omega), ← nI_succ]
  have f : jfr ([(8, 8)], [(7, 1, 1)]) h (jput (jput h (7 + 1) ls.length l) 7 1 (nI (ls.length + 1))) := (jfr.rf.put (by rw [jin_iff]; simp)).put rfl
  refine ⟨⟨(f 1 1 rfl).trans k1.1, fun i hi => (f 2 i rfl).trans (k1.2 i hi)⟩, k2, ⟨(f 1 2 rfl).trans k3.1, (f 1 3 rfl).trans k3.2.1, (f 1 4 rfl).trans k3.2.2.1, fun q => (f 1 5 rfl).trans (k3.2.2.2.1 q), fun q r => (f 1 5 rfl).trans (k3.2.2.2.2 q r)⟩, k4, ⟨?_, fun i hi => ?_⟩, k6.tr2 (f.mono rfl)⟩
  · rw [jput_at, List.length_append, List.length_singleton]
  · rw [List.length_append, List.length_singleton] at hi
    rw [getD_ap1, jput_ne (show (7 + 1 : Nat) ≠ 7 by decide)]
    by_cases z : i = ls.length
    · rw [z, jput_at, if_neg (Nat.lt_irrefl _), if_pos rfl]
    · rw [jput_sl z, if_pos (show i < ls.length by omega)]; exact k5.2 i (by omega)
theorem cs.cmp (hl : ls.length ≤ b) (k : cs h0 false T b ls h) : JM mX2_readComparison [.ref 6, .ref 1] (jG0 sc) h (jint sc (cL h0 T ls (lCmp T b))) := by
  have h4 := k.2.1
  have hb := k.2.2.2.1
  have bl := at_lt (T := T) (d := 4) (n := 8) hb
  unfold lCmp
  generalize eb1 : nx T b = b1
  generalize eb2 : nx T b1 = b2
  generalize eb3 : nx T b2 = b3
  generalize ex : sAt T b 4 8 = x at *
  generalize ey : sAt T b2 4 8 = y
  generalize es : tSgn T b1 = s
  refine jM_of rfl (Nat.le_of_ble_eq_true rfl) (by decide +kernel) rfl (rX2_readComparison_0 (P1 := fun v h' => v = x ∧ cs h0 false T b ls h') (P2 := cs h0 false T b1 ls) (P3 := fun v h' => v = s ∧ cs h0 false T b1 ls h') (P4 := cs h0 false T b2 ls)
    (P5 := fun v h' => v = y ∧ cs h0 false T b2 ls h') (P6 := cs h0 false T b3 ls) (P7 := fun v h' => v = sCmpCode x s y ∧ cs h0 false T b3 ls h') (P8 := cs h0 false T b3 (ls ++ [sCmpCode x s y])) ?_ ?_ ?_ ?_ ?_ ?_ ?_ ?_ ?_ ?_ ?_ ?_ ?_)
  · rw [← ex]; exact k.lawAtom
  · rintro x1 h1 ⟨-, z⟩ -; rw [← eb1]; exact z.next
  · rintro x1 h1 - - h2 z; rw [← es]; exact z.sign
  · rintro x1 h1 ⟨rfl, -⟩ c h2 - x3 h3 ⟨rfl, z⟩ c2
    exact jint_i (by rw [sIf_f c, sIf_f (fun q => q.1 c2)]; exact z.failL)
  · rintro x1 h1 - - h2 - x3 h3 ⟨-, z⟩ - -; rw [← eb2]; exact z.next
  · rintro x1 h1 - - h2 - x3 h3 - - - h4 z; rw [← ey]; exact z.lawAtom
  · rintro x1 h1 - - h2 - x3 h3 - - - h4 - x5 h5 ⟨-, z⟩ -; rw [← eb3]; exact z.next
  · rintro x1 h1 ⟨rfl, -⟩ - h2 - x3 h3 ⟨rfl, -⟩ - - h4 - x5 h5 ⟨rfl, -⟩ - h6 z
    exact jM_get (jM_of rfl (Nat.le_of_ble_eq_true rfl) (by decide +kernel) rfl (rX1_comparison_0 (jgets_i rfl))) z
  · rintro x1 h1 ⟨rfl, -⟩ c h2 - x3 h3 - - - h4 - x5 h5 - - h6 - x7 h7 ⟨rfl, z⟩
    exact z.addL (by have := bl c; omega)
  · rintro x1 h1 ⟨rfl, -⟩ c h2 - x3 h3 ⟨rfl, -⟩ c2 c3 h4 - x5 h5 ⟨rfl, -⟩ c4 h6 - x7 h7 - h8 z
    exact jint_i (by rw [sIf_f c, sIf_t ⟨c2, c3⟩, sIf_f c4]; exact ⟨rfl, z⟩)
  · rintro x1 h1 ⟨rfl, -⟩ c h2 - x3 h3 ⟨rfl, -⟩ c2 c3 h4 - x5 h5 ⟨rfl, z⟩ c4
    exact jint_i (by rw [sIf_f c, sIf_t ⟨c2, c3⟩, sIf_t c4]; exact z.failL)
  · rintro x1 h1 ⟨rfl, -⟩ c h2 - x3 h3 ⟨rfl, z⟩ c2 c3
    exact jint_i (by rw [sIf_f c, sIf_f (fun q => c3 q.2)]; exact z.failL)
  · rintro x1 h1 ⟨rfl, z⟩ c
    exact jint_i (by rw [sIf_t c]; exact z.failL)
/-- how an item is read, at some room -/
abbrev rdsC (sc : Nat × (Nat → Int32)) (M : jM) (T : List Int32) (d : Nat) (I : Nat → lR) : Prop := ∀ {h0 h : jH} {b : Nat} {ls : List Int32}, ls.length ≤ b → cs h0 false T b ls h → JM M [.ref 6, .ref 1, .int (nI d)] (jG0 sc) h (jint sc (cL h0 T ls (I b)))
theorem cAll {z z1 m d : Nat} {I : Nat → lR} (hz : z1 < z) (zb : 13 ≤ z1) (hI : rdsC sc (mX2_readItem z1) T d I) (g : gd T m I) : rdsC sc (mX2_readAll z) T d (lSeq T 9 (-1) I) := by
  intro h0 h b ls hl k
  have h4 := k.2.1
  have go : ∀ f i b1 c1 h1, i + f = 400 → cs h0 false T b1 (ls ++ c1) h1 → (ls ++ c1).length ≤ b1 → i ≤ b1 → WP (mX2_readAll z) (jint sc (cL h0 T ls (lLoop T 9 (-1) I f b1 c1))) 13 [some (.ref 6), some (.ref 1), some (.int (nI d)), some (.int (nI i))] [] (jG0 sc) h1 (0, 0) := by
    intro f
    induction f with
    | zero =>
      intro i b1 c1 h1 ei z hl1 hi
      refine rX2_readAll_13 (P1 := fun _ _ => True) (P2 := fun _ => True) (P3 := fun _ _ => True) (P4 := fun _ => True) hz zb (fun _ => jint_i ⟨rfl, z⟩) ?_ ?_ ?_ ?_ ?_ ?_ ?_
      all_goals intro c; exact absurd (nI_le (a := 400) (by omega) (by omega)) c
    | succ f ih =>
      intro i b1 c1 h1 ei z hl1 hi
      have hb1 := z.2.2.2.1
      have nc : ¬ (400 : Int32) ≤ nI i := fun c => absurd ((jn_le (a := 400) (by decide) (by omega)).mp c) (by omega)
      unfold lLoop
      refine rX2_readAll_13 (P1 := fun v h' => v = sB (tWd T b1 9) ∧ cs h0 false T b1 (ls ++ c1) h') (P2 := cs h0 false T (nx T b1) (ls ++ c1)) (P3 := cL h0 T (ls ++ c1) (I (nx T b1)))
        (P4 := fun h' => ∃ q, I (nx T b1) = .inr q ∧ cs h0 false T q.2 ((ls ++ c1) ++ q.1 ++ [-1]) h' ∧ ((ls ++ c1) ++ q.1 ++ [-1]).length ≤ q.2 ∧ i + 1 ≤ q.2 ∧ tWd T b1 9) hz zb (fun c => absurd c nc) ?_ ?_ ?_ ?_ ?_ ?_ ?_
      · rintro -; exact cs.word (n := 9) (by decide) z
      · rintro - x1 h2 ⟨rfl, z⟩ c
        rw [sIf_f (sB_eq.mp c)]
        exact jint_i ⟨rfl, z⟩
      · rintro - x1 h2 ⟨-, z⟩ -; exact z.next
      · rintro - x1 h2 - - h3 z; exact hI (by have := (nx_le (T := T) (b := b1) hb1).1; omega) z
      · rintro - x1 h2 ⟨rfl, y⟩ c h3 - x3 h5 w c3
        obtain ⟨q, e, w1⟩ := w.r c3
        have tw := sB_ne.mp c
        have hb1 := y.2.2.2.1
        have n1 := nx_le hb1
        obtain ⟨g1, g2, g3, -, -⟩ := g _ q n1.2.1 e
        have lt := n1.2.2 (wd_lt hb1 tw)
        rw [List.length_append] at hl1
        have e2 : ((ls ++ c1) ++ q.1).length = ls.length + c1.length + q.1.length := by rw [List.length_append, List.length_append]
        exact jM_void (w1.addL (by rw [e2]; omega)) (fun h' u => ⟨q, e, u, by rw [List.length_append, e2, List.length_singleton]; omega, by omega, tw⟩)
      · rintro - x1 h2 - - h3 - x3 h5 - - h6 ⟨q, e, u, e1, e2, tw⟩
        rw [sIf_t tw, e, ← nI_succ]
        rw [List.append_assoc, List.append_assoc] at u e1
        have := ih (i + 1) q.2 (c1 ++ q.1 ++ [-1]) h6 (by omega) (by rw [List.append_assoc c1]; exact u) (by rw [List.append_assoc c1]; exact e1) e2
        exact this
      · rintro - x1 h2 ⟨rfl, -⟩ c h3 - x3 h5 w c3
        obtain ⟨e', e, w1⟩ := w.l c3
        rw [sIf_t (sB_ne.mp c), e]
        exact jint_i w1
  refine jM_of rfl (Nat.le_of_ble_eq_true rfl) (by decide +kernel : plainName (mY (mX2_readAll 0)).cls = true) rfl (rX2_readAll_0 hz zb (hI hl k) ?_ ?_)
  · rintro x1 h1 w c
    obtain ⟨q, e, w1⟩ := w.r c
    obtain ⟨g1, g2, g3, -, -⟩ := g _ q k.2.2.2.1 e
    have : lSeq T 9 (-1) I b = lLoop T 9 (-1) I 400 q.2 q.1 := by unfold lSeq; rw [e]
    rw [this]
    exact go 400 0 q.2 q.1 h1 rfl w1 (by rw [List.length_append]; omega) (Nat.zero_le _)
  · rintro x1 h1 w c
    obtain ⟨e', e, w1⟩ := w.l c
    have : lSeq T 9 (-1) I b = .inl e' := by unfold lSeq; rw [e]
    rw [this]
    exact jint_i w1
theorem cCondX {z z1 m d : Nat} {I : Nat → lR} (hz : z1 < z) (zb : 13 ≤ z1) (hI : rdsC sc (mX2_readAll z1) T d I) (g : gd T m I) : rdsC sc (mX2_readCondition z) T d (lSeq T 10 (-2) I) := by
  intro h0 h b ls hl k
  have h4 := k.2.1
  have go : ∀ f i b1 c1 h1, i + f = 400 → cs h0 false T b1 (ls ++ c1) h1 → (ls ++ c1).length ≤ b1 → i ≤ b1 → WP (mX2_readCondition z) (jint sc (cL h0 T ls (lLoop T 10 (-2) I f b1 c1))) 13 [some (.ref 6), some (.ref 1), some (.int (nI d)), some (.int (nI i))] [] (jG0 sc) h1 (0, 0) := by
    intro f
    induction f with
    | zero =>
      intro i b1 c1 h1 ei z hl1 hi
      refine rX2_readCondition_13 (P1 := fun _ _ => True) (P2 := fun _ => True) (P3 := fun _ _ => True) (P4 := fun _ => True) hz zb (fun _ => jint_i ⟨rfl, z⟩) ?_ ?_ ?_ ?_ ?_ ?_ ?_
      all_goals intro c; exact absurd (nI_le (a := 400) (by omega) (by omega)) c
    | succ f ih =>
      intro i b1 c1 h1 ei z hl1 hi
      have hb1 := z.2.2.2.1
      have nc : ¬ (400 : Int32) ≤ nI i := fun c => absurd ((jn_le (a := 400) (by decide) (by omega)).mp c) (by omega)
      unfold lLoop
      refine rX2_readCondition_13 (P1 := fun v h' => v = sB (tWd T b1 10) ∧ cs h0 false T b1 (ls ++ c1) h') (P2 := cs h0 false T (nx T b1) (ls ++ c1)) (P3 := cL h0 T (ls ++ c1) (I (nx T b1)))
        (P4 := fun h' => ∃ q, I (nx T b1) = .inr q ∧ cs h0 false T q.2 ((ls ++ c1) ++ q.1 ++ [-2]) h' ∧ ((ls ++ c1) ++ q.1 ++ [-2]).length ≤ q.2 ∧ i + 1 ≤ q.2 ∧ tWd T b1 10) hz zb (fun c => absurd c nc) ?_ ?_ ?_ ?_ ?_ ?_ ?_
      · rintro -; exact cs.word (n := 10) (by decide) z
      · rintro - x1 h2 ⟨rfl, z⟩ c
        rw [sIf_f (sB_eq.mp c)]
        exact jint_i ⟨rfl, z⟩
      · rintro - x1 h2 ⟨-, z⟩ -; exact z.next
      · rintro - x1 h2 - - h3 z; exact hI (by have := (nx_le (T := T) (b := b1) hb1).1; omega) z
      · rintro - x1 h2 ⟨rfl, y⟩ c h3 - x3 h5 w c3
        obtain ⟨q, e, w1⟩ := w.r c3
        have tw := sB_ne.mp c
        have hb1 := y.2.2.2.1
        have n1 := nx_le hb1
        obtain ⟨g1, g2, g3, -, -⟩ := g _ q n1.2.1 e
        have lt := n1.2.2 (wd_lt hb1 tw)
        rw [List.length_append] at hl1
        have e2 : ((ls ++ c1) ++ q.1).length = ls.length + c1.length + q.1.length := by rw [List.length_append, List.length_append]
        exact jM_void (w1.addL (by rw [e2]; omega)) (fun h' u => ⟨q, e, u, by rw [List.length_append, e2, List.length_singleton]; omega, by omega, tw⟩)
      · rintro - x1 h2 - - h3 - x3 h5 - - h6 ⟨q, e, u, e1, e2, tw⟩
        rw [sIf_t tw, e, ← nI_succ]
        rw [List.append_assoc, List.append_assoc] at u e1
        have := ih (i + 1) q.2 (c1 ++ q.1 ++ [-2]) h6 (by omega) (by rw [List.append_assoc c1]; exact u) (by rw [List.append_assoc c1]; exact e1) e2
        exact this
      · rintro - x1 h2 ⟨rfl, -⟩ c h3 - x3 h5 w c3
        obtain ⟨e', e, w1⟩ := w.l c3
        rw [sIf_t (sB_ne.mp c), e]
        exact jint_i w1
  refine jM_of rfl (Nat.le_of_ble_eq_true rfl) (by decide +kernel : plainName (mY (mX2_readCondition 0)).cls = true) rfl (rX2_readCondition_0 hz zb (hI hl k) ?_ ?_)
  · rintro x1 h1 w c
    obtain ⟨q, e, w1⟩ := w.r c
    obtain ⟨g1, g2, g3, -, -⟩ := g _ q k.2.2.2.1 e
    have : lSeq T 10 (-2) I b = lLoop T 10 (-2) I 400 q.2 q.1 := by unfold lSeq; rw [e]
    rw [this]
    exact go 400 0 q.2 q.1 h1 rfl w1 (by rw [List.length_append]; omega) (Nat.zero_le _)
  · rintro x1 h1 w c
    obtain ⟨e', e, w1⟩ := w.l c
    have : lSeq T 10 (-2) I b = .inl e' := by unfold lSeq; rw [e]
    rw [this]
    exact jint_i w1
theorem cItem : ∀ r d z, r + d = 6 → 39 + 3 * r ≤ z → rdsC sc (mX2_readItem z) T d (lItem T r) := by
  intro r
  induction r with
  | zero =>
    intro d z0 hd hz h0 h b ls hl k
    have e6 : ¬ nI d < 6 := fun c => absurd ((jn_lt (b := 6) (by omega) (by decide)).mp c) (by omega)
    unfold lItem
    refine jM_of rfl (Nat.le_of_ble_eq_true rfl) (by decide +kernel : plainName (mY (mX2_readItem 0)).cls = true) rfl (rX2_readItem_0 (z1 := 13) (by omega) (by omega) (P1 := fun v h' => v = sB (tWd T b 7) ∧ cs h0 false T b ls h') (P2 := fun _ => True) (P3 := fun _ _ => True) (P4 := fun _ _ => True) (P5 := fun _ => True) (P6 := fun _ _ => True) (P7 := fun _ => True)
      (P8 := fun v h' => v = sB (tMark T b 40) ∧ cs h0 false T b ls h') (P9 := fun _ => True) (P10 := fun _ _ => True) (P11 := fun _ _ => True) (P12 := fun _ => True) (P13 := fun _ _ => True) (P14 := fun _ => True) (P15 := cL h0 T ls (lCmp T b)) ?_ ?_ ?_ ?_ ?_ ?_ ?_ ?_ ?_ ?_ ?_ ?_ ?_ ?_ ?_ ?_ ?_ ?_ ?_ ?_ ?_ ?_ ?_ ?_ ?_ ?_ ?_ ?_ ?_)
    · exact cs.word (n := 7) (by decide) k
    · intro x1 h1 _ _ c; exact absurd c e6
    · intro x1 h1 _ _ c; exact absurd c e6
    · intro x1 h1 _ _ c; exact absurd c e6
    · intro x1 h1 _ _ c; exact absurd c e6
    · intro x1 h1 _ _ c; exact absurd c e6
    · intro x1 h1 _ _ c; exact absurd c e6
    · intro x1 h1 _ _ c; exact absurd c e6
    · intro x1 h1 _ _ c; exact absurd c e6
    · intro x1 h1 _ _ c; exact absurd c e6
    · intro x1 h1 _ _ c; exact absurd c e6
    · intro x1 h1 _ _ c; exact absurd c e6
    · rintro x1 h1 ⟨rfl, y⟩ c -
      rw [sIf_t (Or.inl (sB_ne.mp c))]
      exact jint_i y.failL
    · rintro x1 h1 ⟨-, y⟩ -; exact y.mark
    · intro x1 h1 _ _ x8 h8 _ _ c; exact absurd c e6
    · intro x1 h1 _ _ x8 h8 _ _ c; exact absurd c e6
    · intro x1 h1 _ _ x8 h8 _ _ c; exact absurd c e6
    · intro x1 h1 _ _ x8 h8 _ _ c; exact absurd c e6
    · intro x1 h1 _ _ x8 h8 _ _ c; exact absurd c e6
    · intro x1 h1 _ _ x8 h8 _ _ c; exact absurd c e6
    · intro x1 h1 _ _ x8 h8 _ _ c; exact absurd c e6
    · intro x1 h1 _ _ x8 h8 _ _ c; exact absurd c e6
    · intro x1 h1 _ _ x8 h8 _ _ c; exact absurd c e6
    · intro x1 h1 _ _ x8 h8 _ _ c; exact absurd c e6
    · intro x1 h1 _ _ x8 h8 _ _ c; exact absurd c e6
    · rintro x1 h1 - - x8 h8 ⟨rfl, y⟩ c -
      rw [sIf_t (Or.inr (sB_ne.mp c))]
      exact jint_i y.failL
    · rintro x1 h1 - - x8 h8 ⟨-, y⟩ -; exact y.cmp hl
    · rintro x1 h1 - - x8 h8 - - x15 h15 w; exact w.zo
    · rintro x1 h1 ⟨rfl, -⟩ c x8 h8 ⟨rfl, -⟩ c8 x15 h15 w
      rw [sIf_f (fun q => q.elim (sB_eq.mp c) (sB_eq.mp c8))]
      exact jint_i w
  | succ r ih =>
    intro d z0 hd hz h0 h b ls hl k
    have h4 := k.2.1
    have e6 : nI d < 6 := (jn_lt (b := 6) (by omega) (by decide)).mpr (by omega)
    have ed : nI d + 1 = nI (d + 1) := (nI_succ d).symm
    have hb := k.2.2.2.1
    have n1 := nx_le hb
    have hi1 : rdsC sc (mX2_readItem (z0 - 3)) T (d + 1) (lItem T r) := ih (d + 1) (z0 - 3) (by omega) (by omega)
    have hi2 : rdsC sc (mX2_readItem (z0 - 1)) T (d + 1) (lItem T r) := ih (d + 1) (z0 - 1) (by omega) (by omega)
    have ha : rdsC sc (mX2_readAll (z0 - 2)) T (d + 1) (lSeq T 9 (-1) (lItem T r)) := cAll (z := z0 - 2) (z1 := z0 - 3) (by omega) (by omega) hi1 (gd_item r)
    have hc : rdsC sc (mX2_readCondition (z0 - 1)) T (d + 1) (lCond T (lItem T r)) := cCondX (z := z0 - 1) (z1 := z0 - 2) (by omega) (by omega) ha (gd_seq (gd_item r) (Or.inl rfl))
    have hlc : ls.length ≤ nx T b := by omega
    unfold lItem
    refine jM_of rfl (Nat.le_of_ble_eq_true rfl) (by decide +kernel : plainName (mY (mX2_readItem 0)).cls = true) rfl (rX2_readItem_0 (z1 := z0 - 1) (by omega) (by omega) (P1 := fun v h' => v = sB (tWd T b 7) ∧ cs h0 false T b ls h') (P2 := cs h0 false T (nx T b) ls) (P3 := fun _ _ => True) (P4 := fun _ _ => True) (P5 := fun _ => True) (P6 := cL h0 T ls (lItem T r (nx T b))) (P7 := fun h' => ∃ q, lItem T r (nx T b) = .inr q ∧ cs h0 false T q.2 (ls ++ q.1 ++ [-3]) h')
      (P8 := fun v h' => v = sB (tMark T b 40) ∧ cs h0 false T b ls h') (P9 := cs h0 false T (nx T b) ls) (P10 := cL h0 T ls (lCond T (lItem T r) (nx T b))) (P11 := fun v h' => ∃ q, lCond T (lItem T r) (nx T b) = .inr q ∧ v = sB (tMark T q.2 41) ∧ cs h0 false T q.2 (ls ++ q.1) h') (P12 := fun h' => ∃ q, lCond T (lItem T r) (nx T b) = .inr q ∧ tMark T q.2 41 ∧ cs h0 false T (nx T q.2) (ls ++ q.1) h') (P13 := fun _ _ => True) (P14 := fun _ => True) (P15 := cL h0 T ls (lCmp T b)) ?_ ?_ ?_ ?_ ?_ ?_ ?_ ?_ ?_ ?_ ?_ ?_ ?_ ?_ ?_ ?_ ?_ ?_ ?_ ?_ ?_ ?_ ?_ ?_ ?_ ?_ ?_ ?_ ?_)
    · exact cs.word (n := 7) (by decide) k
    · rintro x1 h1 ⟨-, y⟩ - -; exact y.next
    · intro x1 h1 _ c _ h2 _ c2; exact absurd c2 c
    · intro x1 h1 _ c _ h2 _ c2; exact absurd c2 c
    · intro x1 h1 _ c _ h2 _ c2; exact absurd c2 c
    · intro x1 h1 _ c _ h2 _ c2; exact absurd c2 c
    · intro x1 h1 _ c _ h2 _ c2; exact absurd c2 c
    · intro x1 h1 _ c _ h2 _ c2; exact absurd c2 c
    · rintro x1 h1 - - - h2 y -; rw [ed]; exact hi2 hlc y
    · rintro x1 h1 ⟨rfl, -⟩ c - h2 - - x6 h6 w c6
      obtain ⟨q, e, w1⟩ := w.r c6
      obtain ⟨g1, g2, g3, -, -⟩ := gd_item r _ q n1.2.1 e
      have lt := n1.2.2 (wd_lt hb (sB_ne.mp c))
      exact jM_void (w1.addL (by rw [List.length_append]; omega)) (fun h' u => ⟨q, e, u⟩)
    · rintro x1 h1 ⟨rfl, -⟩ c - h2 - - x6 h6 - - h7 ⟨q, e, u⟩
      rw [sIf_t (sB_ne.mp c), e]
      rw [List.append_assoc] at u
      exact jint_i ⟨rfl, u⟩
    · rintro x1 h1 ⟨rfl, -⟩ c - h2 - - x6 h6 w c6
      obtain ⟨e', e, w1⟩ := w.l c6
      rw [sIf_t (sB_ne.mp c), e]
      exact jint_i w1
    · intro x1 h1 _ _ c; exact absurd e6 c
    · rintro x1 h1 ⟨-, y⟩ -; exact y.mark
    · rintro x1 h1 - - x8 h8 ⟨-, y⟩ - -; exact y.next
    · rintro x1 h1 - - x8 h8 - - - h9 y -; rw [ed]; exact hc hlc y
    · rintro x1 h1 ⟨rfl, -⟩ c x8 h8 ⟨rfl, -⟩ c8 - h9 - - x10 h10 w c10
      obtain ⟨e', e, w1⟩ := w.l c10
      rw [sIf_f (sB_eq.mp c), sIf_t (sB_ne.mp c8), e]
      exact jint_i w1
    · rintro x1 h1 - - x8 h8 - - - h9 - - x10 h10 w c10
      obtain ⟨q, e, w1⟩ := w.r c10
      exact jM_int w1.mark (fun x h' y => ⟨q, e, y.1, y.2⟩)
    · rintro x1 h1 - - x8 h8 - - - h9 - - x10 h10 - - x11 h11 ⟨q, e, rfl, y⟩ c11
      exact jM_void y.next (fun h' u => ⟨q, e, sB_ne.mp c11, u⟩)
    · rintro x1 h1 ⟨rfl, -⟩ c x8 h8 ⟨rfl, -⟩ c8 - h9 - - x10 h10 - - x11 h11 - - h12 ⟨q, e, tm, u⟩
      rw [sIf_f (sB_eq.mp c), sIf_t (sB_ne.mp c8), e]
      refine jint_i ?_
      show cL h0 T ls (sIf (tMark T q.2 41) (Sum.inr (q.1, nx T q.2)) (Sum.inl q.2)) 1 h12
      rw [sIf_t tm]
      exact ⟨rfl, u⟩
    · rintro x1 h1 ⟨rfl, -⟩ c x8 h8 ⟨rfl, -⟩ c8 - h9 - - x10 h10 - - x11 h11 ⟨q, e, rfl, y⟩ c11
      rw [sIf_f (sB_eq.mp c), sIf_t (sB_ne.mp c8), e]
      refine jint_i ?_
      show cL h0 T ls (sIf (tMark T q.2 41) (Sum.inr (q.1, nx T q.2)) (Sum.inl q.2)) 0 h11
      rw [sIf_f (sB_eq.mp c11)]
      exact ⟨rfl, y.2.2.1.2.1, y.1, y.2.2.2.2.2, y.2.2.2.1⟩
    · intro x1 h1 _ c1 x8 h8 _ _ _ h9 _ c; exact absurd c1 c
    · intro x1 h1 _ c1 x8 h8 _ _ _ h9 _ c; exact absurd c1 c
    · intro x1 h1 _ c1 x8 h8 _ _ _ h9 _ c; exact absurd c1 c
    · intro x1 h1 _ c1 x8 h8 _ _ _ h9 _ c; exact absurd c1 c
    · intro x1 h1 _ _ x8 h8 _ _ c; exact absurd e6 c
    · rintro x1 h1 - - x8 h8 ⟨-, y⟩ -; exact y.cmp hl
    · rintro x1 h1 - - x8 h8 - - x15 h15 w; exact w.zo
    · rintro x1 h1 ⟨rfl, -⟩ c x8 h8 ⟨rfl, -⟩ c8 x15 h15 w
      rw [sIf_f (sB_eq.mp c), sIf_f (sB_eq.mp c8)]
      exact jint_i w
/-- what the law's reader leaves -/
def cWL (h0 : jH) (T : List Int32) (r : Nat ⊕ List Int32) (x : Int32) (h : jH) : Prop := isTape h T ∧ jfr fRd h0 h ∧ (match r with
  | .inl e => x = nI e ∧ e ≤ T.length
  | .inr p => x = -1 ∧ isLaw h 7 p)
theorem tX2_wrongIn (k : isTape h T) (h4 : T.length ≤ 400) : JM mX2_wrongIn [.ref 6, .ref 1] (jG0 sc) h (jint sc (cWL h T (lText T))) := by
  have ha : rdsC sc (mX2_readAll 58) T 0 (lSeq T 9 (-1) (lItem T 6)) := cAll (sc := sc) (z := 58) (z1 := 57) (by decide) (by decide) (cItem 6 0 57 rfl (by decide)) (gd_item (T := T) 6)
  have hc : rdsC sc (mX2_readCondition 59) T 0 (lCond T (lItem T 6)) := cCondX (z := 59) (z1 := 58) (by decide) (by decide) ha (gd_seq (gd_item 6) (Or.inl rfl))
  refine jM_of rfl (Nat.le_of_ble_eq_true rfl) (by decide +kernel) rfl (rX2_wrongIn_0 (P1 := cs h false T (sSkip T 0) []) (P2 := cL h T [] (lCond T (lItem T 6) (sSkip T 0))) ?_ ?_ ?_ ?_ ?_)
  · have f : jfr fRd h (jput h 7 1 0) := jfr.rf.put rfl
    exact tX8_open (u := false) ⟨(f 1 1 rfl).trans k.1, fun i hi => (f 2 i rfl).trans (k.2 i hi)⟩ h4 ⟨rfl, fun i hi => absurd hi (Nat.not_lt_zero _)⟩ f
  · rintro h1 y; exact hc (Nat.zero_le _) y
  · rintro h1 - x2 h2 w c
    obtain ⟨e', e, w1⟩ := w.l c
    have : lText T = .inl e' := by unfold lText; rw [e]
    rw [this]
    exact jint_i ⟨w1.2.2.1, w1.2.2.2.1, w1.2.1, w1.2.2.2.2⟩
  · rintro h1 - x2 h2 w c c2
    obtain ⟨q, e, w1⟩ := w.r c
    have ne : ¬ T.length ≤ q.2 := fun z => c2 ((w1.2.2.1.kd (m := 0) (by decide)).mpr (tk0 z).1)
    have : lText T = .inl q.2 := by unfold lText; rw [e]; exact sIf_f ne
    rw [this]
    exact jint_i ⟨w1.1, w1.2.2.2.2.2, w1.2.2.1.2.1, w1.2.2.2.1⟩
  · rintro h1 - x2 h2 w c c2
    obtain ⟨q, e, w1⟩ := w.r c
    have ge : T.length ≤ q.2 := by
      have := (w1.2.2.1.kd (m := 0) (by decide)).mp c2
      by_cases c : T.length ≤ q.2
      · exact c
      · exfalso
        by_cases l : isLet (T.getD q.2 0)
        · rw [(tk1 (by omega) l).1] at this; cases this
        · by_cases d : isDig (T.getD q.2 0)
          · rw [(tk2 (by omega) l d).1] at this; cases this
          · rw [(tk3 (by omega) l d).1] at this; cases this
    have : lText T = .inr q.1 := by unfold lText; rw [e]; exact sIf_t ge
    rw [this]
    exact jint_i ⟨w1.1, w1.2.2.2.2.2, rfl, w1.2.2.2.2.1⟩
end LWC
