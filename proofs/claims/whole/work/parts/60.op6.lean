/-! Operation line. -/
section OP6
variable {sc : Nat × (Nat → Int32)} {h : jH} {A : aA} {n : Nat} {p q : List Int32} {rs : List aRun}
noncomputable def sOne (p : List Int32) (m : Int32) : List Int32 := sIf (m = -1) p (sBy p (m.toNatClampNeg, none))
noncomputable def oLine (A : aA) (m l w : Int32) : aO := sIf ((m = -1 ∨ aIx m (sMends (aBody (xS A))).length) ∧ aIx l (aBody (xS A)).length) (sIf (aIx w 6) (0, sFld ((sOne (aBody (xS A)) m).getD l.toNatClampNeg 4) w.toNatClampNeg, A) (2, 0, A)) (1, 0, A)
theorem sOne_N : sOne p (-1) = p := sIf_t rfl
theorem nI_ne1 {d : Nat} (hd : d < 2 ^ 31) : ¬ nI d = -1 := fun e => by have := nI_pos hd; rw [e] at this; exact this (by decide)
theorem sOne_I {d : Nat} (hd : d < 2 ^ 31) : sOne p (nI d) = sBy p (d, none) := by rw [sOne, sIf_f (nI_ne1 hd), nI_clamp hd]
/-- the program as by a mend or as it is: the class -/
theorem tX3_one {b : Nat} {m : Int32} (b_h : jI4 b) (hb : b + 1 < 10 ∨ 11 < b) (hbt : b + 1 < 75 ∨ 81 < b) (hs : sProg p) (hm : isMends h 75 p) (ha : isP h 10 p) (e : m = -1 ∨ aIx m (sMends p).length) :
    JM mX3_shape [.ref 75, .ref 10, .int m, .ref b] (jG0 sc) h (jint sc (fun r h' => isP h' b (sOne p m) ∧ jfr (fShape 75 b) h h')) := by
  have a_h : jI4 10 := by unfold jI4; decide
  have t_h : jI3 75 := by unfold jI3; decide
  have h280 := sMends_280 hs
  rcases e with e | ⟨d, hd, e⟩
  · subst e
    refine jM_int (tX3_shapeN t_h a_h b_h hs hm ha (by omega) (Or.inl (by decide)) (by omega)) (fun x h' y => ?_)
    rw [sOne_N]; exact ⟨y.2.1, y.2.2⟩
  · subst e
    refine jM_int (tX3_shape t_h a_h b_h hs hm ha (by omega) (Or.inl (by decide)) (by omega) (by omega)) (fun x h' y => ?_)
    obtain ⟨-, y2, y3⟩ := y
    rw [sAll_1 hd] at y2
    rw [sOne_I (by omega)]; exact ⟨y2, y3⟩
theorem sOne_ok {m : Int32} (hs : sProg p) (e : m = -1 ∨ aIx m (sMends p).length) : sProg (sOne p m) ∧ (sOne p m).length = p.length := by
  have h280 := sMends_280 hs
  rcases e with e | ⟨d, hd, e⟩
  · subst e; rw [sOne_N]; exact ⟨hs, rfl⟩
  · subst e; rw [sOne_I (by omega)]; exact ⟨sProg_1 hs hd, sBy_len⟩
theorem ccLine {m l w : Int32} (ok : aOk n A) (k : RC h A) : JM mX11_line [.ref 0, .int m, .int l, .int w] (jG0 sc) h (cQ sc eMend (oLine A m l w) h) := by
  have b_h : jI4 89 := by unfold jI4; decide
  have hp : isP h 10 (aBody (xS A)) := k.1.1
  have hs := ok.1.1
  have h10 := hs.1
  have h280 := sMends_280 hs
  have hm : isMends h 75 (aBody (xS A)) := k.2.2.2.2.2
  have e6 : h 75 6 = nI (sMends (aBody (xS A))).length := hm.1.1
  have no : ∀ {Q'}, Q' = cQ sc eMend (oLine A m l w) h → ¬ ((m = -1 ∨ aIx m (sMends (aBody (xS A))).length) ∧ aIx l (aBody (xS A)).length) → Q' (.inr "java/lang/IndexOutOfBoundsException") (jG0 sc) h := fun e q => by
    rw [e, oLine, sIf_f q]; exact cQ_x rfl k (fun _ _ => rfl)
  have main : (m = -1 ∨ aIx m (sMends (aBody (xS A))).length) → WP mX11_line (cQ sc eMend (oLine A m l w) h) 31 [some (.ref 0), some (.int m), some (.int l), some (.int w), none] [] (jG0 sc) h (0, 0) := fun q1 => by
    refine bX11_line_31 (fun c => bX11_line_49 (no rfl (fun q => ((aIx_lt (by omega)).mpr q.2).1 c))) (fun c => bX11_line_35 (fun c2 => ?_) (fun c2 => bX11_line_49 (no rfl (fun q => c2 (by rw [hp.1]; exact ((aIx_lt (by omega)).mpr q.2).2)))))
    have q2 : aIx l (aBody (xS A)).length := (aIx_lt (by omega)).mp ⟨c, by rw [← hp.1]; exact c2⟩
    obtain ⟨hd, er⟩ := aIx_c (by omega) q2
    have fin : ∀ {x : Int32} {h2 : jH} (d : Nat), d < 6 → w = nI d → x = sFld ((sOne (aBody (xS A)) m).getD l.toNatClampNeg 4) d → jfr fCs h h2 → cQ sc eMend (oLine A m l w) h (.inl (some (.int x))) (jG0 sc) h2 := fun d hd e e2 f => by
      rw [oLine, sIf_t ⟨q1, q2⟩, sIf_t ⟨d, hd, e⟩, e, nI_clamp (by omega), e2]; exact cQ_q ok k f
    refine bX11_line_59 (P1 := fun _ h' => isP h' 89 (sOne (aBody (xS A)) m) ∧ jfr fCs h h') (jM_int (tX3_one b_h (Or.inr (by decide)) (Or.inr (by decide)) hs hm hp q1) (fun x h' y => ⟨y.1, y.2.mono rfl⟩))
      (P2 := fun x h' => x = (sOne (aBody (xS A)) m).getD l.toNatClampNeg 4 ∧ jfr fCs h h') (fun x1 h1 z => by
        have := tX4_lineAt (sc := sc) b_h z.1 (i := l.toNatClampNeg) (by omega)
        rw [← er] at this
        exact jM_get this z.2) ?_ ?_ ?_ ?_ ?_ ?_ ?_
    · rintro x1 h1 - x2 h2 z q
      refine bX11_line_164 ?_
      rw [oLine, sIf_t ⟨q1, q2⟩, sIf_f (fun z => by obtain ⟨d, hd, rfl⟩ := z; rw [nI_toInt (by omega)] at q; omega)]
      exact cQ_qx rfl ok k z.2
    · rintro x1 h1 - x2 h2 z q
      refine bX11_line_128 tX11_kindOf ?_
      rintro _ _ ⟨rfl, rfl⟩
      exact fin 0 (by decide) (i_eqI q rfl) (by rw [z.1]; rfl) z.2
    · rintro x1 h1 - x2 h2 z q
      refine bX11_line_134 tX11_madeOf ?_
      rintro _ _ ⟨rfl, rfl⟩
      exact fin 1 (by decide) (i_eqI q rfl) (by rw [z.1]; rfl) z.2
    · rintro x1 h1 - x2 h2 z q
      refine bX11_line_140 tX11_firstOf ?_
      rintro _ _ ⟨rfl, rfl⟩
      exact fin 2 (by decide) (i_eqI q rfl) (by rw [z.1]; rfl) z.2
    · rintro x1 h1 - x2 h2 z q
      refine bX11_line_146 tX11_signOf ?_
      rintro _ _ ⟨rfl, rfl⟩
      exact fin 3 (by decide) (i_eqI q rfl) (by rw [z.1]; rfl) z.2
    · rintro x1 h1 - x2 h2 z q
      refine bX11_line_152 tX11_secondOf ?_
      rintro _ _ ⟨rfl, rfl⟩
      exact fin 4 (by decide) (i_eqI q rfl) (by rw [z.1]; rfl) z.2
    · rintro x1 h1 - x2 h2 z q
      refine bX11_line_158 tX11_countOf ?_
      rintro _ _ ⟨rfl, rfl⟩
      exact fin 5 (by decide) (i_eqI q rfl) (by rw [z.1]; rfl) z.2
  refine jM_of rfl (Nat.le_of_ble_eq_true rfl) (by decide +kernel) rfl (bX11_line_0 (fun c => main (Or.inl c)) (fun c => bX11_line_5 (fun c2 => bX11_line_20 (no rfl (fun q => ?_))) (fun c2 => bX11_line_9 (fun c3 => main (Or.inr ((aIx_lt (by omega)).mp ⟨c2, by rw [← e6]; exact c3⟩))) (fun c3 => bX11_line_20 (no rfl (fun q => ?_))))))
  · rcases q.1 with q | q
    · exact c q
    · exact ((aIx_lt (by omega)).mpr q).1 c2
  · rcases q.1 with q | q
    · exact c q
    · exact c3 (by rw [e6]; exact ((aIx_lt (by omega)).mpr q).2)
theorem mmLine {m l w : Int32} (ok : aOk n A) (k : RM h A) : JM mX12_line [.ref 159, .int m, .int l, .int w] (jG0 sc) h (mQ sc (oLine A m l w) h) := by
  have hp : isMP (h 160) 0 (aBody (xS A)) := k.1.1
  have hs := ok.1.1
  have h10 := hs.1
  have h280 := sMends_280 hs
  have out : ∀ {c : Nat} {h' : jH}, jfr fMs h h' → h' 159 0 = nI (c + 1) → oLine A m l w = (c + 1, 0, A) → WP mX12_line (mQ sc (oLine A m l w) h) 71 [some (.ref 159), some (.int m), some (.int l), some (.int w)] [] (jG0 sc) h' (0, 0) := fun f f0 o => by
    refine bX12_line_71 ?_
    rw [o]
    exact mQ_qx k f f0
  -- what was listed stands
  have last : ∀ {h1 : jH}, isML h1 (aBody (xS A)) → jfr fMs h h1 → h1 159 0 = 0 → (m = -1 ∨ aIx m (sMends (aBody (xS A))).length) → aIx l (aBody (xS A)).length → aIx w 6 → WP mX12_line (mQ sc (oLine A m l w) h) 73 [some (.ref 159), some (.int m), some (.int l), some (.int w)] [] (jG0 sc) h1 (0, 0) := fun {h1} ll f f0 q1 q2 q3 => by
    have fin : ∀ {h2 : jH}, isMP (h2 167) 0 (sOne (aBody (xS A)) m) → jfr fMs h h2 → h2 159 0 = 0 → WP mX12_line (mQ sc (oLine A m l w) h) 86 [some (.ref 159), some (.int m), some (.int l), some (.int w)] [] (jG0 sc) h2 (0, 0) := fun {h2} z1 z2 z3 => by
      have e : oLine A m l w = (0, sFld ((sOne (aBody (xS A)) m).getD l.toNatClampNeg 4) w.toNatClampNeg, A) := by rw [oLine, sIf_t ⟨q1, q2⟩, sIf_t q3]
      rw [e]
      obtain ⟨d, hd, rfl⟩ := q2
      obtain ⟨v, hv, rfl⟩ := q3
      have ei : (1 : Int32) + 6 * nI d + nI v = nI (0 + 1 + 6 * d + v) := by rw [show (1 : Int32) = nI 1 from rfl, show (6 : Int32) = nI 6 from rfl, pk_mul, nI_add, nI_add, Nat.zero_add]
      refine bX12_line_86 (by rw [ei]; exact vp_in_nI (by omega) (by decide)) ?_
      rw [ei, nI_clamp (by omega), nI_clamp (by omega), nI_clamp (by omega), z1.2.2 d (by rw [(sOne_ok hs q1).2]; exact hd) v hv]
      exact mQ_q k z2 z3
    refine bX12_line_73 (P1 := fun h' => isMP (h' 167) 0 (aBody (xS A)) ∧ isML h' (aBody (xS A)) ∧ jfr fMs h h' ∧ h' 159 0 = 0) (jM_void (tX12_plain ll.1) (fun h' z => ⟨z.1, ll.fr z.2 rfl (fun _ => rfl) (fun _ => rfl) (fun _ => rfl) (fun _ => rfl), f.tr2 (z.2.mono rfl), (z.2 159 0 rfl).trans f0⟩)) (fun h2 z c => ?_) (fun h2 z c => ?_)
    · have e : m = -1 := by
        rcases q1 with e | e
        · exact e
        · exact absurd c ((aIx_lt (by omega)).mpr e).1
      exact fin (by rw [e, sOne_N]; exact z.1) z.2.2.1 z.2.2.2
    · have e : aIx m (sMends (aBody (xS A))).length := by
        rcases q1 with e | e
        · subst e; exact absurd (by decide) c
        · exact e
      obtain ⟨d, hd, e2⟩ := e
      have e3 : sOne (aBody (xS A)) m = sChange (aBody (xS A)) ((sMends (aBody (xS A))).getD d sMd0) (aBody (xS A)) := by rw [e2, sOne_I (by omega)]; rfl
      refine bX12_line_81 (P1 := fun h' => isMP (h' 167) 0 (sOne (aBody (xS A)) m) ∧ jfr fMs h h' ∧ h' 159 0 = 0) (by
        rw [e3, e2]
        exact jM_void (tX12_mendsBy z.2.1.1 hs z.2.1.2 z.1 rfl hd) (fun h' y => ⟨y.1, z.2.2.1.tr2 (y.2.mono rfl), (y.2 159 0 rfl).trans z.2.2.2⟩)) (fun h3 y => fin y.1 y.2.1 y.2.2)
  have bad : ∀ {h1 : jH}, jfr fMs h h1 → ¬ ((m = -1 ∨ aIx m (sMends (aBody (xS A))).length) ∧ aIx l (aBody (xS A)).length) → WP mX12_line (mQ sc (oLine A m l w) h) 37 [some (.ref 159), some (.int m), some (.int l), some (.int w)] [.ref 159] (jG0 sc) h1 (0, 0) := fun {h1} f q => by
    refine bX12_line_37 (bX12_line_42 tX12_throws1 ?_ ?_)
    · rintro _ _ ⟨rfl, rfl⟩ -
      exact out (c := 0) (f.put rfl) (by simp [jput]; rfl) (by rw [oLine, sIf_f q])
    · rintro _ _ ⟨rfl, -⟩ c; exact absurd c (by decide)
  have two : ∀ {h1 : jH}, isML h1 (aBody (xS A)) → jfr fMs h h1 → h1 159 0 = 0 → (m = -1 ∨ aIx m (sMends (aBody (xS A))).length) → WP mX12_line (mQ sc (oLine A m l w) h) 23 [some (.ref 159), some (.int m), some (.int l), some (.int w)] [.ref 159] (jG0 sc) h1 (0, 0) := fun {h1} ll f f0 q1 => by
    have e0 : h1 160 0 = nI (aBody (xS A)).length := by rw [f.cell (k := 160) (fun _ => rfl)]; exact hp.1
    refine bX12_line_23 tX12_lines (fun _ _ q => by rw [← q.2, q.1, e0]; exact tX12_in) ?_ ?_
    · rintro _ _ - _ _ ⟨rfl, rfl⟩ c
      rw [sB_ne, aIx_in (by omega)] at c
      refine bX12_line_41 (bX12_line_42 tX12_throws0 ?_ ?_)
      · rintro _ _ ⟨rfl, -⟩ c; exact absurd rfl c
      · rintro _ _ ⟨rfl, rfl⟩ -
        refine bX12_line_49 tX12_in ?_ ?_
        · rintro _ _ ⟨rfl, rfl⟩ c2
          rw [sB_ne] at c2
          refine bX12_line_63 (bX12_line_64 tX12_throws0 ?_ ?_)
          · rintro _ _ ⟨rfl, rfl⟩ -
            exact last ll f f0 q1 c ((aIx_le1 (n := 5) (by omega)).mp ⟨c2.1, i_nlt.mp c2.2⟩)
          · rintro _ _ ⟨rfl, -⟩ c; exact absurd rfl c
        · rintro _ _ ⟨rfl, rfl⟩ c2
          rw [sB_eq] at c2
          refine bX12_line_59 (bX12_line_64 tX12_throws1 ?_ ?_)
          · rintro _ _ ⟨rfl, -⟩ c; exact absurd c (by decide)
          · rintro _ _ ⟨rfl, rfl⟩ -
            exact out (c := 1) (f.put rfl) (by simp [jput]; rfl) (by rw [oLine, sIf_t ⟨q1, c⟩, sIf_f (fun q => c2 (by have := (aIx_le1 (n := 5) (by omega)).mpr q; exact ⟨this.1, i_nlt.mpr this.2⟩))])
    · rintro _ _ - _ _ ⟨rfl, rfl⟩ c
      rw [sB_eq, aIx_in (by omega)] at c
      exact bad f (fun q => c q.2)
  refine jM_of rfl (Nat.le_of_ble_eq_true rfl) (by decide +kernel) rfl (bX12_line_0 (P1 := fun h' => isML h' (aBody (xS A)) ∧ jfr fMs h h' ∧ h' 159 0 = 0) (jM_void (tX12_listed hp hs) (fun h' z => ⟨z.1, (jfr.rf.put rfl).tr z.2 (A := ([], [(159, 0, 0)])) rfl rfl, (z.2 159 0 rfl).trans rfl⟩))
    (fun h1 z c => two z.1 z.2.1 z.2.2 (Or.inl c)) (fun h1 z c => bX12_line_15 (tX12_noMend (by omega) z.1.2.1) ?_ ?_))
  · rintro _ _ ⟨rfl, rfl⟩ c2
    rw [sB_ne] at c2
    exact bad z.2.1 (fun q => by rcases q.1 with q | q; exact c q; exact c2 q)
  · rintro _ _ ⟨rfl, rfl⟩ c2
    exact two z.1 z.2.1 z.2.2 (Or.inr (sB_not.mp c2))
end OP6
