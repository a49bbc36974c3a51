/-! Operations: look, done. -/
section OP3
variable {sc : Nat × (Nat → Int32)} {h : jH} {A : aA} {n : Nat} {p : List Int32} {rs : List aRun}
/-- what is told of a run -/
noncomputable def sTold (p : List Int32) (r : aRun) (w : Int32) : Int32 := sIf (w = 0) r.1 (sIf (w = 1) r.2.1 (sIf (w = 2) r.2.2 (sIf (w = 3) (sEnd p r.1 r.2.1) (sIf (w = 4) (sB (sIsRight p r)) (sIf (w = 5) (sMany p r.1 r.2.1) (sSlice p r.1 r.2.1))))))
noncomputable def oLook (A : aA) (run w : Int32) : aO := sIf (aIx run (aRuns (xS A)).length) (sIf (aBody (xS A) = []) (2, 0, A) (sIf (aIx w 7) (0, sTold (aBody (xS A)) ((aRuns (xS A)).getD run.toNatClampNeg aRun0) w, A) (3, 0, A))) (1, 0, A)
theorem aIx_c {a : Int32} {m : Nat} (hm : m < 2 ^ 31) (k : aIx a m) : a.toNatClampNeg < m ∧ a = nI a.toNatClampNeg := by
  obtain ⟨d, hd, rfl⟩ := k
  rw [nI_clamp (by omega)]
  exact ⟨hd, rfl⟩
abbrev eLook : List String := ["java/lang/IndexOutOfBoundsException", "java/lang/IllegalStateException", "java/util/NoSuchElementException"]
theorem isRuns.atI {t : Nat} {a : Int32} (k : isRuns h t rs) (ha : aIx a rs.length) (h12 : rs.length ≤ 12) : h (t + 1) a.toNatClampNeg = (rs.getD a.toNatClampNeg aRun0).1 ∧ h (t + 2) a.toNatClampNeg = (rs.getD a.toNatClampNeg aRun0).2.1 ∧ h (t + 3) a.toNatClampNeg = (rs.getD a.toNatClampNeg aRun0).2.2 := k.2 _ (aIx_c (by omega) ha).1
theorem i_eqI {w : Int32} {d : Int} {x : Int32} (e : w.toInt = d) (hx : x.toInt = d) : w = x := by rw [toInt_eq_iff, e, hx]
theorem ccLook {r w : Int32} (ok : aOk n A) (k : RC h A) : JM mX11_look [.ref 0, .int r, .int w] (jG0 sc) h (cQ sc eLook (oLook A r w) h) := by
  have a_h : jI4 10 := by unfold jI4; decide
  have h12 := ok.1.2.2.1.1
  have hr : isRuns h 14 (aRuns (xS A)) := k.1.2.2.1
  have hp : isP h 10 (aBody (xS A)) := k.1.1
  have no : ¬ aIx r (aRuns (xS A)).length → cQ sc eLook (oLook A r w) h (.inr "java/lang/IndexOutOfBoundsException") (jG0 sc) h := fun q => by
    rw [oLook, sIf_f q]; exact cQ_x rfl k (fun _ _ => rfl)
  have yes : ¬ r < 0 → ¬ h 14 3 ≤ r → aIx r (aRuns (xS A)).length := fun a b => (aIx_le (by omega)).mp ⟨a, by rw [← hr.1]; exact b⟩
  have vi : ¬ r < 0 → ¬ h 14 3 ≤ r → vp_in r 12 := fun a b => by obtain ⟨d, hd, rfl⟩ := yes a b; exact vp_in_nI (by omega) (by decide)
  have leaf : ∀ {v : Int32} {x1 : Int32} {h2 : jH}, ¬ r < 0 → ¬ h 14 3 ≤ r → ¬ sB (aBody (xS A) ≠ []) = 0 → wEnd (aBody (xS A)) ((aRuns (xS A)).getD r.toNatClampNeg aRun0).1 ((aRuns (xS A)).getD r.toNatClampNeg aRun0).2.1 h x1 h2 → aIx w 7 → (aIx r (aRuns (xS A)).length → v = sTold (aBody (xS A)) ((aRuns (xS A)).getD r.toNatClampNeg aRun0) w) → cQ sc eLook (oLook A r w) h (.inl (some (.int v))) (jG0 sc) h2 := fun a b c z q e => by
    rw [sB_ne] at c
    rw [oLook, sIf_t (yes a b), sIf_f c, sIf_t q, e (yes a b)]
    exact cQ_q ok k (fWalk_Cs z.2.2.2.2)
  have at2 : ∀ {x1 : Int32} {h2 : jH}, ¬ r < 0 → ¬ h 14 3 ≤ r → wEnd (aBody (xS A)) ((aRuns (xS A)).getD r.toNatClampNeg aRun0).1 ((aRuns (xS A)).getD r.toNatClampNeg aRun0).2.1 h x1 h2 → h2 15 r.toNatClampNeg = ((aRuns (xS A)).getD r.toNatClampNeg aRun0).1 ∧ h2 16 r.toNatClampNeg = ((aRuns (xS A)).getD r.toNatClampNeg aRun0).2.1 ∧ h2 17 r.toNatClampNeg = ((aRuns (xS A)).getD r.toNatClampNeg aRun0).2.2 := fun a b z => (hr.walk z.2.2.2.2).atI (yes a b) h12
  refine jM_of rfl (Nat.le_of_ble_eq_true rfl) (by decide +kernel) rfl (rX11_look_0 (fun c => no (fun q => ((aIx_lt (by omega)).mpr q).1 c)) (fun _ c => no (fun q => ((aIx_le (by omega)).mpr q).2 (by rw [← hr.1]; exact c))) (fun _ _ _ => tX11_hasBody hp) ?_
    (P2 := wEnd (aBody (xS A)) ((aRuns (xS A)).getD r.toNatClampNeg aRun0).1 ((aRuns (xS A)).getD r.toNatClampNeg aRun0).2.1 h) ?_ ?_ ?_ ?_ ?_ ?_ ?_ ?_ ?_ ?_ ?_ ?_ ?_ ?_ ?_ (fun a b c => absurd (show r < 12 by
      obtain ⟨d, hd, rfl⟩ := yes a b
      exact (jn_lt (b := 12) (by omega) (by decide)).mpr (by omega)) c))
  · rintro a b - _ _ - -; exact vi a b
  · rintro a b - _ _ ⟨-, rfl⟩ -
    have := hr.atI (yes a b) h12
    rw [show h 15 r.toNatClampNeg = _ from this.1, show h 16 r.toNatClampNeg = _ from this.2.1]
    exact tX10_end a_h (Or.inl (by decide)) hp ok.1.1 k.2.2.2.2.1
  · rintro a b - _ _ ⟨rfl, rfl⟩ c x2 h2 z q
    rw [sB_ne] at c
    rw [oLook, sIf_t (yes a b), sIf_f c, sIf_f (fun z => by obtain ⟨d, hd, rfl⟩ := z; rw [nI_toInt (by omega)] at q; omega)]
    exact cQ_qx rfl ok k (fWalk_Cs z.2.2.2.2)
  all_goals first
    | (rintro a b - _ _ - - _ _ - -; exact vi a b)
    | skip
  · rintro a b - _ _ ⟨rfl, rfl⟩ c x2 h2 z q
    have q := i_eqI (x := 0) q rfl; subst q
    exact leaf a b c z ⟨0, by decide, rfl⟩ (fun _ => by rw [(at2 a b z).1, sTold, sIf_t rfl])
  · rintro a b - _ _ ⟨rfl, rfl⟩ c x2 h2 z q
    have q := i_eqI (x := 1) q rfl; subst q
    exact leaf a b c z ⟨1, by decide, rfl⟩ (fun _ => by rw [(at2 a b z).2.1, sTold, sIf_f (by decide), sIf_t rfl])
  · rintro a b - _ _ ⟨rfl, rfl⟩ c x2 h2 z q
    have q := i_eqI (x := 2) q rfl; subst q
    exact leaf a b c z ⟨2, by decide, rfl⟩ (fun _ => by rw [(at2 a b z).2.2, sTold, sIf_f (by decide), sIf_f (by decide), sIf_t rfl])
  · rintro a b - _ _ ⟨rfl, rfl⟩ c x2 h2 z q
    have q := i_eqI (x := 3) q rfl; subst q
    exact leaf a b c z ⟨3, by decide, rfl⟩ (fun _ => by rw [z.1, sTold, sIf_f (by decide), sIf_f (by decide), sIf_f (by decide), sIf_t rfl])
  · rintro a b - _ _ ⟨rfl, rfl⟩ c x2 h2 z q g
    have q := i_eqI (x := 4) q rfl; subst q
    refine leaf a b c z ⟨4, by decide, rfl⟩ (fun _ => ?_)
    rw [(at2 a b z).2.2, z.1] at g
    rw [sTold, sIf_f (by decide), sIf_f (by decide), sIf_f (by decide), sIf_f (by decide), sIf_t rfl]; exact (sB_f (c := sIsRight _ _) g).symm
  · rintro a b - _ _ ⟨rfl, rfl⟩ c x2 h2 z q g
    have q := i_eqI (x := 4) q rfl; subst q
    refine leaf a b c z ⟨4, by decide, rfl⟩ (fun _ => ?_)
    rw [(at2 a b z).2.2, z.1] at g
    rw [sTold, sIf_f (by decide), sIf_f (by decide), sIf_f (by decide), sIf_f (by decide), sIf_t rfl]; exact (sB_t (c := sIsRight _ _) g).symm
  · rintro a b - _ _ ⟨rfl, rfl⟩ c x2 h2 z q
    have q := i_eqI (x := 5) q rfl; subst q
    exact leaf a b c z ⟨5, by decide, rfl⟩ (fun _ => by rw [z.2.2.1, sTold, sIf_f (by decide), sIf_f (by decide), sIf_f (by decide), sIf_f (by decide), sIf_f (by decide), sIf_t rfl])
  · rintro a b - _ _ ⟨rfl, rfl⟩ c x2 h2 z q
    have q := i_eqI (x := 6) q rfl; subst q
    exact leaf a b c z ⟨6, by decide, rfl⟩ (fun _ => by rw [z.2.2.2.1, sTold, sIf_f (by decide), sIf_f (by decide), sIf_f (by decide), sIf_f (by decide), sIf_f (by decide), sIf_f (by decide)])
  · rintro a b - _ _ ⟨rfl, rfl⟩ c
    rw [sB_eq, Classical.not_not] at c
    rw [oLook, sIf_t (yes a b), sIf_t c]
    exact cQ_qx rfl ok k jfr.rf
theorem throws_go {c : Prop} {x : Int32} {h0 h1 h' : jH} {kk : Int32} (q : (¬ c ∧ x = 0 ∧ h' = h1) ∨ (c ∧ x = 1 ∧ h' = jput h1 159 0 kk)) : (x = 0 → ¬ c ∧ h' = h1) ∧ (¬ x = 0 → c ∧ h' = jput h1 159 0 kk) := by
  rcases q with ⟨a, b, c⟩ | ⟨a, b, c⟩
  · exact ⟨fun _ => ⟨a, c⟩, fun z => absurd b z⟩
  · exact ⟨fun z => absurd (b.symm.trans z) (by decide), fun _ => ⟨a, c⟩⟩
theorem mmLook {r w : Int32} (ok : aOk n A) (k : RM h A) : JM mX12_look [.ref 159, .int r, .int w] (jG0 sc) h (mQ sc (oLook A r w) h) := by
  have h12 := ok.1.2.2.1.1
  have hr : isMRuns (h 160) (aRuns (xS A)) := k.1.2.2.1
  have hp : isMP (h 160) 0 (aBody (xS A)) := k.1.1
  have out : ∀ {c : Nat} {h' : jH}, h' = jput (jput h 159 0 0) 159 0 (nI (c + 1)) → oLook A r w = (c + 1, 0, A) → WP mX12_look (mQ sc (oLook A r w) h) 61 [some (.ref 159), some (.int r), some (.int w), none] [] (jG0 sc) h' (0, 0) := fun e o => by
    subst e
    refine bX12_look_61 ?_
    rw [o]
    exact mQ_qx k ((jfr.rf.put rfl).put rfl) (by simp [jput])
  have go : ∀ {v : Int32} {z : Option Value} {h' : jH}, aIx r (aRuns (xS A)).length → ¬ aBody (xS A) = [] → aIx w 7 → v = sTold (aBody (xS A)) ((aRuns (xS A)).getD r.toNatClampNeg aRun0) w → jfr fMs h h' → h' 159 0 = 0 → mQ sc (oLook A r w) h (.inl (some (.int v))) (jG0 sc) h' := fun q1 q2 q3 e f f0 => by
    rw [oLook, sIf_t q1, sIf_f q2, sIf_t q3, e]
    exact mQ_q k f f0
  have last : aIx r (aRuns (xS A)).length → ¬ aBody (xS A) = [] → aIx w 7 → WP mX12_look (mQ sc (oLook A r w) h) 63 [some (.ref 159), some (.int r), some (.int w), none] [] (jG0 sc) (jput h 159 0 0) (0, 0) := fun q1 q2 q3 => by
    obtain ⟨hd, er⟩ := aIx_c (by omega) q1
    generalize hdd : r.toNatClampNeg = d at *
    subst er
    obtain ⟨g0, g1, g2⟩ := mr_ix (i := d) (by omega)
    obtain ⟨w0, w1, w2⟩ := hr.2 d hd
    refine bX12_look_63 (fun c => ?_) (fun c => ?_)
    · refine bX12_look_82 (P1 := fun h' => isMP (h' 167) 0 (aBody (xS A)) ∧ jfr fMs h h' ∧ h' 159 0 = 0) (jM_void (tX12_lays (fr := 0) (by decide) hp) (fun h' z => ⟨z.1, (jfr.rf.put rfl).tr z.2 (A := ([], [(159, 0, 0)])) rfl rfl, (z.2 159 0 rfl).trans rfl⟩)) (P2 := fun x h' => x = sEnd (aBody (xS A)) ((aRuns (xS A)).getD d aRun0).1 ((aRuns (xS A)).getD d aRun0).2.1 ∧ h' 159 20 = sMany (aBody (xS A)) ((aRuns (xS A)).getD d aRun0).1 ((aRuns (xS A)).getD d aRun0).2.1 ∧ h' 159 21 = sSlice (aBody (xS A)) ((aRuns (xS A)).getD d aRun0).1 ((aRuns (xS A)).getD d aRun0).2.1 ∧ jfr fMs h h' ∧ h' 159 0 = 0)
        (fun h1 z => jM_int (tX12_endOn z.1 ok.1.1 (by rw [z.2.1.cell (k := 160) (fun _ => rfl)]; exact hr) h12 hd) (fun x h' y => ⟨y.1, y.2.2.1, y.2.2.2.1, z.2.1.tr y.2.2.2.2 rfl rfl, (y.2.2.2.2 159 0 rfl).trans z.2.2⟩)) ?_ ?_
      · rintro h1 - x2 h2 ⟨z1, z2, z3, z4, z5⟩ c3
        refine bX12_look_102 (fun c4 => ?_) (fun c4 => ?_)
        · refine bX12_look_132 (fun c5 => ?_) (fun c5 => ?_)
          · refine bX12_look_144 (bX12_look_148 (go (z := none) q1 q2 q3 ?_ z4 z5))
            rw [z3, sTold, sIf_f, sIf_f, sIf_f, sIf_f c3, sIf_f c4, sIf_f c5]
            all_goals (intro e; subst e; exact absurd c (by decide))
          · subst c5
            refine bX12_look_137 (bX12_look_148 (go (z := none) q1 q2 q3 ?_ z4 z5))
            rw [z2, sTold, sIf_f (by decide), sIf_f (by decide), sIf_f (by decide), sIf_f (by decide), sIf_f (by decide), sIf_t rfl]
        · subst c4
          have e160 : h2 160 = h 160 := z4.cell (fun _ => rfl)
          refine bX12_look_107 (by rw [g0, g2]; exact vp_in_nI (by omega) (by decide)) (fun c5 => ?_) (fun c5 => ?_)
          · rw [g0, g2, nI_clamp (by omega), e160, z1, w2] at c5
            refine bX12_look_128 (bX12_look_148 (go (z := none) q1 q2 q3 ?_ z4 z5))
            rw [sTold, sIf_f (by decide), sIf_f (by decide), sIf_f (by decide), sIf_f (by decide), sIf_t rfl]; exact (sB_f (c := sIsRight _ _) c5).symm
          · rw [g0, g2, nI_clamp (by omega), e160, z1, w2] at c5
            refine bX12_look_124 (bX12_look_148 (go (z := none) q1 q2 q3 ?_ z4 z5))
            rw [sTold, sIf_f (by decide), sIf_f (by decide), sIf_f (by decide), sIf_f (by decide), sIf_t rfl]; exact (sB_t (c := sIsRight _ _) c5).symm
      · rintro h1 - x2 h2 ⟨z1, z2, z3, z4, z5⟩ c3
        subst c3
        refine bX12_look_98 (bX12_look_148 (go (z := none) q1 q2 q3 ?_ z4 z5))
        rw [z1, sTold, sIf_f (by decide), sIf_f (by decide), sIf_f (by decide), sIf_t rfl]
    · obtain ⟨e, he, rfl⟩ := q3
      have he3 : e < 3 := by rw [i_nle] at c; exact (jn_lt (b := 3) (by omega) (by decide)).mp c
      refine bX12_look_68 (by rw [g0, nI_add]; exact vp_in_nI (by omega) (by decide)) ?_
      rw [g0, nI_add, nI_clamp (by omega)]
      refine go (z := none) q1 q2 ⟨e, he, rfl⟩ ?_ (jfr.rf.put rfl) rfl
      show h 160 (123 + 3 * d + e) = _
      match e, he3 with
      | 0, _ => rw [sTold, sIf_t (show nI 0 = 0 from rfl)]; exact w0
      | 1, _ => rw [sTold, sIf_f (show ¬ nI 1 = 0 by decide), sIf_t (show nI 1 = 1 from rfl)]; exact w1
      | 2, _ => rw [sTold, sIf_f (show ¬ nI 2 = 0 by decide), sIf_f (show ¬ nI 2 = 1 by decide), sIf_t (show nI 2 = 2 from rfl)]; exact w2
  refine jM_of rfl (Nat.le_of_ble_eq_true rfl) (by decide +kernel) rfl (bX12_look_0 (tX12_noRun hr h12) (fun _ _ q => by rw [← q.2, q.1]; exact tX12_throwsIf rfl) ?_ ?_)
  · rintro _ _ ⟨rfl, rfl⟩ _ _ q c
    have q := (throws_go (h0 := h) q).2 c
    exact out (c := 0) q.2 (by rw [oLook, sIf_f q.1])
  · rintro _ _ ⟨rfl, rfl⟩ _ _ q c
    have q := (throws_go (h0 := h) q).1 c
    have q1 := Classical.not_not.mp q.1
    rw [q.2]
    have three : ∀ hq : ¬ aBody (xS A) = [], WP mX12_look (mQ sc (oLook A r w) h) 38 [some (.ref 159), some (.int r), some (.int w), none] [] (jG0 sc) (jput h 159 0 0) (0, 0) := fun q2 => by
      refine bX12_look_38 tX12_in ?_ ?_
      · rintro _ _ ⟨rfl, rfl⟩ c
        rw [sB_ne] at c
        have q3 : aIx w 7 := (aIx_le1 (n := 6) (by omega)).mp ⟨c.1, i_nlt.mp c.2⟩
        refine bX12_look_53 (bX12_look_54 tX12_throws0 ?_ ?_)
        · rintro _ _ ⟨rfl, rfl⟩ -; exact last q1 q2 q3
        · rintro _ _ ⟨rfl, -⟩ c; exact absurd rfl c
      · rintro _ _ ⟨rfl, rfl⟩ c
        rw [sB_eq] at c
        refine bX12_look_49 (bX12_look_54 tX12_throws1 ?_ ?_)
        · rintro _ _ ⟨rfl, -⟩ c; exact absurd c (by decide)
        · rintro _ _ ⟨rfl, rfl⟩ -
          exact out (c := 2) rfl (by rw [oLook, sIf_t q1, sIf_f q2, sIf_f (fun q => c (by have := (aIx_le1 (n := 6) (by omega)).mpr q; exact ⟨this.1, i_nlt.mpr this.2⟩))])
    refine bX12_look_18 tX12_lines ?_ ?_
    · rintro _ _ ⟨rfl, rfl⟩ c
      have c' : ¬ aBody (xS A) = [] := by rw [← hp.nil]; exact c
      refine bX12_look_30 (bX12_look_31 tX12_throws0 ?_ ?_)
      · rintro _ _ ⟨rfl, -⟩ c; exact absurd rfl c
      · rintro _ _ ⟨rfl, rfl⟩ -; exact three c'
    · rintro _ _ ⟨rfl, rfl⟩ c
      have c' : aBody (xS A) = [] := by rw [← hp.nil]; exact c
      refine bX12_look_26 (bX12_look_31 tX12_throws1 ?_ ?_)
      · rintro _ _ ⟨rfl, rfl⟩ -
        exact out (c := 1) rfl (by rw [oLook, sIf_t q1, sIf_t c'])
      · rintro _ _ ⟨rfl, -⟩ c; exact absurd c (by decide)
end OP3
