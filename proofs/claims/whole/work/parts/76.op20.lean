/-! Operation otherwise: the reference. -/
section OP20
variable {sc : Nat × (Nat → Int32)} {h : jH} {A : aA} {n : Nat} {p q : List Int32} {rs : List aRun} {T : aT}
abbrev fBoxM : jF := ([(167, 169)], [(159, 19, 21)])
theorem isML.box {h' : jH} (k : isML h p) (f : jfr fBoxM h h') : isML h' p := k.fr f rfl (fun _ => rfl) (fun _ => rfl) (fun _ => rfl) (fun _ => rfl)
theorem ge0_iff {i : Int32} {m : Nat} (hm : m < 2 ^ 31) (q : i = -1 ∨ aIx i m) : (0 ≤ i ↔ aIx i m) ∧ (¬ 0 ≤ i ↔ i = -1) := by
  rcases q with e | e
  · subst e
    have nk : ¬ aIx (-1) m := fun q => by obtain ⟨d, hd, e⟩ := q; exact nI_ne1 (by omega) e.symm
    exact ⟨⟨fun c => absurd c (by decide), fun c => absurd c nk⟩, ⟨fun _ => rfl, fun _ => by decide⟩⟩
  · obtain ⟨d, hd, rfl⟩ := e
    have h0 : (0 : Int32) ≤ nI d := nI_le (a := 0) (by omega) (by omega)
    exact ⟨⟨fun _ => ⟨d, hd, rfl⟩, fun _ => h0⟩, ⟨fun c => absurd h0 c, fun c => absurd c (nI_ne1 (by omega))⟩⟩
theorem mmOtherwise {i : Int32} (ok : aOk n A) (k : RM h A) : JM mX12_otherwise [.ref 159, .int i] (jG0 sc) h (mQ sc (oOtherwise A i) h) := by
  have h15 : aBox (xS A) ≤ 15 := ok.1.2.2.2.2.2.2.2
  have h30 : (aKept A).length ≤ 30 := ok.1.2.2.2.2.1.1
  have hp : isMP (h 160) 0 (aBody (xS A)) := k.1.1
  have hq : isMP (h 160) 61 (aSecond (xS A)) := k.1.2.1
  have hT : isMTries (h 160) (aBody (xS A)) (aTr (xS A)) := k.1.2.2.2.2.1
  have eB : h 160 285 = nI (aBox (xS A)) := k.1.2.2.2.2.2.2.2
  have hs := ok.1.1
  have out : ∀ {e : Nat} {h' : jH}, jfr fMs h h' → h' 159 0 = nI (e + 1) → oOtherwise A i = (e + 1, 0, A) → WP mX12_otherwise (mQ sc (oOtherwise A i) h) 61 [some (.ref 159), some (.int i), none, none, none, none] [] (jG0 sc) h' (0, 0) := fun f f0 o => by
    refine bX12_otherwise_61 ?_
    rw [o]
    exact mQ_qx k f f0
  have f0 : jfr fMs h (jput h 159 0 0) := jfr.rf.put rfl
  have last : (i = -1 ∨ aIx i (aKept A).length) → ¬ (aBody (xS A) = [] ∨ aSecond (xS A) = []) → WP mX12_otherwise (mQ sc (oOtherwise A i) h) 63 [some (.ref 159), some (.int i), none, none, none, none] [] (jG0 sc) (jput h 159 0 0) (0, 0) := fun q1 q2 => by
    have g0 := ge0_iff (m := (aKept A).length) (by omega) q1
    rw [oOtherwise, sIf_t q1, sIf_f q2]
    refine bX12_otherwise_63 (P1 := fun h' => isML h' (aBody (xS A)) ∧ jfr fMs h h' ∧ h' 159 0 = 0) (jM_void (tX12_listed hp hs) (fun h' z => ⟨z.1, f0.tr2 (z.2.mono rfl), (z.2 159 0 rfl).trans rfl⟩)) ?_
    rintro h0 ⟨l0, fL, z0⟩
    have e160 : ∀ {h1 : jH}, jfr fBoxM h0 h1 → h1 160 = h 160 := fun f => (f.cell (fun _ => rfl)).trans (fL.cell (fun _ => rfl))
    have e85 : ∀ {h1 : jH}, jfr fBoxM h0 h1 → h1 160 285 = nI (aBox (xS A)) := fun f => by rw [e160 f]; exact eB
    refine jloop2 (fun x (h1 : jH) (v : Int32) => WP mX12_otherwise _ 71 [some (.ref 159), some (.int i), some (.int v), some (.int (nI x)), none, none] [] (jG0 sc) h1 (0, 0))
      (fun x h1 v => v = sUnlike (sKeptP A i) (aSecond (xS A)) (aBox (xS A)) x ∧ jfr fBoxM h0 h1) (aBox (xS A) + 1) ?_ ?_ 0 h0 0 (by omega) ⟨rfl, jfr.rf⟩
    · rintro h1 v ⟨i1, i2⟩
      refine bX12_otherwise_71 (fun _ => bX12_otherwise_162 ?_) (fun c => absurd (by rw [e85 i2, jn_lt (by omega) (by omega)]; omega) c)
      rw [i1]
      exact mQ_q k (fL.tr2 (i2.mono rfl)) ((i2 159 0 rfl).trans z0)
    · rintro x h1 v hx ⟨i1, i2⟩ kk
      have nlx : ¬ h1 160 285 < nI x := by rw [e85 i2, jn_lt (by omega) (by omega)]; omega
      refine bX12_otherwise_71 (fun c => absurd c nlx) (fun _ => bX12_otherwise_83 ?_)
      refine jloop2 (fun y (h2 : jH) (v : Int32) => WP mX12_otherwise _ 86 [some (.ref 159), some (.int i), some (.int v), some (.int (nI x)), some (.int (nI y)), none] [] (jG0 sc) h2 (0, 0))
        (fun y h2 v => v = sUnlike (sKeptP A i) (aSecond (xS A)) (aBox (xS A)) x + sTot (fun y => sB (sRowN (sKeptP A i) (aSecond (xS A)) x y)) y ∧ jfr fBoxM h0 h2) (aBox (xS A) + 1) ?_ ?_ 0 h1 v (by omega) ⟨by rw [i1]; exact (Int32.add_zero _).symm, i2⟩
      · rintro h2 v2 ⟨j1, j2⟩
        have lt : h2 160 285 < nI (aBox (xS A) + 1) := by rw [e85 j2, jn_lt (by omega) (by omega)]; omega
        refine bX12_otherwise_86 (fun _ => bX12_otherwise_156 ?_) (fun c => absurd lt c)
        rw [← nI_succ]
        exact kk h2 v2 ⟨j1, j2⟩
      · rintro y h2 v2 hy ⟨j1, j2⟩ kk2
        have nlt : ¬ h2 160 285 < nI y := by rw [e85 j2, jn_lt (by omega) (by omega)]; omega
        have fin : ∀ (h3 : jH), isMP (h3 167) 0 (sKeptP A i) → jfr fBoxM h0 h3 → WP mX12_otherwise (mQ sc ((0, sUnlike (sKeptP A i) (aSecond (xS A)) (aBox (xS A)) (aBox (xS A) + 1), A) : aO) h) 130 [some (.ref 159), some (.int i), some (.int v2), some (.int (nI x)), some (.int (nI y)), some (.int (sEnd (aSecond (xS A)) (nI x) (nI y)))] [] (jG0 sc) h3 (0, 0) := fun h3 p3 f3 => by
          refine bX12_otherwise_130 (P1 := fun r h' => r = sEnd (sKeptP A i) (nI x) (nI y) ∧ jfr fBoxM h0 h') (jM_int (tX12_endAt p3 (sKeptP_ok ok)) (fun r h' z => ⟨z.1, f3.tr2 (z.2.2.2.2.mono rfl)⟩)) (fun r h4 z c => bX12_otherwise_147 (bX12_otherwise_148 ?_)) (fun r h4 z c => bX12_otherwise_143 (bX12_otherwise_148 ?_))
          all_goals
            rw [z.1] at c
            rw [← nI_succ]
            refine kk2 h4 _ ⟨?_, z.2⟩
            rw [j1, sTot, Int32.add_assoc]
          · rw [sB_f (fun q => q c)]
          · rw [sB_t (c := sRowN _ _ _ _) c]
        refine bX12_otherwise_86 (fun c => absurd c nlt) (fun _ => bX12_otherwise_99 (P1 := fun h' => isMP (h' 167) 0 (aSecond (xS A)) ∧ jfr fBoxM h0 h') (jM_void (tX12_lays (fr := 61) (by decide) (by rw [e160 j2]; exact hq)) (fun h' z => ⟨z.1, j2.tr2 (z.2.mono rfl)⟩))
          (P2 := fun r h' => r = sEnd (aSecond (xS A)) (nI x) (nI y) ∧ jfr fBoxM h0 h') (fun h3 z => jM_int (tX12_endAt z.1 ok.1.2.1) (fun r h' w => ⟨w.1, z.2.tr2 (w.2.2.2.2.mono rfl)⟩)) (fun h3 _ r h4 w c => ?_) (fun h3 _ r h4 w c => ?_))
        · rw [w.1]
          have q := g0.1.mp c
          have ne : ¬ i = -1 := fun e => by rw [e] at c; exact absurd c (by decide)
          have eK : sKeptP A i = sShape (aBody (xS A)) ((aKept A).getD i.toNatClampNeg 0) := sIf_f ne
          refine bX12_otherwise_125 (P1 := fun h' => isMP (h' 167) 0 (sKeptP A i) ∧ jfr fBoxM h0 h') ?_ (fun h5 z => fin h5 z.1 z.2)
          rw [eK]
          exact jM_void (tX12_laysAlive ok (l0.box w.2) (by rw [e160 w.2]; exact hT) q) (fun h' z => ⟨z.1, w.2.tr2 (z.2.mono rfl)⟩)
        · rw [w.1]
          have eK : sKeptP A i = aBody (xS A) := sIf_t (g0.2.mp c)
          refine bX12_otherwise_118 (P1 := fun h' => isMP (h' 167) 0 (sKeptP A i) ∧ jfr fBoxM h0 h') ?_ (fun h5 z => fin h5 z.1 z.2)
          rw [eK]
          exact jM_void (tX12_plain (l0.box w.2).1) (fun h' z => ⟨z.1, w.2.tr2 (z.2.mono rfl)⟩)
  have bad2 : (i = -1 ∨ aIx i (aKept A).length) → (aBody (xS A) = [] ∨ aSecond (xS A) = []) → WP mX12_otherwise (mQ sc (oOtherwise A i) h) 49 [some (.ref 159), some (.int i), none, none, none, none] [.ref 159] (jG0 sc) (jput h 159 0 0) (0, 0) := fun q1 q2 => by
    refine bX12_otherwise_49 (bX12_otherwise_54 tX12_throws1 ?_ ?_)
    · rintro _ _ ⟨rfl, -⟩ c; exact absurd c (by decide)
    · rintro _ _ ⟨rfl, rfl⟩ -
      exact out (e := 1) (f0.put rfl) (by simp [jput]; rfl) (by rw [oOtherwise, sIf_t q1, sIf_t q2])
  have two : (i = -1 ∨ aIx i (aKept A).length) → WP mX12_otherwise (mQ sc (oOtherwise A i) h) 23 [some (.ref 159), some (.int i), none, none, none, none] [.ref 159] (jG0 sc) (jput h 159 0 0) (0, 0) := fun q1 => by
    refine bX12_otherwise_23 (bX12_otherwise_24 tX12_throws0 ?_ ?_)
    · rintro _ _ ⟨rfl, -⟩ c; exact absurd rfl c
    · rintro _ _ ⟨rfl, rfl⟩ -
      refine bX12_otherwise_31 tX12_lines ?_ ?_
      · rintro _ _ ⟨rfl, rfl⟩ c
        exact bad2 q1 (Or.inl (hp.nil.mp c))
      · rintro _ _ ⟨rfl, rfl⟩ c
        refine bX12_otherwise_39 (fun c2 => bX12_otherwise_53 (bX12_otherwise_54 tX12_throws0 ?_ ?_)) (fun c2 => bad2 q1 (Or.inr (hq.nil.mp c2)))
        · rintro _ _ ⟨rfl, rfl⟩ -
          exact last q1 (fun q => q.elim (fun q => c (hp.nil.mpr q)) (fun q => c2 (hq.nil.mpr q)))
        · rintro _ _ ⟨rfl, -⟩ c; exact absurd rfl c
  refine jM_of rfl (Nat.le_of_ble_eq_true rfl) (by decide +kernel) rfl (bX12_otherwise_0 (fun c => two (Or.inl c)) (fun c => bX12_otherwise_11 (tX12_noAlive (m := (aKept A).length) (by omega) hT.1) ?_ ?_))
  · rintro _ _ ⟨rfl, rfl⟩ c2
    exact two (Or.inr (sB_not.mp c2))
  · rintro _ _ ⟨rfl, rfl⟩ c2
    rw [sB_ne] at c2
    refine bX12_otherwise_19 (bX12_otherwise_24 tX12_throws1 ?_ ?_)
    · rintro _ _ ⟨rfl, rfl⟩ -
      exact out (e := 0) (f0.put rfl) (by simp [jput]; rfl) (by rw [oOtherwise, sIf_f (fun q => q.elim c c2)])
    · rintro _ _ ⟨rfl, -⟩ c; exact absurd c (by decide)
end OP20
