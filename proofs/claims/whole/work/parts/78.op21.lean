/-! Operation count. -/
section OP21
variable {sc : Nat × (Nat → Int32)} {h : jH} {A : aA} {n : Nat} {w : Int32}
noncomputable def sCountV (A : aA) : Nat → Int32
  | 0 => nI (aBody (xS A)).length
  | 1 => nI (aRuns (xS A)).length
  | 2 => sIf (aBody (xS A) = []) 0 (sWrongMany (aBody (xS A)) (aRuns (xS A)))
  | 3 => nI (sMends (aBody (xS A))).length
  | 4 => nI (sPairs (sMends (aBody (xS A)))).length
  | 5 => nI (tTried (aTr (xS A)))
  | 6 => nI (aKept A).length
  | 7 => tAll (aTr (xS A))
  | 8 => tPleased (aTr (xS A))
  | 9 => tBarred (aTr (xS A))
  | 10 => nI (aMade (xS A)).length
  | 11 => nI (aSecond (xS A)).length
  | 12 => nI (aBox (xS A))
  | _ => -1
noncomputable def oCount (A : aA) (w : Int32) : aO := (0, sIf (aIx w 13) (sCountV A w.toNatClampNeg) (-1), A)
theorem oCount_at (d : Nat) (hd : d < 13) (e : w.toInt = d) : oCount A w = (0, sCountV A d, A) := by
  have e2 : w = nI d := by rw [toInt_eq_iff, nI_toInt (by omega)]; exact e
  subst e2
  rw [oCount, sIf_t ⟨d, hd, rfl⟩, nI_clamp (by omega)]
theorem oCount_no (e : w.toInt < 0 ∨ 12 < w.toInt) : oCount A w = (0, -1, A) := by
  rw [oCount, sIf_f (fun q => by obtain ⟨d, hd, rfl⟩ := q; rw [nI_toInt (by omega)] at e; omega)]
theorem ccCount (ok : aOk n A) (k : RC h A) : JM mX11_count [.ref 0, .int w] (jG0 sc) h (cQ sc [] (oCount A w) h) := by
  have a_h : jI4 10 := by unfold jI4; decide
  have t_h : jI3 75 := by unfold jI3; decide
  have h12 := ok.1.2.2.1.1
  have hp : isP h 10 (aBody (xS A)) := k.1.1
  have hr : isRuns h 14 (aRuns (xS A)) := k.1.2.2.1
  have hm : isMends h 75 (aBody (xS A)) := k.2.2.2.2.2
  obtain ⟨e1, e2, e3, e4, e5, e6, e7, e8⟩ := k.1.2.2.2.2.1
  have leaf : ∀ (d : Nat) {v : Int32}, d < 13 → w.toInt = d → v = sCountV A d → cQ sc [] (oCount A w) h (.inl (some (.int v))) (jG0 sc) h := fun d v hd e ev => by
    rw [oCount_at d hd e, ev]; exact cQ_v k (fun _ _ => rfl)
  refine jM_of rfl (Nat.le_of_ble_eq_true rfl) (by decide +kernel) rfl (rX11_count_0 (fun e => by rw [oCount_no e]; exact cQ_v k (fun _ _ => rfl)) (fun e => leaf 0 (by decide) e hp.1) (fun e => leaf 1 (by decide) e hr.1) (fun _ => tX11_hasBody hp) ?_
    (P2 := fun x h' => x = sRightBits (aBody (xS A)) (aRuns (xS A)) ∧ jfr fCs h h') ?_ (P3 := fun x h' => x = jbits (sRightBits (aBody (xS A)) (aRuns (xS A))) ∧ jfr fCs h h') (fun _ _ _ _ _ x2 h2 z => by rw [z.1]; exact jM_get tBits z.2) ?_ (fun e => leaf 3 (by decide) e hm.1.1) (fun _ => tX3_pairs t_h ok.1.1 hm) ?_ (fun e => leaf 5 (by decide) e e3) (fun e => leaf 6 (by decide) e e1) (fun e => leaf 7 (by decide) e e4) (fun e => leaf 8 (by decide) e e5) (fun e => leaf 9 (by decide) e e6) (fun e => leaf 10 (by decide) e k.1.2.2.2.2.2.2.1.1) (fun e => leaf 11 (by decide) e k.1.2.1.1) (fun e => leaf 12 (by decide) e k.1.2.2.2.2.2.2.2))
  · rintro e _ _ ⟨rfl, rfl⟩ c
    exact leaf 2 (by decide) e (sIf_t (Classical.not_not.mp (sB_eq.mp c))).symm
  · rintro e _ _ ⟨rfl, rfl⟩ c
    exact jM_int (tX11_rightBits a_h (Or.inl (by decide)) hp ok.1.1 hr h12 k.2.2.2.2.1) (fun x h' z => ⟨z.1, fWalk_Cs z.2⟩)
  · rintro e _ _ ⟨rfl, rfl⟩ c x2 h2 - x3 h3 z
    have e14 : h 14 3 = nI (aRuns (xS A)).length := hr.1
    rw [oCount_at 2 (by decide) e, z.1, e14, show nI (aRuns (xS A)).length - jbits (sRightBits (aBody (xS A)) (aRuns (xS A))) = sWrongMany (aBody (xS A)) (aRuns (xS A)) from (pop_bits _ h12).2]
    have ev : sCountV A 2 = sWrongMany (aBody (xS A)) (aRuns (xS A)) := sIf_f (sB_ne.mp c)
    rw [ev]
    exact cQ_q ok k z.2
  · rintro e _ _ ⟨rfl, rfl⟩
    exact leaf 4 (by decide) e rfl
theorem mmCount (ok : aOk n A) (k : RM h A) : JM mX12_count [.ref 159, .int w] (jG0 sc) h (mQ sc (oCount A w) h) := by
  have h12 := ok.1.2.2.1.1
  have hs := ok.1.1
  have hp : isMP (h 160) 0 (aBody (xS A)) := k.1.1
  have hr : isMRuns (h 160) (aRuns (xS A)) := k.1.2.2.1
  obtain ⟨e1, e2, e3, e4, e5, e6, e7, e8⟩ := k.1.2.2.2.2.1
  have f0 : jfr fMs h (jput h 159 0 0) := jfr.rf.put rfl
  have at2 : ∀ (d : Nat) {v : Int32} {h' : jH}, d < 13 → w.toInt = d → v = sCountV A d → jfr fMs h h' → h' 159 0 = 0 → mQ sc (oCount A w) h (.inl (some (.int v))) (jG0 sc) h' := fun d v h' hd e ev f z => by
    rw [oCount_at d hd e, ev]; exact mQ_q k f z
  have leaf : ∀ (d : Nat) {v : Int32}, d < 13 → w.toInt = d → v = sCountV A d → mQ sc (oCount A w) h (.inl (some (.int v))) (jG0 sc) (jput h 159 0 0) := fun d v hd e ev => at2 d hd e ev f0 rfl
  have many : ∀ (d : Nat), d = 3 ∨ d = 4 → w.toInt = d → WP mX12_count (mQ sc (oCount A w) h) 106 [some (.ref 159), some (.int w)] [] (jG0 sc) (jput h 159 0 0) (0, 0) := fun d hd e => by
    refine bX12_count_106 (P1 := fun h' => isML h' (aBody (xS A)) ∧ jfr fMs h h' ∧ h' 159 0 = 0) (jM_void (tX12_listed hp hs) (fun h' z => ⟨z.1, f0.tr2 (z.2.mono rfl), (z.2 159 0 rfl).trans rfl⟩)) (fun h1 z c => bX12_count_122 (tX12_doubles z.1 hs) ?_) (fun h1 z c => bX12_count_115 (bX12_count_126 ?_))
    · rintro _ _ ⟨rfl, rfl⟩
      have e4 : d = 4 := hd.resolve_left (fun q => c (by subst q; exact i_eqI e rfl))
      subst e4
      exact bX12_count_126 (at2 4 (by decide) e rfl z.2.1 z.2.2)
    · have e3 : d = 3 := by
        rcases hd with q | q
        · exact q
        · subst c; exact absurd e (by rw [q]; decide)
      subst e3
      exact at2 3 (by decide) e z.1.2.1 z.2.1 z.2.2
  refine jM_of rfl (Nat.le_of_ble_eq_true rfl) (by decide +kernel) rfl (bX12_count_0 (fun e => bX12_count_198 (by rw [oCount_no e]; exact mQ_q k f0 rfl)) (fun e => bX12_count_72 tX12_lines ?_) (fun e => bX12_count_77 (leaf 1 (by decide) e hr.1)) (fun e => ?_) (many 3 (Or.inl rfl)) (many 4 (Or.inr rfl)) (fun e => bX12_count_127 (leaf 5 (by decide) e e3)) (fun e => bX12_count_136 (leaf 6 (by decide) e e1)) (fun e => bX12_count_145 (leaf 7 (by decide) e e4)) (fun e => bX12_count_154 (leaf 8 (by decide) e e5)) (fun e => bX12_count_163 (leaf 9 (by decide) e e6)) (fun e => bX12_count_172 (leaf 10 (by decide) e k.1.2.2.2.2.2.2.1.1)) (fun e => bX12_count_181 (leaf 11 (by decide) e k.1.2.1.1)) (fun e => bX12_count_189 (leaf 12 (by decide) e k.1.2.2.2.2.2.2.2)))
  · rintro _ _ ⟨rfl, rfl⟩
    exact leaf 0 (by decide) e hp.1
  · refine bX12_count_85 (P1 := fun h' => isMP (h' 167) 0 (aBody (xS A)) ∧ jfr fMs h h' ∧ h' 159 0 = 0) (jM_void (tX12_lays (fr := 0) (by decide) hp) (fun h' z => ⟨z.1, f0.tr2 (z.2.mono rfl), (z.2 159 0 rfl).trans rfl⟩))
      (P2 := fun x h' => x = h 160 0 ∧ isMP (h' 167) 0 (aBody (xS A)) ∧ jfr fMs h h' ∧ h' 159 0 = 0) (fun h1 z => by
        have := tX12_lines (sc := sc) (h := h1)
        rw [z.2.1.cell (k := 160) (fun _ => rfl)] at this
        exact jM_get this z) ?_ ?_
    · rintro h1 - x2 h2 z c
      rw [z.1, hp.nil] at c
      refine bX12_count_101 (P1 := fun x h' => x = sWrongMany (aBody (xS A)) (aRuns (xS A)) ∧ jfr fMs h h' ∧ h' 159 0 = 0) (jM_int (tX12_wrongMany z.2.1 hs (by rw [z.2.2.1.cell (k := 160) (fun _ => rfl)]; exact hr) h12) (fun x h' y => ⟨y.1, z.2.2.1.tr2 (y.2.mono rfl), (y.2 159 0 rfl).trans z.2.2.2⟩)) (fun x3 h3 y => bX12_count_105 ?_)
      exact at2 2 (by decide) e (y.1.trans (sIf_f c).symm) y.2.1 y.2.2
    · rintro h1 - x2 h2 z c
      rw [z.1, hp.nil] at c
      exact bX12_count_97 (bX12_count_105 (at2 2 (by decide) e (sIf_t c).symm z.2.2.1 z.2.2.2))
end OP21
