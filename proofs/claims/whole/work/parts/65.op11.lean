/-! Operation tries: the reference's loops. -/
section OP11
variable {sc : Nat × (Nat → Int32)} {h : jH} {A : aA} {n : Nat} {p q : List Int32} {rs : List aRun} {T : aT}
/-- what stands at each step: listed, runs, tries -/
def tInv (p : List Int32) (rs : List aRun) (T : aT) (k : Nat) (h h1 : jH) : Prop := jfr fAtt h h1 ∧ isMTries (h1 160) p (tIter p rs k T)
theorem isML.at (k : isML h p) {h1 : jH} (f : jfr fAtt h h1) : isML h1 p := k.fr f rfl (fun _ => rfl) (fun _ => rfl) (fun _ => rfl) (fun _ => rfl)
theorem isMRuns.at (k : isMRuns (h 160) rs) (h12 : rs.length ≤ 12) {h1 : jH} (f : jfr fAtt h h1) : isMRuns (h1 160) rs := by
  have g : ∀ i, i < 159 → h1 160 i = h 160 i := fun i hi => f 160 i (by rw [jin_f]; simp; omega)
  refine ⟨(g _ (by omega)).trans k.1, fun i hi => ?_⟩
  rw [g _ (by omega), g _ (by omega), g _ (by omega)]; exact k.2 i hi
theorem tInv_go {z : Nat × Option Nat} {k N : Nat} {a b : Int32} {h1 : jH} (v : tInv p rs T k h h1) (l : isML h p) (hs : sProg p) (hr : isMRuns (h 160) rs) (h12 : rs.length ≤ 12) (ok : sTrOk p T) (eN : N = tTried T + k) (hz : (sAll (sMends p))[N]? = some z) (ea : a = nI z.1) (eb : b = (match z.2 with | none => -1 | some d => nI d)) :
    JM mX12_attempt [.ref 159, .int (nI N), .int a, .int b] (jG0 sc) h1 (jvoid sc (fun h' => tInv p rs T (k + 1) h h')) := by
  have hlt : N < (sAll (sMends p)).length := by
    rcases Nat.lt_or_ge N (sAll (sMends p)).length with q | q
    · exact q
    · rw [List.getElem?_eq_none q] at hz; cases hz
  have et : tTried (tIter p rs k T) = N := by rw [tIter_tried, eN]
  rw [← et] at hz ⊢
  exact jM_void (tX12_attempt (l.at v.1) hs (hr.at h12 v.1) h12 v.2 (tIter_ok ok k (by omega)) hz ea eb) (fun h' y => ⟨v.1.tr2 y.2, y.1⟩)
abbrev eTr (c F F2 N a : Int32) (b : Option Value) : List (Option Value) := [some (.ref 159), some (.int c), some (.int F), some (.int F2), some (.int N), some (.int a), b]
theorem tX12_triesGo {c : Nat} {Q : jQ} (l : isML h p) (hs : sProg p) (hr : isMRuns (h 160) rs) (h12 : rs.length ≤ 12) (ht : isMTries (h 160) p T) (ok : sTrOk p T) (hc : c ≤ 400)
    (fin : ∀ h1, tInv p rs T (min c ((sAll (sMends p)).length - tTried T)) h h1 → Q (.inl (some (.int (nI (min c ((sAll (sMends p)).length - tTried T)))))) (jG0 sc) h1) :
    WP mX12_tries Q 74 (eTr (nI c) (nI (tTried T)) (nI (tTried T + c)) 0 0 none) [] (jG0 sc) h (0, 0) := by
  have hfew := sAll_few hs
  have htot := sAll_total (ms := sMends p)
  have h280 := sMends_280 hs
  have htr := ok.2.2.1
  generalize hF : tTried T = F at *
  generalize hM : (sMends p).length = M at *
  have e26 : ∀ {h1 : jH}, jfr fAtt h h1 → h1 159 26 = nI M := fun f => (f 159 26 rfl).trans (by rw [← hM]; exact l.2.1)
  -- the end
  have done : ∀ (k : Nat) (N a : Int32) (h1 : jH), tInv p rs T k h h1 → k = min c ((sAll (sMends p)).length - F) → WP mX12_tries Q 197 (eTr (nI c) (nI F) (nI (F + c)) N a none) [] (jG0 sc) h1 (0, 0) := fun k N a h1 v e => by
    refine bX12_tries_197 ?_
    have e1 : h1 160 159 = nI (F + k) := by
      have := v.2.2.2.1
      rw [tIter_tried, hF] at this
      exact this
    rw [e1, ← nI_add, show nI F + nI k - nI F = nI k by rw [Int32.add_comm]; exact Int32.add_sub_cancel _ _]
    subst e
    exact fin h1 v
  -- pairs
  have two : ∀ (h1 : jH), tInv p rs T (min M (F + c) - F) h h1 → WP mX12_tries Q 116 (eTr (nI c) (nI F) (nI (F + c)) (nI M) (nI 0) none) [] (jG0 sc) h1 (0, 0) := fun h1 v => by
    refine jloop2 (fun a (h1 : jH) (N : Nat) => WP mX12_tries Q 116 (eTr (nI c) (nI F) (nI (F + c)) (nI N) (nI a) none) [] (jG0 sc) h1 (0, 0))
      (fun a h1 N => (N = M + ((List.range a).flatMap (sPairsOf (sMends p))).length ∨ F + c ≤ N) ∧ N ≤ (sAll (sMends p)).length ∧ tInv p rs T (min N (F + c) - F) h h1) M ?_ ?_ 0 h1 M (by omega) ⟨Or.inl (by simp), by omega, v⟩
    · rintro h1 N ⟨i1, i2, i3⟩
      refine bX12_tries_116 (fun _ => done _ _ _ h1 i3 ?_) (fun d => absurd (by rw [e26 i3.1]; exact nI_le (Nat.le_refl _) (by omega)) d)
      have e : (sPairs (sMends p)).length = ((List.range M).flatMap (sPairsOf (sMends p))).length := by rw [← hM]; rfl
      omega
    · rintro a h1 N ha ⟨i1, i2, i3⟩ kk
      have no : ∀ {h2 : jH}, jfr fAtt h h2 → ¬ h2 159 26 ≤ nI a := fun f => by rw [e26 f, jn_le (by omega) (by omega)]; omega
      refine bX12_tries_116 (fun d => absurd d (no i3.1)) (fun _ => bX12_tries_125 (fun d => done _ _ _ h1 i3 (by rw [jn_le (by omega) (by omega)] at d; omega)) (fun d => bX12_tries_131 ?_))
      rw [jn_le (by omega) (by omega)] at d
      rw [← nI_succ]
      have ei : N = M + pCnt (sMends p) a (a + 1) := by rw [pCnt_0]; omega
      have inner : ∀ b, a + 1 ≤ b → b ≤ M → ∀ (h2 : jH) (N2 : Nat), ((N2 = M + pCnt (sMends p) a b ∨ F + c ≤ N2) ∧ N2 ≤ (sAll (sMends p)).length ∧ tInv p rs T (min N2 (F + c) - F) h h2) → WP mX12_tries Q 137 (eTr (nI c) (nI F) (nI (F + c)) (nI N2) (nI a) (some (.int (nI b)))) [] (jG0 sc) h2 (0, 0) := by
        intro b hb1 hb2 h2 N2 hI
        refine jloop2 (fun i (h2 : jH) (N2 : Nat) => WP mX12_tries Q 137 (eTr (nI c) (nI F) (nI (F + c)) (nI N2) (nI a) (some (.int (nI (b + i))))) [] (jG0 sc) h2 (0, 0))
          (fun i h2 N2 => (N2 = M + pCnt (sMends p) a (b + i) ∨ F + c ≤ N2) ∧ N2 ≤ (sAll (sMends p)).length ∧ tInv p rs T (min N2 (F + c) - F) h h2) (M - b) ?_ ?_ 0 h2 N2 (by omega) hI
        · rintro h2 N2 ⟨i1, i2, i3⟩
          rw [show b + (M - b) = M by omega] at *
          refine bX12_tries_137 (fun _ => bX12_tries_191 ?_) (fun d => absurd (by rw [e26 i3.1]; exact nI_le (Nat.le_refl _) (by omega)) d)
          rw [← nI_succ]
          have e := pCnt_e (ms := sMends p) (a := a)
          rw [hM] at e
          rw [e] at i1
          exact kk h2 N2 ⟨i1, i2, i3⟩
        · rintro i h2 N2 hi ⟨i1, i2, i3⟩ kk2
          have hbM : b + i < M := by omega
          have no2 : ¬ h2 159 26 ≤ nI (b + i) := by rw [e26 i3.1, jn_le (by omega) (by omega)]; omega
          have nx : nI (b + i) + 1 = nI (b + (i + 1)) := by rw [← Nat.add_assoc, nI_succ]
          have early : F + c ≤ N2 → WP mX12_tries Q 191 (eTr (nI c) (nI F) (nI (F + c)) (nI N2) (nI a) (some (.int (nI (b + i))))) [] (jG0 sc) h2 (0, 0) := fun e => by
            refine bX12_tries_191 ?_
            rw [← nI_succ]
            exact kk h2 N2 ⟨Or.inr e, i2, i3⟩
          refine bX12_tries_137 (fun d => absurd d no2) (fun _ => bX12_tries_146 (fun d => early (by rw [jn_le (by omega) (by omega)] at d; exact d)) (fun d => bX12_tries_152 (tX12_canPair (l.at i3.1) hs (by omega) (by omega)) ?_ ?_))
          · rw [jn_le (by omega) (by omega)] at d
            rintro _ _ ⟨rfl, rfl⟩ d2
            rw [sB_ne] at d2
            have eN : N2 = M + pCnt (sMends p) a (b + i) := by omega
            have eC := pCnt_s (ms := sMends p) (a := a) (b := b + i) (by omega)
            rw [if_pos d2] at eC
            have hz : (sAll (sMends p))[N2]? = some (a, some (b + i)) := by rw [eN, ← hM]; exact sAll_pair (by omega) (by omega) d2
            have hlt : N2 < (sAll (sMends p)).length := by
              rcases Nat.lt_or_ge N2 (sAll (sMends p)).length with y | y
              · exact y
              · rw [List.getElem?_eq_none y] at hz; cases hz
            refine bX12_tries_166 (fun d3 => bX12_tries_182 (bX12_tries_185 ?_)) (fun d3 => bX12_tries_172 (tInv_go i3 l hs hr h12 ok (by rw [hF]; rw [jn_lt (by omega) (by omega)] at d3; omega) hz rfl rfl) (fun h3 y => bX12_tries_182 (bX12_tries_185 ?_)))
            · rw [jn_lt (by omega) (by omega)] at d3
              rw [nx, ← nI_succ]
              refine kk2 h2 (N2 + 1) ⟨Or.inl (by rw [← Nat.add_assoc b i 1]; omega), by omega, ?_⟩
              rw [show min (N2 + 1) (F + c) - F = min N2 (F + c) - F by omega]
              exact i3
            · rw [jn_lt (by omega) (by omega)] at d3
              rw [nx, ← nI_succ]
              refine kk2 h3 (N2 + 1) ⟨Or.inl (by rw [← Nat.add_assoc b i 1]; omega), by omega, ?_⟩
              rw [show min (N2 + 1) (F + c) - F = min N2 (F + c) - F + 1 by omega]
              exact y
          · rw [jn_le (by omega) (by omega)] at d
            rintro _ _ ⟨rfl, rfl⟩ d2
            rw [sB_eq] at d2
            have eC := pCnt_s (ms := sMends p) (a := a) (b := b + i) (by omega)
            rw [if_neg d2] at eC
            refine bX12_tries_163 (bX12_tries_185 ?_)
            rw [nx]
            exact kk2 h2 N2 ⟨Or.inl (by rw [← Nat.add_assoc b i 1]; omega), i2, i3⟩
      exact inner (a + 1) (Nat.le_refl _) (by omega) h1 N ⟨Or.inl ei, i2, i3⟩
  -- single ones
  have inR : ∀ a : Nat, a < 100000 → ((¬ nI a < nI F ∧ ¬ nI (F + c) - 1 < nI a) ↔ F ≤ a ∧ a < F + c) := fun a ha => by
    have e1 := nI_toInt (n := a) (by omega)
    have e2 := nI_toInt (n := F) (by omega)
    have e3 := nI_toInt (n := F + c) (by omega)
    have e4 : (1 : Int32).toInt = 1 := rfl
    have e5 : (nI (F + c) - 1).toInt = ((F + c : Nat) : Int) - 1 := by rw [toInt_sub' (by omega) (by omega)]; omega
    rw [toInt_lt_iff, toInt_lt_iff, e5, e1, e2]
    omega
  have em : (0 : Int32) = nI 0 := rfl
  refine jloop (fun a (h1 : jH) => WP mX12_tries Q 74 (eTr (nI c) (nI F) (nI (F + c)) (nI a) (nI a) none) [] (jG0 sc) h1 (0, 0))
    (fun a h1 => tInv p rs T (min a (F + c) - F) h h1) M ?_ ?_ 0 h (by omega) ⟨jfr.rf, by rw [show min 0 (F + c) - F = 0 by omega]; exact ht⟩
  · rintro h1 i1
    exact bX12_tries_74 (fun _ => bX12_tries_113 (two h1 i1)) (fun d => absurd (by rw [e26 i1.1]; exact nI_le (Nat.le_refl _) (by omega)) d)
  · rintro a h1 ha i1 kk
    have no : ¬ h1 159 26 ≤ nI a := by rw [e26 i1.1, jn_le (by omega) (by omega)]; omega
    refine bX12_tries_74 (fun d => absurd d no) (fun _ => bX12_tries_83 tX12_in ?_ ?_)
    · rintro _ _ ⟨rfl, rfl⟩ d
      rw [sB_eq, inR a (by omega)] at d
      refine bX12_tries_104 ?_
      rw [← nI_succ]
      refine kk h1 ?_
      rw [show min (a + 1) (F + c) - F = min a (F + c) - F by omega]
      exact i1
    · rintro _ _ ⟨rfl, rfl⟩ d
      rw [sB_ne, inR a (by omega)] at d
      refine bX12_tries_95 (tInv_go i1 l hs hr h12 ok (by rw [hF]; omega) (sAll_1 (by omega)) rfl rfl) (fun h2 y => bX12_tries_104 ?_)
      rw [← nI_succ]
      refine kk h2 ?_
      rw [show min (a + 1) (F + c) - F = min a (F + c) - F + 1 by omega]
      exact y
theorem mmTries {c : Int32} (ok : aOk n A) (k : RM h A) : JM mX12_tries [.ref 159, .int c] (jG0 sc) h (mQ sc (oTries A c) h) := by
  have h12 := ok.1.2.2.1.1
  have hr : isMRuns (h 160) (aRuns (xS A)) := k.1.2.2.1
  have hp : isMP (h 160) 0 (aBody (xS A)) := k.1.1
  have hs := ok.1.1
  have htr : sTrOk (aBody (xS A)) (aTr (xS A)) := ok.1.2.2.2.2.1
  have hfew := sAll_few hs
  have hT : isMTries (h 160) (aBody (xS A)) (aTr (xS A)) := k.1.2.2.2.2.1
  have out : ∀ {e : Nat} {h' : jH}, jfr fMs h h' → h' 159 0 = nI (e + 1) → oTries A c = (e + 1, 0, A) → WP mX12_tries (mQ sc (oTries A c) h) 49 [some (.ref 159), some (.int c), none, none, none, none, none] [] (jG0 sc) h' (0, 0) := fun f f0 o => by
    refine bX12_tries_49 ?_
    rw [o]
    exact mQ_qx k f f0
  have last : aIx c 401 → ¬ aBody (xS A) = [] → WP mX12_tries (mQ sc (oTries A c) h) 51 [some (.ref 159), some (.int c), none, none, none, none, none] [] (jG0 sc) (jput h 159 0 0) (0, 0) := fun q1 q2 => by
    have eo : oTries A c = (0, nI (sTryMany A c), uS A (uTr (xS A) (tIter (aBody (xS A)) (aRuns (xS A)) (sTryMany A c) (aTr (xS A))))) := by rw [oTries, sIf_t q1, sIf_f q2]
    rw [eo]
    unfold sTryMany
    obtain ⟨hd, er⟩ := aIx_c (by omega) q1
    generalize c.toNatClampNeg = d at *
    subst er
    refine bX12_tries_51 (P1 := fun h' => isML h' (aBody (xS A)) ∧ jfr fMs h h' ∧ h' 159 0 = 0) (jM_void (tX12_listed hp hs) (fun h' z => ⟨z.1, (jfr.rf.put rfl).tr z.2 (A := ([], [(159, 0, 0)])) rfl rfl, (z.2 159 0 rfl).trans rfl⟩)) ?_
    rintro h1 ⟨z1, z2, z3⟩
    have e160 : h1 160 = h 160 := z2.cell (fun _ => rfl)
    have e1 : h1 160 159 = nI (tTried (aTr (xS A))) := by rw [e160]; exact hT.2.2.1
    rw [e1, nI_add]
    refine tX12_triesGo z1 hs (by rw [e160]; exact hr) h12 (by rw [e160]; exact hT) htr (by omega) ?_
    rintro h2 ⟨f2, t2⟩
    have z4 : h2 159 0 = 0 := (f2 159 0 rfl).trans z3
    refine jint_i ⟨fun _ => rfl, z4, ⟨?_, ?_, ?_, ?_⟩, (fM.of z2 ⟨rfl, rfl⟩).tr (fM.of f2 ⟨rfl, rfl⟩)⟩
    · refine rM_tries (w := h1 160) (by rw [e160]; exact k.1) ok.1 (fun i hi => f2 160 i (by rw [jin_f]; simp; omega)) t2
    · exact k.2.1.eq ((f2 159 3 rfl).trans (z2 159 3 rfl)) ((f2.cell (fun _ => rfl)).trans (z2.cell (fun _ => rfl)))
    · exact k.2.2.1.eq ((f2 159 5 rfl).trans (z2 159 5 rfl)) ((f2.cell (fun _ => rfl)).trans (z2.cell (fun _ => rfl)))
    · exact ((f2 159 10 rfl).trans (z2 159 10 rfl)).trans k.2.2.2
  have two : aIx c 401 → WP mX12_tries (mQ sc (oTries A c) h) 29 [some (.ref 159), some (.int c), none, none, none, none, none] [] (jG0 sc) (jput h 159 0 0) (0, 0) := fun q1 => by
    refine bX12_tries_29 tX12_lines ?_ ?_
    · rintro _ _ ⟨rfl, rfl⟩ d
      have d' : ¬ aBody (xS A) = [] := by rw [← hp.nil]; exact d
      refine bX12_tries_41 (bX12_tries_42 tX12_throws0 ?_ ?_)
      · rintro _ _ ⟨rfl, rfl⟩ -; exact last q1 d'
      · rintro _ _ ⟨rfl, -⟩ d; exact absurd rfl d
    · rintro _ _ ⟨rfl, rfl⟩ d
      have d' : aBody (xS A) = [] := by rw [← hp.nil]; exact d
      refine bX12_tries_37 (bX12_tries_42 tX12_throws1 ?_ ?_)
      · rintro _ _ ⟨rfl, -⟩ d; exact absurd d (by decide)
      · rintro _ _ ⟨rfl, rfl⟩ -
        exact out (e := 1) ((jfr.rf.put rfl).put rfl) (by simp [jput]; rfl) (by rw [oTries, sIf_t q1, sIf_t d'])
  refine jM_of rfl (Nat.le_of_ble_eq_true rfl) (by decide +kernel) rfl (bX12_tries_0 tX12_in ?_ ?_)
  · rintro _ _ ⟨rfl, rfl⟩ d
    rw [sB_ne] at d
    have q1 : aIx c 401 := (aIx_le1 (n := 400) (by omega)).mp ⟨d.1, i_nlt.mp d.2⟩
    refine bX12_tries_21 (bX12_tries_22 tX12_throws0 ?_ ?_)
    · rintro _ _ ⟨rfl, -⟩ d; exact absurd rfl d
    · rintro _ _ ⟨rfl, rfl⟩ -; exact two q1
  · rintro _ _ ⟨rfl, rfl⟩ d
    rw [sB_eq] at d
    refine bX12_tries_17 (bX12_tries_22 tX12_throws1 ?_ ?_)
    · rintro _ _ ⟨rfl, rfl⟩ -
      exact out (e := 0) ((jfr.rf.put rfl).put rfl) (by simp [jput]; rfl) (by rw [oTries, sIf_f (fun q => d (by have := (aIx_le1 (n := 400) (by omega)).mpr q; exact ⟨this.1, i_nlt.mpr this.2⟩))])
    · rintro _ _ ⟨rfl, -⟩ d; exact absurd d (by decide)
end OP11
