/-! Operation tries: the reference's rows and one attempt. -/
section OP9
variable {sc : Nat × (Nat → Int32)} {h : jH} {A : aA} {n : Nat} {p q : List Int32} {rs : List aRun} {T : aT}
theorem isMTries.eqw {w w' : Nat → Int32} (k : isMTries w p T) (e : ∀ i, 159 ≤ i → i ≤ 278 → w' i = w i) (h30 : (tKept T).length ≤ 30) (h8 : (tRows T).length ≤ 8) : isMTries w' p T := by
  obtain ⟨z1, z2, z3, z4, z5, z6, z7, z8⟩ := k
  refine ⟨(e _ (by omega) (by omega)).trans z1, fun i hi => ?_, (e _ (by omega) (by omega)).trans z3, (e _ (by omega) (by omega)).trans z4, (e _ (by omega) (by omega)).trans z5, (e _ (by omega) (by omega)).trans z6, (e _ (by omega) (by omega)).trans z7, fun i hi => ?_⟩
  · rw [e _ (by omega) (by omega), e _ (by omega) (by omega), e _ (by omega) (by omega)]; exact z2 i hi
  · rw [e _ (by omega) (by omega), e _ (by omega) (by omega), e _ (by omega) (by omega)]; exact z8 i hi
theorem rM_tries {w w' : Nat → Int32} {S : aS} (k : rM w S) (ok : sStOk n S) (e : ∀ i, i < 159 ∨ 278 < i → w' i = w i) (ht : isMTries w' (aBody S) T) : rM w' (uTr S T) := by
  obtain ⟨k1, k2, k3, k4, k5, k6, k7, k8⟩ := k
  have hr := ok.2.2.1.1
  have hm := ok.2.2.2.2.2.2.1.1
  have hp : ∀ {c : Nat} {q : List Int32}, isMP w c q → (c + 60 < 159 ∨ 278 < c) → isMP w' c q := fun {c q} z hc => by
    have := z.2.1
    exact ⟨(e _ (by omega)).trans z.1, z.2.1, fun i hi a ha => (e _ (by omega)).trans (z.2.2 i hi a ha)⟩
  refine ⟨hp k1 (by omega), hp k2 (by omega), ⟨(e _ (by omega)).trans k3.1, fun i hi => ?_⟩, ⟨(e _ (by omega)).trans k4.1, fun i hi => ?_⟩, ht, fun i hi => (e _ (by omega)).trans (k6 i hi), ⟨(e _ (by omega)).trans k7.1, fun i hi => hp (k7.2 i hi) (by omega)⟩, (e _ (by omega)).trans k8⟩
  · have hi' : i < (aRuns S).length := hi
    rw [e _ (by omega), e _ (by omega), e _ (by omega)]; exact k3.2 i hi
  · rw [e _ (by omega), e _ (by omega)]; exact k4.2 i hi
def uNote (T : aT) (m w : Int32) : aT := uRows T (tDrop (tRows T) ++ [(m, w, w)])
theorem tX12_notes {m w : Int32} (k : isMTries (h 160) p T) (h30 : (tKept T).length ≤ 30) (h8 : (tRows T).length ≤ 8) : JM mX12_notes [.ref 159, .int m, .int w] (jG0 sc) h (jvoid sc (fun h' => isMTries (h' 160) p (uNote T m w) ∧ jfr ([], [(160, 254, 278)]) h h')) := by
  -- one more row
  have fin : ∀ (rows : List aRow) (h1 : jH), isMTries (h1 160) p (uRows T rows) → rows.length < 8 → jfr ([], [(160, 254, 278)]) h h1 → tDrop (tRows T) = rows →
      WP mX12_notes (jvoid sc (fun h' => isMTries (h' 160) p (uNote T m w) ∧ jfr ([], [(160, 254, 278)]) h h')) 61 [some (.ref 159), some (.int m), some (.int w), none] [] (jG0 sc) h1 (0, 0) := by
    rintro rows h1 ⟨z1, z2, z3, z4, z5, z6, z7, z8⟩ hl f e
    have z7 : h1 160 254 = nI rows.length := z7
    have g0 : (255 : Int32) + 3 * nI rows.length = nI (255 + 3 * rows.length) := by rw [show (3 : Int32) = nI 3 from rfl, show (255 : Int32) = nI 255 from rfl, pk_mul, nI_add]
    have g1 : nI (255 + 3 * rows.length) + 1 = nI (255 + 3 * rows.length + 1) := (nI_succ _).symm
    have g2 : nI (255 + 3 * rows.length) + 2 = nI (255 + 3 * rows.length + 2) := nI_add _ 2
    refine bX12_notes_61 (by rw [z7, g0]; exact vp_in_nI (by omega) (by decide)) (by rw [z7, g0, g1]; exact vp_in_nI (by omega) (by decide)) ?_
    rw [z7, g0, g1, nI_clamp (by omega), nI_clamp (by omega)]
    refine bX12_notes_96 (by rw [g2]; exact vp_in_nI (by omega) (by decide)) (jvoid_i ?_)
    rw [g2, nI_clamp (by omega)]
    have e4 : jput (jput (jput h1 160 (255 + 3 * rows.length) m) 160 (255 + 3 * rows.length + 1) w) 160 (255 + 3 * rows.length + 2) w 160 254 = nI rows.length := by
      rw [jput_sl (by omega), jput_sl (by omega), jput_sl (by omega)]; exact z7
    rw [e4, ← nI_succ]
    refine ⟨?_, (((f.put (by rw [jin_iff]; simp; omega)).put (by rw [jin_iff]; simp; omega)).put (by rw [jin_iff]; simp; omega)).put (by rw [jin_iff]; simp)⟩
    have low : ∀ i, i < 254 → jput (jput (jput (jput h1 160 (255 + 3 * rows.length) m) 160 (255 + 3 * rows.length + 1) w) 160 (255 + 3 * rows.length + 2) w) 160 254 (nI (rows.length + 1)) 160 i = h1 160 i := fun i hi => by
      rw [jput_sl (by omega), jput_sl (by omega), jput_sl (by omega), jput_sl (by omega)]
    have er : tRows (uNote T m w) = rows ++ [(m, w, w)] := by rw [← e]; rfl
    refine ⟨(low _ (by omega)).trans z1, fun i hi => ?_, (low _ (by omega)).trans z3, (low _ (by omega)).trans z4, (low _ (by omega)).trans z5, (low _ (by omega)).trans z6, ?_, fun i hi => ?_⟩
    · have hi' : i < (tKept T).length := hi
      rw [low _ (by omega), low _ (by omega), low _ (by omega)]; exact z2 i hi
    · rw [jput_at, er, List.length_append, List.length_singleton]
    · rw [er, List.length_append, List.length_singleton] at hi
      rw [er, getD_ap1]
      by_cases z : i < rows.length
      · rw [if_pos z]
        have := z8 i z
        rw [jput_sl (by omega), jput_sl (by omega), jput_sl (by omega), jput_sl (by omega), jput_sl (by omega), jput_sl (by omega), jput_sl (by omega), jput_sl (by omega), jput_sl (by omega), jput_sl (by omega), jput_sl (by omega), jput_sl (by omega)]
        exact this
      · rw [if_neg z, if_pos (show i = rows.length by omega), show i = rows.length by omega]
        refine ⟨?_, ?_, ?_⟩
        · rw [jput_sl (by omega), jput_sl (by omega), jput_sl (by omega), jput_at]
        · rw [jput_sl (by omega), jput_sl (by omega), jput_at]
        · rw [jput_sl (by omega), jput_at]
  have e7 : h 160 254 = nI (tRows T).length := k.2.2.2.2.2.2.1
  refine jM_of rfl (Nat.le_of_ble_eq_true rfl) (by decide +kernel) rfl (bX12_notes_0 (fun c => ?_) (fun c => bX12_notes_13 ?_))
  · rw [e7, show (8 : Int32) = nI 8 from rfl, jn_eq (by omega) (by decide)] at c
    exact fin (tRows T) h k (by omega) jfr.rf (if_neg c)
  · rw [e7, show (8 : Int32) = nI 8 from rfl, jn_eq (by omega) (by decide)] at c
    refine jloop (fun i (h1 : jH) => WP mX12_notes _ 15 [some (.ref 159), some (.int m), some (.int w), some (.int (nI (i + 3)))] [] (jG0 sc) h1 (0, 0))
      (fun i h1 => jfr ([], [(160, 254, 278)]) h h1 ∧ (h1 160 254 = h 160 254) ∧ (∀ j, j < i → h1 160 (255 + j) = h 160 (255 + j + 3)) ∧ ∀ j, i ≤ j → h1 160 (255 + j) = h 160 (255 + j)) 21 ?_ ?_ 0 h (by omega) ⟨jfr.rf, rfl, fun j q => absurd q (by omega), fun _ _ => rfl⟩
    · rintro h1 ⟨i1, i0, i2, i3⟩
      refine bX12_notes_15 (fun _ => bX12_notes_49 ?_) (fun d => absurd (by decide) d)
      have low : ∀ i, i < 254 → jput h1 160 254 (h1 160 254 - 1) 160 i = h 160 i := fun i hi => by
        rw [jput_sl (by omega)]; exact i1 160 i (by rw [jin_f]; simp; omega)
      obtain ⟨z1, z2, z3, z4, z5, z6, z7, z8⟩ := k
      refine fin ((tRows T).drop 1) _ ⟨(low _ (by omega)).trans z1, fun i hi => ?_, (low _ (by omega)).trans z3, (low _ (by omega)).trans z4, (low _ (by omega)).trans z5, (low _ (by omega)).trans z6, ?_, fun i hi => ?_⟩ (by rw [List.length_drop, c]; omega) (i1.put (by rw [jin_iff]; simp)) (if_pos c)
      · have hi' : i < (tKept T).length := hi
        rw [low _ (by omega), low _ (by omega), low _ (by omega)]; exact z2 i hi
      · show _ = nI ((tRows T).drop 1).length
        rw [jput_at, i0, e7, List.length_drop, c]; rfl
      · have hi' : i < ((tRows T).drop 1).length := hi
        rw [List.length_drop, c] at hi'
        have := z8 (i + 1) (by omega)
        show jput _ _ _ _ 160 (255 + 3 * i) = (((tRows T).drop 1).getD i aRun0).1 ∧ jput _ _ _ _ 160 (255 + 3 * i + 1) = (((tRows T).drop 1).getD i aRun0).2.1 ∧ jput _ _ _ _ 160 (255 + 3 * i + 2) = (((tRows T).drop 1).getD i aRun0).2.2
        rw [getD_drop1, jput_sl (by omega), jput_sl (by omega), jput_sl (by omega), i2 (3 * i) (by omega), show 255 + 3 * i + 1 = 255 + (3 * i + 1) by omega, i2 (3 * i + 1) (by omega), show 255 + 3 * i + 2 = 255 + (3 * i + 2) by omega, i2 (3 * i + 2) (by omega)]
        rw [show 255 + 3 * (i + 1) = 255 + 3 * i + 3 by omega] at this
        exact this
    · rintro i h1 hi ⟨i1, i0, i2, i3⟩ kk
      have no : ¬ (24 : Int32) ≤ nI (i + 3) := fun d => by have := (jn_le (a := 24) (by decide) (by omega)).mp d; omega
      have ea : (255 : Int32) + nI (i + 3) = nI (255 + i + 3) := by rw [show (255 : Int32) = nI 255 from rfl, nI_add]; rfl
      have eb : nI (255 + i + 3) - 3 = nI (255 + i) := by rw [← nI_add (255 + i) 3]; exact Int32.add_sub_cancel _ _
      refine bX12_notes_15 (fun d => absurd d no) (fun _ => bX12_notes_21 (by rw [ea]; exact vp_in_nI (by omega) (by decide)) (by rw [ea, eb]; exact vp_in_nI (by omega) (by decide)) ?_)
      rw [ea, eb, nI_clamp (by omega), nI_clamp (by omega), ← nI_succ]
      refine kk _ ⟨i1.put (by rw [jin_iff]; simp; omega), ?_, fun j hj => ?_, fun j hj => ?_⟩
      · rw [jput_sl (by omega)]; exact i0
      · by_cases z : j = i
        · subst z
          rw [jput_at, show 255 + j + 3 = 255 + (j + 3) by omega, i3 (j + 3) (by omega)]
        · rw [jput_sl (by omega)]; exact i2 j (by omega)
      · rw [jput_sl (by omega)]; exact i3 j (by omega)
abbrev fAtt : jF := ([(167, 169)], [(159, 19, 21), (160, 159, 278)])
theorem sFirst1_rg {f : Nat → Prop} : ∀ (k i : Nat), i + k < 1000 → (sFirst1 f k i = -1 ∨ ∃ d, d < 1000 ∧ sFirst1 f k i = nI d) := by
  intro k
  induction k with
  | zero => intro i _; exact Or.inl rfl
  | succ k ih =>
    intro i hi
    by_cases c : f i
    · rw [sFirst1_t c]; exact Or.inr ⟨i, by omega, rfl⟩
    · rw [sFirst1_f c]; exact ih (i + 1) (by omega)
theorem fw_neg (h12 : rs.length ≤ 12) : (sFirstWrong p rs < 0 ↔ sFirstWrong p rs = -1) := by
  rcases sFirst1_rg (f := fun i => ¬ sRightAt p rs i) rs.length 0 (by omega) with e | ⟨d, hd, e⟩
  · rw [show sFirstWrong p rs = -1 from e]; decide
  · rw [show sFirstWrong p rs = nI d from e]
    exact ⟨fun q => absurd q (nI_pos (by omega)), fun q => absurd q (nI_ne1 (by omega))⟩
theorem tX12_attempt {z : Nat × Option Nat} {a b : Int32} (k : isML h p) (hs : sProg p) (hr : isMRuns (h 160) rs) (h12 : rs.length ≤ 12) (ht : isMTries (h 160) p T) (ok : sTrOk p T) (hz : (sAll (sMends p))[tTried T]? = some z) (ea : a = nI z.1) (eb : b = (match z.2 with | none => -1 | some d => nI d)) :
    JM mX12_attempt [.ref 159, .int (nI (tTried T)), .int a, .int b] (jG0 sc) h (jvoid sc (fun h' => isMTries (h' 160) p (tStep p rs T) ∧ jfr fAtt h h')) := by
  have hfew := sAll_few hs
  have htr := ok.2.2.1
  have hA := sAll_lt hz
  obtain ⟨o1, -, -, o4⟩ := ok
  have eSh : sShape p (tTried T) = sBy p z := by rw [sShape_O, hz]; rfl
  have eSt : tStep p rs T = tAdd T (sFirstWrong (sBy p z) rs) := by unfold tStep; rw [eSh]
  rw [eSt]
  have hneg := fw_neg (p := sBy p z) h12
  have s3 : ∀ {h1 h2 : jH}, jfr ([], [(160, 254, 278)]) h1 h2 → jfr fAtt h1 h2 := fun f => f.mono rfl
  have allR : ∀ {h1 : jH}, isMP (h1 167) 0 (sBy p z) → jfr fAtt h h1 → isMTries (h1 160) p T → isMRuns (h1 160) rs → JM mX12_allRight [.ref 159] (jG0 sc) h1 (jint sc (fun x h' => x = sFirstWrong (sBy p z) rs ∧ isMTries (h' 160) p T ∧ jfr fAtt h h')) := fun {h1} w f t r =>
    jM_int (tX12_allRight w (sProg_by hs hA.1 hA.2) r h12) (fun x h' y => ⟨y.1, by rw [y.2.cell (k := 160) (fun _ => rfl)]; exact t, f.tr2 (y.2.mono rfl)⟩)
  generalize sFirstWrong (sBy p z) rs = w at *
  have lay : JM mX12_laysBy [.ref 159, .int a, .int b] (jG0 sc) h (jvoid sc (fun h' => isMP (h' 167) 0 (sBy p z) ∧ jfr fAtt h h' ∧ h' 160 = h 160)) := by
    rw [ea, eb]
    exact jM_void (tX12_laysBy k.1 hs k.2 hA.1 hA.2) (fun h' y => ⟨y.1, y.2.mono rfl, y.2.cell (fun _ => rfl)⟩)
  refine jM_of rfl (Nat.le_of_ble_eq_true rfl) (by decide +kernel) rfl (bX12_attempt_0 lay (P2 := fun x h' => x = w ∧ isMTries (h' 160) p T ∧ jfr fAtt h h') (fun h1 y => allR y.1 y.2.1 (by rw [y.2.2]; exact ht) (by rw [y.2.2]; exact hr))
    (P3 := fun h' => isMTries (h' 160) p (uNote T (nI (tTried T)) w) ∧ jfr fAtt h h') (fun h1 _ x2 h2 y => by rw [y.1]; exact jM_void (tX12_notes y.2.1 o1 o4) (fun h' v => ⟨v.1, y.2.2.tr2 (s3 v.2)⟩)) ?_)
  rintro h1 - x2 h2 ⟨rfl, -⟩ h3 ⟨⟨z1, z2, z3, z4, z5, z6, z7, z8⟩, f⟩
  have y3 : h3 160 159 = nI (tTried T) := z3
  have y1 : h3 160 163 = nI (tKept T).length := z1
  have y4 : h3 160 160 = tAll T := z4
  have low : ∀ {c : Nat} {x y : Int32} {r : Nat}, (r ≠ 159) → jput h3 160 159 x 160 r = h3 160 r := fun hc => by rw [jput_sl hc]
  refine bX12_attempt_26 (vp_in_nI (n := 159) (by decide) (by decide)) (vp_in_nI (n := 159) (by decide) (by decide)) (fun c => ?_) (fun c => bX12_attempt_36 (jvoid_i ⟨?_, ?_⟩))
  · rw [hneg] at c
    subst c
    rw [show ((159 : Int32).toNatClampNeg) = 159 from rfl, y3, ← nI_succ]
    have f1 : jfr fAtt h (jput h3 160 159 (nI (tTried T + 1))) := f.put rfl
    have f2 : ∀ x, jfr fAtt h (jput (jput h3 160 159 (nI (tTried T + 1))) 160 160 x) := fun x => f1.put rfl
    have e63 : ∀ x, jput (jput h3 160 159 (nI (tTried T + 1))) 160 160 x 160 163 = nI (tKept T).length := fun x => by rw [jput_sl (by decide), jput_sl (by decide)]; exact y1
    have e60 : jput h3 160 159 (nI (tTried T + 1)) 160 160 = tAll T := by rw [jput_sl (by decide)]; exact y4
    have eall : tAll (tAdd T (-1)) = tAll T + 1 := by
      show (if (-1 : Int32) = -1 then tAll T + 1 else tAll T) = tAll T + 1
      exact if_pos rfl
    refine bX12_attempt_37 (fun c => ?_) (fun c => bX12_attempt_62 (jvoid_i ⟨?_, f2 _⟩))
    · rw [e63, show (30 : Int32) = nI 30 from rfl, jn_eq (by omega) (by decide)] at c
      have g0 : (164 : Int32) + 3 * nI (tKept T).length = nI (164 + 3 * (tKept T).length) := by rw [show (3 : Int32) = nI 3 from rfl, show (164 : Int32) = nI 164 from rfl, pk_mul, nI_add]
      have g1 : nI (164 + 3 * (tKept T).length) + 1 = nI (164 + 3 * (tKept T).length + 1) := (nI_succ _).symm
      have g2 : nI (164 + 3 * (tKept T).length) + 2 = nI (164 + 3 * (tKept T).length + 2) := nI_add _ 2
      refine bX12_attempt_63 (by rw [e63, g0]; exact vp_in_nI (by omega) (by decide)) (by rw [e63, g0, g1]; exact vp_in_nI (by omega) (by decide)) ?_
      rw [e63, g0, g1, nI_clamp (by omega), nI_clamp (by omega)]
      refine bX12_attempt_101 (by rw [g2]; exact vp_in_nI (by omega) (by decide)) (jvoid_i ?_)
      rw [g2, nI_clamp (by omega), e60]
      have e4 : ∀ x y v u, jput (jput (jput (jput (jput h3 160 159 x) 160 160 y) 160 (164 + 3 * (tKept T).length) v) 160 (164 + 3 * (tKept T).length + 1) a) 160 (164 + 3 * (tKept T).length + 2) u 160 163 = nI (tKept T).length := fun x y v u => by
        rw [jput_sl (by omega), jput_sl (by omega), jput_sl (by omega), jput_sl (by omega), jput_sl (by omega)]; exact y1
      rw [e4, ← nI_succ]
      refine ⟨?_, ((((f2 _).put (by rw [jin_iff]; simp; omega)).put (by rw [jin_iff]; simp; omega)).put (by rw [jin_iff]; simp; omega)).put (by rw [jin_iff]; simp)⟩
      have ek : tKept (tAdd T (-1)) = tKept T ++ [tTried T] := if_pos ⟨rfl, by omega⟩
      have off : ∀ i, i < 254 → i ≠ 159 → i ≠ 160 → i ≠ 163 → (i < 164 + 3 * (tKept T).length ∨ 164 + 3 * (tKept T).length + 2 < i) → jput (jput (jput (jput (jput (jput h3 160 159 (nI (tTried T + 1))) 160 160 (tAll T + 1)) 160 (164 + 3 * (tKept T).length) (nI (tTried T))) 160 (164 + 3 * (tKept T).length + 1) a) 160 (164 + 3 * (tKept T).length + 2) b) 160 163 (nI ((tKept T).length + 1)) 160 i = h3 160 i := fun i a1 a2 a3 a4 a5 => by
        rw [jput_sl (by omega), jput_sl (by omega), jput_sl (by omega), jput_sl (by omega), jput_sl (by omega), jput_sl (by omega)]
      have off2 : ∀ i, 254 ≤ i → jput (jput (jput (jput (jput (jput h3 160 159 (nI (tTried T + 1))) 160 160 (tAll T + 1)) 160 (164 + 3 * (tKept T).length) (nI (tTried T))) 160 (164 + 3 * (tKept T).length + 1) a) 160 (164 + 3 * (tKept T).length + 2) b) 160 163 (nI ((tKept T).length + 1)) 160 i = h3 160 i := fun i a1 => by
        rw [jput_sl (by omega), jput_sl (by omega), jput_sl (by omega), jput_sl (by omega), jput_sl (by omega), jput_sl (by omega)]
      refine ⟨?_, fun i hi => ?_, ?_, ?_, (off _ (by omega) (by omega) (by omega) (by omega) (by omega)).trans z5, (off _ (by omega) (by omega) (by omega) (by omega) (by omega)).trans z6, (off2 _ (by omega)).trans z7, fun i hi => ?_⟩
      · rw [jput_at, ek, List.length_append, List.length_singleton]
      · rw [ek, List.length_append, List.length_singleton] at hi
        rw [ek, getD_ap1]
        by_cases y : i = (tKept T).length
        · rw [if_neg (by omega), if_pos y, y]
          have ep : sParts p (tTried T) = (a, b) := by
            unfold sParts
            rw [hz, ea, eb]
            obtain ⟨u, v⟩ := z
            cases v <;> rfl
          rw [ep]
          refine ⟨?_, ?_, ?_⟩
          · rw [jput_sl (by omega), jput_sl (by omega), jput_sl (by omega), jput_at]
          · rw [jput_sl (by omega), jput_sl (by omega), jput_at]
          · rw [jput_sl (by omega), jput_at]
        · rw [if_pos (show i < (tKept T).length by omega), off _ (by omega) (by omega) (by omega) (by omega) (by omega), off _ (by omega) (by omega) (by omega) (by omega) (by omega), off _ (by omega) (by omega) (by omega) (by omega) (by omega)]
          exact z2 i (show i < (tKept T).length by omega)
      · rw [jput_sl (by omega), jput_sl (by omega), jput_sl (by omega), jput_sl (by omega), jput_sl (by omega), jput_at]; rfl
      · rw [jput_sl (by omega), jput_sl (by omega), jput_sl (by omega), jput_sl (by omega), jput_at]; exact eall.symm
      · rw [off2 _ (by omega), off2 _ (by omega), off2 _ (by omega)]; exact z8 i hi
    · rw [e63, show (30 : Int32) = nI 30 from rfl, jn_eq (by omega) (by decide)] at c
      rw [e60]
      have ek : tKept (tAdd T (-1)) = tKept T := if_neg (fun q => by omega)
      have off : ∀ i, i ≠ 159 → i ≠ 160 → jput (jput h3 160 159 (nI (tTried T + 1))) 160 160 (tAll T + 1) 160 i = h3 160 i := fun i a1 a2 => by rw [jput_sl (by omega), jput_sl (by omega)]
      refine ⟨?_, fun i hi => ?_, ?_, ?_, (off _ (by omega) (by omega)).trans z5, (off _ (by omega) (by omega)).trans z6, (off _ (by omega) (by omega)).trans z7, fun i hi => ?_⟩
      · rw [ek, off _ (by omega) (by omega)]; exact y1
      · rw [ek] at hi ⊢
        rw [off _ (by omega) (by omega), off _ (by omega) (by omega), off _ (by omega) (by omega)]; exact z2 i hi
      · rw [jput_sl (by decide), jput_at]; rfl
      · rw [jput_at]; exact eall.symm
      · rw [off _ (by omega) (by omega), off _ (by omega) (by omega), off _ (by omega) (by omega)]; exact z8 i hi
  · rw [hneg] at c
    rw [show ((159 : Int32).toNatClampNeg) = 159 from rfl, y3, ← nI_succ]
    have ek : tKept (tAdd T x2) = tKept T := if_neg (fun q => c q.1)
    have off : ∀ i, i ≠ 159 → jput h3 160 159 (nI (tTried T + 1)) 160 i = h3 160 i := fun i a1 => by rw [jput_sl (by omega)]
    refine ⟨?_, fun i hi => ?_, ?_, ?_, (off _ (by omega)).trans z5, (off _ (by omega)).trans z6, (off _ (by omega)).trans z7, fun i hi => ?_⟩
    · rw [ek, off _ (by omega)]; exact y1
    · rw [ek] at hi ⊢
      rw [off _ (by omega), off _ (by omega), off _ (by omega)]; exact z2 i hi
    · rw [jput_at]; rfl
    · rw [off _ (by omega)]; exact y4.trans (if_neg c).symm
    · rw [off _ (by omega), off _ (by omega), off _ (by omega)]; exact z8 i hi
  · exact f.put rfl
end OP9
