/-! Operation tries: the class. -/
section OP7
variable {sc : Nat × (Nat → Int32)} {h : jH} {A : aA} {n : Nat} {p q : List Int32} {rs : List aRun} {T : aT}
def tDrop (rows : List aRow) : List aRow := if rows.length = 8 then rows.drop 1 else rows
noncomputable def tAdd (T : aT) (w : Int32) : aT := (if w = -1 ∧ (tKept T).length < 30 then tKept T ++ [tTried T] else tKept T, tTried T + 1, if w = -1 then tAll T + 1 else tAll T, tPleased T, tBarred T, tDrop (tRows T) ++ [(nI (tTried T), w, w)])
noncomputable def tStep (p : List Int32) (rs : List aRun) (T : aT) : aT := tAdd T (sFirstWrong (sShape p (tTried T)) rs)
noncomputable def tIter (p : List Int32) (rs : List aRun) : Nat → aT → aT
  | 0, T => T
  | k + 1, T => tStep p rs (tIter p rs k T)
theorem tIter_tried (k : Nat) : tTried (tIter p rs k T) = tTried T + k := by
  induction k with
  | zero => rfl
  | succ k ih => show tTried (tIter p rs k T) + 1 = _; rw [ih]; omega
theorem tDrop_len {rows : List aRow} (h8 : rows.length ≤ 8) : (tDrop rows).length < 8 := by
  unfold tDrop
  split
  · rename_i e; rw [List.length_drop, e]; omega
  · omega
theorem tAdd_ok {w : Int32} (ok : sTrOk p T) (ht : tTried T < (sAll (sMends p)).length) : sTrOk p (tAdd T w) := by
  obtain ⟨a, b, c, d⟩ := ok
  refine ⟨?_, ?_, ?_, ?_⟩
  · show (if _ then _ else _ : List Nat).length ≤ 30
    split
    · rename_i e; simp; omega
    · exact a
  · have e : tKept (tAdd T w) = if w = -1 ∧ (tKept T).length < 30 then tKept T ++ [tTried T] else tKept T := rfl
    rw [e]
    split
    · intro k hk
      rcases List.mem_append.mp hk with hk | hk
      · exact b k hk
      · rw [List.mem_singleton.mp hk]; exact ht
    · exact b
  · show tTried T + 1 ≤ _; omega
  · show (tDrop (tRows T) ++ [_]).length ≤ 8
    have := tDrop_len d
    simp; omega
theorem tIter_ok (ok : sTrOk p T) : ∀ (k : Nat), tTried T + k ≤ (sAll (sMends p)).length → sTrOk p (tIter p rs k T) := by
  intro k
  induction k with
  | zero => intro _; exact ok
  | succ k ih => intro hk; exact tAdd_ok (ih (by omega)) (by rw [tIter_tried]; omega)
def uTr (S : aS) (T : aT) : aS := (aBody S, aSecond S, aRuns S, aLaw S, T, aTaught S, aMade S, aBox S)
abbrev fTr : jF := ([(21, 24)], [(20, 1, 9)])
theorem getD_ap1 {α : Type} {xs : List α} {x d : α} {i : Nat} : (xs ++ [x]).getD i d = if i < xs.length then xs.getD i d else if i = xs.length then x else d := by
  simp only [List.getD_eq_getElem?_getD]
  by_cases h1 : i < xs.length
  · rw [if_pos h1, List.getElem?_append_left h1]
  · rw [if_neg h1, List.getElem?_append_right (by omega)]
    by_cases h2 : i = xs.length
    · rw [if_pos h2, h2, Nat.sub_self]; rfl
    · rw [if_neg h2, List.getElem?_eq_none (by simp; omega)]; rfl
theorem getD_drop1 {α : Type} {xs : List α} {d : α} {i : Nat} : (xs.drop 1).getD i d = xs.getD (i + 1) d := by
  simp only [List.getD_eq_getElem?_getD, List.getElem?_drop]; rw [Nat.add_comm]
def uRows (T : aT) (rows : List aRow) : aT := (tKept T, tTried T, tAll T, tPleased T, tBarred T, rows)
theorem tX9_dropOldest (k : isTries h 20 T) (h8 : (tRows T).length = 8) : JM mX9_dropOldest [.ref 20] (jG0 sc) h (jvoid sc (fun h' => isTries h' 20 (uRows T ((tRows T).drop 1)) ∧ jfr fTr h h')) := by
  have t_h : jI9 20 := by unfold jI9; decide
  obtain ⟨e1, e2, e3, e4, e5, e6, e7, e8⟩ := k
  refine jM_of rfl (Nat.le_of_ble_eq_true rfl) (by decide +kernel) rfl (rX9_dropOldest_0 t_h ?_)
  refine jloop (fun i (h1 : jH) => WP mX9_dropOldest _ 2 [some (.ref 20), some (.int (nI (i + 1)))] [] (jG0 sc) h1 (0, 0))
    (fun i h1 => jfr ([(22, 24)], []) h h1 ∧ ∀ j, (j < i → h1 22 j = h 22 (j + 1) ∧ h1 23 j = h 23 (j + 1) ∧ h1 24 j = h 24 (j + 1)) ∧ (i ≤ j → h1 22 j = h 22 j ∧ h1 23 j = h 23 j ∧ h1 24 j = h 24 j)) 7 ?_ ?_ 0 h (by omega) ⟨jfr.rf, fun j => ⟨fun q => absurd q (by omega), fun _ => ⟨rfl, rfl, rfl⟩⟩⟩
  · rintro h1 ⟨i1, i2⟩
    refine rX9_dropOldest_2 t_h (fun _ => jvoid_i ⟨?_, (i1.mono rfl).put rfl⟩) (fun c => absurd (by decide) c) (fun c => absurd (by decide) c) (fun c => absurd (by decide) c)
    have f : jfr ([(22, 24)], [(20, 9, 9)]) h (jput h1 20 9 (h1 20 9 - 1)) := (i1.mono rfl).put rfl
    refine ⟨(f 20 1 rfl).trans e1, fun i hi => (f 21 i rfl).trans (e2 i hi), (f 20 2 rfl).trans e3, (f 20 3 rfl).trans e4, (f 20 4 rfl).trans e5, (f 20 5 rfl).trans e6, ?_, fun i hi => ?_⟩
    · show jput h1 20 9 (h1 20 9 - 1) 20 9 = nI ((tRows T).drop 1).length
      rw [jput_at, show h1 20 9 = nI (tRows T).length from (i1 20 9 rfl).trans e7, List.length_drop, h8]; rfl
    · have hi' : i < 7 := by have : i < ((tRows T).drop 1).length := hi; rw [List.length_drop, h8] at this; omega
      obtain ⟨g1, g2, g3⟩ := (i2 i).1 hi'
      obtain ⟨w1, w2, w3⟩ := e8 (i + 1) (by omega)
      show jput h1 20 9 _ 22 i = (((tRows T).drop 1).getD i aRun0).1 ∧ jput h1 20 9 _ 23 i = (((tRows T).drop 1).getD i aRun0).2.1 ∧ jput h1 20 9 _ 24 i = (((tRows T).drop 1).getD i aRun0).2.2
      rw [getD_drop1, jput_ne (by decide), jput_ne (by decide), jput_ne (by decide)]
      exact ⟨g1.trans w1, g2.trans w2, g3.trans w3⟩
  · rintro i h1 hi ⟨i1, i2⟩ kk
    have no : ¬ (8 : Int32) ≤ nI (i + 1) := fun c => by have := (jn_le (a := 8) (by decide) (by omega)).mp c; omega
    have em : nI (i + 1) - 1 = nI i := by rw [nI_succ]; exact Int32.add_sub_cancel _ _
    refine rX9_dropOldest_2 t_h (fun c => absurd c no) (fun _ => vp_in_nI (by omega) (by decide)) (fun _ => by rw [em]; exact vp_in_nI (by omega) (by decide)) (fun _ => ?_)
    rw [em, nI_clamp (n := i) (by omega), nI_clamp (n := i + 1) (by omega), ← nI_succ]
    refine kk _ ⟨((i1.put rfl).put rfl).put rfl, fun j => ?_⟩
    obtain ⟨a1, a2, a3⟩ := (i2 (i + 1)).2 (by omega)
    simp only [jput_get]
    refine ⟨fun q => ?_, fun q => ?_⟩
    · by_cases z : j = i
      · subst z; simp [a1, a2, a3]
      · have := (i2 j).1 (by omega)
        simp [z, this]
    · have := (i2 j).2 (by omega)
      simp [show ¬ j = i by omega, this]
theorem tX9_add {w : Int32} (k : isTries h 20 T) (ok : sTrOk p T) (ht : tTried T < 2 ^ 31) : JM mX9_add [.ref 20, .int w] (jG0 sc) h (jvoid sc (fun h' => isTries h' 20 (tAdd T w) ∧ jfr fTr h h')) := by
  have t_h : jI9 20 := by unfold jI9; decide
  obtain ⟨o1, -, -, o4⟩ := ok
  -- behind the rows: one more
  have fin : ∀ (ks : List Nat) (al : Int32) (rows : List aRow) (h1 : jH), isTries h1 20 (ks, tTried T, al, tPleased T, tBarred T, rows) → rows.length < 8 → jfr fTr h h1 → (ks, tTried T + 1, al, tPleased T, tBarred T, rows ++ [(nI (tTried T), w, w)]) = tAdd T w →
      WP mX9_add (jvoid sc (fun h' => isTries h' 20 (tAdd T w) ∧ jfr fTr h h')) 67 [some (.ref 20), some (.int w)] [] (jG0 sc) h1 (0, 0) := by
    rintro ks al rows h1 ⟨e1, e2, e3, e4, e5, e6, e7, e8⟩ h8 f e
    have e7 : h1 20 9 = nI rows.length := e7
    have e3 : h1 20 2 = nI (tTried T) := e3
    have v : vp_in (h1 20 9) 8 := by rw [e7]; exact vp_in_nI h8 (by decide)
    have g2 : ∀ (c i : Nat) (x : Int32), c ≠ 20 → jput h1 c i x 20 9 = nI rows.length := fun c i x hc => by rw [jput_ne (by omega)]; exact e7
    refine bX9_add_67 t_h (fun c => absurd c (by rw [e7]; exact nI_pos (by omega))) (fun _ => bX9_add_74 t_h (fun c => absurd ((jn_le (a := 8) (b := rows.length) (by decide) (by omega)).mp (by rw [← e7]; exact c)) (by omega)) (fun _ => bX9_add_83 t_h v (by rw [jput_ne (by decide)]; exact v) (by rw [jput_ne (by decide), jput_ne (by decide)]; exact v) (bX9_add_122 t_h (bX9_add_126 t_h (jvoid_i ?_)))))
    simp only [show (20 + 2 : Nat) = 22 from rfl, show (20 + 3 : Nat) = 23 from rfl, show (20 + 4 : Nat) = 24 from rfl, jput_ne (show (20 : Nat) ≠ 22 by decide), jput_ne (show (20 : Nat) ≠ 23 by decide), jput_ne (show (20 : Nat) ≠ 24 by decide), jput_sl (show (2 : Nat) ≠ 9 by decide), e7, e3, nI_clamp (show rows.length < 2 ^ 31 by omega)]
    refine ⟨?_, (((((f.put rfl).put rfl).put rfl).put rfl).put rfl)⟩
    rw [← e]
    refine ⟨?_, fun i hi => ?_, ?_, ?_, ?_, ?_, ?_, fun i hi => ?_⟩
    · simp [jput_get]; exact e1
    · simp [jput_get]; exact e2 i hi
    · simp [jput_get]; rw [nI_succ]
    · simp [jput_get]; exact e4
    · simp [jput_get]; exact e5
    · simp [jput_get]; exact e6
    · simp [jput_get]; show _ = nI (rows ++ [(nI (tTried T), w, w)]).length; rw [List.length_append, List.length_singleton, nI_succ]
    · have hi' : i < (rows ++ [(nI (tTried T), w, w)]).length := hi
      simp only [List.length_append, List.length_singleton] at hi'
      show _ = ((rows ++ [(nI (tTried T), w, w)]).getD i aRun0).1 ∧ _ = ((rows ++ [(nI (tTried T), w, w)]).getD i aRun0).2.1 ∧ _ = ((rows ++ [(nI (tTried T), w, w)]).getD i aRun0).2.2
      rw [getD_ap1]
      by_cases z : i < rows.length
      · rw [if_pos z]
        obtain ⟨w1, w2, w3⟩ := e8 i z
        simp only [jput_get]
        have ne : ¬ i = rows.length := by omega
        simp only [ne, and_false, if_false, show ¬ ((22 : Nat) = 20 ∧ i = 2) from fun q => absurd q.1 (by decide), show ¬ ((22 : Nat) = 20 ∧ i = 9) from fun q => absurd q.1 (by decide), show ¬ ((23 : Nat) = 20 ∧ i = 2) from fun q => absurd q.1 (by decide), show ¬ ((23 : Nat) = 20 ∧ i = 9) from fun q => absurd q.1 (by decide), show ¬ ((24 : Nat) = 20 ∧ i = 2) from fun q => absurd q.1 (by decide), show ¬ ((24 : Nat) = 20 ∧ i = 9) from fun q => absurd q.1 (by decide)]
        exact ⟨w1, w2, w3⟩
      · rw [if_neg z, if_pos (show i = rows.length by omega)]
        simp only [jput_get]
        simp [show i = rows.length by omega]
  have mid : ∀ (ks : List Nat) (al : Int32) (h1 : jH), isTries h1 20 (ks, tTried T, al, tPleased T, tBarred T, tRows T) → jfr fTr h h1 → (ks, tTried T + 1, al, tPleased T, tBarred T, tDrop (tRows T) ++ [(nI (tTried T), w, w)]) = tAdd T w →
      WP mX9_add (jvoid sc (fun h' => isTries h' 20 (tAdd T w) ∧ jfr fTr h h')) 54 [some (.ref 20), some (.int w)] [] (jG0 sc) h1 (0, 0) := by
    intro ks al h1 k1 f e
    have e7 : h1 20 9 = nI (tRows T).length := k1.2.2.2.2.2.2.1
    refine bX9_add_54 t_h (fun c => ?_) (fun c => bX9_add_63 t_h (P1 := fun h' => isTries h' 20 (ks, tTried T, al, tPleased T, tBarred T, (tRows T).drop 1) ∧ jfr fTr h h') ?_ ?_)
    · rw [e7, show (8 : Int32) = nI 8 from rfl, jn_eq (by omega) (by decide)] at c
      have ed : tDrop (tRows T) = tRows T := if_neg c
      rw [ed] at e
      exact fin ks al (tRows T) h1 k1 (by omega) f e
    · rw [e7, show (8 : Int32) = nI 8 from rfl, jn_eq (by omega) (by decide)] at c
      exact jM_void (tX9_dropOldest k1 c) (fun h' z => ⟨z.1, f.tr2 z.2⟩)
    · rw [e7, show (8 : Int32) = nI 8 from rfl, jn_eq (by omega) (by decide)] at c
      rintro h2 ⟨z1, z2⟩
      have ed : tDrop (tRows T) = (tRows T).drop 1 := if_pos c
      rw [ed] at e
      exact fin ks al _ h2 z1 (by rw [List.length_drop, c]; omega) z2 e
  have low : ∀ (ks : List Nat) (h1 : jH), isTries h1 20 (ks, tTried T, tAll T, tPleased T, tBarred T, tRows T) → jfr fTr h h1 → w = -1 → (ks, tTried T + 1, tAll T + 1, tPleased T, tBarred T, tDrop (tRows T) ++ [(nI (tTried T), w, w)]) = tAdd T w →
      WP mX9_add (jvoid sc (fun h' => isTries h' 20 (tAdd T w) ∧ jfr fTr h h')) 44 [some (.ref 20), some (.int w)] [] (jG0 sc) h1 (0, 0) := by
    rintro ks h1 ⟨e1, e2, e3, e4, e5, e6, e7, e8⟩ f hw e
    refine bX9_add_44 t_h (mid ks (tAll T + 1) _ ⟨e1, e2, e3, ?_, e5, e6, e7, e8⟩ (f.put rfl) e)
    rw [jput_at, e4]
  refine jM_of rfl (Nat.le_of_ble_eq_true rfl) (by decide +kernel) rfl (bX9_add_0 t_h (fun c => ?_) (fun c => ?_))
  · refine mid (tKept T) (tAll T) h k jfr.rf ?_
    unfold tAdd
    rw [if_neg (fun q => c q.1), if_neg c]
  · have e1 : h 20 1 = nI (tKept T).length := k.1
    refine bX9_add_5 t_h (fun c2 => absurd c2 (by rw [e1]; exact nI_pos (by omega))) (fun _ => bX9_add_12 t_h (fun c2 => ?_) (fun c2 => bX9_add_21 t_h (by rw [e1]; rw [e1, show (30 : Int32) = nI 30 from rfl, jn_le (by decide) (by omega)] at c2; exact vp_in_nI (by omega) (by decide)) ?_))
    · rw [e1, show (30 : Int32) = nI 30 from rfl, jn_le (by decide) (by omega)] at c2
      refine low (tKept T) h k jfr.rf c ?_
      unfold tAdd
      rw [if_neg (fun q => by omega), if_pos c]
    · rw [e1, show (30 : Int32) = nI 30 from rfl, jn_le (by decide) (by omega)] at c2
      obtain ⟨-, e2, e3, e4, e5, e6, e7, e8⟩ := k
      refine low (tKept T ++ [tTried T]) _ ?_ ((jfr.rf.put (by rw [jin_iff]; simp)).put rfl) c ?_
      · simp only [show (20 + 1 : Nat) = 21 from rfl, e1, nI_clamp (show (tKept T).length < 2 ^ 31 by omega)]
        refine ⟨?_, fun i hi => ?_, ?_, ?_, ?_, ?_, ?_, fun i hi => ?_⟩
        · rw [jput_at, jput_ne (by decide), e1]; show _ = nI (tKept T ++ [tTried T]).length; rw [List.length_append, List.length_singleton, nI_succ]
        · have hi' : i < (tKept T ++ [tTried T]).length := hi
          rw [List.length_append, List.length_singleton] at hi'
          show _ = nI ((tKept T ++ [tTried T]).getD i 0)
          rw [getD_ap1, jput_ne (by decide), show (20 + 1 : Nat) = 21 from rfl]
          by_cases z : i = (tKept T).length
          · rw [z, if_neg (by omega), if_pos rfl, jput_at, e3]
          · rw [if_pos (by omega), jput_sl z]; exact e2 i (by omega)
        · exact e3
        · exact e4
        · exact e5
        · exact e6
        · exact e7
        · exact e8 i hi
      · unfold tAdd
        rw [if_pos ⟨c, by omega⟩, if_pos c]
end OP7
