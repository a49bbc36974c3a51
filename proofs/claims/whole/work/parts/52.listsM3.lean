/-! The reference's list of mends, and a program as by a mend. -/
section LP
variable {sc : Nat × (Nat → Int32)} {h : jH} {p q : List Int32} {n a an : Nat}
abbrev fLists : jF := ([(170, 173)], [(159, 26, 26)])
theorem isMP.copy {w w' : Nat → Int32} {k : Nat} (hp : isMP w k p) (e : ∀ j, j < 61 → w' j = w (k + j)) : isMP w' 0 p := by
  obtain ⟨h1, h2, h3⟩ := hp
  refine ⟨by rw [e 0 (by decide), Nat.add_zero]; exact h1, h2, fun i hi j hj => ?_⟩
  rw [e _ (by omega), ← h3 i hi j hj]
  congr 1; omega
theorem len_small {l : Int32} (hl : sOk l) : (sNamesF l).length ≤ 5 ∧ (sNamesS l).length ≤ 5 ∧ (sNamesM l).length ≤ 7 ∧ (sSg1 l).length + (sSg2 l).length ≤ 7 ∧ (sBoundF l).length ≤ 5 ∧ (sBoundS l).length ≤ 5 ∧ (sBoundC l).length ≤ 7 ∧ (sOut l).length ≤ 1 := by
  have h1 := @lenF l
  have h2 := @lenS l
  have h3 := lenK hl
  have h4 : (sSigns l).length = (sSg1 l).length + (sSg2 l).length := by rw [← sSg_all hl, List.length_append]
  have h5 : (sOut l).length ≤ 1 := by unfold sOut; split <;> simp
  omega
theorem tX12_lists {fr : Nat} (a_h : jIA a an) (hfr : fr + 61 ≤ an) (han : an < 2 ^ 31) (ha : a < 170 ∨ 173 < a) (hp : isMP (h a) fr p) (hs : sProg p) :
    JM mX12_lists [.ref 159, .ref a, .int (nI fr)] (jG0 sc) h (jvoid sc (fun h' => isMP (h' 170) 0 p ∧ mML h' p (sMends p) ∧ jfr fLists h h')) := by
  have hp10 := hs.1
  refine jM_of rfl (Nat.le_of_ble_eq_true rfl) (by decide +kernel) rfl (bX12_lists_0 a_h ?_)
  refine jloop (fun i (h1 : jH) => WP mX12_lists _ 2 [some (.ref 159), some (.ref a), some (.int (nI fr)), some (.int (nI i)), none, none, none] [] (jG0 sc) h1 (0, 0))
    (fun i h1 => jfr ([(170, 170)], []) h h1 ∧ ∀ j, j < i → h1 170 j = h a (fr + j)) 61 ?_ ?_ 0 h (by omega) ⟨jfr.rf, fun j hj => absurd hj (by omega)⟩
  · rintro h1 ⟨i1, i2⟩
    have hp0 : isMP (h1 170) 0 p := hp.copy i2
    refine bX12_lists_2 a_h (fun _ => bX12_lists_25 a_h ?_) (fun c => absurd (by decide) c)
    have hp1 : isMP ((jput h1 159 26 0) 170) 0 p := by rw [jput_ne (by decide)]; exact hp0
    rw [hp1.1]
    refine jloop (fun i (h2 : jH) => WP mX12_lists _ 40 (lLv a (nI fr) p i none none) [] (jG0 sc) h2 (0, 0))
      (fun i h2 => jfr fLists h h2 ∧ isMP (h2 170) 0 p ∧ mML h2 p (sMendsTo p i)) p.length ?_ ?_ 0 _ (by omega) ⟨(i1.mono rfl).put rfl, hp1, by rw [jput_at]; rfl, fun j hj => absurd hj (Nat.not_lt_zero _)⟩
    · rintro h2 ⟨j1, j2, j3⟩
      exact bX12_lists_40 a_h (fun _ => bX12_lists_375 a_h (jvoid_i ⟨j2, j3, j1⟩)) (fun c => absurd (nI_le (Nat.le_refl _) (by omega)) c)
    · rintro i h2 hi ⟨j1, j2, j3⟩ k
      have hl : sOk (p.getD i 4) := hs.2 _ (getD_mem hi)
      obtain ⟨b1, b2, b3, b4, b5, b6, b7, b8⟩ := len_small hl
      have hM : (sMendsTo p i).length ≤ 252 := by have := sMendsTo_28 hs (n := i) (by omega); omega
      have hV := @lenMove i p
      refine bX12_lists_40 a_h (fun c => ?_) (fun _ => ?_)
      · rw [jn_le (by omega) (by omega)] at c; omega
      · refine lsF (L := []) a_h j2 hs hi (by rw [sPutQ_nil]; exact j3) (by rw [List.length_nil]; omega) (fun h3 f3 m3 => ?_)
        have q3 := j2.ls f3 (fun _ => rfl)
        refine lsS a_h q3 hs hi m3 (by simp only [List.length_append, List.length_map, List.length_nil]; omega) (fun h4 f4 m4 => ?_)
        have q4 := q3.ls f4 (fun _ => rfl)
        refine lsM a_h q4 hs hi m4 (by simp only [List.length_append, List.length_map, List.length_nil]; omega) (fun h5 f5 m5 => ?_)
        have q5 := q4.ls f5 (fun _ => rfl)
        refine lsG1 a_h q5 hs hi m5 (by simp only [List.length_append, List.length_map, List.length_nil]; omega) (fun h6 f6 m6 => ?_)
        have q6 := q5.ls f6 (fun _ => rfl)
        refine lsG2 a_h q6 hs hi m6 (by simp only [List.length_append, List.length_map, List.length_nil]; omega) (fun h7 f7 m7 => ?_)
        have q7 := q6.ls f7 (fun _ => rfl)
        refine lsBF a_h q7 hs hi m7 (by simp only [List.length_append, List.length_map, List.length_nil]; omega) (fun h8 f8 m8 => ?_)
        have q8 := q7.ls f8 (fun _ => rfl)
        refine lsBS a_h q8 hs hi m8 (by simp only [List.length_append, List.length_map, List.length_nil]; omega) (fun h9 f9 m9 => ?_)
        have q9 := q8.ls f9 (fun _ => rfl)
        refine lsBC a_h q9 hs hi m9 (by simp only [List.length_append, List.length_map, List.length_nil]; omega) (fun h10 f10 m10 => ?_)
        have q10 := q9.ls f10 (fun _ => rfl)
        refine lsO a_h q10 hs hi m10 (by simp only [List.length_append, List.length_map, List.length_nil]; omega) (fun h11 f11 m11 => ?_)
        have q11 := q10.ls f11 (fun _ => rfl)
        refine lsV a_h q11 hs hi m11 (by simp only [List.length_append, List.length_map, List.length_nil]; omega) (fun h12 f12 m12 => ?_)
        have q12 := q11.ls f12 (fun _ => rfl)
        refine lsGr a_h q12 hs hi m12 (by simp only [List.length_append, List.length_map, List.length_nil]; omega) (fun h13 f13 m13 => ?_)
        have q13 := q12.ls f13 (fun _ => rfl)
        refine k h13 ⟨?_, q13, ?_⟩
        · exact j1.tr2 ((((((((((((f3.tr2 f4).tr2 f5).tr2 f6).tr2 f7).tr2 f8).tr2 f9).tr2 f10).tr2 f11).tr2 f12).tr2 f13)).mono rfl)
        · have e : sMendsTo p (i + 1) = sPutQ (sMendsTo p i) i ([] ++ (sNamesF (p.getD i 4)).map (fun z => (0, z)) ++ (sNamesS (p.getD i 4)).map (fun z => (0, z)) ++ (sNamesM (p.getD i 4)).map (fun z => (0, z)) ++ (sSg1 (p.getD i 4)).map (fun z => (1, z)) ++ (sSg2 (p.getD i 4)).map (fun z => (1, z)) ++ (sBoundF (p.getD i 4)).map (fun z => (2, z)) ++ (sBoundS (p.getD i 4)).map (fun z => (2, z)) ++ (sBoundC (p.getD i 4)).map (fun z => (2, z)) ++ sOut (p.getD i 4) ++ sMove p i ++ sGraft p i) := by
            rw [sMendsTo_succ, sMendsAt, sAhead, ← sSg_all hl]
            simp only [sPutQ, sOut, List.map_append, List.nil_append, List.append_assoc]
          rw [e]; exact m13
  · rintro i h1 hi ⟨i1, i2⟩ k
    have hi31 : i < 2 ^ 31 := by omega
    refine bX12_lists_2 a_h (fun c => absurd ((jn_le (a := 61) (by decide) hi31).mp c) (by omega)) (fun _ => ?_)
    refine bX12_lists_8 a_h (by rw [nI_add]; exact vp_in_nI (by omega) han) (vp_in_nI hi (by decide)) ?_
    rw [nI_add, nI_clamp hi31, nI_clamp (n := fr + i) (by omega), ← nI_succ]
    refine k _ ⟨i1.put rfl, fun j hj => ?_⟩
    have ea : h1 a = h a := i1.cell (fun j => by rw [jin_f]; simp <;> omega)
    by_cases z : j = i
    · rw [z, jput_at, ea]
    · rw [jput_sl z]; exact i2 j (by omega)
theorem tX12_listsBody (hp : isMP (h 160) 0 p) (hs : sProg p) : JM mX12_listsBody [.ref 159] (jG0 sc) h (jvoid sc (fun h' => isMP (h' 170) 0 p ∧ mML h' p (sMends p) ∧ jfr fLists h h')) :=
  jM_of rfl (Nat.le_of_ble_eq_true rfl) (by decide +kernel) rfl (rX12_listsBody_0 (tX12_lists (a := 160) (an := 1454) (fr := 0) (by unfold jIA; decide) (by decide) (by decide) (Or.inl (by decide)) hp hs) (fun h1 q => jvoid_i q))
abbrev fProg : jF := ([(167, 167)], [])
theorem tX12_plain (hp : isMP (h 170) 0 p) : JM mX12_plain [.ref 159] (jG0 sc) h (jvoid sc (fun h' => isMP (h' 167) 0 p ∧ jfr fProg h h')) := by
  refine jM_of rfl (Nat.le_of_ble_eq_true rfl) (by decide +kernel) rfl (rX12_plain_0 ?_)
  refine jloop (fun i (h1 : jH) => WP mX12_plain _ 2 [some (.ref 159), some (.int (nI i))] [] (jG0 sc) h1 (0, 0))
    (fun i h1 => jfr fProg h h1 ∧ ∀ j, j < i → h1 167 j = h 170 (0 + j)) 61 ?_ ?_ 0 h (by omega) ⟨jfr.rf, fun j hj => absurd hj (by omega)⟩
  · rintro h1 ⟨i1, i2⟩
    exact rX12_plain_2 (fun _ => jvoid_i ⟨hp.copy i2, i1⟩) (fun c => absurd (by decide) c) (fun c => absurd (by decide) c)
  · rintro i h1 hi ⟨i1, i2⟩ k
    have hi31 : i < 2 ^ 31 := by omega
    refine rX12_plain_2 (fun c => absurd ((jn_le (a := 61) (by decide) hi31).mp c) (by omega)) (fun _ => vp_in_nI hi (by decide)) (fun _ => ?_)
    rw [nI_clamp hi31, ← nI_succ]
    refine k _ ⟨i1.put rfl, fun j hj => ?_⟩
    have ea : h1 170 = h 170 := i1.cell (fun j => rfl)
    by_cases z : j = i
    · rw [z, jput_at, ea, Nat.zero_add]
    · rw [jput_sl z]; exact i2 j (by omega)
theorem sMd_move (hs : sProg p) (hn : n < (sMends p).length) (h4 : ((sMends p).getD n sMd0).1 = 4) : ((sMends p).getD n sMd0).2.1 + 1 < p.length := by
  have h1 : (sMends p).getD n sMd0 ∈ sMends p := getD_mem hn
  generalize (sMends p).getD n sMd0 = m at *
  obtain ⟨i, hi, h2⟩ := List.mem_flatMap.mp h1
  obtain ⟨z, hz, e⟩ := List.mem_map.mp h2
  rw [← e] at h4 ⊢
  simp only [List.mem_append] at hz
  rcases hz with (hz | hz) | hz
  · exact absurd h4 (sAhead_form hz)
  · unfold sMove at hz
    split at hz
    · next c => exact c.1
    · cases hz
  · unfold sGraft at hz
    obtain ⟨y, -, rfl⟩ := List.mem_map.mp hz
    exact absurd h4 (show (5 : Int32) ≠ 4 by decide)
theorem tX12_mendsBy (hp : isMP (h 170) 0 p) (hs : sProg p) (hm : mML h p (sMends p)) (hq : isMP (h 167) 0 q) (hql : q.length = p.length) (hn : n < (sMends p).length) :
    JM mX12_mendsBy [.ref 159, .int (nI n)] (jG0 sc) h (jvoid sc (fun h' => isMP (h' 167) 0 (sChange p ((sMends p).getD n sMd0) q) ∧ jfr fProg h h')) := by
  have h280 := sMends_280 hs
  have hn31 : n < 2 ^ 31 := by omega
  have hp10 := hs.1
  have hpl := sMd_ok hs hn
  have hmv := sMd_move hs hn
  obtain ⟨f1, f2, f3⟩ := hm.2 n hn
  have vi : vp_in (nI n) 400 := vp_in_nI (by omega) (by decide)
  refine jM_of rfl (Nat.le_of_ble_eq_true rfl) (by decide +kernel) rfl (rX12_mendsBy_0 vi ?_)
  rw [nI_clamp hn31, f2, (mk_0 (n := ((sMends p).getD n sMd0).2.1) (by omega)).2.2]
  generalize (sMends p).getD n sMd0 = m at *
  have hat61 : 1 + 6 * m.2.1 + 6 ≤ 61 := by omega
  refine jloop (fun i (h1 : jH) => WP mX12_mendsBy _ 14 [some (.ref 159), some (.int (nI n)), some (.int (nI (1 + 6 * m.2.1))), some (.int (nI i))] [] (jG0 sc) h1 (0, 0))
    (fun i h1 => jfr fProg h h1 ∧ ∀ j, h1 167 j = if 1 + 6 * m.2.1 ≤ j ∧ j < 1 + 6 * m.2.1 + i then sFld (mLine p m) (j - (1 + 6 * m.2.1)) else if m.1 = 4 ∧ 1 + 6 * m.2.1 + 6 ≤ j ∧ j < 1 + 6 * m.2.1 + 6 + i then sFld (p.getD m.2.1 4) (j - (1 + 6 * m.2.1 + 6)) else h 167 j) 6 ?_ ?_ 0 h (by omega) ⟨jfr.rf, fun j => by rw [if_neg (by omega), if_neg (by omega)]⟩
  · rintro h1 ⟨i1, i2⟩
    refine rX12_mendsBy_14 (fun _ => jvoid_i ⟨⟨?_, by rw [sChange_len]; exact hq.2.1, fun i hi j hj => ?_⟩, i1⟩) (fun c => absurd (by decide) c) (fun c => absurd (by decide) c) (fun c => absurd (by decide) c) (fun c => absurd (by decide) c) (fun c => absurd (by decide) c) (fun c => absurd (by decide) c) (fun c => absurd (by decide) c) (fun c => absurd (by decide) c)
    · rw [i2, if_neg (by omega), if_neg (by omega), sChange_len]; exact hq.1
    · rw [sChange_len] at hi
      rw [i2]
      have old : h 167 (0 + 1 + 6 * i + j) = sFld (q.getD i 4) j := hq.2.2 i hi j hj
      unfold sChange
      by_cases h4 : m.1 = 4
      · rw [if_pos h4, getD_set (by rw [List.length_set]; exact hi), getD_set hi]
        by_cases e1 : i = m.2.1
        · rw [if_pos (by omega), if_neg (by omega), if_pos e1, mLine, if_pos h4]
          congr 1; omega
        · by_cases e2 : i = m.2.1 + 1
          · rw [if_neg (by omega), if_pos ⟨h4, by omega, by omega⟩, if_pos e2]
            congr 1; omega
          · rw [if_neg (by omega), if_neg (by omega), if_neg e2, if_neg e1]; exact old
      · rw [if_neg h4, getD_set hi]
        by_cases e1 : i = m.2.1
        · rw [if_pos (by omega), if_pos e1, mLine, if_neg h4]
          congr 1; omega
        · rw [if_neg (by omega), if_neg (fun z => h4 z.1), if_neg e1]; exact old
  · rintro i h1 hi ⟨i1, i2⟩ k
    have hi31 : i < 2 ^ 31 := by omega
    have no : ¬ (6 : Int32) ≤ nI i := fun c => by have := (jn_le (a := 6) (by decide) hi31).mp c; omega
    have e71 : h1 171 ((nI n).toNatClampNeg) = m.1 := by rw [nI_clamp hn31, i1.cell (fun _ => rfl)]; exact f1
    have e73 : h1 173 (6 * n + i) = sFld (mLine p m) i := by rw [i1.cell (fun _ => rfl)]; exact f3 i hi
    have hp1 := hp.ls i1 (fun _ => rfl)
    have eb : nI (1 + 6 * m.2.1) + nI i = nI (1 + 6 * m.2.1 + i) := nI_add _ _
    have eb6 : nI (1 + 6 * m.2.1) + 6 + nI i = nI (1 + 6 * m.2.1 + 6 + i) := by rw [show (6 : Int32) = nI 6 from rfl, nI_add, nI_add]
    have v0 : vp_in (nI (1 + 6 * m.2.1) + nI i) 61 := by rw [eb]; exact vp_in_nI (by omega) (by decide)
    have v3 : vp_in (6 * nI n + nI i) 2400 := by rw [six_ix]; exact vp_in_nI (by omega) (by decide)
    refine rX12_mendsBy_14 (fun c => absurd c no) (fun _ => vi) (fun _ _ => v3) (fun _ _ => v0) (fun _ c => ?_) (fun _ _ => v0) (fun _ c => by rw [e71] at c; have := hmv c; rw [eb6]; exact vp_in_nI (by omega) (by decide)) (fun _ _ => v3) (fun _ c => ?_)
    all_goals rw [e71] at c
    · rw [eb, six_ix, nI_clamp (by omega), nI_clamp (by omega), ← nI_succ, e73]
      refine k _ ⟨i1.put rfl, fun j => ?_⟩
      rw [jput_get]
      by_cases z : j = 1 + 6 * m.2.1 + i
      · rw [if_pos ⟨rfl, z⟩, if_pos (by omega)]; congr 1; omega
      · rw [if_neg (fun y => z y.2), i2]
        by_cases y : 1 + 6 * m.2.1 ≤ j ∧ j < 1 + 6 * m.2.1 + i
        · rw [if_pos y, if_pos (by omega)]
        · rw [if_neg y, if_neg (fun x => c x.1), if_neg (by omega), if_neg (fun x => c x.1)]
    · have hm1 := hmv c
      have e70 : h1 170 ((nI (1 + 6 * m.2.1) + nI i).toNatClampNeg) = sFld (p.getD m.2.1 4) i := by rw [eb, nI_clamp (by omega)]; exact hp1.at hpl hi
      rw [jput_ne (h := h1) (k := 173) (by decide), e70, eb, eb6, six_ix, nI_clamp (by omega), nI_clamp (by omega), nI_clamp (by omega), ← nI_succ, e73]
      refine k _ ⟨(i1.put rfl).put rfl, fun j => ?_⟩
      rw [jput_get, jput_get]
      by_cases z : j = 1 + 6 * m.2.1 + i
      · rw [if_pos ⟨rfl, z⟩, if_pos (by omega)]; congr 1; omega
      · rw [if_neg (fun y => z y.2)]
        by_cases z2 : j = 1 + 6 * m.2.1 + 6 + i
        · rw [if_pos ⟨rfl, z2⟩, if_neg (by omega), if_pos ⟨c, by omega, by omega⟩]; congr 1; omega
        · rw [if_neg (fun y => z2 y.2), i2]
          by_cases y : 1 + 6 * m.2.1 ≤ j ∧ j < 1 + 6 * m.2.1 + i
          · rw [if_pos y, if_pos (by omega)]
          · rw [if_neg y]
            by_cases x : m.1 = 4 ∧ 1 + 6 * m.2.1 + 6 ≤ j ∧ j < 1 + 6 * m.2.1 + 6 + i
            · rw [if_pos x, if_neg (by omega), if_pos ⟨c, by omega, by omega⟩]
            · rw [if_neg x, if_neg (by omega), if_neg (by intro w; exact x ⟨c, by omega, by omega⟩)]
theorem mML.pr {h h' : jH} {ms : List sMd} (k : mML h p ms) (f : jfr fProg h h') : mML h' p ms := by
  obtain ⟨k1, k2⟩ := k
  refine ⟨(f 159 26 rfl).trans k1, fun i hi => ?_⟩
  rw [f.cell (k := 171) (fun _ => rfl), f.cell (k := 172) (fun _ => rfl), f.cell (k := 173) (fun _ => rfl)]
  exact k2 i hi
/-- laid by one mend, or by two -/
theorem tX12_laysBy {z : Nat × Option Nat} (hp : isMP (h 170) 0 p) (hs : sProg p) (hm : mML h p (sMends p)) (h1 : z.1 < (sMends p).length) (h2 : ∀ d, z.2 = some d → d < (sMends p).length) :
    JM mX12_laysBy [.ref 159, .int (nI z.1), .int (match z.2 with | none => -1 | some d => nI d)] (jG0 sc) h (jvoid sc (fun h' => isMP (h' 167) 0 (sBy p z) ∧ jfr fProg h h')) := by
  have h280 := sMends_280 hs
  obtain ⟨u, o⟩ := z
  refine jM_of rfl (Nat.le_of_ble_eq_true rfl) (by decide +kernel) rfl (rX12_laysBy_0 (tX12_plain hp)
    (P2 := fun h' => isMP (h' 167) 0 (sChange p ((sMends p).getD u sMd0) p) ∧ jfr fProg h h')
    (fun g w => jM_void (tX12_mendsBy (hp.ls w.2 (fun _ => rfl)) hs (hm.pr w.2) w.1 rfl h1) (fun h' r => ⟨r.1, w.2.tr2 r.2⟩)) (fun _ _ g w c => ?_)
    (P3 := fun h' => isMP (h' 167) 0 (sBy p (u, o)) ∧ jfr fProg h h') (fun _ _ g w c => ?_) (fun _ _ _ _ _ g w => jvoid_i w))
  · cases o with
    | none => exact jvoid_i w
    | some d => exact absurd c (nI_pos (by have := h2 d rfl; omega))
  · cases o with
    | none => exact absurd (show (-1 : Int32) < 0 by decide) c
    | some d => exact jM_void (tX12_mendsBy (hp.ls w.2 (fun _ => rfl)) hs (hm.pr w.2) w.1 sChange_len (h2 d rfl)) (fun h' r => ⟨r.1, w.2.tr2 r.2⟩)
end LP
