/-! The class's list of mends: whole lines, and all of it. -/
section ME
variable {sc : Nat × (Nat → Int32)} {h : jH} {t a n : Nat} {ms : List sMd} {p : List Int32}
/-- mends of several forms on one line -/
def sPutQ (ms : List sMd) (n : Nat) (qs : List (Int32 × Int32)) : List sMd := ms ++ qs.map (fun q => (q.1, n, q.2))
theorem sPutQ_len {qs : List (Int32 × Int32)} : (sPutQ ms n qs).length = ms.length + qs.length := by simp [sPutQ]
theorem sPutQ_nil : sPutQ ms n [] = ms := by simp [sPutQ]
theorem sPutQ_one {qs : List (Int32 × Int32)} {f z : Int32} : sPutQ ms n qs ++ [(f, n, z)] = sPutQ ms n (qs ++ [(f, z)]) := by simp [sPutQ]
theorem sPutQ_app {qs rs : List (Int32 × Int32)} : sPutQ (sPutQ ms n qs) n rs = sPutQ ms n (qs ++ rs) := by simp [sPutQ]
theorem sPut_Q {f : Int32} {ls : List Int32} : sPut ms f n ls = sPutQ ms n (ls.map (fun z => (f, z))) := by simp [sPut, sPutQ]
theorem take_one {i : Nat} (hi : i < p.length) : p.take (i + 1) = p.take i ++ [p.getD i 4] := by
  rw [List.take_succ, List.getD_eq_getElem?_getD, List.getElem?_eq_getElem hi]; rfl
abbrev fMw (t : Nat) : jF := ([(t + 1, t + 3), (t + 5, t + 5)], [(t, 6, 6)])
abbrev wwLv (t n a : Nat) (l : Int32) (k : Option Value) : List (Option Value) := [some (.ref t), some (.int (nI n)), some (.ref a), some (.int l), k]
theorem fMd_w {h h' : jH} (f : jfr (fMd t) h h') : jfr (fMw t) h h' := f.mono (by simp [jsub])
theorem isP.ofw {F : jF} {h h' : jH} (k : isP h a p) (f : jfr F h h') (hF : jsub F ([(t + 1, t + 6)], [(t, 6, 8)]) = true) (ha : a + 1 < t ∨ t + 6 < a) : isP h' a p := by
  have f' := f.mono hF
  exact k.fr f' (by rw [jin_f]; simp <;> omega) (fun j => by rw [jin_f]; simp <;> omega)
theorem graftLoop {Q : jQ} {h0 : jH} (t_h : jI3 t) (a_h : jI4 a) (ha : a + 1 < t ∨ t + 6 < a) (hp : isP h0 a p) (m0 : isMs h0 t ms) (hl : ms.length + 10 ≤ 300) {l : Int32}
    (kk : ∀ h1, jfr (fMd t) h0 h1 → isMs h1 t (sPutQ ms n ((p.filter (fun z => decide (z ≠ l))).map (fun z => (5, z)))) → Q (.inl none) (jG0 sc) h1) :
    WP mX3_addWhole Q 65 (wwLv t n a l (some (.int 0))) [] (jG0 sc) h0 (0, 0) := by
  have hp10 := hp.2.1
  refine jloop (fun i (h1 : jH) => WP mX3_addWhole _ 65 (wwLv t n a l (some (.int (nI i)))) [] (jG0 sc) h1 (0, 0))
    (fun i h1 => jfr (fMd t) h0 h1 ∧ isMs h1 t (sPutQ ms n (((p.take i).filter (fun z => decide (z ≠ l))).map (fun z => (5, z))))) p.length ?_ ?_ 0 h0 (by omega) ⟨jfr.rf, by rw [List.take_zero, List.filter_nil, List.map_nil, sPutQ_nil]; exact m0⟩
  · rintro h1 ⟨i1, i2⟩
    have hp1 := hp.ofw i1 (by simp [jsub]) ha
    rw [List.take_length] at i2
    exact bX3_addWhole_65 a_h t_h (fun _ => bX3_addWhole_109 a_h t_h (kk h1 i1 i2)) (fun c => absurd (by rw [hp1.1]; exact nI_le (Nat.le_refl _) (by omega)) c)
  · rintro i h1 hi ⟨i1, i2⟩ k
    have hp1 := hp.ofw i1 (by simp [jsub]) ha
    have hi31 : i < 2 ^ 31 := by omega
    have len : ((p.take i).filter (fun z => decide (z ≠ l))).length ≤ i := Nat.le_trans (List.length_filter_le _ _) (by rw [List.length_take]; omega)
    refine bX3_addWhole_65 a_h t_h (fun c => ?_) (fun _ => bX3_addWhole_74 a_h t_h (fun c => ?_) (fun _ => ?_))
    · rw [hp1.1, jn_le (by omega) hi31] at c; omega
    · have := (jn_le (a := 10) (by decide) hi31).mp c; omega
    · refine bX3_addWhole_81 a_h t_h (tX4_lineAt a_h hp1 hi31) ?_ ?_
      · rintro _ _ ⟨rfl, rfl⟩ c
        refine bX3_addWhole_103 a_h t_h ?_
        rw [← nI_succ]
        refine k _ ⟨i1, ?_⟩
        rw [take_one hi, List.filter_append, List.filter_cons_of_neg (by rw [decide_eq_true_eq]; exact fun q => q c), List.filter_nil, List.append_nil]
        exact i2
      · rintro _ _ ⟨rfl, rfl⟩ c
        refine bX3_addWhole_91 a_h t_h (P2 := fun h' => isMs h' t (sPutQ ms n (((p.take i).filter (fun z => decide (z ≠ l))).map (fun z => (5, z))) ++ [(5, n, p.getD i 4)]) ∧ jfr (fMd t) h1 h') (tX4_lineAt a_h hp1 hi31) (fun _ _ q => ?_) ?_
        · rw [← q.2, q.1]
          exact tX3_add t_h i2 (by rw [sPutQ_len, List.length_map]; omega)
        · rintro _ _ ⟨rfl, rfl⟩ h5 ⟨g1, g2⟩
          refine bX3_addWhole_103 a_h t_h ?_
          rw [← nI_succ]
          refine k _ ⟨i1.tr2 g2, ?_⟩
          rw [sPutQ_one] at g1
          rw [take_one hi, List.filter_append, List.filter_cons_of_pos (by rw [decide_eq_true_eq]; exact c), List.filter_nil, List.map_append, List.map_singleton]
          exact g1
/-- OUT -/
def sOut (l : Int32) : List (Int32 × Int32) := if l = 4 then [] else [(3, 4)]
def sMoveAt (p : List Int32) (n : Nat) (k : Nat) : Int32 := if sMove p n = [] then -1 else nI k
theorem tX3_addWhole (t_h : jI3 t) (a_h : jI4 a) (ha : a + 1 < t ∨ t + 6 < a) (hp : isP h a p) (hn : n < p.length) (m0 : isMs h t ms) (hl : ms.length + 12 ≤ 300) (h5 : h (t + 5) n = -1) :
    JM mX3_addWhole [.ref t, .int (nI n), .ref a] (jG0 sc) h (jvoid sc (fun h' => isMs h' t (sPutQ ms n (sOut (p.getD n 4) ++ sMove p n ++ sGraft p n)) ∧ h' (t + 5) n = sMoveAt p n (ms.length + (sOut (p.getD n 4)).length) ∧ (∀ j, j ≠ n → h' (t + 5) j = h (t + 5) j) ∧ jfr (fMw t) h h')) := by
  have hp10 := hp.2.1
  have hn31 : n < 2 ^ 31 := by omega
  have lo : (sOut (p.getD n 4)).length ≤ 1 := by unfold sOut; split <;> simp
  -- the grafts, from any heap
  have J62 : ∀ h1 (m1 : List sMd) (v : Int32), isMs h1 t m1 → m1.length + 10 ≤ 300 → m1 = sPutQ ms n (sOut (p.getD n 4) ++ sMove p n) → jfr (fMw t) h h1 → h1 (t + 5) n = sMoveAt p n (ms.length + (sOut (p.getD n 4)).length) → (∀ j, j ≠ n → h1 (t + 5) j = h (t + 5) j) →
      WP mX3_addWhole (jvoid sc (fun h' => isMs h' t (sPutQ ms n (sOut (p.getD n 4) ++ sMove p n ++ sGraft p n)) ∧ h' (t + 5) n = sMoveAt p n (ms.length + (sOut (p.getD n 4)).length) ∧ (∀ j, j ≠ n → h' (t + 5) j = h (t + 5) j) ∧ jfr (fMw t) h h')) 62 (wwLv t n a (p.getD n 4) none) [] (jG0 sc) h1 (0, 0) := by
    intro h1 m1 v e1 e2 e3 e4 e5 e6
    refine bX3_addWhole_62 a_h t_h (graftLoop t_h a_h ha (hp.ofw e4 (by simp [jsub]) ha) e1 e2 (fun h2 f2 g2 => jvoid_i ⟨?_, ?_, ?_, e4.tr2 (fMd_w f2)⟩))
    · rw [e3, sPutQ_app] at g2; exact g2
    · rw [f2 _ _ (by rw [jin_f]; simp <;> omega)]; exact e5
    · intro j hj; rw [f2 _ _ (by rw [jin_f]; simp <;> omega)]; exact e6 j hj
  have J18 : ∀ h1, isMs h1 t (sPutQ ms n (sOut (p.getD n 4))) → jfr (fMd t) h h1 →
      WP mX3_addWhole (jvoid sc (fun h' => isMs h' t (sPutQ ms n (sOut (p.getD n 4) ++ sMove p n ++ sGraft p n)) ∧ h' (t + 5) n = sMoveAt p n (ms.length + (sOut (p.getD n 4)).length) ∧ (∀ j, j ≠ n → h' (t + 5) j = h (t + 5) j) ∧ jfr (fMw t) h h')) 18 (wwLv t n a (p.getD n 4) none) [] (jG0 sc) h1 (0, 0) := by
    intro h1 e1 f1
    have hp1 := hp.ofw f1 (by simp [jsub]) ha
    have g5 : ∀ j, h1 (t + 5) j = h (t + 5) j := fun j => f1 _ _ (by rw [jin_f]; simp <;> omega)
    have es : nI n + 1 = nI (n + 1) := (nI_succ n).symm
    have nomove : sMove p n = [] → WP mX3_addWhole _ 62 (wwLv t n a (p.getD n 4) none) [] (jG0 sc) h1 (0, 0) := fun q =>
      J62 h1 _ 0 e1 (by rw [sPutQ_len]; omega) (by rw [q, List.append_nil]) (fMd_w f1) (by rw [g5, h5, sMoveAt, if_pos q]) (fun j _ => g5 j)
    refine bX3_addWhole_18 a_h t_h (fun c => ?_) (fun c => ?_)
    · rw [es, hp1.1, jn_le (by omega) (by omega)] at c
      exact nomove (by unfold sMove; rw [if_neg (fun q => by omega)])
    · rw [es, hp1.1, jn_le (by omega) (by omega)] at c
      refine bX3_addWhole_28 a_h t_h (by rw [es]; exact tX4_lineAt a_h hp1 (by omega)) ?_ ?_
      · rintro _ _ ⟨rfl, rfl⟩ c2
        exact nomove (by unfold sMove; rw [if_neg (fun q => q.2 c2)])
      · rintro _ _ ⟨rfl, rfl⟩ c2
        have em : sMove p n = [(4, p.getD n 4)] := by unfold sMove; rw [if_pos ⟨by omega, c2⟩]
        refine bX3_addWhole_39 a_h t_h (fun q => ?_) (fun _ => ?_)
        · have := (jn_le (a := 10) (by decide) hn31).mp q; omega
        · have e1' : isMs (jput h1 (t + 5) ((nI n).toNatClampNeg) (h1 t 6)) t (sPutQ ms n (sOut (p.getD n 4))) := e1.fr (F := ([(t + 5, t + 5)], [])) (jfr.rf.put (by rw [jin_iff]; simp)) (by rw [jin_f]; simp <;> omega) (fun j => by rw [jin_f]; simp <;> omega) (fun j => by rw [jin_f]; simp <;> omega) (fun j => by rw [jin_f]; simp <;> omega)
          refine bX3_addWhole_45 a_h t_h (vp_in_nI (by omega) (by decide)) (tX3_add t_h e1' (by rw [sPutQ_len]; omega)) ?_
          rintro h2 ⟨g1, g2⟩
          rw [sPutQ_one] at g1
          refine J62 h2 _ 0 g1 (by rw [sPutQ_len, List.length_append, List.length_singleton]; omega) (by rw [em]) ?_ ?_ ?_
          · exact ((fMd_w f1).put (by rw [jin_iff]; simp)).tr2 (fMd_w g2)
          · rw [g2 _ _ (by rw [jin_f]; simp <;> omega), nI_clamp hn31, jput_at, e1.1, sPutQ_len, sMoveAt, em, if_neg (by simp)]
          · intro j hj
            rw [g2 _ _ (by rw [jin_f]; simp <;> omega), nI_clamp hn31, jput_sl hj, g5]
  refine jM_of rfl (Nat.le_of_ble_eq_true rfl) (by decide +kernel) rfl (bX3_addWhole_0 a_h t_h (tX4_lineAt a_h hp hn31) ?_ ?_)
  · rintro _ _ ⟨rfl, rfl⟩ c
    exact J18 h (by unfold sOut; rw [if_pos c, sPutQ_nil]; exact m0) jfr.rf
  · rintro _ _ ⟨rfl, rfl⟩ c
    refine bX3_addWhole_11 a_h t_h (tX3_add t_h m0 (by omega)) ?_
    rintro h2 ⟨g1, g2⟩
    have e : sPutQ ms n (sOut (p.getD n 4)) = ms ++ [(3, n, 4)] := by unfold sOut; rw [if_neg c]; simp [sPutQ]
    exact J18 h2 (by rw [e]; exact g1) g2
end ME
