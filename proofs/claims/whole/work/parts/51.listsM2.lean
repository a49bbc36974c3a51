/-! The reference's list of mends: line by line. -/
section LO
variable {sc : Nat × (Nat → Int32)} {p : List Int32} {M : List sMd} {n a an : Nat} {l2 : Int32}
theorem nI_rg {i : Nat} {lo hi : Int} (h1 : lo ≤ i) (h2 : (i : Int) ≤ hi) (h31 : i < 2 ^ 31) : sIn (nI i) lo hi := by unfold sIn; rw [nI_toInt h31]; exact ⟨h1, h2⟩
abbrev lLv (a : Nat) (l2 : Int32) (p : List Int32) (n : Nat) (x y : Option Value) : List (Option Value) := [some (.ref 159), some (.ref a), some (.int l2), some (.int (nI p.length)), some (.int (nI n)), x, y]
abbrev kLv (a : Nat) (l2 : Int32) (p : List Int32) (n : Nat) : List (Option Value) := lLv a l2 p n (some (.int (nI (1 + 6 * n)))) none
theorem sPut_into {ms : List sMd} {L : List (Int32 × Int32)} {f : Int32} {ls : List Int32} : sPut (sPutQ ms n L) f n ls = sPutQ ms n (L ++ ls.map (fun z => (f, z))) := by rw [sPut_Q, sPutQ_app]
theorem ix_k {j : Nat} (x : Int32) (hx : x = nI j) : nI (1 + 6 * n) + x = nI (1 + 6 * n + j) := by rw [hx, nI_add]
theorem in05 {x : Int32} : (¬ x < 0 ∧ ¬ 5 < x) ↔ (¬ x < 0 ∧ x < 6) := by
  simp only [toInt_lt_iff]
  have e5 : (5 : Int32).toInt = 5 := rfl
  have e6 : (6 : Int32).toInt = 6 := rfl
  omega
def sSg1 (l : Int32) : List Int32 := if ¬ sSign l < 1 ∧ ¬ 5 < sSign l then (sEach 1 5 (sSign l)).map (sWithSign l) else []
def sSg2 (l : Int32) : List Int32 := if sSign l ≤ 5 then [] else (sEach 6 3 (sSign l)).map (sWithSign l)
theorem sSg_all {l : Int32} (hl : sOk l) : sSg1 l ++ sSg2 l = sSigns l := by
  have h0 : 0 ≤ (sSign l).toInt := by
    obtain ⟨k, m, a, s, b, c, hr, rfl⟩ := ok_pk hl
    rw [f_sign hr, nI_toInt (by have := hr.2.2.2.1; omega)]; omega
  have e5 : (5 : Int32).toInt = 5 := rfl
  have e6 : (6 : Int32).toInt = 6 := rfl
  have e1 : (1 : Int32).toInt = 1 := rfl
  have e0 : (0 : Int32).toInt = 0 := rfl
  unfold sSg1 sSg2 sSigns
  simp only [toInt_lt_iff, toInt_le_iff, toInt_eq_iff, e5, e6, e1, e0]
  by_cases c0 : (sSign l).toInt = 0
  · rw [if_neg (by omega), if_pos (by omega), if_pos c0]; rfl
  · rw [if_neg c0]
    by_cases c6 : (sSign l).toInt < 6
    · rw [if_pos (by omega), if_pos (by omega), if_pos c6, List.append_nil]
    · rw [if_neg (by omega), if_neg (by omega), if_neg c6, List.nil_append]
section ST
variable {Q : jQ} {h0 : jH} {L : List (Int32 × Int32)}
theorem lsF (a_h : jIA a an) (hp : isMP (h0 170) 0 p) (hs : sProg p) (hn : n < p.length) (m0 : mML h0 p (sPutQ M n L)) (hl : M.length + L.length ≤ 360)
    (kk : ∀ h1, jfr fLs h0 h1 → mML h1 p (sPutQ M n (L ++ (sNamesF (p.getD n 4)).map (fun z => (0, z)))) → WP mX12_lists Q 82 (kLv a l2 p n) [] (jG0 sc) h1 (0, 0)) :
    WP mX12_lists Q 46 (lLv a l2 p n none none) [] (jG0 sc) h0 (0, 0) := by
  have hp10 := hp.2.1
  have hl1 : sOk (p.getD n 4) := hs.2 _ (getD_mem hn)
  have lenQ : (sPutQ M n L).length = M.length + L.length := sPutQ_len
  have ek := (mk_0 (n := n) (by omega)).2.2
  have ex : (1 + 6 * nI n) + (2 : Int32) = nI (1 + 6 * n + 2) := by rw [ek]; exact ix_k _ rfl
  have ev : h0 170 (((1 + 6 * nI n) + (2 : Int32)).toNatClampNeg) = sFirst (p.getD n 4) := by rw [ex, nI_clamp (by omega)]; exact hp.at hn (j := 2) (by decide)
  refine bX12_lists_46 a_h (by rw [ex]; exact vp_in_nI (by omega) (by decide)) tX12_in ?_ ?_
  all_goals
    rintro _ _ ⟨rfl, rfl⟩ c
    rw [ev] at c
  · rw [sB_eq] at c
    rw [ek]
    exact kk h0 jfr.rf (by rw [show sNamesF (p.getD n 4) = [] from by unfold sNamesF; rw [if_neg (fun q => c (in05.mpr q))], List.map_nil, List.append_nil]; exact m0)
  · rw [sB_ne] at c
    rw [ek]
    exact bX12_lists_72 a_h (tX12_each (f := 0) (w := 2) (lo := 0) (cnt := 6) (W := sWithFirst (p.getD n 4)) (by decide) hp m0 hn (by decide) (by decide) (by decide) (by omega) (fun i hi => same_first hl1 (nI_rg (by omega) (by omega) (by omega)))) (by
      rintro h1 ⟨g1, g2⟩
      rw [sPut_into] at g1
      refine kk h1 g2 ?_
      unfold sNamesF
      rw [if_pos (in05.mp c)]; exact g1)
theorem lsS (a_h : jIA a an) (hp : isMP (h0 170) 0 p) (hs : sProg p) (hn : n < p.length) (m0 : mML h0 p (sPutQ M n L)) (hl : M.length + L.length ≤ 360)
    (kk : ∀ h1, jfr fLs h0 h1 → mML h1 p (sPutQ M n (L ++ (sNamesS (p.getD n 4)).map (fun z => (0, z)))) → WP mX12_lists Q 109 (kLv a l2 p n) [] (jG0 sc) h1 (0, 0)) :
    WP mX12_lists Q 82 (kLv a l2 p n) [] (jG0 sc) h0 (0, 0) := by
  have hp10 := hp.2.1
  have hl1 : sOk (p.getD n 4) := hs.2 _ (getD_mem hn)
  have lenQ : (sPutQ M n L).length = M.length + L.length := sPutQ_len
  have ex : nI (1 + 6 * n) + (4 : Int32) = nI (1 + 6 * n + 4) := by exact ix_k _ rfl
  have ev : h0 170 ((nI (1 + 6 * n) + (4 : Int32)).toNatClampNeg) = sSecond (p.getD n 4) := by rw [ex, nI_clamp (by omega)]; exact hp.at hn (j := 4) (by decide)
  refine bX12_lists_82 a_h (by rw [ex]; exact vp_in_nI (by omega) (by decide)) tX12_in ?_ ?_
  all_goals
    rintro _ _ ⟨rfl, rfl⟩ c
    rw [ev] at c
  · rw [sB_eq] at c
    skip
    exact kk h0 jfr.rf (by rw [show sNamesS (p.getD n 4) = [] from by unfold sNamesS; rw [if_neg (fun q => c (in05.mpr q))], List.map_nil, List.append_nil]; exact m0)
  · rw [sB_ne] at c
    skip
    exact bX12_lists_99 a_h (tX12_each (f := 0) (w := 4) (lo := 0) (cnt := 6) (W := sWithSecond (p.getD n 4)) (by decide) hp m0 hn (by decide) (by decide) (by decide) (by omega) (fun i hi => same_second hl1 (nI_rg (by omega) (by omega) (by omega)))) (by
      rintro h1 ⟨g1, g2⟩
      rw [sPut_into] at g1
      refine kk h1 g2 ?_
      unfold sNamesS
      rw [if_pos (in05.mp c)]; exact g1)
theorem lsM (a_h : jIA a an) (hp : isMP (h0 170) 0 p) (hs : sProg p) (hn : n < p.length) (m0 : mML h0 p (sPutQ M n L)) (hl : M.length + L.length ≤ 360)
    (kk : ∀ h1, jfr fLs h0 h1 → mML h1 p (sPutQ M n (L ++ (sNamesM (p.getD n 4)).map (fun z => (0, z)))) → WP mX12_lists Q 129 (kLv a l2 p n) [] (jG0 sc) h1 (0, 0)) :
    WP mX12_lists Q 109 (kLv a l2 p n) [] (jG0 sc) h0 (0, 0) := by
  have hp10 := hp.2.1
  have hl1 : sOk (p.getD n 4) := hs.2 _ (getD_mem hn)
  have lenQ : (sPutQ M n L).length = M.length + L.length := sPutQ_len
  have ev : h0 170 ((nI (1 + 6 * n)).toNatClampNeg) = sKind (p.getD n 4) := by rw [nI_clamp (by omega)]; exact hp.at0 hn
  refine bX12_lists_109 a_h (vp_in_nI (by omega) (by decide)) (fun c => ?_) (fun c => ?_)
  all_goals rw [ev] at c
  · exact kk h0 jfr.rf (by rw [show sNamesM (p.getD n 4) = [] from by unfold sNamesM; rw [if_neg c], List.map_nil, List.append_nil]; exact m0)
  · exact bX12_lists_119 a_h (tX12_each (f := 0) (w := 1) (lo := 0) (cnt := 4) (W := sWithMade (p.getD n 4)) (by decide) hp m0 hn (by decide) (by decide) (by decide) (by omega) (fun i hi => same_made hl1 (nI_rg (by omega) (by omega) (by omega)))) (by
      rintro h1 ⟨g1, g2⟩
      rw [sPut_into] at g1
      refine kk h1 g2 ?_
      unfold sNamesM
      rw [if_pos c]; exact g1)
theorem lsG1 (a_h : jIA a an) (hp : isMP (h0 170) 0 p) (hs : sProg p) (hn : n < p.length) (m0 : mML h0 p (sPutQ M n L)) (hl : M.length + L.length ≤ 360)
    (kk : ∀ h1, jfr fLs h0 h1 → mML h1 p (sPutQ M n (L ++ (sSg1 (p.getD n 4)).map (fun z => (1, z)))) → WP mX12_lists Q 156 (kLv a l2 p n) [] (jG0 sc) h1 (0, 0)) :
    WP mX12_lists Q 129 (kLv a l2 p n) [] (jG0 sc) h0 (0, 0) := by
  have hp10 := hp.2.1
  have hl1 : sOk (p.getD n 4) := hs.2 _ (getD_mem hn)
  have lenQ : (sPutQ M n L).length = M.length + L.length := sPutQ_len
  have ex : nI (1 + 6 * n) + (3 : Int32) = nI (1 + 6 * n + 3) := by exact ix_k _ rfl
  have ev : h0 170 ((nI (1 + 6 * n) + (3 : Int32)).toNatClampNeg) = sSign (p.getD n 4) := by rw [ex, nI_clamp (by omega)]; exact hp.at hn (j := 3) (by decide)
  refine bX12_lists_129 a_h (by rw [ex]; exact vp_in_nI (by omega) (by decide)) tX12_in ?_ ?_
  all_goals
    rintro _ _ ⟨rfl, rfl⟩ c
    rw [ev] at c
  · rw [sB_eq] at c
    skip
    exact kk h0 jfr.rf (by rw [show sSg1 (p.getD n 4) = [] from by unfold sSg1; rw [if_neg c], List.map_nil, List.append_nil]; exact m0)
  · rw [sB_ne] at c
    skip
    exact bX12_lists_146 a_h (tX12_each (f := 1) (w := 3) (lo := 1) (cnt := 5) (W := sWithSign (p.getD n 4)) (by decide) hp m0 hn (by decide) (by decide) (by decide) (by omega) (fun i hi => same_sign hl1 (nI_rg (by omega) (by omega) (by omega)))) (by
      rintro h1 ⟨g1, g2⟩
      rw [sPut_into] at g1
      refine kk h1 g2 ?_
      unfold sSg1
      rw [if_pos c]; exact g1)
theorem lsG2 (a_h : jIA a an) (hp : isMP (h0 170) 0 p) (hs : sProg p) (hn : n < p.length) (m0 : mML h0 p (sPutQ M n L)) (hl : M.length + L.length ≤ 360)
    (kk : ∀ h1, jfr fLs h0 h1 → mML h1 p (sPutQ M n (L ++ (sSg2 (p.getD n 4)).map (fun z => (1, z)))) → WP mX12_lists Q 181 (kLv a l2 p n) [] (jG0 sc) h1 (0, 0)) :
    WP mX12_lists Q 156 (kLv a l2 p n) [] (jG0 sc) h0 (0, 0) := by
  have hp10 := hp.2.1
  have hl1 : sOk (p.getD n 4) := hs.2 _ (getD_mem hn)
  have lenQ : (sPutQ M n L).length = M.length + L.length := sPutQ_len
  have ex : nI (1 + 6 * n) + (3 : Int32) = nI (1 + 6 * n + 3) := by exact ix_k _ rfl
  have ev : h0 170 ((nI (1 + 6 * n) + (3 : Int32)).toNatClampNeg) = sSign (p.getD n 4) := by rw [ex, nI_clamp (by omega)]; exact hp.at hn (j := 3) (by decide)
  refine bX12_lists_156 a_h (by rw [ex]; exact vp_in_nI (by omega) (by decide)) (fun c => ?_) (fun c => ?_)
  all_goals rw [ev] at c
  · exact kk h0 jfr.rf (by rw [show sSg2 (p.getD n 4) = [] from by unfold sSg2; rw [if_pos c], List.map_nil, List.append_nil]; exact m0)
  · exact bX12_lists_169 a_h (tX12_each (f := 1) (w := 3) (lo := 6) (cnt := 3) (W := sWithSign (p.getD n 4)) (by decide) hp m0 hn (by decide) (by decide) (by decide) (by omega) (fun i hi => same_sign hl1 (nI_rg (by omega) (by omega) (by omega)))) (by
      rintro h1 ⟨g1, g2⟩
      rw [sPut_into] at g1
      refine kk h1 g2 ?_
      unfold sSg2
      rw [if_neg c]; exact g1)
theorem lsBF (a_h : jIA a an) (hp : isMP (h0 170) 0 p) (hs : sProg p) (hn : n < p.length) (m0 : mML h0 p (sPutQ M n L)) (hl : M.length + L.length ≤ 360)
    (kk : ∀ h1, jfr fLs h0 h1 → mML h1 p (sPutQ M n (L ++ (sBoundF (p.getD n 4)).map (fun z => (2, z)))) → WP mX12_lists Q 206 (kLv a l2 p n) [] (jG0 sc) h1 (0, 0)) :
    WP mX12_lists Q 181 (kLv a l2 p n) [] (jG0 sc) h0 (0, 0) := by
  have hp10 := hp.2.1
  have hl1 : sOk (p.getD n 4) := hs.2 _ (getD_mem hn)
  have lenQ : (sPutQ M n L).length = M.length + L.length := sPutQ_len
  have ex : nI (1 + 6 * n) + (2 : Int32) = nI (1 + 6 * n + 2) := ix_k _ rfl
  have ev : h0 170 ((nI (1 + 6 * n) + (2 : Int32)).toNatClampNeg) = sFirst (p.getD n 4) := by rw [ex, nI_clamp (by omega)]; exact hp.at hn (j := 2) (by decide)
  have e1 : (1 : Int32).toInt = 1 := rfl
  have ab := sOk_ab hl1
  refine bX12_lists_181 a_h (by rw [ex]; exact vp_in_nI (by omega) (by decide)) (fun c => ?_) (fun c => ?_)
  all_goals rw [ev] at c
  · exact kk h0 jfr.rf (by rw [show sBoundF (p.getD n 4) = [] from by unfold sBoundF; rw [if_pos c], List.map_nil, List.append_nil]; exact m0)
  · have r := (atom_10 ab.1).resolve_left c
    refine bX12_lists_195 a_h (tX12_beside (w := 2) (lo := 10) (hi := 109) (W := sWithFirst (p.getD n 4)) hp m0 hn (by decide) (by omega) (fun _ => same_first hl1 (by obtain ⟨r1, r2⟩ := r; have e := toInt_sub' (x := sFirst (p.getD n 4)) (y := 1) (by omega) (by omega); exact (show sIn (sFirst (p.getD n 4) - 1) (-1) (128 - 2) from ⟨by omega, by omega⟩))) (fun _ => same_first hl1 (by obtain ⟨r1, r2⟩ := r; have e := toInt_add' (x := sFirst (p.getD n 4)) (y := 1) (by omega) (by omega); exact (show sIn (sFirst (p.getD n 4) + 1) (-1) (128 - 2) from ⟨by omega, by omega⟩)))) ?_
    rintro h1 ⟨g1, g2⟩
    rw [sPut_into] at g1
    refine kk h1 g2 ?_
    unfold sBoundF
    rw [if_neg c]; exact g1
theorem lsBS (a_h : jIA a an) (hp : isMP (h0 170) 0 p) (hs : sProg p) (hn : n < p.length) (m0 : mML h0 p (sPutQ M n L)) (hl : M.length + L.length ≤ 360)
    (kk : ∀ h1, jfr fLs h0 h1 → mML h1 p (sPutQ M n (L ++ (sBoundS (p.getD n 4)).map (fun z => (2, z)))) → WP mX12_lists Q 231 (kLv a l2 p n) [] (jG0 sc) h1 (0, 0)) :
    WP mX12_lists Q 206 (kLv a l2 p n) [] (jG0 sc) h0 (0, 0) := by
  have hp10 := hp.2.1
  have hl1 : sOk (p.getD n 4) := hs.2 _ (getD_mem hn)
  have lenQ : (sPutQ M n L).length = M.length + L.length := sPutQ_len
  have ex : nI (1 + 6 * n) + (4 : Int32) = nI (1 + 6 * n + 4) := ix_k _ rfl
  have ev : h0 170 ((nI (1 + 6 * n) + (4 : Int32)).toNatClampNeg) = sSecond (p.getD n 4) := by rw [ex, nI_clamp (by omega)]; exact hp.at hn (j := 4) (by decide)
  have e1 : (1 : Int32).toInt = 1 := rfl
  have ab := sOk_ab hl1
  refine bX12_lists_206 a_h (by rw [ex]; exact vp_in_nI (by omega) (by decide)) (fun c => ?_) (fun c => ?_)
  all_goals rw [ev] at c
  · exact kk h0 jfr.rf (by rw [show sBoundS (p.getD n 4) = [] from by unfold sBoundS; rw [if_pos c], List.map_nil, List.append_nil]; exact m0)
  · have r := (atom_10 ab.2.1).resolve_left c
    refine bX12_lists_220 a_h (tX12_beside (w := 4) (lo := 10) (hi := 109) (W := sWithSecond (p.getD n 4)) hp m0 hn (by decide) (by omega) (fun _ => same_second hl1 (by obtain ⟨r1, r2⟩ := r; have e := toInt_sub' (x := sSecond (p.getD n 4)) (y := 1) (by omega) (by omega); exact (show sIn (sSecond (p.getD n 4) - 1) (-1) (128 - 2) from ⟨by omega, by omega⟩))) (fun _ => same_second hl1 (by obtain ⟨r1, r2⟩ := r; have e := toInt_add' (x := sSecond (p.getD n 4)) (y := 1) (by omega) (by omega); exact (show sIn (sSecond (p.getD n 4) + 1) (-1) (128 - 2) from ⟨by omega, by omega⟩)))) ?_
    rintro h1 ⟨g1, g2⟩
    rw [sPut_into] at g1
    refine kk h1 g2 ?_
    unfold sBoundS
    rw [if_neg c]; exact g1
theorem lsBC (a_h : jIA a an) (hp : isMP (h0 170) 0 p) (hs : sProg p) (hn : n < p.length) (m0 : mML h0 p (sPutQ M n L)) (hl : M.length + L.length ≤ 360)
    (kk : ∀ h1, jfr fLs h0 h1 → mML h1 p (sPutQ M n (L ++ (sBoundC (p.getD n 4)).map (fun z => (2, z)))) → WP mX12_lists Q 253 (kLv a l2 p n) [] (jG0 sc) h1 (0, 0)) :
    WP mX12_lists Q 231 (kLv a l2 p n) [] (jG0 sc) h0 (0, 0) := by
  have hp10 := hp.2.1
  have hl1 : sOk (p.getD n 4) := hs.2 _ (getD_mem hn)
  have lenQ : (sPutQ M n L).length = M.length + L.length := sPutQ_len
  have ex : nI (1 + 6 * n) + (5 : Int32) = nI (1 + 6 * n + 5) := ix_k _ rfl
  have ev : h0 170 ((nI (1 + 6 * n) + (5 : Int32)).toNatClampNeg) = sCount (p.getD n 4) := by rw [ex, nI_clamp (by omega)]; exact hp.at hn (j := 5) (by decide)
  have e1 : (1 : Int32).toInt = 1 := rfl
  have ab := sOk_ab hl1
  refine bX12_lists_231 a_h (by rw [ex]; exact vp_in_nI (by omega) (by decide)) (fun c => ?_) (fun c => ?_)
  all_goals rw [ev] at c
  · exact kk h0 jfr.rf (by rw [show sBoundC (p.getD n 4) = [] from by unfold sBoundC; rw [if_neg (i_nlt.mpr c)], List.map_nil, List.append_nil]; exact m0)
  · have r := ab.2.2.resolve_left (fun q => c (by rw [q]; decide))
    refine bX12_lists_243 a_h (tX12_beside (w := 5) (lo := 1) (hi := 9) (W := sWithCount (p.getD n 4)) hp m0 hn (by decide) (by omega) (fun _ => same_count hl1 (by obtain ⟨r1, r2⟩ := r; have e := toInt_sub' (x := sCount (p.getD n 4)) (y := 1) (by omega) (by omega); exact (show sIn (sCount (p.getD n 4) - 1) 0 (16 - 1) from ⟨by omega, by omega⟩))) (fun _ => same_count hl1 (by obtain ⟨r1, r2⟩ := r; have e := toInt_add' (x := sCount (p.getD n 4)) (y := 1) (by omega) (by omega); exact (show sIn (sCount (p.getD n 4) + 1) 0 (16 - 1) from ⟨by omega, by omega⟩)))) ?_
    rintro h1 ⟨g1, g2⟩
    rw [sPut_into] at g1
    refine kk h1 g2 ?_
    unfold sBoundC
    rw [if_pos (i_nle.mp c)]; exact g1
theorem sOk_4 {l : Int32} (hl : sOk l) : sKind l = 4 ↔ l = 4 := by
  constructor
  · intro q
    rcases hl with h | ⟨-, -, ⟨k, -⟩ | ⟨k, -⟩⟩
    · exact h
    · rcases k with ⟨k, -⟩ | ⟨k, -⟩ <;> rw [k] at q <;> exact absurd q (by decide)
    · rcases k with k | k <;> rw [k] at q <;> exact absurd q (by decide)
  · rintro rfl; decide
theorem lsO (a_h : jIA a an) (hp : isMP (h0 170) 0 p) (hs : sProg p) (hn : n < p.length) (m0 : mML h0 p (sPutQ M n L)) (hl : M.length + L.length ≤ 360)
    (kk : ∀ h1, jfr fLs h0 h1 → mML h1 p (sPutQ M n (L ++ sOut (p.getD n 4))) → WP mX12_lists Q 291 (kLv a l2 p n) [] (jG0 sc) h1 (0, 0)) :
    WP mX12_lists Q 253 (kLv a l2 p n) [] (jG0 sc) h0 (0, 0) := by
  have hp10 := hp.2.1
  have hl1 : sOk (p.getD n 4) := hs.2 _ (getD_mem hn)
  have lenQ : (sPutQ M n L).length = M.length + L.length := sPutQ_len
  have ev : h0 170 ((nI (1 + 6 * n)).toNatClampNeg) = sKind (p.getD n 4) := by rw [nI_clamp (by omega)]; exact hp.at0 hn
  have nw : ∀ j, j < 6 → ¬ nI j = -1 := fun j hj => nI_nm1 (by omega)
  have three : (3 : Int32) ≠ 4 := by decide
  refine bX12_lists_253 a_h (vp_in_nI (by omega) (by decide)) (fun c => ?_) (fun c => ?_)
  all_goals rw [ev, sOk_4 hl1] at c
  · exact kk h0 jfr.rf (by unfold sOut; rw [if_pos c, List.append_nil]; exact m0)
  · refine bX12_lists_264 a_h (P1 := fun h' => mML h' p (sPutQ M n L ++ [(3, n, p.getD n 4)]) ∧ jfr fLs h0 h') (tX12_mends (z := p.getD n 4) hp m0 (by omega) hn (fun j hj => by rw [mLine, if_neg three, if_neg (nw j hj)]))
      (P2 := fun h' => mML h' p (sPutQ M n L ++ [(3, n, 4)]) ∧ jfr fLs h0 h') (fun h1 g => ?_) ?_
    · obtain ⟨g1, g2⟩ := g
      have e26 : 6 * (h1 159 26 - 1) = nI (6 * (sPutQ M n L).length) := by
        rw [g1.1, List.length_append, List.length_singleton, nI_pred, show (6 : Int32) = nI 6 from rfl, pk_mul]
      rw [e26]
      refine jM_void (tX12_clears (by omega)) ?_
      rintro h2 ⟨c1, c2, c3⟩
      have e0 : h2 159 26 = h1 159 26 := c3 159 26 rfl
      have e71 : ∀ i, h2 171 i = h1 171 i := fun i => c3 171 i rfl
      have e72 : ∀ i, h2 172 i = h1 172 i := fun i => c3 172 i rfl
      refine ⟨⟨?_, fun i hi => ?_⟩, g2.tr2 (c3.mono rfl)⟩
      · rw [e0, g1.1, List.length_append, List.length_append]; rfl
      · rw [e71, e72]
        have hi' : i < (sPutQ M n L ++ [(3, n, p.getD n 4)]).length := by simpa using hi
        obtain ⟨q1, q2, q3⟩ := g1.2 i hi'
        rw [getD_app1 hi'] at q1 q2 q3
        rw [getD_app1 hi]
        by_cases q : i = (sPutQ M n L).length
        · rw [if_pos q] at q1 q2 q3 ⊢
          refine ⟨q1, q2, fun j hj => ?_⟩
          rw [q, c1 j hj, mLine, if_neg three]
        · rw [if_neg q] at q1 q2 q3 ⊢
          refine ⟨q1, q2, fun j hj => ?_⟩
          rw [c2 _ (by simp at hi; omega)]; exact q3 j hj
    · rintro _ - h2 ⟨g1, g2⟩
      refine kk h2 g2 ?_
      rw [sPutQ_one] at g1
      unfold sOut; rw [if_neg c]; exact g1
theorem lsV (a_h : jIA a an) (hp : isMP (h0 170) 0 p) (hs : sProg p) (hn : n < p.length) (m0 : mML h0 p (sPutQ M n L)) (hl : M.length + L.length ≤ 360)
    (kk : ∀ h1, jfr fLs h0 h1 → mML h1 p (sPutQ M n (L ++ sMove p n)) → WP mX12_lists Q 325 (kLv a l2 p n) [] (jG0 sc) h1 (0, 0)) :
    WP mX12_lists Q 291 (kLv a l2 p n) [] (jG0 sc) h0 (0, 0) := by
  have hp10 := hp.2.1
  have lenQ : (sPutQ M n L).length = M.length + L.length := sPutQ_len
  have nw : ∀ j, j < 6 → ¬ nI j = -1 := fun j hj => nI_nm1 (by omega)
  have es : nI n + 1 = nI (n + 1) := (nI_succ n).symm
  have skip : ¬ (n + 1 < p.length ∧ p.getD (n + 1) 4 ≠ p.getD n 4) → WP mX12_lists Q 325 (kLv a l2 p n) [] (jG0 sc) h0 (0, 0) := fun q => kk h0 jfr.rf (by unfold sMove; rw [if_neg q, List.append_nil]; exact m0)
  refine bX12_lists_291 a_h (fun c => ?_) (fun c => ?_)
  all_goals rw [es, jn_le (by omega) (by omega)] at c
  · exact skip (fun q => by omega)
  · refine bX12_lists_299 a_h (by rw [es]; exact tX12_isUnlike hp hs hn (by omega)) ?_ ?_
    · rintro _ _ ⟨rfl, rfl⟩ c2
      rw [sB_eq] at c2
      exact skip (fun q => c2 (fun z => q.2 z.symm))
    · rintro _ _ ⟨rfl, rfl⟩ c2
      rw [sB_ne] at c2
      refine bX12_lists_312 a_h (by rw [es]; exact tX12_mends (f := 4) (z := p.getD n 4) (as := n + 1) hp m0 (by omega) (by omega) (fun j hj => by rw [mLine, if_pos rfl, if_neg (nw j hj)])) ?_
      rintro h1 ⟨g1, g2⟩
      refine kk h1 g2 ?_
      rw [sPutQ_one] at g1
      unfold sMove; rw [if_pos ⟨by omega, fun z => c2 z.symm⟩]; exact g1
theorem lsGr (a_h : jIA a an) (hp : isMP (h0 170) 0 p) (hs : sProg p) (hn : n < p.length) (m0 : mML h0 p (sPutQ M n L)) (hl : M.length + L.length ≤ 360)
    (kk : ∀ h1, jfr fLs h0 h1 → mML h1 p (sPutQ M n (L ++ sGraft p n)) → WP mX12_lists Q 40 (lLv a l2 p (n + 1) none none) [] (jG0 sc) h1 (0, 0)) :
    WP mX12_lists Q 325 (kLv a l2 p n) [] (jG0 sc) h0 (0, 0) := by
  have hp10 := hp.2.1
  have five : (5 : Int32) ≠ 4 := by decide
  have nw : ∀ j, j < 6 → ¬ nI j = -1 := fun j hj => nI_nm1 (by omega)
  refine bX12_lists_325 a_h ?_
  refine jloop (fun i (h1 : jH) => WP mX12_lists Q 328 (lLv a l2 p n (some (.int (nI (1 + 6 * n)))) (some (.int (nI i)))) [] (jG0 sc) h1 (0, 0))
    (fun i h1 => jfr fLs h0 h1 ∧ mML h1 p (sPutQ M n (L ++ ((p.take i).filter (fun z => decide (z ≠ p.getD n 4))).map (fun z => (5, z))))) p.length ?_ ?_ 0 h0 (by omega) ⟨jfr.rf, by rw [List.take_zero, List.filter_nil, List.map_nil, List.append_nil]; exact m0⟩
  · rintro h1 ⟨i1, i2⟩
    rw [List.take_length] at i2
    refine bX12_lists_328 a_h (fun _ => bX12_lists_369 a_h ?_) (fun c => absurd (nI_le (Nat.le_refl _) (by omega)) c)
    rw [← nI_succ]
    exact kk h1 i1 i2
  · rintro i h1 hi ⟨i1, i2⟩ k
    have hp1 := hp.ls i1 (fun _ => rfl)
    have len : ((p.take i).filter (fun z => decide (z ≠ p.getD n 4))).length ≤ i := Nat.le_trans (List.length_filter_le _ _) (by rw [List.length_take]; omega)
    have skip : p.getD i 4 = p.getD n 4 → WP mX12_lists Q 363 (lLv a l2 p n (some (.int (nI (1 + 6 * n)))) (some (.int (nI i)))) [] (jG0 sc) h1 (0, 0) := by
      intro c
      refine bX12_lists_363 a_h ?_
      rw [← nI_succ]
      refine k _ ⟨i1, ?_⟩
      rw [take_one hi, List.filter_append, List.filter_cons_of_neg (by rw [decide_eq_true_eq]; exact fun q => q c), List.filter_nil, List.append_nil]
      exact i2
    refine bX12_lists_328 a_h (fun c => ?_) (fun _ => ?_)
    · rw [jn_le (by omega) (by omega)] at c; omega
    · refine bX12_lists_334 a_h (fun c => ?_) (fun c => ?_)
      · rw [jn_eq (by omega) (by omega)] at c
        exact skip (by rw [c])
      · refine bX12_lists_341 a_h (tX12_isUnlike hp1 hs hi hn) ?_ ?_
        · rintro _ _ ⟨rfl, rfl⟩ c2
          rw [sB_eq] at c2
          exact skip (Classical.byContradiction c2)
        · rintro _ _ ⟨rfl, rfl⟩ c2
          rw [sB_ne] at c2
          refine bX12_lists_352 a_h (tX12_mends (f := 5) (z := p.getD i 4) hp1 i2 (by rw [sPutQ_len, List.length_append, List.length_map]; omega) hi (fun j hj => by rw [mLine, if_neg five, if_neg (nw j hj)])) ?_
          rintro h5 ⟨g1, g2⟩
          refine bX12_lists_363 a_h ?_
          rw [← nI_succ]
          refine k _ ⟨i1.tr2 g2, ?_⟩
          rw [sPutQ_one, List.append_assoc] at g1
          rw [take_one hi, List.filter_append, List.filter_cons_of_pos (by rw [decide_eq_true_eq]; exact c2), List.filter_nil, List.map_append, List.map_singleton]
          exact g1
end ST
end LO
