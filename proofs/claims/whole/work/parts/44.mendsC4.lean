/-! The class's list of mends: all of it. -/
section MF
variable {sc : Nat × (Nat → Int32)} {h : jH} {t a n : Nat} {p : List Int32} {l : Int32}
def sMendsTo (p : List Int32) (n : Nat) : List sMd := (List.range n).flatMap (sMendsAt p)
theorem sMendsTo_succ : sMendsTo p (n + 1) = sMendsTo p n ++ sMendsAt p n := by simp [sMendsTo, List.range_succ]
theorem sMendsTo_all : sMendsTo p p.length = sMends p := rfl
theorem sEach_less {lo x : Int32} {n : Nat} (hx : ∃ i, i < n ∧ lo + nI i = x) : (sEach lo n x).length + 1 ≤ n := by
  obtain ⟨i, hi, e⟩ := hx
  have : (sEach lo n x).length < ((List.range n).map (fun i => lo + nI i)).length := by
    unfold sEach
    refine List.length_filter_lt_length_iff_exists.mpr ⟨x, ?_, by simp⟩
    exact List.mem_map.mpr ⟨i, List.mem_range.mpr hi, e⟩
  rw [List.length_map, List.length_range] at this
  omega
theorem small_ex {x : Int32} {n : Nat} (h1 : ¬ x < 0) (h2 : x < nI n) (hn : n < 2 ^ 31) : ∃ i, i < n ∧ (0 : Int32) + nI i = x := by
  obtain ⟨m, hm, rfl⟩ := nI_of h1
  exact ⟨m, (jn_lt hm hn).mp h2, z_add m⟩
theorem in_ex {x : Int32} {lo n : Nat} (h : sIn x lo (lo + n - 1)) (hb : lo + n < 100) : ∃ i, i < n ∧ nI lo + nI i = x := by
  obtain ⟨h1, h2⟩ := h
  refine ⟨x.toInt.toNat - lo, by omega, ?_⟩
  rw [nI_add, show lo + (x.toInt.toNat - lo) = x.toInt.toNat by omega]
  exact (toInt_nn (by omega)).symm
theorem lenF : (sNamesF l).length + (sBoundF l).length ≤ 5 := by
  unfold sNamesF sBoundF
  by_cases q : ¬ sFirst l < 0 ∧ sFirst l < 6
  · have := sEach_less (small_ex (n := 6) q.1 q.2 (by decide))
    have c : sFirst l < 10 := by
      have := toInt_lt_iff.mp q.2
      rw [toInt_lt_iff]
      have e6 : (6 : Int32).toInt = 6 := rfl
      have e10 : (10 : Int32).toInt = 10 := rfl
      omega
    rw [if_pos q, if_pos c, List.length_map, List.length_nil]; omega
  · rw [if_neg q]
    split
    · simp
    · rw [List.length_map, List.length_nil]; have := @beside_len 10 109 (sFirst l); omega
theorem lenS : (sNamesS l).length + (sBoundS l).length ≤ 5 := by
  unfold sNamesS sBoundS
  by_cases q : ¬ sSecond l < 0 ∧ sSecond l < 6
  · have := sEach_less (small_ex (n := 6) q.1 q.2 (by decide))
    have c : sSecond l < 10 := by
      have := toInt_lt_iff.mp q.2
      rw [toInt_lt_iff]
      have e6 : (6 : Int32).toInt = 6 := rfl
      have e10 : (10 : Int32).toInt = 10 := rfl
      omega
    rw [if_pos q, if_pos c, List.length_map, List.length_nil]; omega
  · rw [if_neg q]
    split
    · simp
    · rw [List.length_map, List.length_nil]; have := @beside_len 10 109 (sSecond l); omega
theorem lenB : (sBoundC l).length ≤ 2 := by
  unfold sBoundC
  split
  · rw [List.length_map]; exact beside_len
  · simp
theorem lenK (hl : sOk l) : (sNamesM l).length + (sSigns l).length + (sBoundC l).length ≤ 7 := by
  have zc : sCount l = 0 → (sBoundC l).length = 0 := fun q => by unfold sBoundC; rw [if_neg (by rw [q]; decide)]; rfl
  have zm : ¬ sKind l = 0 → (sNamesM l).length = 0 := fun q => by unfold sNamesM; rw [if_neg q]; rfl
  have zs : sSign l = 0 → (sSigns l).length = 0 := fun q => by unfold sSigns; rw [if_pos q]; rfl
  have s5 : sIn (sSign l) 1 5 → (sSigns l).length ≤ 4 := fun q => by
    have c : ¬ sSign l = 0 := fun e => by rw [e] at q; exact absurd q.1 (by decide)
    have c6 : sSign l < 6 := by
      rw [toInt_lt_iff]; have := q.2; have e6 : (6 : Int32).toInt = 6 := rfl; omega
    unfold sSigns
    rw [if_neg c, if_pos c6, List.length_map]
    have := sEach_less (lo := 1) (n := 5) (x := sSign l) (in_ex (lo := 1) (n := 5) q (by decide))
    omega
  have s3 : sIn (sSign l) 6 8 → (sSigns l).length ≤ 2 := fun q => by
    have c : ¬ sSign l = 0 := fun e => by rw [e] at q; exact absurd q.1 (by decide)
    have c6 : ¬ sSign l < 6 := by
      rw [toInt_lt_iff]; have := q.1; have e6 : (6 : Int32).toInt = 6 := rfl; omega
    unfold sSigns
    rw [if_neg c, if_neg c6, List.length_map]
    have := sEach_less (lo := 6) (n := 3) (x := sSign l) (in_ex (lo := 6) (n := 3) q (by decide))
    omega
  have m3 : sIn (sMade l) 0 3 → (sNamesM l).length ≤ 3 := fun q => by
    unfold sNamesM
    split
    · rw [List.length_map]
      have := sEach_less (lo := 0) (n := 4) (x := sMade l) (in_ex (lo := 0) (n := 4) q (by decide))
      omega
    · simp
  have b2 := @lenB l
  rcases hl with rfl | ⟨-, -, ⟨k, s, c⟩ | ⟨k, -, s, -, -⟩⟩
  · decide
  · rw [zc c]
    have hs : (sSigns l).length ≤ 4 := by
      rcases s with ⟨s, -⟩ | ⟨s, -⟩
      · rw [zs s]; omega
      · exact s5 s
    rcases k with ⟨k, m⟩ | ⟨k, -⟩
    · have := m3 m; omega
    · rw [zm (by rw [k]; decide)]; omega
  · rw [zm (by rcases k with k | k <;> rw [k] <;> decide)]
    have := s3 s; omega
theorem lenMove : (sMove p n).length ≤ 1 := by unfold sMove; split <;> simp
theorem lenGraft (hn : n < p.length) : (sGraft p n).length + 1 ≤ p.length := by
  unfold sGraft
  rw [List.length_map]
  have : (p.filter (fun z => decide (z ≠ p.getD n 4))).length < p.length := List.length_filter_lt_length_iff_exists.mpr ⟨p.getD n 4, getD_mem hn, by simp⟩
  omega
theorem sAhead_len : (sAhead l).length = (sNamesF l).length + (sNamesS l).length + (sNamesM l).length + (sSigns l).length + (sBoundF l).length + (sBoundS l).length + (sBoundC l).length + (sOut l).length := by
  simp only [sAhead, sOut, List.length_append, List.length_map]
theorem sMendsAt_len : (sMendsAt p n).length = (sAhead (p.getD n 4)).length + (sMove p n).length + (sGraft p n).length := by simp only [sMendsAt, List.length_map, List.length_append]
theorem sMendsAt_28 (hp : sProg p) (hn : n < p.length) : (sMendsAt p n).length ≤ 28 := by
  rw [sMendsAt_len, sAhead_len]
  have h1 := @lenF (p.getD n 4)
  have h2 := @lenS (p.getD n 4)
  have h3 := lenK (hp.2 _ (getD_mem (d := 4) hn))
  have h4 := @lenMove n p
  have h5 := lenGraft hn
  have h6 : (sOut (p.getD n 4)).length ≤ 1 := by unfold sOut; split <;> simp
  have := hp.1
  omega
theorem sMendsTo_28 (hp : sProg p) (hn : n ≤ p.length) : (sMendsTo p n).length ≤ 28 * n := by
  induction n with
  | zero => exact Nat.le_refl _
  | succ n ih =>
    rw [sMendsTo_succ, List.length_append]
    have := ih (by omega)
    have := sMendsAt_28 hp (n := n) (by omega)
    omega
theorem sMends_280 (hp : sProg p) : (sMends p).length ≤ 280 := by
  have := sMendsTo_28 hp (Nat.le_refl _)
  rw [sMendsTo_all] at this
  have := hp.1
  omega
theorem sAt_eq {ms : List sMd} : sPutQ (sPut (sPut (sPut ms 0 n (sNamesF (p.getD n 4) ++ sNamesS (p.getD n 4) ++ sNamesM (p.getD n 4))) 1 n (sSigns (p.getD n 4))) 2 n (sBoundF (p.getD n 4) ++ sBoundS (p.getD n 4) ++ sBoundC (p.getD n 4))) n (sOut (p.getD n 4) ++ sMove p n ++ sGraft p n) = ms ++ sMendsAt p n := by
  rw [sPut_Q, sPut_Q, sPut_Q, sPutQ_app, sPutQ_app, sPutQ_app]
  simp only [sPutQ, sMendsAt, sAhead, sOut, List.map_append, List.append_assoc]
/-- how many mends of a line are no moves -/
def sPlainN (p : List Int32) (n : Nat) : Nat := if n < p.length then (sAhead (p.getD n 4)).length + (sGraft p n).length else 0
def isMends (h : jH) (t : Nat) (p : List Int32) : Prop := isMs h t (sMends p) ∧ (∀ n, n < 10 → h (t + 6) n = nI (sPlainN p n)) ∧
  ∀ n, n < p.length → h (t + 4) n = nI (sMendsTo p n).length ∧ h (t + 5) n = sMoveAt p n ((sMendsTo p n).length + (sAhead (p.getD n 4)).length)
abbrev fOf (t : Nat) : jF := ([(t + 1, t + 6)], [(t, 6, 6)])
theorem isP.of {h h' : jH} (k : isP h a p) (f : jfr (fOf t) h h') (ha : a + 1 < t ∨ t + 6 < a) : isP h' a p := k.ofw f (by simp [jsub]) ha
def ofI (h : jH) (t : Nat) (p : List Int32) (i : Nat) (h1 : jH) : Prop := jfr (fOf t) h h1 ∧ isMs h1 t (sMendsTo p (min i p.length)) ∧ (∀ n, n < i → h1 (t + 6) n = nI (sPlainN p n)) ∧
  ∀ n, n < i → n < p.length → h1 (t + 4) n = nI (sMendsTo p n).length ∧ h1 (t + 5) n = sMoveAt p n ((sMendsTo p n).length + (sAhead (p.getD n 4)).length)
abbrev oLv (t a i : Nat) : List (Option Value) := [some (.ref t), some (.ref a), some (.int (nI i))]
theorem of74 {Q : jQ} {h1 : jH} {i b : Nat} (a_h : jI4 a) (t_h : jI3 t) (hi : i < 10) (f : jfr (fOf t) h h1) (m : isMs h1 t (sMendsTo p (min (i + 1) p.length))) (hlen : (sMendsTo p (min (i + 1) p.length)).length ≤ 300)
    (p6 : ∀ n, n < i → h1 (t + 6) n = nI (sPlainN p n)) (p45 : ∀ n, n < i → n < p.length → h1 (t + 4) n = nI (sMendsTo p n).length ∧ h1 (t + 5) n = sMoveAt p n ((sMendsTo p n).length + (sAhead (p.getD n 4)).length))
    (e4 : h1 (t + 4) i = nI b) (e5 : (h1 (t + 5) i = -1 ∧ (sMendsTo p (min (i + 1) p.length)).length = b + sPlainN p i) ∨ (¬ h1 (t + 5) i = -1 ∧ (sMendsTo p (min (i + 1) p.length)).length = b + sPlainN p i + 1))
    (e45 : i < p.length → b = (sMendsTo p i).length ∧ h1 (t + 5) i = sMoveAt p i ((sMendsTo p i).length + (sAhead (p.getD i 4)).length))
    (k : ∀ h', ofI h t p (i + 1) h' → WP mX3_of Q 7 (oLv t a (i + 1)) [] (jG0 sc) h' (0, 0)) : WP mX3_of Q 74 (oLv t a i) [] (jG0 sc) h1 (0, 0) := by
  have hi31 : i < 2 ^ 31 := by omega
  have vi : vp_in (nI i) 10 := vp_in_nI hi (by decide)
  have done : ∀ s0 s1 : Int32, s1 - s0 = nI (sPlainN p i) → WP mX3_of Q 105 (oLv t a i) [.int s0, .int s1, .int (nI i), .ref (t + 6)] (jG0 sc) h1 (0, 0) := by
    intro s0 s1 e
    refine bX3_of_105 a_h t_h vi ?_
    rw [e, nI_clamp hi31, ← nI_succ]
    refine k _ ⟨f.put (by rw [jin_iff]; simp), m.fr (F := ([(t + 6, t + 6)], [])) (jfr.rf.put (by rw [jin_iff]; simp)) (by rw [jin_f]; simp <;> omega) (fun j => by rw [jin_f]; simp <;> omega) (fun j => by rw [jin_f]; simp <;> omega) (fun j => by rw [jin_f]; simp <;> omega), fun j hj => ?_, fun j hj hjp => ?_⟩
    · by_cases q : j = i
      · rw [q, jput_at]
      · rw [jput_sl q]; exact p6 j (by omega)
    · rw [jput_ne (by omega), jput_ne (by omega)]
      by_cases q : j = i
      · rw [q] at hjp ⊢
        obtain ⟨g1, g2⟩ := e45 hjp
        exact ⟨by rw [e4, g1], g2⟩
      · exact p45 j (by omega) hjp
  refine bX3_of_74 a_h t_h vi vi (fun c => ?_) (fun c => ?_)
  all_goals rw [nI_clamp hi31] at c
  · rcases e5 with ⟨q, -⟩ | ⟨-, q⟩
    · exact absurd q c
    · refine bX3_of_104 a_h t_h (done 1 _ ?_)
      rw [m.1, nI_clamp hi31, e4, pk_sub (by omega), show (1 : Int32) = nI 1 from rfl, pk_sub (by omega)]
      congr 1; omega
  · rcases e5 with ⟨-, q⟩ | ⟨q, -⟩
    · refine bX3_of_100 a_h t_h (done 0 _ ?_)
      rw [m.1, nI_clamp hi31, e4, pk_sub (by omega), Int32.sub_zero]
      congr 1; omega
    · exact absurd c q
theorem tX3_of (t_h : jI3 t) (a_h : jI4 a) (ha : a + 1 < t ∨ t + 6 < a) (hp : isP h a p) (hs : sProg p) : JM mX3_of [.ref t, .ref a] (jG0 sc) h (jvoid sc (fun h' => isMends h' t p ∧ jfr (fOf t) h h')) := by
  have hp10 := hp.2.1
  refine jM_of rfl (Nat.le_of_ble_eq_true rfl) (by decide +kernel) rfl (bX3_of_0 a_h t_h ?_)
  refine jloop (fun i (h1 : jH) => WP mX3_of _ 7 (oLv t a i) [] (jG0 sc) h1 (0, 0)) (ofI h t p) 10 ?_ ?_ 0 _ (by omega) ⟨jfr.rf.put (by rw [jin_iff]; simp), ⟨by rw [jput_at, Nat.zero_min]; rfl, fun i hi => absurd hi (by rw [Nat.zero_min]; exact Nat.not_lt_zero _)⟩, fun j hj => absurd hj (by omega), fun j hj => absurd hj (by omega)⟩
  · rintro h1 ⟨i1, i2, i3, i4⟩
    rw [Nat.min_eq_right hp10] at i2
    exact bX3_of_7 a_h t_h (fun _ => bX3_of_113 a_h t_h (jvoid_i ⟨⟨i2, i3, fun n hn => i4 n (by omega) hn⟩, i1⟩)) (fun c => absurd (by decide) c)
  · rintro i h1 hi ⟨i1, i2, i3, i4⟩ k
    have hi31 : i < 2 ^ 31 := by omega
    have vi : vp_in (nI i) 10 := vp_in_nI hi (by decide)
    refine bX3_of_7 a_h t_h (fun c => absurd ((jn_le (a := 10) (by decide) hi31).mp c) (by omega)) (fun _ => ?_)
    have g1 : jfr (fOf t) h (jput (jput h1 (t + 4) ((nI i).toNatClampNeg) (h1 t 6)) (t + 5) ((nI i).toNatClampNeg) (-1)) := (i1.put (by rw [jin_iff]; simp)).put (by rw [jin_iff]; simp)
    have g2 : isMs (jput (jput h1 (t + 4) ((nI i).toNatClampNeg) (h1 t 6)) (t + 5) ((nI i).toNatClampNeg) (-1)) t (sMendsTo p (min i p.length)) := i2.fr (F := ([(t + 4, t + 5)], [])) ((jfr.rf.put (by rw [jin_iff]; simp)).put (by rw [jin_iff]; simp)) (by rw [jin_f]; simp <;> omega) (fun j => by rw [jin_f]; simp <;> omega) (fun j => by rw [jin_f]; simp <;> omega) (fun j => by rw [jin_f]; simp <;> omega)
    have g3 : ∀ n, n < i → (jput (jput h1 (t + 4) ((nI i).toNatClampNeg) (h1 t 6)) (t + 5) ((nI i).toNatClampNeg) (-1)) (t + 6) n = nI (sPlainN p n) := fun n hn => by rw [jput_ne (by omega), jput_ne (by omega)]; exact i3 n hn
    have g4 : ∀ n, n < i → n < p.length → (jput (jput h1 (t + 4) ((nI i).toNatClampNeg) (h1 t 6)) (t + 5) ((nI i).toNatClampNeg) (-1)) (t + 4) n = nI (sMendsTo p n).length ∧ (jput (jput h1 (t + 4) ((nI i).toNatClampNeg) (h1 t 6)) (t + 5) ((nI i).toNatClampNeg) (-1)) (t + 5) n = sMoveAt p n ((sMendsTo p n).length + (sAhead (p.getD n 4)).length) := by
      intro n hn hnp
      have hne : n ≠ i := by omega
      rw [nI_clamp hi31, jput_ne (by omega), jput_sl hne, jput_sl hne, jput_ne (by omega)]
      exact i4 n hn hnp
    have g5 : (jput (jput h1 (t + 4) ((nI i).toNatClampNeg) (h1 t 6)) (t + 5) ((nI i).toNatClampNeg) (-1)) (t + 4) i = nI (sMendsTo p (min i p.length)).length := by rw [nI_clamp hi31, jput_ne (by omega), jput_at]; exact i2.1
    have g6 : (jput (jput h1 (t + 4) ((nI i).toNatClampNeg) (h1 t 6)) (t + 5) ((nI i).toNatClampNeg) (-1)) (t + 5) i = -1 := by rw [nI_clamp hi31, jput_at]
    have hp1 := hp.of g1 ha
    have hb : (sMendsTo p (min i p.length)).length ≤ 252 := by
      have := sMendsTo_28 hs (n := min i p.length) (Nat.min_le_right _ _)
      have : min i p.length ≤ 9 := by omega
      omega
    refine bX3_of_13 a_h t_h vi vi ?_ ?_
    all_goals
      generalize jput (jput h1 (t + 4) ((nI i).toNatClampNeg) (h1 t 6)) (t + 5) ((nI i).toNatClampNeg) (-1) = h2 at *
      intro c
      rw [hp1.1, jn_le (by omega) hi31] at c
    · have e : min i p.length = p.length := by omega
      have e' : min (i + 1) p.length = p.length := by omega
      rw [e] at g2 g5 hb
      exact of74 a_h t_h hi g1 (by rw [e']; exact g2) (by rw [e']; omega) g3 g4 g5 (Or.inl ⟨g6, by rw [e', sPlainN, if_neg (by omega)]; rfl⟩) (fun q => absurd q (by omega)) k
    · have hip : i < p.length := by omega
      have e : min i p.length = i := by omega
      have e' : min (i + 1) p.length = i + 1 := by omega
      rw [e] at g2 g5 hb
      have hl : sOk (p.getD i 4) := hs.2 _ (getD_mem hip)
      have lo : (sOut (p.getD i 4)).length ≤ 1 := by unfold sOut; split <;> simp
      have lf := @lenF (p.getD i 4)
      have ls := @lenS (p.getD i 4)
      have lk := lenK hl
      have n5 : ∀ {h' h'' : jH}, jfr (fMd t) h' h'' → ∀ j, h'' (t + 5) j = h' (t + 5) j := fun q j => q _ _ (by rw [jin_f]; simp <;> omega)
      have n4 : ∀ {h' h'' : jH}, jfr (fMw t) h' h'' → ∀ j, h'' (t + 4) j = h' (t + 4) j := fun q j => q _ _ (by rw [jin_f]; simp <;> omega)
      have n6 : ∀ {h' h'' : jH}, jfr (fMw t) h' h'' → ∀ j, h'' (t + 6) j = h' (t + 6) j := fun q j => q _ _ (by rw [jin_f]; simp <;> omega)
      refine bX3_of_38 a_h t_h (tX4_lineAt a_h hp1 hi31) (P2 := fun h' => isMs h' t (sPut (sMendsTo p i) 0 i (sNamesF (p.getD i 4) ++ sNamesS (p.getD i 4) ++ sNamesM (p.getD i 4))) ∧ jfr (fMd t) h2 h')
        (fun _ _ q => by rw [← q.2, q.1]; exact tX3_addNames t_h g2 (by omega))
        (P3 := fun x h' => x = p.getD i 4 ∧ isMs h' t (sPut (sMendsTo p i) 0 i (sNamesF (p.getD i 4) ++ sNamesS (p.getD i 4) ++ sNamesM (p.getD i 4))) ∧ jfr (fMd t) h2 h')
        (fun _ _ _ h3 q => jM_get (tX4_lineAt a_h (hp1.ofw q.2 (by simp [jsub]) ha) hi31) q) ?_
      rintro _ _ - _ - _ h3 ⟨rfl, m3, f3⟩
      have hp3 := hp1.ofw f3 (by simp [jsub]) ha
      have len3 : (sPut (sMendsTo p i) 0 i (sNamesF (p.getD i 4) ++ sNamesS (p.getD i 4) ++ sNamesM (p.getD i 4))).length ≤ 252 + 17 := by rw [sPut_len, List.length_append, List.length_append]; omega
      generalize hM3 : sPut (sMendsTo p i) 0 i (sNamesF (p.getD i 4) ++ sNamesS (p.getD i 4) ++ sNamesM (p.getD i 4)) = M3 at *
      have len4 : (sPut M3 1 i (sSigns (p.getD i 4))).length = M3.length + (sSigns (p.getD i 4)).length := sPut_len
      have len5 : (sPut (sPut M3 1 i (sSigns (p.getD i 4))) 2 i (sBoundF (p.getD i 4) ++ sBoundS (p.getD i 4) ++ sBoundC (p.getD i 4))).length ≤ 288 := by
        have h3 : M3.length = (sMendsTo p i).length + ((sNamesF (p.getD i 4)).length + (sNamesS (p.getD i 4)).length + (sNamesM (p.getD i 4)).length) := by rw [← hM3, sPut_len, List.length_append, List.length_append]
        rw [sPut_len, sPut_len, List.length_append, List.length_append]; omega
      refine bX3_of_55 a_h t_h (tX3_addSigns t_h m3 (by omega))
        (P2 := fun x h' => x = p.getD i 4 ∧ isMs h' t (sPut M3 1 i (sSigns (p.getD i 4))) ∧ jfr (fMd t) h3 h')
        (fun h4 q => jM_get (tX4_lineAt a_h (hp3.ofw q.2 (by simp [jsub]) ha) hi31) q)
        (P3 := fun h' => isMs h' t (sPut (sPut M3 1 i (sSigns (p.getD i 4))) 2 i (sBoundF (p.getD i 4) ++ sBoundS (p.getD i 4) ++ sBoundC (p.getD i 4))) ∧ jfr (fMd t) h3 h')
        (fun _ _ _ h4 q => by rw [q.1]; exact jM_void (tX3_addBounds t_h hl q.2.1 (by omega)) (fun h' r => ⟨r.1, q.2.2.tr2 r.2⟩))
        (P4 := fun h' => isMs h' t (sPutQ (sPut (sPut M3 1 i (sSigns (p.getD i 4))) 2 i (sBoundF (p.getD i 4) ++ sBoundS (p.getD i 4) ++ sBoundC (p.getD i 4))) i (sOut (p.getD i 4) ++ sMove p i ++ sGraft p i)) ∧ h' (t + 5) i = sMoveAt p i ((sPut (sPut M3 1 i (sSigns (p.getD i 4))) 2 i (sBoundF (p.getD i 4) ++ sBoundS (p.getD i 4) ++ sBoundC (p.getD i 4))).length + (sOut (p.getD i 4)).length) ∧ (∀ j, j ≠ i → h' (t + 5) j = h3 (t + 5) j) ∧ jfr (fMw t) h3 h')
        (fun _ _ _ _ _ h5 q => jM_void (tX3_addWhole t_h a_h ha (hp3.ofw q.2 (by simp [jsub]) ha) hip q.1 (by omega) (by rw [n5 q.2, n5 f3]; exact g6)) (fun h' r => ⟨r.1, r.2.1, fun j hj => (r.2.2.1 j hj).trans (n5 q.2 j), (fMd_w q.2).tr2 r.2.2.2⟩)) ?_
      rintro _ - _ _ - _ - h6 ⟨m6, w1, w2, w3⟩
      rw [← hM3, sAt_eq, ← sMendsTo_succ] at m6
      have lenA : (sPut (sPut M3 1 i (sSigns (p.getD i 4))) 2 i (sBoundF (p.getD i 4) ++ sBoundS (p.getD i 4) ++ sBoundC (p.getD i 4))).length + (sOut (p.getD i 4)).length = (sMendsTo p i).length + (sAhead (p.getD i 4)).length := by
        rw [← hM3, sPut_len, sPut_len, sPut_len, sAhead_len]
        simp only [List.length_append]; omega
      rw [lenA] at w1
      have F := (fMd_w f3).tr2 w3
      have lenT : (sMendsTo p (i + 1)).length = (sMendsTo p i).length + sPlainN p i + (sMove p i).length := by
        rw [sMendsTo_succ, List.length_append, sMendsAt_len, sPlainN, if_pos hip]; omega
      refine of74 a_h t_h hi (g1.tr2 (F.mono (by simp [jsub]))) (by rw [e']; exact m6) (by rw [e', lenT, sPlainN, if_pos hip, sAhead_len]; have := @lenMove i p; have := lenGraft hip; omega) (fun j hj => (n6 F j).trans (g3 j hj)) (fun j hj hjp => ?_) ((n4 F i).trans g5) ?_ (fun _ => ⟨rfl, w1⟩) k
      · obtain ⟨q1, q2⟩ := g4 j hj hjp
        exact ⟨(n4 F j).trans q1, ((w2 j (by omega)).trans (n5 f3 j)).trans q2⟩
      · rw [e', lenT, w1, sMoveAt]
        by_cases q : sMove p i = []
        · rw [if_pos q, q]; exact Or.inl ⟨rfl, rfl⟩
        · rw [if_neg q]
          refine Or.inr ⟨nI_nm1 (by rw [sAhead_len]; omega), ?_⟩
          have h1 := @lenMove i p
          have h2 : (sMove p i).length ≠ 0 := fun z => q (List.eq_nil_of_length_eq_zero z)
          omega
end MF
