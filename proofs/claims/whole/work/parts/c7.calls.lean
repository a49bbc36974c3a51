/-! The calls of the law, one by one. -/
section LAWC
variable {sc : Nat × (Nat → Int32)} {h : jH} {A : aA} {n i : Nat} {Q : jQ} {u : Nat × Nat}
set_option maxRecDepth 100000 in
theorem lc_0 (hi : i + 5 < sc.1) (hL : sc.1 ≤ 3072) (ok0 : aOk n A) (hn : n + 1 < 2 ^ 31) (kC : RC h A) (kM : RM h A) (hu : u.1 + 1 ≤ 601024 ∧ u.2 + 6 ≤ 7293034) (kk : lK sc Q i n u) : WP mLL Q 184 (lvs i) [] (jG0 sc) h u := by
  have hi5 : i + 5 < sc.1 := hi
  have ok := ok0.up (Nat.le_succ n)
  generalize eo : oFeed A ((sc.2 (i + 1))) ((sc.2 (i + 2))) ((sc.2 (i + 3))) ((sc.2 (i + 4))) ((sc.2 (i + 5))) = o
  have ok2 : aOk (n + 1) o.2.2 := by rw [← eo]; exact (okFeed ok)
  refine j_aload_n (i := 1) rfl (by decide +kernel) ?_
  refine l_arg (j := 1) hi5 hL (by decide) rfl rfl (by decide +kernel) ?_
  refine l_arg (j := 2) hi5 hL (by decide) rfl rfl (by decide +kernel) ?_
  refine l_arg (j := 3) hi5 hL (by decide) rfl rfl (by decide +kernel) ?_
  refine l_arg (j := 4) hi5 hL (by decide) rfl rfl (by decide +kernel) ?_
  refine l_arg (j := 5) hi5 hL (by decide) rfl rfl (by decide +kernel) ?_
  have o0 : o.1 = 0 := by rw [← eo]; exact (by unfold oFeed; split <;> rfl)
  have kc : JM mX11_feed [.ref 0, .int (sc.2 (i + 1)), .int (sc.2 (i + 2)), .int (sc.2 (i + 3)), .int (sc.2 (i + 4)), .int (sc.2 (i + 5))] (jG0 sc) h (cQ sc [] o h) := by rw [← eo]; exact ccFeed ok kC
  refine j_callV (M' := mX11_feed) (ci := 11) (As := [.int (sc.2 (i + 1)), .int (sc.2 (i + 2)), .int (sc.2 (i + 3)), .int (sc.2 (i + 4)), .int (sc.2 (i + 5))]) (idx := 101) (n := 5) (Γ := jG0 sc) kc (cQ_nt o0) (jlkT (jtb2 175 rfl) rfl) sX11_feed kX11_feed rfl ⟨rfl, by decide +kernel, by decide +kernel, by decide +kernel⟩ rfl ⟨by decide, by decide⟩ (by show 0 < 180; decide) (show jKt.getD 0 99 = 11 by decide +kernel) (by decide) (Nat.le_of_ble_eq_true rfl) (show u.1 + 0 ≤ 601024 ∧ u.2 + 0 ≤ 7293034 from ⟨by omega, by omega⟩) (by decide +kernel) ?_
  rintro r1 Γ1 h1 q
  obtain ⟨rfl, rfl, e3, e4⟩ := cQ_get o0 q
  refine j_aload_n (i := 2) rfl (by decide +kernel) ?_
  refine l_arg (j := 1) hi5 hL (by decide) rfl rfl (by decide +kernel) ?_
  refine l_arg (j := 2) hi5 hL (by decide) rfl rfl (by decide +kernel) ?_
  refine l_arg (j := 3) hi5 hL (by decide) rfl rfl (by decide +kernel) ?_
  refine l_arg (j := 4) hi5 hL (by decide) rfl rfl (by decide +kernel) ?_
  refine l_arg (j := 5) hi5 hL (by decide) rfl rfl (by decide +kernel) ?_
  have km : JM mX12_feed [.ref 159, .int (sc.2 (i + 1)), .int (sc.2 (i + 2)), .int (sc.2 (i + 3)), .int (sc.2 (i + 4)), .int (sc.2 (i + 5))] (jG0 sc) h1 (mQ sc o h1) := by rw [← eo]; exact mmFeed ok (RM.cc kM (fun c a b => e4 c a))
  refine j_callV (M' := mX12_feed) (ci := 12) (As := [.int (sc.2 (i + 1)), .int (sc.2 (i + 2)), .int (sc.2 (i + 3)), .int (sc.2 (i + 4)), .int (sc.2 (i + 5))]) (idx := 105) (n := 5) (Γ := jG0 sc) km jint_nt (jlkT (jtb6 179 rfl) rfl) sX12_feed kX12_feed rfl ⟨rfl, by decide +kernel, by decide +kernel, by decide +kernel⟩ rfl ⟨by decide, by decide⟩ (by show 159 < 180; decide) (show jKt.getD 159 99 = 12 by decide +kernel) (by decide) (Nat.le_of_ble_eq_true rfl) (show u.1 + 0 + 0 ≤ 601024 ∧ u.2 + 0 + 0 ≤ 7293034 from ⟨by omega, by omega⟩) (by decide +kernel) ?_
  rintro _ _ h2 ⟨b, e, rfl, p1, p2, p3, p4⟩
  cases e
  refine j_icmp_eq (off := 1658) 1910 (by decide +kernel) (by decide) (fun _ => ?_) (fun q => absurd (p1 o0).symm q)
  exact kk o.2.2 h2 _ ok2 (RC.mm ok2 e3 p4) p3 (by show u.1 + 0 + 0 ≤ u.1 + 1; omega) (by show u.2 + 0 + 0 ≤ u.2 + 6; omega)
set_option maxRecDepth 100000 in
theorem lc_1 (hi : i + 5 < sc.1) (hL : sc.1 ≤ 3072) (ok0 : aOk n A) (hn : n + 1 < 2 ^ 31) (kC : RC h A) (kM : RM h A) (hu : u.1 + 1 ≤ 601024 ∧ u.2 + 6 ≤ 7293034) (kk : lK sc Q i n u) : WP mLL Q 257 (lvs i) [] (jG0 sc) h u := by
  have hi5 : i + 5 < sc.1 := hi
  have ok := ok0.up (Nat.le_succ n)
  generalize eo : oEnd A ((sc.2 (i + 1))) = o
  have ok2 : aOk (n + 1) o.2.2 := by rw [← eo]; exact (okEnd ok)
  refine j_aload_n (i := 1) rfl (by decide +kernel) ?_
  refine l_arg (j := 1) hi5 hL (by decide) rfl rfl (by decide +kernel) ?_
  have o0 : o.1 = 0 := by rw [← eo]; exact (by unfold oEnd; split <;> rfl)
  have kc : JM mX11_end [.ref 0, .int (sc.2 (i + 1))] (jG0 sc) h (cQ sc [] o h) := by rw [← eo]; exact ccEnd ok kC
  refine j_callV (M' := mX11_end) (ci := 11) (As := [.int (sc.2 (i + 1))]) (idx := 106) (n := 1) (Γ := jG0 sc) kc (cQ_nt o0) (jlkT (jtb2 183 rfl) rfl) sX11_end kX11_end rfl ⟨rfl, by decide +kernel, by decide +kernel, by decide +kernel⟩ rfl ⟨by decide, by decide⟩ (by show 0 < 180; decide) (show jKt.getD 0 99 = 11 by decide +kernel) (by decide) (Nat.le_of_ble_eq_true rfl) (show u.1 + 0 ≤ 601024 ∧ u.2 + 0 ≤ 7293034 from ⟨by omega, by omega⟩) (by decide +kernel) ?_
  rintro r1 Γ1 h1 q
  obtain ⟨rfl, rfl, e3, e4⟩ := cQ_get o0 q
  refine j_aload_n (i := 2) rfl (by decide +kernel) ?_
  refine l_arg (j := 1) hi5 hL (by decide) rfl rfl (by decide +kernel) ?_
  have km : JM mX12_end [.ref 159, .int (sc.2 (i + 1))] (jG0 sc) h1 (mQ sc o h1) := by rw [← eo]; exact mmEnd ok (RM.cc kM (fun c a b => e4 c a))
  refine j_callV (M' := mX12_end) (ci := 12) (As := [.int (sc.2 (i + 1))]) (idx := 110) (n := 1) (Γ := jG0 sc) km jint_nt (jlkT (jtb6 183 rfl) rfl) sX12_end kX12_end rfl ⟨rfl, by decide +kernel, by decide +kernel, by decide +kernel⟩ rfl ⟨by decide, by decide⟩ (by show 159 < 180; decide) (show jKt.getD 159 99 = 12 by decide +kernel) (by decide) (Nat.le_of_ble_eq_true rfl) (show u.1 + 0 + 0 ≤ 601024 ∧ u.2 + 0 + 0 ≤ 7293034 from ⟨by omega, by omega⟩) (by decide +kernel) ?_
  rintro _ _ h2 ⟨b, e, rfl, p1, p2, p3, p4⟩
  cases e
  refine j_icmp_eq (off := 1633) 1910 (by decide +kernel) (by decide) (fun _ => ?_) (fun q => absurd (p1 o0).symm q)
  exact kk o.2.2 h2 _ ok2 (RC.mm ok2 e3 p4) p3 (by show u.1 + 0 + 0 ≤ u.1 + 1; omega) (by show u.2 + 0 + 0 ≤ u.2 + 6; omega)
set_option maxRecDepth 100000 in
theorem lc_2 (hi : i + 5 < sc.1) (hL : sc.1 ≤ 3072) (ok0 : aOk n A) (hn : n + 1 < 2 ^ 31) (kC : RC h A) (kM : RM h A) (hu : u.1 + 1 ≤ 601024 ∧ u.2 + 6 ≤ 7293034) (kk : lK sc Q i n u) : WP mLL Q 282 (lvs i) [] (jG0 sc) h u := by
  have hi5 : i + 5 < sc.1 := hi
  have ok := ok0.up (Nat.le_succ n)
  generalize eo : oBody A ((if decide (¬ sc.2 (i + 1) = 0) = true then 1 else 0)) = o
  have ok2 : aOk (n + 1) o.2.2 := by rw [← eo]; exact (okBody2 ok)
  refine j_aload_n (i := 1) rfl (by decide +kernel) ?_
  refine l_arg (j := 1) hi5 hL (by decide) rfl rfl (by decide +kernel) ?_
  refine l_bool (by decide +kernel) ?_
  refine j_aload_n (i := 3) rfl (by decide +kernel) ?_
  have kc : JM mL_body [.ref 0, .int (if decide (¬ sc.2 (i + 1) = 0) = true then 1 else 0), .ref 179] (jG0 sc) h (wQ sc o h) := by rw [← eo]; exact ww_body ok kC (by rw [eo]; exact ok2)
  refine j_callSW (M' := mL_body) (As := [.ref 0, .int (if decide (¬ sc.2 (i + 1) = 0) = true then 1 else 0), .ref 179]) (idx := 111) (n := 3) (Γ := jG0 sc) kc jint_nt (jlkT (jtb3 198 rfl) rfl) (j2 (jlkT (jtb3 199 rfl) rfl) (jlkT (jtb1 0 rfl) rfl)) (jlkT (jtb3 200 rfl) rfl) (by decide) ⟨by decide +kernel, by decide +kernel, by decide +kernel⟩ rfl ⟨by decide, by decide⟩ (Nat.le_of_ble_eq_true rfl) (show u.1 + 1 ≤ 601024 ∧ u.2 + 6 ≤ 7293034 from hu) (by decide +kernel) ?_
  rintro _ _ h1 ⟨r, e, rfl, rfl, e2, e3, e4⟩
  cases e
  refine j_istore (i := 5) (by decide +kernel) (by decide) ?_
  refine j_eqlv (lvs5 i o.1) (by rfl) ?_
  refine j_aload_n (i := 2) rfl (by decide +kernel) ?_
  refine l_arg (j := 1) hi5 hL (by decide) rfl rfl (by decide +kernel) ?_
  refine l_bool (by decide +kernel) ?_
  have km : JM mX12_body [.ref 159, .int (if decide (¬ sc.2 (i + 1) = 0) = true then 1 else 0)] (jG0 sc) h1 (mQ sc o h1) := by rw [← eo]; exact mmBody ok (RM.cc kM e4)
  refine j_callV (M' := mX12_body) (ci := 12) (As := [.int (if decide (¬ sc.2 (i + 1) = 0) = true then 1 else 0)]) (idx := 116) (n := 1) (Γ := jG0 sc) km jint_nt (jlkT (jtb6 191 rfl) rfl) sX12_body kX12_body rfl ⟨rfl, by decide +kernel, by decide +kernel, by decide +kernel⟩ rfl ⟨by decide, by decide⟩ (by show 159 < 180; decide) (show jKt.getD 159 99 = 12 by decide +kernel) (by decide) (Nat.le_of_ble_eq_true rfl) (show u.1 + 1 + 0 ≤ 601024 ∧ u.2 + 6 + 0 ≤ 7293034 from hu) (by decide +kernel) ?_
  have lt : o.1 < 2 ^ 31 := by rw [← eo]; exact Nat.lt_of_le_of_lt le_body (by decide)
  rintro _ _ h2 ⟨b, e, rfl, p1, p2, p3, p4⟩
  cases e
  refine j_istore (i := 6) (by decide +kernel) (by decide) ?_
  refine j_eqlv (lvs6 i o.1 b) (by rfl) ?_
  refine l_thr (k := o.1) rfl rfl p2 (show u.1 + 1 + 0 ≤ 601024 ∧ u.2 + 6 + 0 ≤ 7293034 from hu) (by decide +kernel) ?_
  refine j_widen (u.1 + 1, u.2 + 6) (by show u.1 + 1 + 0 ≤ u.1 + 1; omega) (by show u.2 + 6 + 0 ≤ u.2 + 6; omega) ?_
  refine l_val (k := o.1) (b := b) rfl rfl rfl lt (fun z => by rw [show h2 179 0 = h1 179 0 by rw [p4 179 (Or.inr (by decide))]]; exact (e2 z).trans (p1 z).symm) (by decide +kernel) ?_
  refine j_goto (off := 1559) 1910 (by decide +kernel) (by decide) ?_
  exact j_le (lvs i) ⟨rfl, rfl, rfl, rfl, rfl, trivial⟩ (kk o.2.2 h2 _ ok2 (RC.mm ok2 e3 p4) p3 (Nat.le_refl _) (Nat.le_refl _))
set_option maxRecDepth 100000 in
theorem lc_3 (hi : i + 5 < sc.1) (hL : sc.1 ≤ 3072) (ok0 : aOk n A) (hn : n + 1 < 2 ^ 31) (kC : RC h A) (kM : RM h A) (hu : u.1 + 1 ≤ 601024 ∧ u.2 + 6 ≤ 7293034) (kk : lK sc Q i n u) : WP mLL Q 354 (lvs i) [] (jG0 sc) h u := by
  have hi5 : i + 5 < sc.1 := hi
  have ok := ok0.up (Nat.le_succ n)
  generalize eo : oLaw A = o
  have ok2 : aOk (n + 1) o.2.2 := by rw [← eo]; exact (okLaw ok)
  refine j_aload_n (i := 1) rfl (by decide +kernel) ?_
  refine j_aload_n (i := 3) rfl (by decide +kernel) ?_
  have kc : JM mL_law [.ref 0, .ref 179] (jG0 sc) h (wQ sc o h) := by rw [← eo]; exact ww_law ok kC (by rw [eo]; exact ok2)
  refine j_callSW (M' := mL_law) (As := [.ref 0, .ref 179]) (idx := 120) (n := 2) (Γ := jG0 sc) kc jint_nt (jlkT (jtb4 151 rfl) rfl) (j2 (jlkT (jtb4 152 rfl) rfl) (jlkT (jtb1 0 rfl) rfl)) (jlkT (jtb4 153 rfl) rfl) (by decide) ⟨by decide +kernel, by decide +kernel, by decide +kernel⟩ rfl ⟨by decide, by decide⟩ (Nat.le_of_ble_eq_true rfl) (show u.1 + 1 ≤ 601024 ∧ u.2 + 6 ≤ 7293034 from hu) (by decide +kernel) ?_
  rintro _ _ h1 ⟨r, e, rfl, rfl, e2, e3, e4⟩
  cases e
  refine j_istore (i := 5) (by decide +kernel) (by decide) ?_
  refine j_eqlv (lvs5 i o.1) (by rfl) ?_
  refine j_aload_n (i := 2) rfl (by decide +kernel) ?_
  have km : JM mX12_law [.ref 159] (jG0 sc) h1 (mQ sc o h1) := by rw [← eo]; exact mmLaw ok (RM.cc kM e4)
  refine j_callV (M' := mX12_law) (ci := 12) (As := []) (idx := 123) (n := 0) (Γ := jG0 sc) km jint_nt (jlkT (jtb7 25 rfl) rfl) sX12_law kX12_law rfl ⟨rfl, by decide +kernel, by decide +kernel, by decide +kernel⟩ rfl ⟨by decide, by decide⟩ (by show 159 < 180; decide) (show jKt.getD 159 99 = 12 by decide +kernel) (by decide) (Nat.le_of_ble_eq_true rfl) (show u.1 + 1 + 0 ≤ 601024 ∧ u.2 + 6 + 0 ≤ 7293034 from hu) (by decide +kernel) ?_
  have lt : o.1 < 2 ^ 31 := by rw [← eo]; exact Nat.lt_of_le_of_lt le_law.1 (by decide)
  rintro _ _ h2 ⟨b, e, rfl, p1, p2, p3, p4⟩
  cases e
  refine j_istore (i := 6) (by decide +kernel) (by decide) ?_
  refine j_eqlv (lvs6 i o.1 b) (by rfl) ?_
  refine l_thr (k := o.1) rfl rfl p2 (show u.1 + 1 + 0 ≤ 601024 ∧ u.2 + 6 + 0 ≤ 7293034 from hu) (by decide +kernel) ?_
  refine j_widen (u.1 + 1, u.2 + 6) (by show u.1 + 1 + 0 ≤ u.1 + 1; omega) (by show u.2 + 6 + 0 ≤ u.2 + 6; omega) ?_
  have hv : o.2.1 = 0 ∨ o.2.1 = 1 := by rw [← eo]; exact le_law.2
  have fin : WP mLL Q 402 (lvs6 i o.1 b) [] (jG0 sc) h2 (u.1 + 1, u.2 + 6) := j_goto (off := 1508) 1910 (by decide +kernel) (by decide) (j_le (lvs i) ⟨rfl, rfl, rfl, rfl, rfl, trivial⟩ (kk o.2.2 h2 _ ok2 (RC.mm ok2 e3 p4) p3 (Nat.le_refl _) (Nat.le_refl _)))
  refine j_iload (i := 5) rfl (by decide +kernel) (j_if_ne (off := 22) 402 (by decide +kernel) (by decide) (fun _ => fin) (fun z => ?_))
  have k0 : o.1 = 0 := by
    by_cases q : o.1 = 0
    · exact q
    · exact absurd z (nI_ne0 (Nat.pos_of_ne_zero q) lt)
  have eb : b = h2 179 0 := (p1 k0).trans ((e2 k0).symm.trans (by rw [p4 179 (Or.inr (by decide))]))
  have hb : b = 0 ∨ b = 1 := by rw [p1 k0]; exact hv
  refine j_aload_n (i := 3) rfl (by decide +kernel) (j_iconst (n := 0) (nI 0) rfl (by decide +kernel) ?_)
  refine j_lald (r := 179) (i := nI 0) (by show 179 < 180; decide) (show jKt.getD 179 99 = 16 by decide +kernel) (show vp_in (nI 0) (jLt.getD 179 0) from vp_in_nI (by decide +kernel) (by decide +kernel)) (by decide +kernel) ?_
  rw [show h2 179 (nI 0).toNatClampNeg = b from eb.symm]
  have cmp : WP mLL Q 396 (lvs6 i o.1 b) [.long b.toInt64, .long b.toInt64] (jG0 sc) h2 (u.1 + 1, u.2 + 6) := j_lcmp (by decide +kernel) (j_if_eq (off := 5) 402 (by decide +kernel) (by decide) (fun _ => fin) (fun q => absurd (lg_cmp_rf _) q))
  refine j_iload (i := 6) rfl (by decide +kernel) (j_if_eq (off := 7) 395 (by decide +kernel) (by decide) (fun z => ?_) (fun z => ?_))
  · exact j_lconst (n := 0) b.toInt64 (by rw [z]; decide) (by decide +kernel) cmp
  · exact j_lconst (n := 1) b.toInt64 (by rw [hb.resolve_left z]; decide) (by decide +kernel) (j_goto (off := 4) 396 (by decide +kernel) (by decide) cmp)
set_option maxRecDepth 100000 in
theorem lc_4 (hi : i + 5 < sc.1) (hL : sc.1 ≤ 3072) (ok0 : aOk n A) (hn : n + 1 < 2 ^ 31) (kC : RC h A) (kM : RM h A) (hu : u.1 + 1 ≤ 601024 ∧ u.2 + 6 ≤ 7293034) (kk : lK sc Q i n u) : WP mLL Q 405 (lvs i) [] (jG0 sc) h u := by
  have hi5 : i + 5 < sc.1 := hi
  have ok := ok0.up (Nat.le_succ n)
  generalize eo : oFault A = o
  have ok2 : aOk (n + 1) o.2.2 := by rw [← eo]; exact (ok)
  refine j_aload_n (i := 1) rfl (by decide +kernel) ?_
  have o0 : o.1 = 0 := by rw [← eo]; exact (rfl)
  have kc : JM mX11_fault [.ref 0] (jG0 sc) h (cQ sc [] o h) := by rw [← eo]; exact ccFault kC
  refine j_callV (M' := mX11_fault) (ci := 11) (As := []) (idx := 124) (n := 0) (Γ := jG0 sc) kc (cQ_nt o0) (jlkT (jtb2 187 rfl) rfl) sX11_fault kX11_fault rfl ⟨rfl, by decide +kernel, by decide +kernel, by decide +kernel⟩ rfl ⟨by decide, by decide⟩ (by show 0 < 180; decide) (show jKt.getD 0 99 = 11 by decide +kernel) (by decide) (Nat.le_of_ble_eq_true rfl) (show u.1 + 0 ≤ 601024 ∧ u.2 + 0 ≤ 7293034 from ⟨by omega, by omega⟩) (by decide +kernel) ?_
  rintro r1 Γ1 h1 q
  obtain ⟨rfl, rfl, e3, e4⟩ := cQ_get o0 q
  refine j_aload_n (i := 2) rfl (by decide +kernel) ?_
  have km : JM mX12_fault [.ref 159] (jG0 sc) h1 (mQ sc o h1) := by rw [← eo]; exact mmFault (RM.cc kM (fun c a b => e4 c a))
  refine j_callV (M' := mX12_fault) (ci := 12) (As := []) (idx := 127) (n := 0) (Γ := jG0 sc) km jint_nt (jlkT (jtb6 187 rfl) rfl) sX12_fault kX12_fault rfl ⟨rfl, by decide +kernel, by decide +kernel, by decide +kernel⟩ rfl ⟨by decide, by decide⟩ (by show 159 < 180; decide) (show jKt.getD 159 99 = 12 by decide +kernel) (by decide) (Nat.le_of_ble_eq_true rfl) (show u.1 + 0 + 0 ≤ 601024 ∧ u.2 + 0 + 0 ≤ 7293034 from ⟨by omega, by omega⟩) (by decide +kernel) ?_
  rintro _ _ h2 ⟨b, e, rfl, p1, p2, p3, p4⟩
  cases e
  refine j_icmp_eq (off := 1497) 1910 (by decide +kernel) (by decide) (fun _ => ?_) (fun q => absurd (p1 o0).symm q)
  exact kk o.2.2 h2 _ ok2 (RC.mm ok2 e3 p4) p3 (by show u.1 + 0 + 0 ≤ u.1 + 1; omega) (by show u.2 + 0 + 0 ≤ u.2 + 6; omega)
set_option maxRecDepth 100000 in
theorem lc_5 (hi : i + 5 < sc.1) (hL : sc.1 ≤ 3072) (ok0 : aOk n A) (hn : n + 1 < 2 ^ 31) (kC : RC h A) (kM : RM h A) (hu : u.1 + 1 ≤ 601024 ∧ u.2 + 6 ≤ 7293034) (kk : lK sc Q i n u) : WP mLL Q 418 (lvs i) [] (jG0 sc) h u := by
  have hi5 : i + 5 < sc.1 := hi
  have ok := ok0.up (Nat.le_succ n)
  generalize eo : oRun A ((sc.2 (i + 1))) ((sc.2 (i + 2))) ((sc.2 (i + 3))) = o
  have ok2 : aOk (n + 1) o.2.2 := by rw [← eo]; exact (okRun ok)
  refine j_aload_n (i := 1) rfl (by decide +kernel) ?_
  refine l_arg (j := 1) hi5 hL (by decide) rfl rfl (by decide +kernel) ?_
  refine l_arg (j := 2) hi5 hL (by decide) rfl rfl (by decide +kernel) ?_
  refine l_arg (j := 3) hi5 hL (by decide) rfl rfl (by decide +kernel) ?_
  refine j_aload_n (i := 3) rfl (by decide +kernel) ?_
  have kc : JM mL_run [.ref 0, .int (sc.2 (i + 1)), .int (sc.2 (i + 2)), .int (sc.2 (i + 3)), .ref 179] (jG0 sc) h (wQ sc o h) := by rw [← eo]; exact ww_run ok kC (by rw [eo]; exact ok2)
  refine j_callSW (M' := mL_run) (As := [.ref 0, .int (sc.2 (i + 1)), .int (sc.2 (i + 2)), .int (sc.2 (i + 3)), .ref 179]) (idx := 128) (n := 5) (Γ := jG0 sc) kc jint_nt (jlkT (jtb4 202 rfl) rfl) (j2 (jlkT (jtb4 203 rfl) rfl) (jlkT (jtb1 0 rfl) rfl)) (jlkT (jtb4 204 rfl) rfl) (by decide) ⟨by decide +kernel, by decide +kernel, by decide +kernel⟩ rfl ⟨by decide, by decide⟩ (Nat.le_of_ble_eq_true rfl) (show u.1 + 1 ≤ 601024 ∧ u.2 + 6 ≤ 7293034 from hu) (by decide +kernel) ?_
  rintro _ _ h1 ⟨r, e, rfl, rfl, e2, e3, e4⟩
  cases e
  refine j_istore (i := 5) (by decide +kernel) (by decide) ?_
  refine j_eqlv (lvs5 i o.1) (by rfl) ?_
  refine j_aload_n (i := 2) rfl (by decide +kernel) ?_
  refine l_arg (j := 1) hi5 hL (by decide) rfl rfl (by decide +kernel) ?_
  refine l_arg (j := 2) hi5 hL (by decide) rfl rfl (by decide +kernel) ?_
  refine l_arg (j := 3) hi5 hL (by decide) rfl rfl (by decide +kernel) ?_
  have km : JM mX12_run [.ref 159, .int (sc.2 (i + 1)), .int (sc.2 (i + 2)), .int (sc.2 (i + 3))] (jG0 sc) h1 (mQ sc o h1) := by rw [← eo]; exact mmRun ok (RM.cc kM e4)
  refine j_callV (M' := mX12_run) (ci := 12) (As := [.int (sc.2 (i + 1)), .int (sc.2 (i + 2)), .int (sc.2 (i + 3))]) (idx := 131) (n := 3) (Γ := jG0 sc) km jint_nt (jlkT (jtb7 229 rfl) rfl) sX12_run kX12_run rfl ⟨rfl, by decide +kernel, by decide +kernel, by decide +kernel⟩ rfl ⟨by decide, by decide⟩ (by show 159 < 180; decide) (show jKt.getD 159 99 = 12 by decide +kernel) (by decide) (Nat.le_of_ble_eq_true rfl) (show u.1 + 1 + 0 ≤ 601024 ∧ u.2 + 6 + 0 ≤ 7293034 from hu) (by decide +kernel) ?_
  have lt : o.1 < 2 ^ 31 := by rw [← eo]; exact Nat.lt_of_le_of_lt le_run (by decide)
  rintro _ _ h2 ⟨b, e, rfl, p1, p2, p3, p4⟩
  cases e
  refine j_istore (i := 6) (by decide +kernel) (by decide) ?_
  refine j_eqlv (lvs6 i o.1 b) (by rfl) ?_
  refine l_thr (k := o.1) rfl rfl p2 (show u.1 + 1 + 0 ≤ 601024 ∧ u.2 + 6 + 0 ≤ 7293034 from hu) (by decide +kernel) ?_
  refine j_widen (u.1 + 1, u.2 + 6) (by show u.1 + 1 + 0 ≤ u.1 + 1; omega) (by show u.2 + 6 + 0 ≤ u.2 + 6; omega) ?_
  refine l_val (k := o.1) (b := b) rfl rfl rfl lt (fun z => by rw [show h2 179 0 = h1 179 0 by rw [p4 179 (Or.inr (by decide))]]; exact (e2 z).trans (p1 z).symm) (by decide +kernel) ?_
  refine j_goto (off := 1415) 1910 (by decide +kernel) (by decide) ?_
  exact j_le (lvs i) ⟨rfl, rfl, rfl, rfl, rfl, trivial⟩ (kk o.2.2 h2 _ ok2 (RC.mm ok2 e3 p4) p3 (Nat.le_refl _) (Nat.le_refl _))
set_option maxRecDepth 100000 in
theorem lc_6 (hi : i + 5 < sc.1) (hL : sc.1 ≤ 3072) (ok0 : aOk n A) (hn : n + 1 < 2 ^ 31) (kC : RC h A) (kM : RM h A) (hu : u.1 + 1 ≤ 601024 ∧ u.2 + 6 ≤ 7293034) (kk : lK sc Q i n u) : WP mLL Q 498 (lvs i) [] (jG0 sc) h u := by
  have hi5 : i + 5 < sc.1 := hi
  have ok := ok0.up (Nat.le_succ n)
  generalize eo : oEnds A ((sc.2 (i + 1))) ((sc.2 (i + 2))) (decide (¬ sc.2 (i + 3) = 0)) = o
  have ok2 : aOk (n + 1) o.2.2 := by rw [← eo]; exact (by unfold oEnds; repeat (first | exact ok | refine sI_ok ?_ ?_))
  refine j_aload_n (i := 1) rfl (by decide +kernel) ?_
  refine l_arg (j := 1) hi5 hL (by decide) rfl rfl (by decide +kernel) ?_
  refine l_arg (j := 2) hi5 hL (by decide) rfl rfl (by decide +kernel) ?_
  refine l_arg (j := 3) hi5 hL (by decide) rfl rfl (by decide +kernel) ?_
  refine l_bool (by decide +kernel) ?_
  refine j_aload_n (i := 3) rfl (by decide +kernel) ?_
  have kc : JM mL_ends [.ref 0, .int (sc.2 (i + 1)), .int (sc.2 (i + 2)), .int (if decide (¬ sc.2 (i + 3) = 0) = true then 1 else 0), .ref 179] (jG0 sc) h (wQ sc o h) := by rw [← eo]; exact ww_ends rfl ok kC (by rw [eo]; exact ok2)
  refine j_callSW (M' := mL_ends) (As := [.ref 0, .int (sc.2 (i + 1)), .int (sc.2 (i + 2)), .int (if decide (¬ sc.2 (i + 3) = 0) = true then 1 else 0), .ref 179]) (idx := 132) (n := 5) (Γ := jG0 sc) kc jint_nt (jlkT (jtb4 237 rfl) rfl) (j2 (jlkT (jtb4 238 rfl) rfl) (jlkT (jtb1 0 rfl) rfl)) (jlkT (jtb4 239 rfl) rfl) (by decide) ⟨by decide +kernel, by decide +kernel, by decide +kernel⟩ rfl ⟨by decide, by decide⟩ (Nat.le_of_ble_eq_true rfl) (show u.1 + 1 ≤ 601024 ∧ u.2 + 6 ≤ 7293034 from hu) (by decide +kernel) ?_
  rintro _ _ h1 ⟨r, e, rfl, rfl, e2, e3, e4⟩
  cases e
  refine j_istore (i := 5) (by decide +kernel) (by decide) ?_
  refine j_eqlv (lvs5 i o.1) (by rfl) ?_
  refine j_aload_n (i := 2) rfl (by decide +kernel) ?_
  refine l_arg (j := 1) hi5 hL (by decide) rfl rfl (by decide +kernel) ?_
  refine l_arg (j := 2) hi5 hL (by decide) rfl rfl (by decide +kernel) ?_
  refine l_arg (j := 3) hi5 hL (by decide) rfl rfl (by decide +kernel) ?_
  refine l_bool (by decide +kernel) ?_
  have km : JM mX12_ends [.ref 159, .int (sc.2 (i + 1)), .int (sc.2 (i + 2)), .int (if decide (¬ sc.2 (i + 3) = 0) = true then 1 else 0)] (jG0 sc) h1 (mQ sc o h1) := by rw [← eo]; exact mmEnds rfl ok (RM.cc kM e4)
  refine j_callV (M' := mX12_ends) (ci := 12) (As := [.int (sc.2 (i + 1)), .int (sc.2 (i + 2)), .int (if decide (¬ sc.2 (i + 3) = 0) = true then 1 else 0)]) (idx := 135) (n := 3) (Γ := jG0 sc) km jint_nt (jlkT (jtb7 63 rfl) rfl) sX12_ends kX12_ends rfl ⟨rfl, by decide +kernel, by decide +kernel, by decide +kernel⟩ rfl ⟨by decide, by decide⟩ (by show 159 < 180; decide) (show jKt.getD 159 99 = 12 by decide +kernel) (by decide) (Nat.le_of_ble_eq_true rfl) (show u.1 + 1 + 0 ≤ 601024 ∧ u.2 + 6 + 0 ≤ 7293034 from hu) (by decide +kernel) ?_
  have lt : o.1 < 2 ^ 31 := by rw [← eo]; exact Nat.lt_of_le_of_lt le_ends (by decide)
  rintro _ _ h2 ⟨b, e, rfl, p1, p2, p3, p4⟩
  cases e
  refine j_istore (i := 6) (by decide +kernel) (by decide) ?_
  refine j_eqlv (lvs6 i o.1 b) (by rfl) ?_
  refine l_thr (k := o.1) rfl rfl p2 (show u.1 + 1 + 0 ≤ 601024 ∧ u.2 + 6 + 0 ≤ 7293034 from hu) (by decide +kernel) ?_
  refine j_widen (u.1 + 1, u.2 + 6) (by show u.1 + 1 + 0 ≤ u.1 + 1; omega) (by show u.2 + 6 + 0 ≤ u.2 + 6; omega) ?_
  refine l_val (k := o.1) (b := b) rfl rfl rfl lt (fun z => by rw [show h2 179 0 = h1 179 0 by rw [p4 179 (Or.inr (by decide))]]; exact (e2 z).trans (p1 z).symm) (by decide +kernel) ?_
  refine j_goto (off := 1319) 1910 (by decide +kernel) (by decide) ?_
  exact j_le (lvs i) ⟨rfl, rfl, rfl, rfl, rfl, trivial⟩ (kk o.2.2 h2 _ ok2 (RC.mm ok2 e3 p4) p3 (Nat.le_refl _) (Nat.le_refl _))
set_option maxRecDepth 100000 in
theorem lc_7 (hi : i + 5 < sc.1) (hL : sc.1 ≤ 3072) (ok0 : aOk n A) (hn : n + 1 < 2 ^ 31) (kC : RC h A) (kM : RM h A) (hu : u.1 + 1 ≤ 601024 ∧ u.2 + 6 ≤ 7293034) (kk : lK sc Q i n u) : WP mLL Q 594 (lvs i) [] (jG0 sc) h u := by
  have hi5 : i + 5 < sc.1 := hi
  have ok := ok0.up (Nat.le_succ n)
  generalize eo : oLook A ((sc.2 (i + 1))) ((sc.2 (i + 2))) = o
  have ok2 : aOk (n + 1) o.2.2 := by rw [← eo]; exact (by unfold oLook; repeat (first | exact ok | refine sI_ok ?_ ?_))
  refine j_aload_n (i := 1) rfl (by decide +kernel) ?_
  refine l_arg (j := 1) hi5 hL (by decide) rfl rfl (by decide +kernel) ?_
  refine l_arg (j := 2) hi5 hL (by decide) rfl rfl (by decide +kernel) ?_
  refine j_aload_n (i := 3) rfl (by decide +kernel) ?_
  have kc : JM mL_look [.ref 0, .int (sc.2 (i + 1)), .int (sc.2 (i + 2)), .ref 179] (jG0 sc) h (wQ sc o h) := by rw [← eo]; exact ww_look ok kC (by rw [eo]; exact ok2)
  refine j_callSW (M' := mL_look) (As := [.ref 0, .int (sc.2 (i + 1)), .int (sc.2 (i + 2)), .ref 179]) (idx := 136) (n := 4) (Γ := jG0 sc) kc jint_nt (jlkT (jtb5 21 rfl) rfl) (j2 (jlkT (jtb5 22 rfl) rfl) (jlkT (jtb1 0 rfl) rfl)) (jlkT (jtb5 23 rfl) rfl) (by decide) ⟨by decide +kernel, by decide +kernel, by decide +kernel⟩ rfl ⟨by decide, by decide⟩ (Nat.le_of_ble_eq_true rfl) (show u.1 + 1 ≤ 601024 ∧ u.2 + 6 ≤ 7293034 from hu) (by decide +kernel) ?_
  rintro _ _ h1 ⟨r, e, rfl, rfl, e2, e3, e4⟩
  cases e
  refine j_istore (i := 5) (by decide +kernel) (by decide) ?_
  refine j_eqlv (lvs5 i o.1) (by rfl) ?_
  refine j_aload_n (i := 2) rfl (by decide +kernel) ?_
  refine l_arg (j := 1) hi5 hL (by decide) rfl rfl (by decide +kernel) ?_
  refine l_arg (j := 2) hi5 hL (by decide) rfl rfl (by decide +kernel) ?_
  have km : JM mX12_look [.ref 159, .int (sc.2 (i + 1)), .int (sc.2 (i + 2))] (jG0 sc) h1 (mQ sc o h1) := by rw [← eo]; exact mmLook ok (RM.cc kM e4)
  refine j_callV (M' := mX12_look) (ci := 12) (As := [.int (sc.2 (i + 1)), .int (sc.2 (i + 2))]) (idx := 139) (n := 2) (Γ := jG0 sc) km jint_nt (jlkT (jtb7 104 rfl) rfl) sX12_look kX12_look rfl ⟨rfl, by decide +kernel, by decide +kernel, by decide +kernel⟩ rfl ⟨by decide, by decide⟩ (by show 159 < 180; decide) (show jKt.getD 159 99 = 12 by decide +kernel) (by decide) (Nat.le_of_ble_eq_true rfl) (show u.1 + 1 + 0 ≤ 601024 ∧ u.2 + 6 + 0 ≤ 7293034 from hu) (by decide +kernel) ?_
  have lt : o.1 < 2 ^ 31 := by rw [← eo]; exact Nat.lt_of_le_of_lt le_look (by decide)
  rintro _ _ h2 ⟨b, e, rfl, p1, p2, p3, p4⟩
  cases e
  refine j_istore (i := 6) (by decide +kernel) (by decide) ?_
  refine j_eqlv (lvs6 i o.1 b) (by rfl) ?_
  refine l_thr (k := o.1) rfl rfl p2 (show u.1 + 1 + 0 ≤ 601024 ∧ u.2 + 6 + 0 ≤ 7293034 from hu) (by decide +kernel) ?_
  refine j_widen (u.1 + 1, u.2 + 6) (by show u.1 + 1 + 0 ≤ u.1 + 1; omega) (by show u.2 + 6 + 0 ≤ u.2 + 6; omega) ?_
  refine l_val (k := o.1) (b := b) rfl rfl rfl lt (fun z => by rw [show h2 179 0 = h1 179 0 by rw [p4 179 (Or.inr (by decide))]]; exact (e2 z).trans (p1 z).symm) (by decide +kernel) ?_
  refine j_goto (off := 1251) 1910 (by decide +kernel) (by decide) ?_
  exact j_le (lvs i) ⟨rfl, rfl, rfl, rfl, rfl, trivial⟩ (kk o.2.2 h2 _ ok2 (RC.mm ok2 e3 p4) p3 (Nat.le_refl _) (Nat.le_refl _))
set_option maxRecDepth 100000 in
theorem lc_8 (hi : i + 5 < sc.1) (hL : sc.1 ≤ 3072) (ok0 : aOk n A) (hn : n + 1 < 2 ^ 31) (kC : RC h A) (kM : RM h A) (hu : u.1 + 1 ≤ 601024 ∧ u.2 + 6 ≤ 7293034) (kk : lK sc Q i n u) : WP mLL Q 662 (lvs i) [] (jG0 sc) h u := by
  have hi5 : i + 5 < sc.1 := hi
  have ok := ok0.up (Nat.le_succ n)
  generalize eo : oDone A ((sc.2 (i + 1))) (decide (¬ sc.2 (i + 2) = 0)) = o
  have ok2 : aOk (n + 1) o.2.2 := by rw [← eo]; exact (by unfold oDone; repeat (first | exact ok | refine sI_ok ?_ ?_))
  refine j_aload_n (i := 1) rfl (by decide +kernel) ?_
  refine l_arg (j := 1) hi5 hL (by decide) rfl rfl (by decide +kernel) ?_
  refine l_arg (j := 2) hi5 hL (by decide) rfl rfl (by decide +kernel) ?_
  refine l_bool (by decide +kernel) ?_
  refine j_aload_n (i := 3) rfl (by decide +kernel) ?_
  have kc : JM mL_done [.ref 0, .int (sc.2 (i + 1)), .int (if decide (¬ sc.2 (i + 2) = 0) = true then 1 else 0), .ref 179] (jG0 sc) h (wQ sc o h) := by rw [← eo]; exact ww_done rfl ok kC (by rw [eo]; exact ok2)
  refine j_callSW (M' := mL_done) (As := [.ref 0, .int (sc.2 (i + 1)), .int (if decide (¬ sc.2 (i + 2) = 0) = true then 1 else 0), .ref 179]) (idx := 140) (n := 4) (Γ := jG0 sc) kc jint_nt (jlkT (jtb5 63 rfl) rfl) (j2 (jlkT (jtb5 64 rfl) rfl) (jlkT (jtb1 0 rfl) rfl)) (jlkT (jtb5 65 rfl) rfl) (by decide) ⟨by decide +kernel, by decide +kernel, by decide +kernel⟩ rfl ⟨by decide, by decide⟩ (Nat.le_of_ble_eq_true rfl) (show u.1 + 1 ≤ 601024 ∧ u.2 + 6 ≤ 7293034 from hu) (by decide +kernel) ?_
  rintro _ _ h1 ⟨r, e, rfl, rfl, e2, e3, e4⟩
  cases e
  refine j_istore (i := 5) (by decide +kernel) (by decide) ?_
  refine j_eqlv (lvs5 i o.1) (by rfl) ?_
  refine j_aload_n (i := 2) rfl (by decide +kernel) ?_
  refine l_arg (j := 1) hi5 hL (by decide) rfl rfl (by decide +kernel) ?_
  refine l_arg (j := 2) hi5 hL (by decide) rfl rfl (by decide +kernel) ?_
  refine l_bool (by decide +kernel) ?_
  have km : JM mX12_done [.ref 159, .int (sc.2 (i + 1)), .int (if decide (¬ sc.2 (i + 2) = 0) = true then 1 else 0)] (jG0 sc) h1 (mQ sc o h1) := by rw [← eo]; exact mmDone rfl ok (RM.cc kM e4)
  refine j_callV (M' := mX12_done) (ci := 12) (As := [.int (sc.2 (i + 1)), .int (if decide (¬ sc.2 (i + 2) = 0) = true then 1 else 0)]) (idx := 143) (n := 2) (Γ := jG0 sc) km jint_nt (jlkT (jtb7 120 rfl) rfl) sX12_done kX12_done rfl ⟨rfl, by decide +kernel, by decide +kernel, by decide +kernel⟩ rfl ⟨by decide, by decide⟩ (by show 159 < 180; decide) (show jKt.getD 159 99 = 12 by decide +kernel) (by decide) (Nat.le_of_ble_eq_true rfl) (show u.1 + 1 + 0 ≤ 601024 ∧ u.2 + 6 + 0 ≤ 7293034 from hu) (by decide +kernel) ?_
  have lt : o.1 < 2 ^ 31 := by rw [← eo]; exact Nat.lt_of_le_of_lt le_done (by decide)
  rintro _ _ h2 ⟨b, e, rfl, p1, p2, p3, p4⟩
  cases e
  refine j_istore (i := 6) (by decide +kernel) (by decide) ?_
  refine j_eqlv (lvs6 i o.1 b) (by rfl) ?_
  refine l_thr (k := o.1) rfl rfl p2 (show u.1 + 1 + 0 ≤ 601024 ∧ u.2 + 6 + 0 ≤ 7293034 from hu) (by decide +kernel) ?_
  refine j_widen (u.1 + 1, u.2 + 6) (by show u.1 + 1 + 0 ≤ u.1 + 1; omega) (by show u.2 + 6 + 0 ≤ u.2 + 6; omega) ?_
  refine l_val (k := o.1) (b := b) rfl rfl rfl lt (fun z => by rw [show h2 179 0 = h1 179 0 by rw [p4 179 (Or.inr (by decide))]]; exact (e2 z).trans (p1 z).symm) (by decide +kernel) ?_
  refine j_goto (off := 1167) 1910 (by decide +kernel) (by decide) ?_
  exact j_le (lvs i) ⟨rfl, rfl, rfl, rfl, rfl, trivial⟩ (kk o.2.2 h2 _ ok2 (RC.mm ok2 e3 p4) p3 (Nat.le_refl _) (Nat.le_refl _))
set_option maxRecDepth 100000 in
theorem lc_9 (hi : i + 5 < sc.1) (hL : sc.1 ≤ 3072) (ok0 : aOk n A) (hn : n + 1 < 2 ^ 31) (kC : RC h A) (kM : RM h A) (hu : u.1 + 1 ≤ 601024 ∧ u.2 + 6 ≤ 7293034) (kk : lK sc Q i n u) : WP mLL Q 746 (lvs i) [] (jG0 sc) h u := by
  have hi5 : i + 5 < sc.1 := hi
  have ok := ok0.up (Nat.le_succ n)
  generalize eo : oWhere A ((sc.2 (i + 1))) = o
  have ok2 : aOk (n + 1) o.2.2 := by rw [← eo]; exact (by unfold oWhere; repeat (first | exact ok | refine sI_ok ?_ ?_))
  refine j_aload_n (i := 1) rfl (by decide +kernel) ?_
  refine l_arg (j := 1) hi5 hL (by decide) rfl rfl (by decide +kernel) ?_
  refine j_aload_n (i := 3) rfl (by decide +kernel) ?_
  have kc : JM mL_where [.ref 0, .int (sc.2 (i + 1)), .ref 179] (jG0 sc) h (wQ sc o h) := by rw [← eo]; exact ww_where ok kC (by rw [eo]; exact ok2)
  refine j_callSW (M' := mL_where) (As := [.ref 0, .int (sc.2 (i + 1)), .ref 179]) (idx := 144) (n := 3) (Γ := jG0 sc) kc jint_nt (jlkT (jtb5 80 rfl) rfl) (j2 (jlkT (jtb5 81 rfl) rfl) (jlkT (jtb1 0 rfl) rfl)) (jlkT (jtb5 82 rfl) rfl) (by decide) ⟨by decide +kernel, by decide +kernel, by decide +kernel⟩ rfl ⟨by decide, by decide⟩ (Nat.le_of_ble_eq_true rfl) (show u.1 + 1 ≤ 601024 ∧ u.2 + 6 ≤ 7293034 from hu) (by decide +kernel) ?_
  rintro _ _ h1 ⟨r, e, rfl, rfl, e2, e3, e4⟩
  cases e
  refine j_istore (i := 5) (by decide +kernel) (by decide) ?_
  refine j_eqlv (lvs5 i o.1) (by rfl) ?_
  refine j_aload_n (i := 2) rfl (by decide +kernel) ?_
  refine l_arg (j := 1) hi5 hL (by decide) rfl rfl (by decide +kernel) ?_
  have km : JM mX12_where [.ref 159, .int (sc.2 (i + 1))] (jG0 sc) h1 (mQ sc o h1) := by rw [← eo]; exact mmWhere ok (RM.cc kM e4)
  refine j_callV (M' := mX12_where) (ci := 12) (As := [.int (sc.2 (i + 1))]) (idx := 147) (n := 1) (Γ := jG0 sc) km jint_nt (jlkT (jtb7 132 rfl) rfl) sX12_where kX12_where rfl ⟨rfl, by decide +kernel, by decide +kernel, by decide +kernel⟩ rfl ⟨by decide, by decide⟩ (by show 159 < 180; decide) (show jKt.getD 159 99 = 12 by decide +kernel) (by decide) (Nat.le_of_ble_eq_true rfl) (show u.1 + 1 + 0 ≤ 601024 ∧ u.2 + 6 + 0 ≤ 7293034 from hu) (by decide +kernel) ?_
  have lt : o.1 < 2 ^ 31 := by rw [← eo]; exact Nat.lt_of_le_of_lt le_where (by decide)
  rintro _ _ h2 ⟨b, e, rfl, p1, p2, p3, p4⟩
  cases e
  refine j_istore (i := 6) (by decide +kernel) (by decide) ?_
  refine j_eqlv (lvs6 i o.1 b) (by rfl) ?_
  refine l_thr (k := o.1) rfl rfl p2 (show u.1 + 1 + 0 ≤ 601024 ∧ u.2 + 6 + 0 ≤ 7293034 from hu) (by decide +kernel) ?_
  refine j_widen (u.1 + 1, u.2 + 6) (by show u.1 + 1 + 0 ≤ u.1 + 1; omega) (by show u.2 + 6 + 0 ≤ u.2 + 6; omega) ?_
  refine l_val (k := o.1) (b := b) rfl rfl rfl lt (fun z => by rw [show h2 179 0 = h1 179 0 by rw [p4 179 (Or.inr (by decide))]]; exact (e2 z).trans (p1 z).symm) (by decide +kernel) ?_
  refine j_goto (off := 1111) 1910 (by decide +kernel) (by decide) ?_
  exact j_le (lvs i) ⟨rfl, rfl, rfl, rfl, rfl, trivial⟩ (kk o.2.2 h2 _ ok2 (RC.mm ok2 e3 p4) p3 (Nat.le_refl _) (Nat.le_refl _))
set_option maxRecDepth 100000 in
theorem lc_10 (hi : i + 5 < sc.1) (hL : sc.1 ≤ 3072) (ok0 : aOk n A) (hn : n + 1 < 2 ^ 31) (kC : RC h A) (kM : RM h A) (hu : u.1 + 1 ≤ 601024 ∧ u.2 + 6 ≤ 7293034) (kk : lK sc Q i n u) : WP mLL Q 802 (lvs i) [] (jG0 sc) h u := by
  have hi5 : i + 5 < sc.1 := hi
  have ok := ok0.up (Nat.le_succ n)
  generalize eo : oMend A ((sc.2 (i + 1))) ((sc.2 (i + 2))) = o
  have ok2 : aOk (n + 1) o.2.2 := by rw [← eo]; exact (by unfold oMend; repeat (first | exact ok | refine sI_ok ?_ ?_))
  refine j_aload_n (i := 1) rfl (by decide +kernel) ?_
  refine l_arg (j := 1) hi5 hL (by decide) rfl rfl (by decide +kernel) ?_
  refine l_arg (j := 2) hi5 hL (by decide) rfl rfl (by decide +kernel) ?_
  refine j_aload_n (i := 3) rfl (by decide +kernel) ?_
  have kc : JM mL_mend [.ref 0, .int (sc.2 (i + 1)), .int (sc.2 (i + 2)), .ref 179] (jG0 sc) h (wQ sc o h) := by rw [← eo]; exact ww_mend ok kC (by rw [eo]; exact ok2)
  refine j_callSW (M' := mL_mend) (As := [.ref 0, .int (sc.2 (i + 1)), .int (sc.2 (i + 2)), .ref 179]) (idx := 148) (n := 4) (Γ := jG0 sc) kc jint_nt (jlkT (jtb5 105 rfl) rfl) (j2 (jlkT (jtb5 106 rfl) rfl) (jlkT (jtb1 0 rfl) rfl)) (jlkT (jtb5 107 rfl) rfl) (by decide) ⟨by decide +kernel, by decide +kernel, by decide +kernel⟩ rfl ⟨by decide, by decide⟩ (Nat.le_of_ble_eq_true rfl) (show u.1 + 1 ≤ 601024 ∧ u.2 + 6 ≤ 7293034 from hu) (by decide +kernel) ?_
  rintro _ _ h1 ⟨r, e, rfl, rfl, e2, e3, e4⟩
  cases e
  refine j_istore (i := 5) (by decide +kernel) (by decide) ?_
  refine j_eqlv (lvs5 i o.1) (by rfl) ?_
  refine j_aload_n (i := 2) rfl (by decide +kernel) ?_
  refine l_arg (j := 1) hi5 hL (by decide) rfl rfl (by decide +kernel) ?_
  refine l_arg (j := 2) hi5 hL (by decide) rfl rfl (by decide +kernel) ?_
  have km : JM mX12_mend [.ref 159, .int (sc.2 (i + 1)), .int (sc.2 (i + 2))] (jG0 sc) h1 (mQ sc o h1) := by rw [← eo]; exact mmMend ok (RM.cc kM e4)
  refine j_callV (M' := mX12_mend) (ci := 12) (As := [.int (sc.2 (i + 1)), .int (sc.2 (i + 2))]) (idx := 150) (n := 2) (Γ := jG0 sc) km jint_nt (jlkT (jtb7 156 rfl) rfl) sX12_mend kX12_mend rfl ⟨rfl, by decide +kernel, by decide +kernel, by decide +kernel⟩ rfl ⟨by decide, by decide⟩ (by show 159 < 180; decide) (show jKt.getD 159 99 = 12 by decide +kernel) (by decide) (Nat.le_of_ble_eq_true rfl) (show u.1 + 1 + 0 ≤ 601024 ∧ u.2 + 6 + 0 ≤ 7293034 from hu) (by decide +kernel) ?_
  have lt : o.1 < 2 ^ 31 := by rw [← eo]; exact Nat.lt_of_le_of_lt le_mend (by decide)
  rintro _ _ h2 ⟨b, e, rfl, p1, p2, p3, p4⟩
  cases e
  refine j_istore (i := 6) (by decide +kernel) (by decide) ?_
  refine j_eqlv (lvs6 i o.1 b) (by rfl) ?_
  refine l_thr (k := o.1) rfl rfl p2 (show u.1 + 1 + 0 ≤ 601024 ∧ u.2 + 6 + 0 ≤ 7293034 from hu) (by decide +kernel) ?_
  refine j_widen (u.1 + 1, u.2 + 6) (by show u.1 + 1 + 0 ≤ u.1 + 1; omega) (by show u.2 + 6 + 0 ≤ u.2 + 6; omega) ?_
  refine l_val (k := o.1) (b := b) rfl rfl rfl lt (fun z => by rw [show h2 179 0 = h1 179 0 by rw [p4 179 (Or.inr (by decide))]]; exact (e2 z).trans (p1 z).symm) (by decide +kernel) ?_
  refine j_goto (off := 1043) 1910 (by decide +kernel) (by decide) ?_
  exact j_le (lvs i) ⟨rfl, rfl, rfl, rfl, rfl, trivial⟩ (kk o.2.2 h2 _ ok2 (RC.mm ok2 e3 p4) p3 (Nat.le_refl _) (Nat.le_refl _))
set_option maxRecDepth 100000 in
theorem lc_11 (hi : i + 5 < sc.1) (hL : sc.1 ≤ 3072) (ok0 : aOk n A) (hn : n + 1 < 2 ^ 31) (kC : RC h A) (kM : RM h A) (hu : u.1 + 1 ≤ 601024 ∧ u.2 + 6 ≤ 7293034) (kk : lK sc Q i n u) : WP mLL Q 870 (lvs i) [] (jG0 sc) h u := by
  have hi5 : i + 5 < sc.1 := hi
  have ok := ok0.up (Nat.le_succ n)
  generalize eo : oLine A ((sc.2 (i + 1))) ((sc.2 (i + 2))) ((sc.2 (i + 3))) = o
  have ok2 : aOk (n + 1) o.2.2 := by rw [← eo]; exact (by unfold oLine; repeat (first | exact ok | refine sI_ok ?_ ?_))
  refine j_aload_n (i := 1) rfl (by decide +kernel) ?_
  refine l_arg (j := 1) hi5 hL (by decide) rfl rfl (by decide +kernel) ?_
  refine l_arg (j := 2) hi5 hL (by decide) rfl rfl (by decide +kernel) ?_
  refine l_arg (j := 3) hi5 hL (by decide) rfl rfl (by decide +kernel) ?_
  refine j_aload_n (i := 3) rfl (by decide +kernel) ?_
  have kc : JM mL_line [.ref 0, .int (sc.2 (i + 1)), .int (sc.2 (i + 2)), .int (sc.2 (i + 3)), .ref 179] (jG0 sc) h (wQ sc o h) := by rw [← eo]; exact ww_line ok kC (by rw [eo]; exact ok2)
  refine j_callSW (M' := mL_line) (As := [.ref 0, .int (sc.2 (i + 1)), .int (sc.2 (i + 2)), .int (sc.2 (i + 3)), .ref 179]) (idx := 151) (n := 5) (Γ := jG0 sc) kc jint_nt (jlkT (jtb5 113 rfl) rfl) (j2 (jlkT (jtb5 114 rfl) rfl) (jlkT (jtb1 0 rfl) rfl)) (jlkT (jtb5 115 rfl) rfl) (by decide) ⟨by decide +kernel, by decide +kernel, by decide +kernel⟩ rfl ⟨by decide, by decide⟩ (Nat.le_of_ble_eq_true rfl) (show u.1 + 1 ≤ 601024 ∧ u.2 + 6 ≤ 7293034 from hu) (by decide +kernel) ?_
  rintro _ _ h1 ⟨r, e, rfl, rfl, e2, e3, e4⟩
  cases e
  refine j_istore (i := 5) (by decide +kernel) (by decide) ?_
  refine j_eqlv (lvs5 i o.1) (by rfl) ?_
  refine j_aload_n (i := 2) rfl (by decide +kernel) ?_
  refine l_arg (j := 1) hi5 hL (by decide) rfl rfl (by decide +kernel) ?_
  refine l_arg (j := 2) hi5 hL (by decide) rfl rfl (by decide +kernel) ?_
  refine l_arg (j := 3) hi5 hL (by decide) rfl rfl (by decide +kernel) ?_
  have km : JM mX12_line [.ref 159, .int (sc.2 (i + 1)), .int (sc.2 (i + 2)), .int (sc.2 (i + 3))] (jG0 sc) h1 (mQ sc o h1) := by rw [← eo]; exact mmLine ok (RM.cc kM e4)
  refine j_callV (M' := mX12_line) (ci := 12) (As := [.int (sc.2 (i + 1)), .int (sc.2 (i + 2)), .int (sc.2 (i + 3))]) (idx := 153) (n := 3) (Γ := jG0 sc) km jint_nt (jlkT (jtb7 205 rfl) rfl) sX12_line kX12_line rfl ⟨rfl, by decide +kernel, by decide +kernel, by decide +kernel⟩ rfl ⟨by decide, by decide⟩ (by show 159 < 180; decide) (show jKt.getD 159 99 = 12 by decide +kernel) (by decide) (Nat.le_of_ble_eq_true rfl) (show u.1 + 1 + 0 ≤ 601024 ∧ u.2 + 6 + 0 ≤ 7293034 from hu) (by decide +kernel) ?_
  have lt : o.1 < 2 ^ 31 := by rw [← eo]; exact Nat.lt_of_le_of_lt le_line (by decide)
  rintro _ _ h2 ⟨b, e, rfl, p1, p2, p3, p4⟩
  cases e
  refine j_istore (i := 6) (by decide +kernel) (by decide) ?_
  refine j_eqlv (lvs6 i o.1 b) (by rfl) ?_
  refine l_thr (k := o.1) rfl rfl p2 (show u.1 + 1 + 0 ≤ 601024 ∧ u.2 + 6 + 0 ≤ 7293034 from hu) (by decide +kernel) ?_
  refine j_widen (u.1 + 1, u.2 + 6) (by show u.1 + 1 + 0 ≤ u.1 + 1; omega) (by show u.2 + 6 + 0 ≤ u.2 + 6; omega) ?_
  refine l_val (k := o.1) (b := b) rfl rfl rfl lt (fun z => by rw [show h2 179 0 = h1 179 0 by rw [p4 179 (Or.inr (by decide))]]; exact (e2 z).trans (p1 z).symm) (by decide +kernel) ?_
  refine j_goto (off := 963) 1910 (by decide +kernel) (by decide) ?_
  exact j_le (lvs i) ⟨rfl, rfl, rfl, rfl, rfl, trivial⟩ (kk o.2.2 h2 _ ok2 (RC.mm ok2 e3 p4) p3 (Nat.le_refl _) (Nat.le_refl _))
set_option maxRecDepth 100000 in
theorem lc_12 (hi : i + 5 < sc.1) (hL : sc.1 ≤ 3072) (ok0 : aOk n A) (hn : n + 1 < 2 ^ 31) (kC : RC h A) (kM : RM h A) (hu : u.1 + 1 ≤ 601024 ∧ u.2 + 6 ≤ 7293034) (kk : lK sc Q i n u) : WP mLL Q 950 (lvs i) [] (jG0 sc) h u := by
  have hi5 : i + 5 < sc.1 := hi
  have ok := ok0.up (Nat.le_succ n)
  generalize eo : oTries A ((sc.2 (i + 1))) = o
  have ok2 : aOk (n + 1) o.2.2 := by rw [← eo]; exact (oTries_ok ok)
  refine j_aload_n (i := 1) rfl (by decide +kernel) ?_
  refine l_arg (j := 1) hi5 hL (by decide) rfl rfl (by decide +kernel) ?_
  refine j_aload_n (i := 3) rfl (by decide +kernel) ?_
  have kc : JM mL_tries [.ref 0, .int (sc.2 (i + 1)), .ref 179] (jG0 sc) h (wQ sc o h) := by rw [← eo]; exact ww_tries ok kC (by rw [eo]; exact ok2)
  refine j_callSW (M' := mL_tries) (As := [.ref 0, .int (sc.2 (i + 1)), .ref 179]) (idx := 154) (n := 3) (Γ := jG0 sc) kc jint_nt (jlkT (jtb5 125 rfl) rfl) (j2 (jlkT (jtb5 126 rfl) rfl) (jlkT (jtb1 0 rfl) rfl)) (jlkT (jtb5 127 rfl) rfl) (by decide) ⟨by decide +kernel, by decide +kernel, by decide +kernel⟩ rfl ⟨by decide, by decide⟩ (Nat.le_of_ble_eq_true rfl) (show u.1 + 1 ≤ 601024 ∧ u.2 + 6 ≤ 7293034 from hu) (by decide +kernel) ?_
  rintro _ _ h1 ⟨r, e, rfl, rfl, e2, e3, e4⟩
  cases e
  refine j_istore (i := 5) (by decide +kernel) (by decide) ?_
  refine j_eqlv (lvs5 i o.1) (by rfl) ?_
  refine j_aload_n (i := 2) rfl (by decide +kernel) ?_
  refine l_arg (j := 1) hi5 hL (by decide) rfl rfl (by decide +kernel) ?_
  have km : JM mX12_tries [.ref 159, .int (sc.2 (i + 1))] (jG0 sc) h1 (mQ sc o h1) := by rw [← eo]; exact mmTries ok (RM.cc kM e4)
  refine j_callV (M' := mX12_tries) (ci := 12) (As := [.int (sc.2 (i + 1))]) (idx := 156) (n := 1) (Γ := jG0 sc) km jint_nt (jlkT (jtb7 209 rfl) rfl) sX12_tries kX12_tries rfl ⟨rfl, by decide +kernel, by decide +kernel, by decide +kernel⟩ rfl ⟨by decide, by decide⟩ (by show 159 < 180; decide) (show jKt.getD 159 99 = 12 by decide +kernel) (by decide) (Nat.le_of_ble_eq_true rfl) (show u.1 + 1 + 0 ≤ 601024 ∧ u.2 + 6 + 0 ≤ 7293034 from hu) (by decide +kernel) ?_
  have lt : o.1 < 2 ^ 31 := by rw [← eo]; exact Nat.lt_of_le_of_lt le_tries (by decide)
  rintro _ _ h2 ⟨b, e, rfl, p1, p2, p3, p4⟩
  cases e
  refine j_istore (i := 6) (by decide +kernel) (by decide) ?_
  refine j_eqlv (lvs6 i o.1 b) (by rfl) ?_
  refine l_thr (k := o.1) rfl rfl p2 (show u.1 + 1 + 0 ≤ 601024 ∧ u.2 + 6 + 0 ≤ 7293034 from hu) (by decide +kernel) ?_
  refine j_widen (u.1 + 1, u.2 + 6) (by show u.1 + 1 + 0 ≤ u.1 + 1; omega) (by show u.2 + 6 + 0 ≤ u.2 + 6; omega) ?_
  refine l_val (k := o.1) (b := b) rfl rfl rfl lt (fun z => by rw [show h2 179 0 = h1 179 0 by rw [p4 179 (Or.inr (by decide))]]; exact (e2 z).trans (p1 z).symm) (by decide +kernel) ?_
  refine j_goto (off := 907) 1910 (by decide +kernel) (by decide) ?_
  exact j_le (lvs i) ⟨rfl, rfl, rfl, rfl, rfl, trivial⟩ (kk o.2.2 h2 _ ok2 (RC.mm ok2 e3 p4) p3 (Nat.le_refl _) (Nat.le_refl _))
set_option maxRecDepth 100000 in
theorem lc_13 (hi : i + 5 < sc.1) (hL : sc.1 ≤ 3072) (ok0 : aOk n A) (hn : n + 1 < 2 ^ 31) (kC : RC h A) (kM : RM h A) (hu : u.1 + 1 ≤ 601024 ∧ u.2 + 6 ≤ 7293034) (kk : lK sc Q i n u) : WP mLL Q 1006 (lvs i) [] (jG0 sc) h u := by
  have hi5 : i + 5 < sc.1 := hi
  have ok := ok0.up (Nat.le_succ n)
  generalize eo : oAlive A ((sc.2 (i + 1))) ((sc.2 (i + 2))) = o
  have ok2 : aOk (n + 1) o.2.2 := by rw [← eo]; exact (by unfold oAlive; repeat (first | exact ok | refine sI_ok ?_ ?_))
  refine j_aload_n (i := 1) rfl (by decide +kernel) ?_
  refine l_arg (j := 1) hi5 hL (by decide) rfl rfl (by decide +kernel) ?_
  refine l_arg (j := 2) hi5 hL (by decide) rfl rfl (by decide +kernel) ?_
  refine j_aload_n (i := 3) rfl (by decide +kernel) ?_
  have kc : JM mL_alive [.ref 0, .int (sc.2 (i + 1)), .int (sc.2 (i + 2)), .ref 179] (jG0 sc) h (wQ sc o h) := by rw [← eo]; exact ww_alive ok kC (by rw [eo]; exact ok2)
  refine j_callSW (M' := mL_alive) (As := [.ref 0, .int (sc.2 (i + 1)), .int (sc.2 (i + 2)), .ref 179]) (idx := 157) (n := 4) (Γ := jG0 sc) kc jint_nt (jlkT (jtb5 145 rfl) rfl) (j2 (jlkT (jtb5 146 rfl) rfl) (jlkT (jtb1 0 rfl) rfl)) (jlkT (jtb5 147 rfl) rfl) (by decide) ⟨by decide +kernel, by decide +kernel, by decide +kernel⟩ rfl ⟨by decide, by decide⟩ (Nat.le_of_ble_eq_true rfl) (show u.1 + 1 ≤ 601024 ∧ u.2 + 6 ≤ 7293034 from hu) (by decide +kernel) ?_
  rintro _ _ h1 ⟨r, e, rfl, rfl, e2, e3, e4⟩
  cases e
  refine j_istore (i := 5) (by decide +kernel) (by decide) ?_
  refine j_eqlv (lvs5 i o.1) (by rfl) ?_
  refine j_aload_n (i := 2) rfl (by decide +kernel) ?_
  refine l_arg (j := 1) hi5 hL (by decide) rfl rfl (by decide +kernel) ?_
  refine l_arg (j := 2) hi5 hL (by decide) rfl rfl (by decide +kernel) ?_
  have km : JM mX12_alive [.ref 159, .int (sc.2 (i + 1)), .int (sc.2 (i + 2))] (jG0 sc) h1 (mQ sc o h1) := by rw [← eo]; exact mmAlive ok (RM.cc kM e4)
  refine j_callV (M' := mX12_alive) (ci := 12) (As := [.int (sc.2 (i + 1)), .int (sc.2 (i + 2))]) (idx := 159) (n := 2) (Γ := jG0 sc) km jint_nt (jlkT (jtb8 3 rfl) rfl) sX12_alive kX12_alive rfl ⟨rfl, by decide +kernel, by decide +kernel, by decide +kernel⟩ rfl ⟨by decide, by decide⟩ (by show 159 < 180; decide) (show jKt.getD 159 99 = 12 by decide +kernel) (by decide) (Nat.le_of_ble_eq_true rfl) (show u.1 + 1 + 0 ≤ 601024 ∧ u.2 + 6 + 0 ≤ 7293034 from hu) (by decide +kernel) ?_
  have lt : o.1 < 2 ^ 31 := by rw [← eo]; exact Nat.lt_of_le_of_lt le_alive (by decide)
  rintro _ _ h2 ⟨b, e, rfl, p1, p2, p3, p4⟩
  cases e
  refine j_istore (i := 6) (by decide +kernel) (by decide) ?_
  refine j_eqlv (lvs6 i o.1 b) (by rfl) ?_
  refine l_thr (k := o.1) rfl rfl p2 (show u.1 + 1 + 0 ≤ 601024 ∧ u.2 + 6 + 0 ≤ 7293034 from hu) (by decide +kernel) ?_
  refine j_widen (u.1 + 1, u.2 + 6) (by show u.1 + 1 + 0 ≤ u.1 + 1; omega) (by show u.2 + 6 + 0 ≤ u.2 + 6; omega) ?_
  refine l_val (k := o.1) (b := b) rfl rfl rfl lt (fun z => by rw [show h2 179 0 = h1 179 0 by rw [p4 179 (Or.inr (by decide))]]; exact (e2 z).trans (p1 z).symm) (by decide +kernel) ?_
  refine j_goto (off := 839) 1910 (by decide +kernel) (by decide) ?_
  exact j_le (lvs i) ⟨rfl, rfl, rfl, rfl, rfl, trivial⟩ (kk o.2.2 h2 _ ok2 (RC.mm ok2 e3 p4) p3 (Nat.le_refl _) (Nat.le_refl _))
set_option maxRecDepth 100000 in
theorem lc_14 (hi : i + 5 < sc.1) (hL : sc.1 ≤ 3072) (ok0 : aOk n A) (hn : n + 1 < 2 ^ 31) (kC : RC h A) (kM : RM h A) (hu : u.1 + 1 ≤ 601024 ∧ u.2 + 6 ≤ 7293034) (kk : lK sc Q i n u) : WP mLL Q 1074 (lvs i) [] (jG0 sc) h u := by
  have hi5 : i + 5 < sc.1 := hi
  have ok := ok0.up (Nat.le_succ n)
  generalize eo : oAliveEnds A ((sc.2 (i + 1))) ((sc.2 (i + 2))) ((sc.2 (i + 3))) = o
  have ok2 : aOk (n + 1) o.2.2 := by rw [← eo]; exact (by unfold oAliveEnds; repeat (first | exact ok | refine sI_ok ?_ ?_))
  refine j_aload_n (i := 1) rfl (by decide +kernel) ?_
  refine l_arg (j := 1) hi5 hL (by decide) rfl rfl (by decide +kernel) ?_
  refine l_arg (j := 2) hi5 hL (by decide) rfl rfl (by decide +kernel) ?_
  refine l_arg (j := 3) hi5 hL (by decide) rfl rfl (by decide +kernel) ?_
  refine j_aload_n (i := 3) rfl (by decide +kernel) ?_
  have kc : JM mL_aliveEnds [.ref 0, .int (sc.2 (i + 1)), .int (sc.2 (i + 2)), .int (sc.2 (i + 3)), .ref 179] (jG0 sc) h (wQ sc o h) := by rw [← eo]; exact ww_aliveEnds ok kC (by rw [eo]; exact ok2)
  refine j_callSW (M' := mL_aliveEnds) (As := [.ref 0, .int (sc.2 (i + 1)), .int (sc.2 (i + 2)), .int (sc.2 (i + 3)), .ref 179]) (idx := 160) (n := 5) (Γ := jG0 sc) kc jint_nt (jlkT (jtb5 154 rfl) rfl) (j2 (jlkT (jtb5 155 rfl) rfl) (jlkT (jtb1 0 rfl) rfl)) (jlkT (jtb5 156 rfl) rfl) (by decide) ⟨by decide +kernel, by decide +kernel, by decide +kernel⟩ rfl ⟨by decide, by decide⟩ (Nat.le_of_ble_eq_true rfl) (show u.1 + 1 ≤ 601024 ∧ u.2 + 6 ≤ 7293034 from hu) (by decide +kernel) ?_
  rintro _ _ h1 ⟨r, e, rfl, rfl, e2, e3, e4⟩
  cases e
  refine j_istore (i := 5) (by decide +kernel) (by decide) ?_
  refine j_eqlv (lvs5 i o.1) (by rfl) ?_
  refine j_aload_n (i := 2) rfl (by decide +kernel) ?_
  refine l_arg (j := 1) hi5 hL (by decide) rfl rfl (by decide +kernel) ?_
  refine l_arg (j := 2) hi5 hL (by decide) rfl rfl (by decide +kernel) ?_
  refine l_arg (j := 3) hi5 hL (by decide) rfl rfl (by decide +kernel) ?_
  have km : JM mX12_aliveEnds [.ref 159, .int (sc.2 (i + 1)), .int (sc.2 (i + 2)), .int (sc.2 (i + 3))] (jG0 sc) h1 (mQ sc o h1) := by rw [← eo]; exact mmAliveEnds ok (RM.cc kM e4)
  refine j_callV (M' := mX12_aliveEnds) (ci := 12) (As := [.int (sc.2 (i + 1)), .int (sc.2 (i + 2)), .int (sc.2 (i + 3))]) (idx := 162) (n := 3) (Γ := jG0 sc) km jint_nt (jlkT (jtb8 11 rfl) rfl) sX12_aliveEnds kX12_aliveEnds rfl ⟨rfl, by decide +kernel, by decide +kernel, by decide +kernel⟩ rfl ⟨by decide, by decide⟩ (by show 159 < 180; decide) (show jKt.getD 159 99 = 12 by decide +kernel) (by decide) (Nat.le_of_ble_eq_true rfl) (show u.1 + 1 + 0 ≤ 601024 ∧ u.2 + 6 + 0 ≤ 7293034 from hu) (by decide +kernel) ?_
  have lt : o.1 < 2 ^ 31 := by rw [← eo]; exact Nat.lt_of_le_of_lt le_aliveEnds (by decide)
  rintro _ _ h2 ⟨b, e, rfl, p1, p2, p3, p4⟩
  cases e
  refine j_istore (i := 6) (by decide +kernel) (by decide) ?_
  refine j_eqlv (lvs6 i o.1 b) (by rfl) ?_
  refine l_thr (k := o.1) rfl rfl p2 (show u.1 + 1 + 0 ≤ 601024 ∧ u.2 + 6 + 0 ≤ 7293034 from hu) (by decide +kernel) ?_
  refine j_widen (u.1 + 1, u.2 + 6) (by show u.1 + 1 + 0 ≤ u.1 + 1; omega) (by show u.2 + 6 + 0 ≤ u.2 + 6; omega) ?_
  refine l_val (k := o.1) (b := b) rfl rfl rfl lt (fun z => by rw [show h2 179 0 = h1 179 0 by rw [p4 179 (Or.inr (by decide))]]; exact (e2 z).trans (p1 z).symm) (by decide +kernel) ?_
  refine j_goto (off := 759) 1910 (by decide +kernel) (by decide) ?_
  exact j_le (lvs i) ⟨rfl, rfl, rfl, rfl, rfl, trivial⟩ (kk o.2.2 h2 _ ok2 (RC.mm ok2 e3 p4) p3 (Nat.le_refl _) (Nat.le_refl _))
set_option maxRecDepth 100000 in
theorem lc_15 (hi : i + 5 < sc.1) (hL : sc.1 ≤ 3072) (ok0 : aOk n A) (hn : n + 1 < 2 ^ 31) (kC : RC h A) (kM : RM h A) (hu : u.1 + 1 ≤ 601024 ∧ u.2 + 6 ≤ 7293034) (kk : lK sc Q i n u) : WP mLL Q 1154 (lvs i) [] (jG0 sc) h u := by
  have hi5 : i + 5 < sc.1 := hi
  have ok := ok0.up (Nat.le_succ n)
  generalize eo : oTeach A ((sc.2 (i + 1))) = o
  have ok2 : aOk (n + 1) o.2.2 := by rw [← eo]; exact (okTeach ok0)
  refine j_aload_n (i := 1) rfl (by decide +kernel) ?_
  refine l_arg (j := 1) hi5 hL (by decide) rfl rfl (by decide +kernel) ?_
  refine j_aload_n (i := 3) rfl (by decide +kernel) ?_
  have kc : JM mL_teach [.ref 0, .int (sc.2 (i + 1)), .ref 179] (jG0 sc) h (wQ sc o h) := by rw [← eo]; exact ww_teach ok kC (by rw [eo]; exact ok2)
  refine j_callSW (M' := mL_teach) (As := [.ref 0, .int (sc.2 (i + 1)), .ref 179]) (idx := 163) (n := 3) (Γ := jG0 sc) kc jint_nt (jlkT (jtb5 161 rfl) rfl) (j2 (jlkT (jtb5 162 rfl) rfl) (jlkT (jtb1 0 rfl) rfl)) (jlkT (jtb5 163 rfl) rfl) (by decide) ⟨by decide +kernel, by decide +kernel, by decide +kernel⟩ rfl ⟨by decide, by decide⟩ (Nat.le_of_ble_eq_true rfl) (show u.1 + 1 ≤ 601024 ∧ u.2 + 6 ≤ 7293034 from hu) (by decide +kernel) ?_
  rintro _ _ h1 ⟨r, e, rfl, rfl, e2, e3, e4⟩
  cases e
  refine j_istore (i := 5) (by decide +kernel) (by decide) ?_
  refine j_eqlv (lvs5 i o.1) (by rfl) ?_
  refine j_aload_n (i := 2) rfl (by decide +kernel) ?_
  refine l_arg (j := 1) hi5 hL (by decide) rfl rfl (by decide +kernel) ?_
  have km : JM mX12_teach [.ref 159, .int (sc.2 (i + 1))] (jG0 sc) h1 (mQ sc o h1) := by rw [← eo]; exact mmTeach ok (RM.cc kM e4)
  refine j_callV (M' := mX12_teach) (ci := 12) (As := [.int (sc.2 (i + 1))]) (idx := 165) (n := 1) (Γ := jG0 sc) km jint_nt (jlkT (jtb8 15 rfl) rfl) sX12_teach kX12_teach rfl ⟨rfl, by decide +kernel, by decide +kernel, by decide +kernel⟩ rfl ⟨by decide, by decide⟩ (by show 159 < 180; decide) (show jKt.getD 159 99 = 12 by decide +kernel) (by decide) (Nat.le_of_ble_eq_true rfl) (show u.1 + 1 + 0 ≤ 601024 ∧ u.2 + 6 + 0 ≤ 7293034 from hu) (by decide +kernel) ?_
  have lt : o.1 < 2 ^ 31 := by rw [← eo]; exact Nat.lt_of_le_of_lt le_teach (by decide)
  rintro _ _ h2 ⟨b, e, rfl, p1, p2, p3, p4⟩
  cases e
  refine j_istore (i := 6) (by decide +kernel) (by decide) ?_
  refine j_eqlv (lvs6 i o.1 b) (by rfl) ?_
  refine l_thr (k := o.1) rfl rfl p2 (show u.1 + 1 + 0 ≤ 601024 ∧ u.2 + 6 + 0 ≤ 7293034 from hu) (by decide +kernel) ?_
  refine j_widen (u.1 + 1, u.2 + 6) (by show u.1 + 1 + 0 ≤ u.1 + 1; omega) (by show u.2 + 6 + 0 ≤ u.2 + 6; omega) ?_
  refine l_val (k := o.1) (b := b) rfl rfl rfl lt (fun z => by rw [show h2 179 0 = h1 179 0 by rw [p4 179 (Or.inr (by decide))]]; exact (e2 z).trans (p1 z).symm) (by decide +kernel) ?_
  refine j_goto (off := 703) 1910 (by decide +kernel) (by decide) ?_
  exact j_le (lvs i) ⟨rfl, rfl, rfl, rfl, rfl, trivial⟩ (kk o.2.2 h2 _ ok2 (RC.mm ok2 e3 p4) p3 (Nat.le_refl _) (Nat.le_refl _))
set_option maxRecDepth 100000 in
theorem lc_16 (hi : i + 5 < sc.1) (hL : sc.1 ≤ 3072) (ok0 : aOk n A) (hn : n + 1 < 2 ^ 31) (kC : RC h A) (kM : RM h A) (hu : u.1 + 1 ≤ 601024 ∧ u.2 + 6 ≤ 7293034) (kk : lK sc Q i n u) : WP mLL Q 1210 (lvs i) [] (jG0 sc) h u := by
  have hi5 : i + 5 < sc.1 := hi
  have ok := ok0.up (Nat.le_succ n)
  generalize eo : oFirst A (decide (¬ sc.2 (i + 1) = 0)) = o
  have ok2 : aOk (n + 1) o.2.2 := by rw [← eo]; exact (by unfold oFirst; repeat (first | exact ok | refine sI_ok ?_ ?_))
  refine j_aload_n (i := 1) rfl (by decide +kernel) ?_
  refine l_arg (j := 1) hi5 hL (by decide) rfl rfl (by decide +kernel) ?_
  refine l_bool (by decide +kernel) ?_
  refine j_aload_n (i := 3) rfl (by decide +kernel) ?_
  have kc : JM mL_first [.ref 0, .int (if decide (¬ sc.2 (i + 1) = 0) = true then 1 else 0), .ref 179] (jG0 sc) h (wQ sc o h) := by rw [← eo]; exact ww_first hn rfl ok kC (by rw [eo]; exact ok2)
  refine j_callSW (M' := mL_first) (As := [.ref 0, .int (if decide (¬ sc.2 (i + 1) = 0) = true then 1 else 0), .ref 179]) (idx := 166) (n := 3) (Γ := jG0 sc) kc jint_nt (jlkT (jtb5 169 rfl) rfl) (j2 (jlkT (jtb5 170 rfl) rfl) (jlkT (jtb1 0 rfl) rfl)) (jlkT (jtb5 171 rfl) rfl) (by decide) ⟨by decide +kernel, by decide +kernel, by decide +kernel⟩ rfl ⟨by decide, by decide⟩ (Nat.le_of_ble_eq_true rfl) (show u.1 + 1 ≤ 601024 ∧ u.2 + 6 ≤ 7293034 from hu) (by decide +kernel) ?_
  rintro _ _ h1 ⟨r, e, rfl, rfl, e2, e3, e4⟩
  cases e
  refine j_istore (i := 5) (by decide +kernel) (by decide) ?_
  refine j_eqlv (lvs5 i o.1) (by rfl) ?_
  refine j_aload_n (i := 2) rfl (by decide +kernel) ?_
  refine l_arg (j := 1) hi5 hL (by decide) rfl rfl (by decide +kernel) ?_
  refine l_bool (by decide +kernel) ?_
  have km : JM mX12_first [.ref 159, .int (if decide (¬ sc.2 (i + 1) = 0) = true then 1 else 0)] (jG0 sc) h1 (mQ sc o h1) := by rw [← eo]; exact mmFirst rfl ok (RM.cc kM e4)
  refine j_callV (M' := mX12_first) (ci := 12) (As := [.int (if decide (¬ sc.2 (i + 1) = 0) = true then 1 else 0)]) (idx := 168) (n := 1) (Γ := jG0 sc) km jint_nt (jlkT (jtb8 19 rfl) rfl) sX12_first kX12_first rfl ⟨rfl, by decide +kernel, by decide +kernel, by decide +kernel⟩ rfl ⟨by decide, by decide⟩ (by show 159 < 180; decide) (show jKt.getD 159 99 = 12 by decide +kernel) (by decide) (Nat.le_of_ble_eq_true rfl) (show u.1 + 1 + 0 ≤ 601024 ∧ u.2 + 6 + 0 ≤ 7293034 from hu) (by decide +kernel) ?_
  have lt : o.1 < 2 ^ 31 := by rw [← eo]; exact Nat.lt_of_le_of_lt le_first (by decide)
  rintro _ _ h2 ⟨b, e, rfl, p1, p2, p3, p4⟩
  cases e
  refine j_istore (i := 6) (by decide +kernel) (by decide) ?_
  refine j_eqlv (lvs6 i o.1 b) (by rfl) ?_
  refine l_thr (k := o.1) rfl rfl p2 (show u.1 + 1 + 0 ≤ 601024 ∧ u.2 + 6 + 0 ≤ 7293034 from hu) (by decide +kernel) ?_
  refine j_widen (u.1 + 1, u.2 + 6) (by show u.1 + 1 + 0 ≤ u.1 + 1; omega) (by show u.2 + 6 + 0 ≤ u.2 + 6; omega) ?_
  refine l_val (k := o.1) (b := b) rfl rfl rfl lt (fun z => by rw [show h2 179 0 = h1 179 0 by rw [p4 179 (Or.inr (by decide))]]; exact (e2 z).trans (p1 z).symm) (by decide +kernel) ?_
  refine j_goto (off := 631) 1910 (by decide +kernel) (by decide) ?_
  exact j_le (lvs i) ⟨rfl, rfl, rfl, rfl, rfl, trivial⟩ (kk o.2.2 h2 _ ok2 (RC.mm ok2 e3 p4) p3 (Nat.le_refl _) (Nat.le_refl _))
set_option maxRecDepth 100000 in
theorem lc_17 (hi : i + 5 < sc.1) (hL : sc.1 ≤ 3072) (ok0 : aOk n A) (hn : n + 1 < 2 ^ 31) (kC : RC h A) (kM : RM h A) (hu : u.1 + 1 ≤ 601024 ∧ u.2 + 6 ≤ 7293034) (kk : lK sc Q i n u) : WP mLL Q 1282 (lvs i) [] (jG0 sc) h u := by
  have hi5 : i + 5 < sc.1 := hi
  have ok := ok0.up (Nat.le_succ n)
  generalize eo : oBox A ((sc.2 (i + 1))) = o
  have ok2 : aOk (n + 1) o.2.2 := by rw [← eo]; exact (okBox ok)
  refine j_aload_n (i := 1) rfl (by decide +kernel) ?_
  refine l_arg (j := 1) hi5 hL (by decide) rfl rfl (by decide +kernel) ?_
  have kc : JM mL_box [.ref 0, .int (sc.2 (i + 1))] (jG0 sc) h (jint sc (fun r h' => r = nI o.1 ∧ RC h' o.2.2 ∧ ∀ c, 159 ≤ c → h' c = h c)) := by rw [← eo]; exact ww_box ok kC
  refine j_callSW (M' := mL_box) (As := [.ref 0, .int (sc.2 (i + 1))]) (idx := 169) (n := 2) (Γ := jG0 sc) kc jint_nt (jlkT (jtb5 180 rfl) rfl) (j2 (jlkT (jtb5 181 rfl) rfl) (jlkT (jtb1 0 rfl) rfl)) (jlkT (jtb5 182 rfl) rfl) (by decide) ⟨by decide +kernel, by decide +kernel, by decide +kernel⟩ rfl ⟨by decide, by decide⟩ (Nat.le_of_ble_eq_true rfl) (show u.1 + 1 ≤ 601024 ∧ u.2 + 6 ≤ 7293034 from hu) (by decide +kernel) ?_
  rintro _ _ h1 ⟨r, e, rfl, rfl, e3, e5⟩
  cases e
  have e4 : ∀ c, 159 ≤ c → c < 179 → h1 c = h c := fun c a b => e5 c a
  refine j_istore (i := 5) (by decide +kernel) (by decide) ?_
  refine j_eqlv (lvs5 i o.1) (by rfl) ?_
  refine j_aload_n (i := 2) rfl (by decide +kernel) ?_
  refine l_arg (j := 1) hi5 hL (by decide) rfl rfl (by decide +kernel) ?_
  have km : JM mX12_box [.ref 159, .int (sc.2 (i + 1))] (jG0 sc) h1 (jvoid sc (fun h' => h' 159 0 = nI o.1 ∧ RM h' o.2.2 ∧ fM h1 h')) := by rw [← eo]; exact mmBox ok (RM.cc kM e4)
  refine j_callV (M' := mX12_box) (ci := 12) (As := [.int (sc.2 (i + 1))]) (idx := 172) (n := 1) (Γ := jG0 sc) km jvoid_nt (jlkT (jtb8 27 rfl) rfl) sX12_box kX12_box rfl ⟨rfl, by decide +kernel, by decide +kernel, by decide +kernel⟩ rfl ⟨by decide, by decide⟩ (by show 159 < 180; decide) (show jKt.getD 159 99 = 12 by decide +kernel) (by decide) (Nat.le_of_ble_eq_true rfl) (show u.1 + 1 + 0 ≤ 601024 ∧ u.2 + 6 + 0 ≤ 7293034 from hu) (by decide +kernel) ?_
  have lt : o.1 < 2 ^ 31 := by rw [← eo]; exact Nat.lt_of_le_of_lt le_box (by decide)
  rintro _ _ h2 ⟨e, rfl, p2, p3, p4⟩
  cases e
  refine l_thr (k := o.1) rfl rfl p2 (show u.1 + 1 + 0 ≤ 601024 ∧ u.2 + 6 + 0 ≤ 7293034 from hu) (by decide +kernel) ?_
  refine j_widen (u.1 + 1, u.2 + 6) (by show u.1 + 1 + 0 ≤ u.1 + 1; omega) (by show u.2 + 6 + 0 ≤ u.2 + 6; omega) ?_
  refine j_goto (off := 595) 1910 (by decide +kernel) (by decide) ?_
  exact j_le (lvs i) ⟨rfl, rfl, rfl, rfl, rfl, trivial⟩ (kk o.2.2 h2 _ ok2 (RC.mm ok2 e3 p4) p3 (Nat.le_refl _) (Nat.le_refl _))
set_option maxRecDepth 100000 in
theorem lc_18 (hi : i + 5 < sc.1) (hL : sc.1 ≤ 3072) (ok0 : aOk n A) (hn : n + 1 < 2 ^ 31) (kC : RC h A) (kM : RM h A) (hu : u.1 + 1 ≤ 601024 ∧ u.2 + 6 ≤ 7293034) (kk : lK sc Q i n u) : WP mLL Q 1318 (lvs i) [] (jG0 sc) h u := by
  have hi5 : i + 5 < sc.1 := hi
  have ok := ok0.up (Nat.le_succ n)
  generalize eo : oInput A (decide (¬ sc.2 (i + 1) = 0)) = o
  have ok2 : aOk (n + 1) o.2.2 := by rw [← eo]; exact (by unfold oInput; repeat (first | exact ok | refine sI_ok ?_ ?_))
  refine j_aload_n (i := 1) rfl (by decide +kernel) ?_
  refine l_arg (j := 1) hi5 hL (by decide) rfl rfl (by decide +kernel) ?_
  refine l_bool (by decide +kernel) ?_
  have o0 : o.1 = 0 := by rw [← eo]; exact (rfl)
  have kc : JM mX11_input [.ref 0, .int (if decide (¬ sc.2 (i + 1) = 0) = true then 1 else 0)] (jG0 sc) h (cQ sc [] o h) := by rw [← eo]; exact ccInput rfl ok kC
  refine j_callV (M' := mX11_input) (ci := 11) (As := [.int (if decide (¬ sc.2 (i + 1) = 0) = true then 1 else 0)]) (idx := 173) (n := 1) (Γ := jG0 sc) kc (cQ_nt o0) (jlkT (jtb2 191 rfl) rfl) sX11_input kX11_input rfl ⟨rfl, by decide +kernel, by decide +kernel, by decide +kernel⟩ rfl ⟨by decide, by decide⟩ (by show 0 < 180; decide) (show jKt.getD 0 99 = 11 by decide +kernel) (by decide) (Nat.le_of_ble_eq_true rfl) (show u.1 + 0 ≤ 601024 ∧ u.2 + 0 ≤ 7293034 from ⟨by omega, by omega⟩) (by decide +kernel) ?_
  rintro r1 Γ1 h1 q
  obtain ⟨rfl, rfl, e3, e4⟩ := cQ_get o0 q
  refine j_aload_n (i := 2) rfl (by decide +kernel) ?_
  refine l_arg (j := 1) hi5 hL (by decide) rfl rfl (by decide +kernel) ?_
  refine l_bool (by decide +kernel) ?_
  have km : JM mX12_input [.ref 159, .int (if decide (¬ sc.2 (i + 1) = 0) = true then 1 else 0)] (jG0 sc) h1 (mQ sc o h1) := by rw [← eo]; exact mmInput rfl ok (RM.cc kM (fun c a b => e4 c a))
  refine j_callV (M' := mX12_input) (ci := 12) (As := [.int (if decide (¬ sc.2 (i + 1) = 0) = true then 1 else 0)]) (idx := 176) (n := 1) (Γ := jG0 sc) km jint_nt (jlkT (jtb8 31 rfl) rfl) sX12_input kX12_input rfl ⟨rfl, by decide +kernel, by decide +kernel, by decide +kernel⟩ rfl ⟨by decide, by decide⟩ (by show 159 < 180; decide) (show jKt.getD 159 99 = 12 by decide +kernel) (by decide) (Nat.le_of_ble_eq_true rfl) (show u.1 + 0 + 0 ≤ 601024 ∧ u.2 + 0 + 0 ≤ 7293034 from ⟨by omega, by omega⟩) (by decide +kernel) ?_
  rintro _ _ h2 ⟨b, e, rfl, p1, p2, p3, p4⟩
  cases e
  refine j_icmp_eq (off := 556) 1910 (by decide +kernel) (by decide) (fun _ => ?_) (fun q => absurd (p1 o0).symm q)
  exact kk o.2.2 h2 _ ok2 (RC.mm ok2 e3 p4) p3 (by show u.1 + 0 + 0 ≤ u.1 + 1; omega) (by show u.2 + 0 + 0 ≤ u.2 + 6; omega)
set_option maxRecDepth 100000 in
theorem lc_19 (hi : i + 5 < sc.1) (hL : sc.1 ≤ 3072) (ok0 : aOk n A) (hn : n + 1 < 2 ^ 31) (kC : RC h A) (kM : RM h A) (hu : u.1 + 1 ≤ 601024 ∧ u.2 + 6 ≤ 7293034) (kk : lK sc Q i n u) : WP mLL Q 1359 (lvs i) [] (jG0 sc) h u := by
  have hi5 : i + 5 < sc.1 := hi
  have ok := ok0.up (Nat.le_succ n)
  generalize eo : oProve A ((sc.2 (i + 1))) (decide (¬ sc.2 (i + 2) = 0)) = o
  have ok2 : aOk (n + 1) o.2.2 := by rw [← eo]; exact (by unfold oProve; repeat (first | exact ok | refine sI_ok ?_ ?_))
  refine j_aload_n (i := 1) rfl (by decide +kernel) ?_
  refine l_arg (j := 1) hi5 hL (by decide) rfl rfl (by decide +kernel) ?_
  refine l_arg (j := 2) hi5 hL (by decide) rfl rfl (by decide +kernel) ?_
  refine l_bool (by decide +kernel) ?_
  refine j_aload_n (i := 3) rfl (by decide +kernel) ?_
  have kc : JM mL_prove [.ref 0, .int (sc.2 (i + 1)), .int (if decide (¬ sc.2 (i + 2) = 0) = true then 1 else 0), .ref 179] (jG0 sc) h (wQ sc o h) := by rw [← eo]; exact ww_prove rfl ok kC (by rw [eo]; exact ok2)
  refine j_callSW (M' := mL_prove) (As := [.ref 0, .int (sc.2 (i + 1)), .int (if decide (¬ sc.2 (i + 2) = 0) = true then 1 else 0), .ref 179]) (idx := 177) (n := 4) (Γ := jG0 sc) kc jint_nt (jlkT (jtb5 188 rfl) rfl) (j2 (jlkT (jtb5 189 rfl) rfl) (jlkT (jtb1 0 rfl) rfl)) (jlkT (jtb5 190 rfl) rfl) (by decide) ⟨by decide +kernel, by decide +kernel, by decide +kernel⟩ rfl ⟨by decide, by decide⟩ (Nat.le_of_ble_eq_true rfl) (show u.1 + 1 ≤ 601024 ∧ u.2 + 6 ≤ 7293034 from hu) (by decide +kernel) ?_
  rintro _ _ h1 ⟨r, e, rfl, rfl, e2, e3, e4⟩
  cases e
  refine j_istore (i := 5) (by decide +kernel) (by decide) ?_
  refine j_eqlv (lvs5 i o.1) (by rfl) ?_
  refine j_aload_n (i := 2) rfl (by decide +kernel) ?_
  refine l_arg (j := 1) hi5 hL (by decide) rfl rfl (by decide +kernel) ?_
  refine l_arg (j := 2) hi5 hL (by decide) rfl rfl (by decide +kernel) ?_
  refine l_bool (by decide +kernel) ?_
  have km : JM mX12_prove [.ref 159, .int (sc.2 (i + 1)), .int (if decide (¬ sc.2 (i + 2) = 0) = true then 1 else 0)] (jG0 sc) h1 (mQ sc o h1) := by rw [← eo]; exact mmProve rfl ok (RM.cc kM e4)
  refine j_callV (M' := mX12_prove) (ci := 12) (As := [.int (sc.2 (i + 1)), .int (if decide (¬ sc.2 (i + 2) = 0) = true then 1 else 0)]) (idx := 179) (n := 2) (Γ := jG0 sc) km jint_nt (jlkT (jtb8 49 rfl) rfl) sX12_prove kX12_prove rfl ⟨rfl, by decide +kernel, by decide +kernel, by decide +kernel⟩ rfl ⟨by decide, by decide⟩ (by show 159 < 180; decide) (show jKt.getD 159 99 = 12 by decide +kernel) (by decide) (Nat.le_of_ble_eq_true rfl) (show u.1 + 1 + 0 ≤ 601024 ∧ u.2 + 6 + 0 ≤ 7293034 from hu) (by decide +kernel) ?_
  have lt : o.1 < 2 ^ 31 := by rw [← eo]; exact Nat.lt_of_le_of_lt le_prove (by decide)
  rintro _ _ h2 ⟨b, e, rfl, p1, p2, p3, p4⟩
  cases e
  refine j_istore (i := 6) (by decide +kernel) (by decide) ?_
  refine j_eqlv (lvs6 i o.1 b) (by rfl) ?_
  refine l_thr (k := o.1) rfl rfl p2 (show u.1 + 1 + 0 ≤ 601024 ∧ u.2 + 6 + 0 ≤ 7293034 from hu) (by decide +kernel) ?_
  refine j_widen (u.1 + 1, u.2 + 6) (by show u.1 + 1 + 0 ≤ u.1 + 1; omega) (by show u.2 + 6 + 0 ≤ u.2 + 6; omega) ?_
  refine l_val (k := o.1) (b := b) rfl rfl rfl lt (fun z => by rw [show h2 179 0 = h1 179 0 by rw [p4 179 (Or.inr (by decide))]]; exact (e2 z).trans (p1 z).symm) (by decide +kernel) ?_
  refine j_goto (off := 470) 1910 (by decide +kernel) (by decide) ?_
  exact j_le (lvs i) ⟨rfl, rfl, rfl, rfl, rfl, trivial⟩ (kk o.2.2 h2 _ ok2 (RC.mm ok2 e3 p4) p3 (Nat.le_refl _) (Nat.le_refl _))
set_option maxRecDepth 100000 in
theorem lc_20 (hi : i + 5 < sc.1) (hL : sc.1 ≤ 3072) (ok0 : aOk n A) (hn : n + 1 < 2 ^ 31) (kC : RC h A) (kM : RM h A) (hu : u.1 + 1 ≤ 601024 ∧ u.2 + 6 ≤ 7293034) (kk : lK sc Q i n u) : WP mLL Q 1443 (lvs i) [] (jG0 sc) h u := by
  have hi5 : i + 5 < sc.1 := hi
  have ok := ok0.up (Nat.le_succ n)
  generalize eo : oBar A = o
  have ok2 : aOk (n + 1) o.2.2 := by rw [← eo]; exact (okBar ok)
  refine j_aload_n (i := 1) rfl (by decide +kernel) ?_
  refine j_aload_n (i := 3) rfl (by decide +kernel) ?_
  have kc : JM mL_bar [.ref 0, .ref 179] (jG0 sc) h (wQ sc o h) := by rw [← eo]; exact ww_bar ok kC (by rw [eo]; exact ok2)
  refine j_callSW (M' := mL_bar) (As := [.ref 0, .ref 179]) (idx := 180) (n := 2) (Γ := jG0 sc) kc jint_nt (jlkT (jtb5 219 rfl) rfl) (j2 (jlkT (jtb5 220 rfl) rfl) (jlkT (jtb1 0 rfl) rfl)) (jlkT (jtb5 221 rfl) rfl) (by decide) ⟨by decide +kernel, by decide +kernel, by decide +kernel⟩ rfl ⟨by decide, by decide⟩ (Nat.le_of_ble_eq_true rfl) (show u.1 + 1 ≤ 601024 ∧ u.2 + 6 ≤ 7293034 from hu) (by decide +kernel) ?_
  rintro _ _ h1 ⟨r, e, rfl, rfl, e2, e3, e4⟩
  cases e
  refine j_istore (i := 5) (by decide +kernel) (by decide) ?_
  refine j_eqlv (lvs5 i o.1) (by rfl) ?_
  refine j_aload_n (i := 2) rfl (by decide +kernel) ?_
  have km : JM mX12_bar [.ref 159] (jG0 sc) h1 (mQ sc o h1) := by rw [← eo]; exact mmBar ok (RM.cc kM e4)
  refine j_callV (M' := mX12_bar) (ci := 12) (As := []) (idx := 182) (n := 0) (Γ := jG0 sc) km jint_nt (jlkT (jtb8 61 rfl) rfl) sX12_bar kX12_bar rfl ⟨rfl, by decide +kernel, by decide +kernel, by decide +kernel⟩ rfl ⟨by decide, by decide⟩ (by show 159 < 180; decide) (show jKt.getD 159 99 = 12 by decide +kernel) (by decide) (Nat.le_of_ble_eq_true rfl) (show u.1 + 1 + 0 ≤ 601024 ∧ u.2 + 6 + 0 ≤ 7293034 from hu) (by decide +kernel) ?_
  have lt : o.1 < 2 ^ 31 := by rw [← eo]; exact Nat.lt_of_le_of_lt le_bar (by decide)
  rintro _ _ h2 ⟨b, e, rfl, p1, p2, p3, p4⟩
  cases e
  refine j_istore (i := 6) (by decide +kernel) (by decide) ?_
  refine j_eqlv (lvs6 i o.1 b) (by rfl) ?_
  refine l_thr (k := o.1) rfl rfl p2 (show u.1 + 1 + 0 ≤ 601024 ∧ u.2 + 6 + 0 ≤ 7293034 from hu) (by decide +kernel) ?_
  refine j_widen (u.1 + 1, u.2 + 6) (by show u.1 + 1 + 0 ≤ u.1 + 1; omega) (by show u.2 + 6 + 0 ≤ u.2 + 6; omega) ?_
  refine l_val (k := o.1) (b := b) rfl rfl rfl lt (fun z => by rw [show h2 179 0 = h1 179 0 by rw [p4 179 (Or.inr (by decide))]]; exact (e2 z).trans (p1 z).symm) (by decide +kernel) ?_
  refine j_goto (off := 426) 1910 (by decide +kernel) (by decide) ?_
  exact j_le (lvs i) ⟨rfl, rfl, rfl, rfl, rfl, trivial⟩ (kk o.2.2 h2 _ ok2 (RC.mm ok2 e3 p4) p3 (Nat.le_refl _) (Nat.le_refl _))
set_option maxRecDepth 100000 in
theorem lc_21 (hi : i + 5 < sc.1) (hL : sc.1 ≤ 3072) (ok0 : aOk n A) (hn : n + 1 < 2 ^ 31) (kC : RC h A) (kM : RM h A) (hu : u.1 + 1 ≤ 601024 ∧ u.2 + 6 ≤ 7293034) (kk : lK sc Q i n u) : WP mLL Q 1487 (lvs i) [] (jG0 sc) h u := by
  have hi5 : i + 5 < sc.1 := hi
  have ok := ok0.up (Nat.le_succ n)
  generalize eo : oOtherwise A ((sc.2 (i + 1))) = o
  have ok2 : aOk (n + 1) o.2.2 := by rw [← eo]; exact (by unfold oOtherwise; repeat (first | exact ok | refine sI_ok ?_ ?_))
  refine j_aload_n (i := 1) rfl (by decide +kernel) ?_
  refine l_arg (j := 1) hi5 hL (by decide) rfl rfl (by decide +kernel) ?_
  refine j_aload_n (i := 3) rfl (by decide +kernel) ?_
  have kc : JM mL_otherwise [.ref 0, .int (sc.2 (i + 1)), .ref 179] (jG0 sc) h (wQ sc o h) := by rw [← eo]; exact ww_otherwise ok kC (by rw [eo]; exact ok2)
  refine j_callSW (M' := mL_otherwise) (As := [.ref 0, .int (sc.2 (i + 1)), .ref 179]) (idx := 183) (n := 3) (Γ := jG0 sc) kc jint_nt (jlkT (jtb5 226 rfl) rfl) (j2 (jlkT (jtb5 227 rfl) rfl) (jlkT (jtb1 0 rfl) rfl)) (jlkT (jtb5 228 rfl) rfl) (by decide) ⟨by decide +kernel, by decide +kernel, by decide +kernel⟩ rfl ⟨by decide, by decide⟩ (Nat.le_of_ble_eq_true rfl) (show u.1 + 1 ≤ 601024 ∧ u.2 + 6 ≤ 7293034 from hu) (by decide +kernel) ?_
  rintro _ _ h1 ⟨r, e, rfl, rfl, e2, e3, e4⟩
  cases e
  refine j_istore (i := 5) (by decide +kernel) (by decide) ?_
  refine j_eqlv (lvs5 i o.1) (by rfl) ?_
  refine j_aload_n (i := 2) rfl (by decide +kernel) ?_
  refine l_arg (j := 1) hi5 hL (by decide) rfl rfl (by decide +kernel) ?_
  have km : JM mX12_otherwise [.ref 159, .int (sc.2 (i + 1))] (jG0 sc) h1 (mQ sc o h1) := by rw [← eo]; exact mmOtherwise ok (RM.cc kM e4)
  refine j_callV (M' := mX12_otherwise) (ci := 12) (As := [.int (sc.2 (i + 1))]) (idx := 185) (n := 1) (Γ := jG0 sc) km jint_nt (jlkT (jtb8 65 rfl) rfl) sX12_otherwise kX12_otherwise rfl ⟨rfl, by decide +kernel, by decide +kernel, by decide +kernel⟩ rfl ⟨by decide, by decide⟩ (by show 159 < 180; decide) (show jKt.getD 159 99 = 12 by decide +kernel) (by decide) (Nat.le_of_ble_eq_true rfl) (show u.1 + 1 + 0 ≤ 601024 ∧ u.2 + 6 + 0 ≤ 7293034 from hu) (by decide +kernel) ?_
  have lt : o.1 < 2 ^ 31 := by rw [← eo]; exact Nat.lt_of_le_of_lt le_otherwise (by decide)
  rintro _ _ h2 ⟨b, e, rfl, p1, p2, p3, p4⟩
  cases e
  refine j_istore (i := 6) (by decide +kernel) (by decide) ?_
  refine j_eqlv (lvs6 i o.1 b) (by rfl) ?_
  refine l_thr (k := o.1) rfl rfl p2 (show u.1 + 1 + 0 ≤ 601024 ∧ u.2 + 6 + 0 ≤ 7293034 from hu) (by decide +kernel) ?_
  refine j_widen (u.1 + 1, u.2 + 6) (by show u.1 + 1 + 0 ≤ u.1 + 1; omega) (by show u.2 + 6 + 0 ≤ u.2 + 6; omega) ?_
  refine l_val (k := o.1) (b := b) rfl rfl rfl lt (fun z => by rw [show h2 179 0 = h1 179 0 by rw [p4 179 (Or.inr (by decide))]]; exact (e2 z).trans (p1 z).symm) (by decide +kernel) ?_
  refine j_goto (off := 370) 1910 (by decide +kernel) (by decide) ?_
  exact j_le (lvs i) ⟨rfl, rfl, rfl, rfl, rfl, trivial⟩ (kk o.2.2 h2 _ ok2 (RC.mm ok2 e3 p4) p3 (Nat.le_refl _) (Nat.le_refl _))
set_option maxRecDepth 100000 in
theorem lc_22 (hi : i + 5 < sc.1) (hL : sc.1 ≤ 3072) (ok0 : aOk n A) (hn : n + 1 < 2 ^ 31) (kC : RC h A) (kM : RM h A) (hu : u.1 + 1 ≤ 601024 ∧ u.2 + 6 ≤ 7293034) (kk : lK sc Q i n u) : WP mLL Q 1543 (lvs i) [] (jG0 sc) h u := by
  have hi5 : i + 5 < sc.1 := hi
  have ok := ok0.up (Nat.le_succ n)
  generalize eo : oHeaps A = o
  have ok2 : aOk (n + 1) o.2.2 := by rw [← eo]; exact (by unfold oHeaps; repeat (first | exact ok | refine sI_ok ?_ ?_))
  refine j_aload_n (i := 1) rfl (by decide +kernel) ?_
  refine j_aload_n (i := 3) rfl (by decide +kernel) ?_
  have kc : JM mL_heaps [.ref 0, .ref 179] (jG0 sc) h (wQ sc o h) := by rw [← eo]; exact ww_heaps ok kC (by rw [eo]; exact ok2)
  refine j_callSW (M' := mL_heaps) (As := [.ref 0, .ref 179]) (idx := 186) (n := 2) (Γ := jG0 sc) kc jint_nt (jlkT (jtb5 234 rfl) rfl) (j2 (jlkT (jtb5 235 rfl) rfl) (jlkT (jtb1 0 rfl) rfl)) (jlkT (jtb5 236 rfl) rfl) (by decide) ⟨by decide +kernel, by decide +kernel, by decide +kernel⟩ rfl ⟨by decide, by decide⟩ (Nat.le_of_ble_eq_true rfl) (show u.1 + 1 ≤ 601024 ∧ u.2 + 6 ≤ 7293034 from hu) (by decide +kernel) ?_
  rintro _ _ h1 ⟨r, e, rfl, rfl, e2, e3, e4⟩
  cases e
  refine j_istore (i := 5) (by decide +kernel) (by decide) ?_
  refine j_eqlv (lvs5 i o.1) (by rfl) ?_
  refine j_aload_n (i := 2) rfl (by decide +kernel) ?_
  have km : JM mX12_heaps [.ref 159] (jG0 sc) h1 (mQ sc o h1) := by rw [← eo]; exact mmHeaps ok (RM.cc kM e4)
  refine j_callV (M' := mX12_heaps) (ci := 12) (As := []) (idx := 188) (n := 0) (Γ := jG0 sc) km jint_nt (jlkT (jtb8 69 rfl) rfl) sX12_heaps kX12_heaps rfl ⟨rfl, by decide +kernel, by decide +kernel, by decide +kernel⟩ rfl ⟨by decide, by decide⟩ (by show 159 < 180; decide) (show jKt.getD 159 99 = 12 by decide +kernel) (by decide) (Nat.le_of_ble_eq_true rfl) (show u.1 + 1 + 0 ≤ 601024 ∧ u.2 + 6 + 0 ≤ 7293034 from hu) (by decide +kernel) ?_
  have lt : o.1 < 2 ^ 31 := by rw [← eo]; exact Nat.lt_of_le_of_lt le_heaps (by decide)
  rintro _ _ h2 ⟨b, e, rfl, p1, p2, p3, p4⟩
  cases e
  refine j_istore (i := 6) (by decide +kernel) (by decide) ?_
  refine j_eqlv (lvs6 i o.1 b) (by rfl) ?_
  refine l_thr (k := o.1) rfl rfl p2 (show u.1 + 1 + 0 ≤ 601024 ∧ u.2 + 6 + 0 ≤ 7293034 from hu) (by decide +kernel) ?_
  refine j_widen (u.1 + 1, u.2 + 6) (by show u.1 + 1 + 0 ≤ u.1 + 1; omega) (by show u.2 + 6 + 0 ≤ u.2 + 6; omega) ?_
  refine l_val (k := o.1) (b := b) rfl rfl rfl lt (fun z => by rw [show h2 179 0 = h1 179 0 by rw [p4 179 (Or.inr (by decide))]]; exact (e2 z).trans (p1 z).symm) (by decide +kernel) ?_
  refine j_goto (off := 326) 1910 (by decide +kernel) (by decide) ?_
  exact j_le (lvs i) ⟨rfl, rfl, rfl, rfl, rfl, trivial⟩ (kk o.2.2 h2 _ ok2 (RC.mm ok2 e3 p4) p3 (Nat.le_refl _) (Nat.le_refl _))
set_option maxRecDepth 100000 in
theorem lc_23 (hi : i + 5 < sc.1) (hL : sc.1 ≤ 3072) (ok0 : aOk n A) (hn : n + 1 < 2 ^ 31) (kC : RC h A) (kM : RM h A) (hu : u.1 + 1 ≤ 601024 ∧ u.2 + 6 ≤ 7293034) (kk : lK sc Q i n u) : WP mLL Q 1587 (lvs i) [] (jG0 sc) h u := by
  have hi5 : i + 5 < sc.1 := hi
  have ok := ok0.up (Nat.le_succ n)
  generalize eo : oPutIn A ((sc.2 (i + 1))) = o
  have ok2 : aOk (n + 1) o.2.2 := by rw [← eo]; exact (by unfold oPutIn; repeat (first | exact ok | refine sI_ok ?_ ?_))
  refine j_aload_n (i := 1) rfl (by decide +kernel) ?_
  refine l_arg (j := 1) hi5 hL (by decide) rfl rfl (by decide +kernel) ?_
  refine j_aload_n (i := 3) rfl (by decide +kernel) ?_
  have kc : JM mL_putIn [.ref 0, .int (sc.2 (i + 1)), .ref 179] (jG0 sc) h (wQ sc o h) := by rw [← eo]; exact ww_putIn ok kC (by rw [eo]; exact ok2)
  refine j_callSW (M' := mL_putIn) (As := [.ref 0, .int (sc.2 (i + 1)), .ref 179]) (idx := 189) (n := 3) (Γ := jG0 sc) kc jint_nt (jlkT (jtb6 16 rfl) rfl) (j2 (jlkT (jtb6 17 rfl) rfl) (jlkT (jtb1 0 rfl) rfl)) (jlkT (jtb6 18 rfl) rfl) (by decide) ⟨by decide +kernel, by decide +kernel, by decide +kernel⟩ rfl ⟨by decide, by decide⟩ (Nat.le_of_ble_eq_true rfl) (show u.1 + 1 ≤ 601024 ∧ u.2 + 6 ≤ 7293034 from hu) (by decide +kernel) ?_
  rintro _ _ h1 ⟨r, e, rfl, rfl, e2, e3, e4⟩
  cases e
  refine j_istore (i := 5) (by decide +kernel) (by decide) ?_
  refine j_eqlv (lvs5 i o.1) (by rfl) ?_
  refine j_aload_n (i := 2) rfl (by decide +kernel) ?_
  refine l_arg (j := 1) hi5 hL (by decide) rfl rfl (by decide +kernel) ?_
  have km : JM mX12_putIn [.ref 159, .int (sc.2 (i + 1))] (jG0 sc) h1 (mQ sc o h1) := by rw [← eo]; exact mmPutIn ok (RM.cc kM e4)
  refine j_callV (M' := mX12_putIn) (ci := 12) (As := [.int (sc.2 (i + 1))]) (idx := 191) (n := 1) (Γ := jG0 sc) km jint_nt (jlkT (jtb8 73 rfl) rfl) sX12_putIn kX12_putIn rfl ⟨rfl, by decide +kernel, by decide +kernel, by decide +kernel⟩ rfl ⟨by decide, by decide⟩ (by show 159 < 180; decide) (show jKt.getD 159 99 = 12 by decide +kernel) (by decide) (Nat.le_of_ble_eq_true rfl) (show u.1 + 1 + 0 ≤ 601024 ∧ u.2 + 6 + 0 ≤ 7293034 from hu) (by decide +kernel) ?_
  have lt : o.1 < 2 ^ 31 := by rw [← eo]; exact Nat.lt_of_le_of_lt le_putIn (by decide)
  rintro _ _ h2 ⟨b, e, rfl, p1, p2, p3, p4⟩
  cases e
  refine j_istore (i := 6) (by decide +kernel) (by decide) ?_
  refine j_eqlv (lvs6 i o.1 b) (by rfl) ?_
  refine l_thr (k := o.1) rfl rfl p2 (show u.1 + 1 + 0 ≤ 601024 ∧ u.2 + 6 + 0 ≤ 7293034 from hu) (by decide +kernel) ?_
  refine j_widen (u.1 + 1, u.2 + 6) (by show u.1 + 1 + 0 ≤ u.1 + 1; omega) (by show u.2 + 6 + 0 ≤ u.2 + 6; omega) ?_
  refine l_val (k := o.1) (b := b) rfl rfl rfl lt (fun z => by rw [show h2 179 0 = h1 179 0 by rw [p4 179 (Or.inr (by decide))]]; exact (e2 z).trans (p1 z).symm) (by decide +kernel) ?_
  refine j_goto (off := 270) 1910 (by decide +kernel) (by decide) ?_
  exact j_le (lvs i) ⟨rfl, rfl, rfl, rfl, rfl, trivial⟩ (kk o.2.2 h2 _ ok2 (RC.mm ok2 e3 p4) p3 (Nat.le_refl _) (Nat.le_refl _))
set_option maxRecDepth 100000 in
theorem lc_24 (hi : i + 5 < sc.1) (hL : sc.1 ≤ 3072) (ok0 : aOk n A) (hn : n + 1 < 2 ^ 31) (kC : RC h A) (kM : RM h A) (hu : u.1 + 1 ≤ 601024 ∧ u.2 + 6 ≤ 7293034) (kk : lK sc Q i n u) : WP mLL Q 1643 (lvs i) [] (jG0 sc) h u := by
  have hi5 : i + 5 < sc.1 := hi
  have ok := ok0.up (Nat.le_succ n)
  generalize eo : oMake A ((sc.2 (i + 1))) = o
  have ok2 : aOk (n + 1) o.2.2 := by rw [← eo]; exact (okMake ok)
  refine j_aload_n (i := 1) rfl (by decide +kernel) ?_
  refine l_arg (j := 1) hi5 hL (by decide) rfl rfl (by decide +kernel) ?_
  refine j_aload_n (i := 3) rfl (by decide +kernel) ?_
  have kc : JM mL_make [.ref 0, .int (sc.2 (i + 1)), .ref 179] (jG0 sc) h (wQ sc o h) := by rw [← eo]; exact ww_make ok kC (by rw [eo]; exact ok2)
  refine j_callSW (M' := mL_make) (As := [.ref 0, .int (sc.2 (i + 1)), .ref 179]) (idx := 192) (n := 3) (Γ := jG0 sc) kc jint_nt (jlkT (jtb6 35 rfl) rfl) (j2 (jlkT (jtb6 36 rfl) rfl) (jlkT (jtb1 0 rfl) rfl)) (jlkT (jtb6 37 rfl) rfl) (by decide) ⟨by decide +kernel, by decide +kernel, by decide +kernel⟩ rfl ⟨by decide, by decide⟩ (Nat.le_of_ble_eq_true rfl) (show u.1 + 1 ≤ 601024 ∧ u.2 + 6 ≤ 7293034 from hu) (by decide +kernel) ?_
  rintro _ _ h1 ⟨r, e, rfl, rfl, e2, e3, e4⟩
  cases e
  refine j_istore (i := 5) (by decide +kernel) (by decide) ?_
  refine j_eqlv (lvs5 i o.1) (by rfl) ?_
  refine j_aload_n (i := 2) rfl (by decide +kernel) ?_
  refine l_arg (j := 1) hi5 hL (by decide) rfl rfl (by decide +kernel) ?_
  have km : JM mX12_make [.ref 159, .int (sc.2 (i + 1))] (jG0 sc) h1 (mQ sc o h1) := by rw [← eo]; exact mmMake ok (RM.cc kM e4)
  refine j_callV (M' := mX12_make) (ci := 12) (As := [.int (sc.2 (i + 1))]) (idx := 194) (n := 1) (Γ := jG0 sc) km jint_nt (jlkT (jtb8 85 rfl) rfl) sX12_make kX12_make rfl ⟨rfl, by decide +kernel, by decide +kernel, by decide +kernel⟩ rfl ⟨by decide, by decide⟩ (by show 159 < 180; decide) (show jKt.getD 159 99 = 12 by decide +kernel) (by decide) (Nat.le_of_ble_eq_true rfl) (show u.1 + 1 + 0 ≤ 601024 ∧ u.2 + 6 + 0 ≤ 7293034 from hu) (by decide +kernel) ?_
  have lt : o.1 < 2 ^ 31 := by rw [← eo]; exact Nat.lt_of_le_of_lt le_make (by decide)
  rintro _ _ h2 ⟨b, e, rfl, p1, p2, p3, p4⟩
  cases e
  refine j_istore (i := 6) (by decide +kernel) (by decide) ?_
  refine j_eqlv (lvs6 i o.1 b) (by rfl) ?_
  refine l_thr (k := o.1) rfl rfl p2 (show u.1 + 1 + 0 ≤ 601024 ∧ u.2 + 6 + 0 ≤ 7293034 from hu) (by decide +kernel) ?_
  refine j_widen (u.1 + 1, u.2 + 6) (by show u.1 + 1 + 0 ≤ u.1 + 1; omega) (by show u.2 + 6 + 0 ≤ u.2 + 6; omega) ?_
  refine l_val (k := o.1) (b := b) rfl rfl rfl lt (fun z => by rw [show h2 179 0 = h1 179 0 by rw [p4 179 (Or.inr (by decide))]]; exact (e2 z).trans (p1 z).symm) (by decide +kernel) ?_
  refine j_goto (off := 214) 1910 (by decide +kernel) (by decide) ?_
  exact j_le (lvs i) ⟨rfl, rfl, rfl, rfl, rfl, trivial⟩ (kk o.2.2 h2 _ ok2 (RC.mm ok2 e3 p4) p3 (Nat.le_refl _) (Nat.le_refl _))
set_option maxRecDepth 100000 in
theorem lc_25 (hi : i + 5 < sc.1) (hL : sc.1 ≤ 3072) (ok0 : aOk n A) (hn : n + 1 < 2 ^ 31) (kC : RC h A) (kM : RM h A) (hu : u.1 + 1 ≤ 601024 ∧ u.2 + 6 ≤ 7293034) (kk : lK sc Q i n u) : WP mLL Q 1699 (lvs i) [] (jG0 sc) h u := by
  have hi5 : i + 5 < sc.1 := hi
  have ok := ok0.up (Nat.le_succ n)
  generalize eo : oTakeBack A = o
  have ok2 : aOk (n + 1) o.2.2 := by rw [← eo]; exact (okTakeBack ok)
  refine j_aload_n (i := 1) rfl (by decide +kernel) ?_
  have o0 : o.1 = 0 := by rw [← eo]; exact (by unfold oTakeBack; split <;> rfl)
  have kc : JM mX11_takeBack [.ref 0] (jG0 sc) h (cQ sc [] o h) := by rw [← eo]; exact ccTakeBack ok kC
  refine j_callV (M' := mX11_takeBack) (ci := 11) (As := []) (idx := 195) (n := 0) (Γ := jG0 sc) kc (cQ_nt o0) (jlkT (jtb3 80 rfl) rfl) sX11_takeBack kX11_takeBack rfl ⟨rfl, by decide +kernel, by decide +kernel, by decide +kernel⟩ rfl ⟨by decide, by decide⟩ (by show 0 < 180; decide) (show jKt.getD 0 99 = 11 by decide +kernel) (by decide) (Nat.le_of_ble_eq_true rfl) (show u.1 + 0 ≤ 601024 ∧ u.2 + 0 ≤ 7293034 from ⟨by omega, by omega⟩) (by decide +kernel) ?_
  rintro r1 Γ1 h1 q
  obtain ⟨rfl, rfl, e3, e4⟩ := cQ_get o0 q
  refine j_aload_n (i := 2) rfl (by decide +kernel) ?_
  have km : JM mX12_takeBack [.ref 159] (jG0 sc) h1 (mQ sc o h1) := by rw [← eo]; exact mmTakeBack ok (RM.cc kM (fun c a b => e4 c a))
  refine j_callV (M' := mX12_takeBack) (ci := 12) (As := []) (idx := 198) (n := 0) (Γ := jG0 sc) km jint_nt (jlkT (jtb8 89 rfl) rfl) sX12_takeBack kX12_takeBack rfl ⟨rfl, by decide +kernel, by decide +kernel, by decide +kernel⟩ rfl ⟨by decide, by decide⟩ (by show 159 < 180; decide) (show jKt.getD 159 99 = 12 by decide +kernel) (by decide) (Nat.le_of_ble_eq_true rfl) (show u.1 + 0 + 0 ≤ 601024 ∧ u.2 + 0 + 0 ≤ 7293034 from ⟨by omega, by omega⟩) (by decide +kernel) ?_
  rintro _ _ h2 ⟨b, e, rfl, p1, p2, p3, p4⟩
  cases e
  refine j_icmp_eq (off := 203) 1910 (by decide +kernel) (by decide) (fun _ => ?_) (fun q => absurd (p1 o0).symm q)
  exact kk o.2.2 h2 _ ok2 (RC.mm ok2 e3 p4) p3 (by show u.1 + 0 + 0 ≤ u.1 + 1; omega) (by show u.2 + 0 + 0 ≤ u.2 + 6; omega)
set_option maxRecDepth 100000 in
theorem lc_26 (hi : i + 5 < sc.1) (hL : sc.1 ≤ 3072) (ok0 : aOk n A) (hn : n + 1 < 2 ^ 31) (kC : RC h A) (kM : RM h A) (hu : u.1 + 1 ≤ 601024 ∧ u.2 + 6 ≤ 7293034) (kk : lK sc Q i n u) : WP mLL Q 1712 (lvs i) [] (jG0 sc) h u := by
  have hi5 : i + 5 < sc.1 := hi
  have ok := ok0.up (Nat.le_succ n)
  generalize eo : oRow A ((sc.2 (i + 1))) ((sc.2 (i + 2))) = o
  have ok2 : aOk (n + 1) o.2.2 := by rw [← eo]; exact (by unfold oRow; repeat (first | exact ok | refine sI_ok ?_ ?_))
  refine j_aload_n (i := 1) rfl (by decide +kernel) ?_
  refine l_arg (j := 1) hi5 hL (by decide) rfl rfl (by decide +kernel) ?_
  refine l_arg (j := 2) hi5 hL (by decide) rfl rfl (by decide +kernel) ?_
  refine j_aload_n (i := 3) rfl (by decide +kernel) ?_
  have kc : JM mL_row [.ref 0, .int (sc.2 (i + 1)), .int (sc.2 (i + 2)), .ref 179] (jG0 sc) h (wQ sc o h) := by rw [← eo]; exact ww_row ok kC (by rw [eo]; exact ok2)
  refine j_callSW (M' := mL_row) (As := [.ref 0, .int (sc.2 (i + 1)), .int (sc.2 (i + 2)), .ref 179]) (idx := 199) (n := 4) (Γ := jG0 sc) kc jint_nt (jlkT (jtb6 46 rfl) rfl) (j2 (jlkT (jtb6 47 rfl) rfl) (jlkT (jtb1 0 rfl) rfl)) (jlkT (jtb6 48 rfl) rfl) (by decide) ⟨by decide +kernel, by decide +kernel, by decide +kernel⟩ rfl ⟨by decide, by decide⟩ (Nat.le_of_ble_eq_true rfl) (show u.1 + 1 ≤ 601024 ∧ u.2 + 6 ≤ 7293034 from hu) (by decide +kernel) ?_
  rintro _ _ h1 ⟨r, e, rfl, rfl, e2, e3, e4⟩
  cases e
  refine j_istore (i := 5) (by decide +kernel) (by decide) ?_
  refine j_eqlv (lvs5 i o.1) (by rfl) ?_
  refine j_aload_n (i := 2) rfl (by decide +kernel) ?_
  refine l_arg (j := 1) hi5 hL (by decide) rfl rfl (by decide +kernel) ?_
  refine l_arg (j := 2) hi5 hL (by decide) rfl rfl (by decide +kernel) ?_
  have km : JM mX12_row [.ref 159, .int (sc.2 (i + 1)), .int (sc.2 (i + 2))] (jG0 sc) h1 (mQ sc o h1) := by rw [← eo]; exact mmRow ok (RM.cc kM e4)
  refine j_callV (M' := mX12_row) (ci := 12) (As := [.int (sc.2 (i + 1)), .int (sc.2 (i + 2))]) (idx := 201) (n := 2) (Γ := jG0 sc) km jint_nt (jlkT (jtb8 93 rfl) rfl) sX12_row kX12_row rfl ⟨rfl, by decide +kernel, by decide +kernel, by decide +kernel⟩ rfl ⟨by decide, by decide⟩ (by show 159 < 180; decide) (show jKt.getD 159 99 = 12 by decide +kernel) (by decide) (Nat.le_of_ble_eq_true rfl) (show u.1 + 1 + 0 ≤ 601024 ∧ u.2 + 6 + 0 ≤ 7293034 from hu) (by decide +kernel) ?_
  have lt : o.1 < 2 ^ 31 := by rw [← eo]; exact Nat.lt_of_le_of_lt le_row (by decide)
  rintro _ _ h2 ⟨b, e, rfl, p1, p2, p3, p4⟩
  cases e
  refine j_istore (i := 6) (by decide +kernel) (by decide) ?_
  refine j_eqlv (lvs6 i o.1 b) (by rfl) ?_
  refine l_thr (k := o.1) rfl rfl p2 (show u.1 + 1 + 0 ≤ 601024 ∧ u.2 + 6 + 0 ≤ 7293034 from hu) (by decide +kernel) ?_
  refine j_widen (u.1 + 1, u.2 + 6) (by show u.1 + 1 + 0 ≤ u.1 + 1; omega) (by show u.2 + 6 + 0 ≤ u.2 + 6; omega) ?_
  refine l_val (k := o.1) (b := b) rfl rfl rfl lt (fun z => by rw [show h2 179 0 = h1 179 0 by rw [p4 179 (Or.inr (by decide))]]; exact (e2 z).trans (p1 z).symm) (by decide +kernel) ?_
  refine j_goto (off := 133) 1910 (by decide +kernel) (by decide) ?_
  exact j_le (lvs i) ⟨rfl, rfl, rfl, rfl, rfl, trivial⟩ (kk o.2.2 h2 _ ok2 (RC.mm ok2 e3 p4) p3 (Nat.le_refl _) (Nat.le_refl _))
set_option maxRecDepth 100000 in
theorem lc_27 (hi : i + 5 < sc.1) (hL : sc.1 ≤ 3072) (ok0 : aOk n A) (hn : n + 1 < 2 ^ 31) (kC : RC h A) (kM : RM h A) (hu : u.1 + 1 ≤ 601024 ∧ u.2 + 6 ≤ 7293034) (kk : lK sc Q i n u) : WP mLL Q 1780 (lvs i) [] (jG0 sc) h u := by
  have hi5 : i + 5 < sc.1 := hi
  have ok := ok0.up (Nat.le_succ n)
  generalize eo : oTear A ((sc.2 (i + 1))) ((sc.2 (i + 2))) = o
  have ok2 : aOk (n + 1) o.2.2 := by rw [← eo]; exact (okTear ok)
  refine j_aload_n (i := 1) rfl (by decide +kernel) ?_
  refine l_arg (j := 1) hi5 hL (by decide) rfl rfl (by decide +kernel) ?_
  refine l_arg (j := 2) hi5 hL (by decide) rfl rfl (by decide +kernel) ?_
  refine j_aload_n (i := 3) rfl (by decide +kernel) ?_
  have kc : JM mL_tear [.ref 0, .int (sc.2 (i + 1)), .int (sc.2 (i + 2)), .ref 179] (jG0 sc) h (wQ sc o h) := by rw [← eo]; exact ww_tear ok kC (by rw [eo]; exact ok2)
  refine j_callSW (M' := mL_tear) (As := [.ref 0, .int (sc.2 (i + 1)), .int (sc.2 (i + 2)), .ref 179]) (idx := 202) (n := 4) (Γ := jG0 sc) kc jint_nt (jlkT (jtb6 54 rfl) rfl) (j2 (jlkT (jtb6 55 rfl) rfl) (jlkT (jtb1 0 rfl) rfl)) (jlkT (jtb6 56 rfl) rfl) (by decide) ⟨by decide +kernel, by decide +kernel, by decide +kernel⟩ rfl ⟨by decide, by decide⟩ (Nat.le_of_ble_eq_true rfl) (show u.1 + 1 ≤ 601024 ∧ u.2 + 6 ≤ 7293034 from hu) (by decide +kernel) ?_
  rintro _ _ h1 ⟨r, e, rfl, rfl, e2, e3, e4⟩
  cases e
  refine j_istore (i := 5) (by decide +kernel) (by decide) ?_
  refine j_eqlv (lvs5 i o.1) (by rfl) ?_
  refine j_aload_n (i := 2) rfl (by decide +kernel) ?_
  refine l_arg (j := 1) hi5 hL (by decide) rfl rfl (by decide +kernel) ?_
  refine l_arg (j := 2) hi5 hL (by decide) rfl rfl (by decide +kernel) ?_
  have km : JM mX12_tear [.ref 159, .int (sc.2 (i + 1)), .int (sc.2 (i + 2))] (jG0 sc) h1 (mQ sc o h1) := by rw [← eo]; exact mmTear ok (RM.cc kM e4)
  refine j_callV (M' := mX12_tear) (ci := 12) (As := [.int (sc.2 (i + 1)), .int (sc.2 (i + 2))]) (idx := 204) (n := 2) (Γ := jG0 sc) km jint_nt (jlkT (jtb8 101 rfl) rfl) sX12_tear kX12_tear rfl ⟨rfl, by decide +kernel, by decide +kernel, by decide +kernel⟩ rfl ⟨by decide, by decide⟩ (by show 159 < 180; decide) (show jKt.getD 159 99 = 12 by decide +kernel) (by decide) (Nat.le_of_ble_eq_true rfl) (show u.1 + 1 + 0 ≤ 601024 ∧ u.2 + 6 + 0 ≤ 7293034 from hu) (by decide +kernel) ?_
  have lt : o.1 < 2 ^ 31 := by rw [← eo]; exact Nat.lt_of_le_of_lt le_tear (by decide)
  rintro _ _ h2 ⟨b, e, rfl, p1, p2, p3, p4⟩
  cases e
  refine j_istore (i := 6) (by decide +kernel) (by decide) ?_
  refine j_eqlv (lvs6 i o.1 b) (by rfl) ?_
  refine l_thr (k := o.1) rfl rfl p2 (show u.1 + 1 + 0 ≤ 601024 ∧ u.2 + 6 + 0 ≤ 7293034 from hu) (by decide +kernel) ?_
  refine j_widen (u.1 + 1, u.2 + 6) (by show u.1 + 1 + 0 ≤ u.1 + 1; omega) (by show u.2 + 6 + 0 ≤ u.2 + 6; omega) ?_
  refine l_val (k := o.1) (b := b) rfl rfl rfl lt (fun z => by rw [show h2 179 0 = h1 179 0 by rw [p4 179 (Or.inr (by decide))]]; exact (e2 z).trans (p1 z).symm) (by decide +kernel) ?_
  refine j_goto (off := 65) 1910 (by decide +kernel) (by decide) ?_
  exact j_le (lvs i) ⟨rfl, rfl, rfl, rfl, rfl, trivial⟩ (kk o.2.2 h2 _ ok2 (RC.mm ok2 e3 p4) p3 (Nat.le_refl _) (Nat.le_refl _))
set_option maxRecDepth 100000 in
theorem lc_28 (hi : i + 5 < sc.1) (hL : sc.1 ≤ 3072) (ok0 : aOk n A) (hn : n + 1 < 2 ^ 31) (kC : RC h A) (kM : RM h A) (hu : u.1 + 1 ≤ 601024 ∧ u.2 + 6 ≤ 7293034) (kk : lK sc Q i n u) : WP mLL Q 1848 (lvs i) [] (jG0 sc) h u := by
  have hi5 : i + 5 < sc.1 := hi
  have ok := ok0.up (Nat.le_succ n)
  generalize eo : oCheck A = o
  have ok2 : aOk (n + 1) o.2.2 := by rw [← eo]; exact (by unfold oCheck; repeat (first | exact ok | refine sI_ok ?_ ?_))
  refine j_aload_n (i := 1) rfl (by decide +kernel) ?_
  have o0 : o.1 = 0 := by rw [← eo]; exact (rfl)
  have kc : JM mX11_check [.ref 0] (jG0 sc) h (cQ sc [] o h) := by rw [← eo]; exact ccCheck ok kC
  refine j_callV (M' := mX11_check) (ci := 11) (As := []) (idx := 205) (n := 0) (Γ := jG0 sc) kc (cQ_nt o0) (jlkT (jtb3 148 rfl) rfl) sX11_check kX11_check rfl ⟨rfl, by decide +kernel, by decide +kernel, by decide +kernel⟩ rfl ⟨by decide, by decide⟩ (by show 0 < 180; decide) (show jKt.getD 0 99 = 11 by decide +kernel) (by decide) (Nat.le_of_ble_eq_true rfl) (show u.1 + 0 ≤ 601024 ∧ u.2 + 0 ≤ 7293034 from ⟨by omega, by omega⟩) (by decide +kernel) ?_
  rintro r1 Γ1 h1 q
  obtain ⟨rfl, rfl, e3, e4⟩ := cQ_get o0 q
  refine j_aload_n (i := 2) rfl (by decide +kernel) ?_
  have km : JM mX12_check [.ref 159] (jG0 sc) h1 (mQ sc o h1) := by rw [← eo]; exact mmCheck ok (RM.cc kM (fun c a b => e4 c a))
  refine j_callV (M' := mX12_check) (ci := 12) (As := []) (idx := 208) (n := 0) (Γ := jG0 sc) km jint_nt (jlkT (jtb8 105 rfl) rfl) sX12_check kX12_check rfl ⟨rfl, by decide +kernel, by decide +kernel, by decide +kernel⟩ rfl ⟨by decide, by decide⟩ (by show 159 < 180; decide) (show jKt.getD 159 99 = 12 by decide +kernel) (by decide) (Nat.le_of_ble_eq_true rfl) (show u.1 + 0 + 0 ≤ 601024 ∧ u.2 + 0 + 0 ≤ 7293034 from ⟨by omega, by omega⟩) (by decide +kernel) ?_
  rintro _ _ h2 ⟨b, e, rfl, p1, p2, p3, p4⟩
  cases e
  refine j_icmp_eq (off := 54) 1910 (by decide +kernel) (by decide) (fun _ => ?_) (fun q => absurd (p1 o0).symm q)
  exact kk o.2.2 h2 _ ok2 (RC.mm ok2 e3 p4) p3 (by show u.1 + 0 + 0 ≤ u.1 + 1; omega) (by show u.2 + 0 + 0 ≤ u.2 + 6; omega)
set_option maxRecDepth 100000 in
theorem lc_29 (hi : i + 5 < sc.1) (hL : sc.1 ≤ 3072) (ok0 : aOk n A) (hn : n + 1 < 2 ^ 31) (kC : RC h A) (kM : RM h A) (hu : u.1 + 1 ≤ 601024 ∧ u.2 + 6 ≤ 7293034) (kk : lK sc Q i n u) : WP mLL Q 1861 (lvs i) [] (jG0 sc) h u := by
  have hi5 : i + 5 < sc.1 := hi
  have ok := ok0.up (Nat.le_succ n)
  generalize eo : oImage A = o
  have ok2 : aOk (n + 1) o.2.2 := by rw [← eo]; exact (okImage ok)
  refine j_aload_n (i := 1) rfl (by decide +kernel) ?_
  have kc : JM mX11_image [.ref 0] (jG0 sc) h (jvoid sc (fun h' => RC h' o.2.2 ∧ fC h h')) := by rw [← eo]; exact ccImage ok kC
  refine j_callV (M' := mX11_image) (ci := 11) (As := []) (idx := 209) (n := 0) (Γ := jG0 sc) kc jvoid_nt (jlkT (jtb3 152 rfl) rfl) sX11_image kX11_image rfl ⟨rfl, by decide +kernel, by decide +kernel, by decide +kernel⟩ rfl ⟨by decide, by decide⟩ (by show 0 < 180; decide) (show jKt.getD 0 99 = 11 by decide +kernel) (by decide) (Nat.le_of_ble_eq_true rfl) (show u.1 + 0 ≤ 601024 ∧ u.2 + 0 ≤ 7293034 from ⟨by omega, by omega⟩) (by decide +kernel) ?_
  rintro _ _ h1 ⟨e, rfl, e3, e4⟩
  cases e
  refine j_aload_n (i := 2) rfl (by decide +kernel) ?_
  have km : JM mX12_image [.ref 159] (jG0 sc) h1 (jvoid sc (fun h' => h' 159 0 = 0 ∧ RM h' o.2.2 ∧ fM h1 h')) := by rw [← eo]; exact mmImage ok (RM.cc kM (fun c a b => e4 c a))
  refine j_callV (M' := mX12_image) (ci := 12) (As := []) (idx := 212) (n := 0) (Γ := jG0 sc) km jvoid_nt (jlkT (jtb6 171 rfl) rfl) sX12_image kX12_image rfl ⟨rfl, by decide +kernel, by decide +kernel, by decide +kernel⟩ rfl ⟨by decide, by decide⟩ (by show 159 < 180; decide) (show jKt.getD 159 99 = 12 by decide +kernel) (by decide) (Nat.le_of_ble_eq_true rfl) (show u.1 + 0 + 0 ≤ 601024 ∧ u.2 + 0 + 0 ≤ 7293034 from ⟨by omega, by omega⟩) (by decide +kernel) ?_
  rintro _ _ h2 ⟨e, rfl, p2, p3, p4⟩
  cases e
  refine j_goto (off := 41) 1910 (by decide +kernel) (by decide) ?_
  exact kk o.2.2 h2 _ ok2 (RC.mm ok2 e3 p4) p3 (by show u.1 + 0 + 0 ≤ u.1 + 1; omega) (by show u.2 + 0 + 0 ≤ u.2 + 6; omega)
set_option maxRecDepth 100000 in
theorem lc_30 (hi : i + 5 < sc.1) (hL : sc.1 ≤ 3072) (ok0 : aOk n A) (hn : n + 1 < 2 ^ 31) (kC : RC h A) (kM : RM h A) (hu : u.1 + 1 ≤ 601024 ∧ u.2 + 6 ≤ 7293034) (kk : lK sc Q i n u) : WP mLL Q 1872 (lvs i) [] (jG0 sc) h u := by
  have hi5 : i + 5 < sc.1 := hi
  have ok := ok0.up (Nat.le_succ n)
  generalize eo : oBack A = o
  have ok2 : aOk (n + 1) o.2.2 := by rw [← eo]; exact (okBack ok)
  refine j_aload_n (i := 1) rfl (by decide +kernel) ?_
  have o0 : o.1 = 0 := by rw [← eo]; exact (by unfold oBack; split <;> rfl)
  have kc : JM mX11_back [.ref 0] (jG0 sc) h (cQ sc [] o h) := by rw [← eo]; exact ccBack ok kC
  refine j_callV (M' := mX11_back) (ci := 11) (As := []) (idx := 213) (n := 0) (Γ := jG0 sc) kc (cQ_nt o0) (jlkT (jtb3 172 rfl) rfl) sX11_back kX11_back rfl ⟨rfl, by decide +kernel, by decide +kernel, by decide +kernel⟩ rfl ⟨by decide, by decide⟩ (by show 0 < 180; decide) (show jKt.getD 0 99 = 11 by decide +kernel) (by decide) (Nat.le_of_ble_eq_true rfl) (show u.1 + 0 ≤ 601024 ∧ u.2 + 0 ≤ 7293034 from ⟨by omega, by omega⟩) (by decide +kernel) ?_
  rintro r1 Γ1 h1 q
  obtain ⟨rfl, rfl, e3, e4⟩ := cQ_get o0 q
  refine j_aload_n (i := 2) rfl (by decide +kernel) ?_
  have km : JM mX12_back [.ref 159] (jG0 sc) h1 (mQ sc o h1) := by rw [← eo]; exact mmBack ok (RM.cc kM (fun c a b => e4 c a))
  refine j_callV (M' := mX12_back) (ci := 12) (As := []) (idx := 216) (n := 0) (Γ := jG0 sc) km jint_nt (jlkT (jtb6 175 rfl) rfl) sX12_back kX12_back rfl ⟨rfl, by decide +kernel, by decide +kernel, by decide +kernel⟩ rfl ⟨by decide, by decide⟩ (by show 159 < 180; decide) (show jKt.getD 159 99 = 12 by decide +kernel) (by decide) (Nat.le_of_ble_eq_true rfl) (show u.1 + 0 + 0 ≤ 601024 ∧ u.2 + 0 + 0 ≤ 7293034 from ⟨by omega, by omega⟩) (by decide +kernel) ?_
  rintro _ _ h2 ⟨b, e, rfl, p1, p2, p3, p4⟩
  cases e
  refine j_icmp_eq (off := 30) 1910 (by decide +kernel) (by decide) (fun _ => ?_) (fun q => absurd (p1 o0).symm q)
  exact kk o.2.2 h2 _ ok2 (RC.mm ok2 e3 p4) p3 (by show u.1 + 0 + 0 ≤ u.1 + 1; omega) (by show u.2 + 0 + 0 ≤ u.2 + 6; omega)
set_option maxRecDepth 100000 in
theorem lc_31 (hi : i + 5 < sc.1) (hL : sc.1 ≤ 3072) (ok0 : aOk n A) (hn : n + 1 < 2 ^ 31) (kC : RC h A) (kM : RM h A) (hu : u.1 + 1 ≤ 601024 ∧ u.2 + 6 ≤ 7293034) (kk : lK sc Q i n u) : WP mLL Q 1885 (lvs i) [] (jG0 sc) h u := by
  have hi5 : i + 5 < sc.1 := hi
  have ok := ok0.up (Nat.le_succ n)
  generalize eo : oCount A ((sc.2 (i + 1))) = o
  have ok2 : aOk (n + 1) o.2.2 := by rw [← eo]; exact (by unfold oCount; repeat (first | exact ok | refine sI_ok ?_ ?_))
  refine j_aload_n (i := 1) rfl (by decide +kernel) ?_
  refine l_arg (j := 1) hi5 hL (by decide) rfl rfl (by decide +kernel) ?_
  have o0 : o.1 = 0 := by rw [← eo]; exact (rfl)
  have kc : JM mX11_count [.ref 0, .int (sc.2 (i + 1))] (jG0 sc) h (cQ sc [] o h) := by rw [← eo]; exact ccCount ok kC
  refine j_callV (M' := mX11_count) (ci := 11) (As := [.int (sc.2 (i + 1))]) (idx := 217) (n := 1) (Γ := jG0 sc) kc (cQ_nt o0) (jlkT (jtb3 176 rfl) rfl) sX11_count kX11_count rfl ⟨rfl, by decide +kernel, by decide +kernel, by decide +kernel⟩ rfl ⟨by decide, by decide⟩ (by show 0 < 180; decide) (show jKt.getD 0 99 = 11 by decide +kernel) (by decide) (Nat.le_of_ble_eq_true rfl) (show u.1 + 0 ≤ 601024 ∧ u.2 + 0 ≤ 7293034 from ⟨by omega, by omega⟩) (by decide +kernel) ?_
  rintro r1 Γ1 h1 q
  obtain ⟨rfl, rfl, e3, e4⟩ := cQ_get o0 q
  refine j_aload_n (i := 2) rfl (by decide +kernel) ?_
  refine l_arg (j := 1) hi5 hL (by decide) rfl rfl (by decide +kernel) ?_
  have km : JM mX12_count [.ref 159, .int (sc.2 (i + 1))] (jG0 sc) h1 (mQ sc o h1) := by rw [← eo]; exact mmCount ok (RM.cc kM (fun c a b => e4 c a))
  refine j_callV (M' := mX12_count) (ci := 12) (As := [.int (sc.2 (i + 1))]) (idx := 220) (n := 1) (Γ := jG0 sc) km jint_nt (jlkT (jtb8 109 rfl) rfl) sX12_count kX12_count rfl ⟨rfl, by decide +kernel, by decide +kernel, by decide +kernel⟩ rfl ⟨by decide, by decide⟩ (by show 159 < 180; decide) (show jKt.getD 159 99 = 12 by decide +kernel) (by decide) (Nat.le_of_ble_eq_true rfl) (show u.1 + 0 + 0 ≤ 601024 ∧ u.2 + 0 + 0 ≤ 7293034 from ⟨by omega, by omega⟩) (by decide +kernel) ?_
  rintro _ _ h2 ⟨b, e, rfl, p1, p2, p3, p4⟩
  cases e
  refine j_icmp_eq (off := 5) 1910 (by decide +kernel) (by decide) (fun _ => ?_) (fun q => absurd (p1 o0).symm q)
  exact kk o.2.2 h2 _ ok2 (RC.mm ok2 e3 p4) p3 (by show u.1 + 0 + 0 ≤ u.1 + 1; omega) (by show u.2 + 0 + 0 ≤ u.2 + 6; omega)
end LAWC
