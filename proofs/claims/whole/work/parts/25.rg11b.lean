theorem dX11_firstBreak_0 : decode (mC mX11_firstBreak) 0 = .ok (.iconst 0, 1) := by decide +kernel
theorem dX11_firstBreak_1 : decode (mC mX11_firstBreak) 1 = .ok (.istore_n 2, 1) := by decide +kernel
theorem dX11_firstBreak_2 : decode (mC mX11_firstBreak) 2 = .ok (.iload_n 2, 1) := by decide +kernel
theorem dX11_firstBreak_3 : decode (mC mX11_firstBreak) 3 = .ok (.aload_n 0, 1) := by decide +kernel
theorem dX11_firstBreak_4 : decode (mC mX11_firstBreak) 4 = .ok (.getfield 37, 3) := by decide +kernel
theorem dX11_firstBreak_7 : decode (mC mX11_firstBreak) 7 = .ok (.getfield 351, 3) := by decide +kernel
theorem dX11_firstBreak_10 : decode (mC mX11_firstBreak) 10 = .ok (.if_icmp .gt 45, 3) := by decide +kernel
theorem dX11_firstBreak_13 : decode (mC mX11_firstBreak) 13 = .ok (.iconst 0, 1) := by decide +kernel
theorem dX11_firstBreak_14 : decode (mC mX11_firstBreak) 14 = .ok (.istore_n 3, 1) := by decide +kernel
theorem dX11_firstBreak_15 : decode (mC mX11_firstBreak) 15 = .ok (.iload_n 3, 1) := by decide +kernel
theorem dX11_firstBreak_16 : decode (mC mX11_firstBreak) 16 = .ok (.aload_n 0, 1) := by decide +kernel
theorem dX11_firstBreak_17 : decode (mC mX11_firstBreak) 17 = .ok (.getfield 37, 3) := by decide +kernel
theorem dX11_firstBreak_20 : decode (mC mX11_firstBreak) 20 = .ok (.getfield 351, 3) := by decide +kernel
theorem dX11_firstBreak_23 : decode (mC mX11_firstBreak) 23 = .ok (.if_icmp .gt 26, 3) := by decide +kernel
theorem dX11_firstBreak_26 : decode (mC mX11_firstBreak) 26 = .ok (.aload_n 0, 1) := by decide +kernel
theorem dX11_firstBreak_27 : decode (mC mX11_firstBreak) 27 = .ok (.aload_n 1, 1) := by decide +kernel
theorem dX11_firstBreak_28 : decode (mC mX11_firstBreak) 28 = .ok (.iload_n 2, 1) := by decide +kernel
theorem dX11_firstBreak_29 : decode (mC mX11_firstBreak) 29 = .ok (.iload_n 3, 1) := by decide +kernel
theorem dX11_firstBreak_30 : decode (mC mX11_firstBreak) 30 = .ok (.invokevirtual 383, 3) := by decide +kernel
theorem dX11_firstBreak_33 : decode (mC mX11_firstBreak) 33 = .ok (.ifCond .eq 10, 3) := by decide +kernel
theorem dX11_firstBreak_36 : decode (mC mX11_firstBreak) 36 = .ok (.bipush 16, 2) := by decide +kernel
theorem dX11_firstBreak_38 : decode (mC mX11_firstBreak) 38 = .ok (.iload_n 2, 1) := by decide +kernel
theorem dX11_firstBreak_39 : decode (mC mX11_firstBreak) 39 = .ok (.imul, 1) := by decide +kernel
theorem dX11_firstBreak_40 : decode (mC mX11_firstBreak) 40 = .ok (.iload_n 3, 1) := by decide +kernel
theorem dX11_firstBreak_41 : decode (mC mX11_firstBreak) 41 = .ok (.iadd, 1) := by decide +kernel
theorem dX11_firstBreak_42 : decode (mC mX11_firstBreak) 42 = .ok (.ireturn, 1) := by decide +kernel
theorem dX11_firstBreak_43 : decode (mC mX11_firstBreak) 43 = .ok (.iinc 3 1, 3) := by decide +kernel
theorem dX11_firstBreak_46 : decode (mC mX11_firstBreak) 46 = .ok (.goto (-31), 3) := by decide +kernel
theorem dX11_firstBreak_49 : decode (mC mX11_firstBreak) 49 = .ok (.iinc 2 1, 3) := by decide +kernel
theorem dX11_firstBreak_52 : decode (mC mX11_firstBreak) 52 = .ok (.goto (-50), 3) := by decide +kernel
theorem dX11_firstBreak_55 : decode (mC mX11_firstBreak) 55 = .ok (.iconst (-1), 1) := by decide +kernel
theorem dX11_firstBreak_56 : decode (mC mX11_firstBreak) 56 = .ok (.ireturn, 1) := by decide +kernel
set_option maxRecDepth 100000 in
theorem bX11_firstBreak_0 {sc : Nat × (Nat → Int32)} {h : jH} {Q : jQ} {a : Nat} (a_h : jI4 a)
    (v1 : WP mX11_firstBreak Q 2 [some (.ref 0), some (.ref a), some (.int 0), none] [] (jG0 sc) h (0, 0)) :
    WP mX11_firstBreak Q 0 [some (.ref 0), some (.ref a), none, none] [] (jG0 sc) h (0, 0) := by
  obtain ⟨a_lt1, a_K0, a_R0_0, a_K1, a_L1⟩ := a_h
  have a_lt0 : a + 0 < jN (jG0 sc) := Nat.lt_of_succ_lt a_lt1
  refine j_iconst (n := 0) 0 (by decide) dX11_firstBreak_0 ?_
  refine j_istore_n (i := 2) dX11_firstBreak_1 (Nat.le_of_ble_eq_true rfl) ?_
  exact j_le [some (.ref 0), some (.ref a), some (.int 0), none] (And.intro rfl (And.intro rfl (And.intro rfl True.intro))) v1
set_option maxRecDepth 100000 in
theorem bX11_firstBreak_2 {sc : Nat × (Nat → Int32)} {h : jH} {Q : jQ} {a : Nat} {l2 : Int32} (a_h : jI4 a)
    (v1 : (h 9 8) < l2 → WP mX11_firstBreak Q 55 [some (.ref 0), some (.ref a), some (.int l2), none] [] (jG0 sc) h (0, 0))
    (v2 : ¬ (h 9 8) < l2 → WP mX11_firstBreak Q 13 [some (.ref 0), some (.ref a), some (.int l2), none] [] (jG0 sc) h (0, 0)) :
    WP mX11_firstBreak Q 2 [some (.ref 0), some (.ref a), some (.int l2), none] [] (jG0 sc) h (0, 0) := by
  obtain ⟨a_lt1, a_K0, a_R0_0, a_K1, a_L1⟩ := a_h
  have a_lt0 : a + 0 < jN (jG0 sc) := Nat.lt_of_succ_lt a_lt1
  refine j_iload_n (i := 2) rfl dX11_firstBreak_2 ?_
  refine j_aload_n (i := 0) rfl dX11_firstBreak_3 ?_
  refine j_getR (idx := 37) (ci := 11) (k := 4) (nest := false) (show (11, 37, 11, 4, false) ∈ jFT by decide) rfl (Nat.le_of_ble_eq_true rfl) rfl (a := 9) rfl dX11_firstBreak_4 ?_
  refine j_getI (idx := 351) (ci := 6) (k := 8) (nest := true) (show (11, 351, 6, 8, true) ∈ jFT by decide) rfl (Nat.le_of_ble_eq_true rfl) rfl dX11_firstBreak_7 ?_
  refine j_icmp_gt (off := 45) 55 dX11_firstBreak_10 (by decide) (fun c1 => ?_) (fun c1 => ?_)
  · exact j_le [some (.ref 0), some (.ref a), some (.int l2), none] (And.intro rfl (And.intro rfl (And.intro rfl True.intro))) (v1 c1)
  · exact j_le [some (.ref 0), some (.ref a), some (.int l2), none] (And.intro rfl (And.intro rfl (And.intro rfl True.intro))) (v2 c1)
set_option maxRecDepth 100000 in
theorem bX11_firstBreak_13 {sc : Nat × (Nat → Int32)} {h : jH} {Q : jQ} {a : Nat} {l2 : Int32} (a_h : jI4 a)
    (v1 : WP mX11_firstBreak Q 15 [some (.ref 0), some (.ref a), some (.int l2), some (.int 0)] [] (jG0 sc) h (0, 0)) :
    WP mX11_firstBreak Q 13 [some (.ref 0), some (.ref a), some (.int l2), none] [] (jG0 sc) h (0, 0) := by
  obtain ⟨a_lt1, a_K0, a_R0_0, a_K1, a_L1⟩ := a_h
  have a_lt0 : a + 0 < jN (jG0 sc) := Nat.lt_of_succ_lt a_lt1
  refine j_iconst (n := 0) 0 (by decide) dX11_firstBreak_13 ?_
  refine j_istore_n (i := 3) dX11_firstBreak_14 (Nat.le_of_ble_eq_true rfl) ?_
  exact j_le [some (.ref 0), some (.ref a), some (.int l2), some (.int 0)] (And.intro rfl (And.intro rfl (And.intro rfl (And.intro rfl True.intro)))) v1
set_option maxRecDepth 100000 in
theorem bX11_firstBreak_15 {sc : Nat × (Nat → Int32)} {h : jH} {Q : jQ} {a : Nat} {l2 l3 : Int32} (a_h : jI4 a)
    (v1 : (h 9 8) < l3 → WP mX11_firstBreak Q 49 [some (.ref 0), some (.ref a), some (.int l2), some (.int l3)] [] (jG0 sc) h (0, 0))
    (v2 : ¬ (h 9 8) < l3 → WP mX11_firstBreak Q 26 [some (.ref 0), some (.ref a), some (.int l2), some (.int l3)] [] (jG0 sc) h (0, 0)) :
    WP mX11_firstBreak Q 15 [some (.ref 0), some (.ref a), some (.int l2), some (.int l3)] [] (jG0 sc) h (0, 0) := by
  obtain ⟨a_lt1, a_K0, a_R0_0, a_K1, a_L1⟩ := a_h
  have a_lt0 : a + 0 < jN (jG0 sc) := Nat.lt_of_succ_lt a_lt1
  refine j_iload_n (i := 3) rfl dX11_firstBreak_15 ?_
  refine j_aload_n (i := 0) rfl dX11_firstBreak_16 ?_
  refine j_getR (idx := 37) (ci := 11) (k := 4) (nest := false) (show (11, 37, 11, 4, false) ∈ jFT by decide) rfl (Nat.le_of_ble_eq_true rfl) rfl (a := 9) rfl dX11_firstBreak_17 ?_
  refine j_getI (idx := 351) (ci := 6) (k := 8) (nest := true) (show (11, 351, 6, 8, true) ∈ jFT by decide) rfl (Nat.le_of_ble_eq_true rfl) rfl dX11_firstBreak_20 ?_
  refine j_icmp_gt (off := 26) 49 dX11_firstBreak_23 (by decide) (fun c1 => ?_) (fun c1 => ?_)
  · exact j_le [some (.ref 0), some (.ref a), some (.int l2), some (.int l3)] (And.intro rfl (And.intro rfl (And.intro rfl (And.intro rfl True.intro)))) (v1 c1)
  · exact j_le [some (.ref 0), some (.ref a), some (.int l2), some (.int l3)] (And.intro rfl (And.intro rfl (And.intro rfl (And.intro rfl True.intro)))) (v2 c1)
set_option maxRecDepth 100000 in
theorem bX11_firstBreak_26 {sc : Nat × (Nat → Int32)} {h : jH} {Q : jQ} {a : Nat} {l2 l3 : Int32} {P1 : Int32 → jH → Prop} (a_h : jI4 a)
    (k1 : JM mX11_breaksOn [.ref 0, .ref a, .int l2, .int l3] (jG0 sc) h (jint sc P1))
    (v1 : ∀ (x1 : Int32) (h1 : jH), P1 x1 h1 → x1 = 0 → WP mX11_firstBreak Q 43 [some (.ref 0), some (.ref a), some (.int l2), some (.int l3)] [] (jG0 sc) h1 (0, 0))
    (v2 : ∀ (x1 : Int32) (h1 : jH), P1 x1 h1 → ¬ x1 = 0 → WP mX11_firstBreak Q 36 [some (.ref 0), some (.ref a), some (.int l2), some (.int l3)] [] (jG0 sc) h1 (0, 0)) :
    WP mX11_firstBreak Q 26 [some (.ref 0), some (.ref a), some (.int l2), some (.int l3)] [] (jG0 sc) h (0, 0) := by
  obtain ⟨a_lt1, a_K0, a_R0_0, a_K1, a_L1⟩ := a_h
  have a_lt0 : a + 0 < jN (jG0 sc) := Nat.lt_of_succ_lt a_lt1
  refine j_aload_n (i := 0) rfl dX11_firstBreak_26 ?_
  refine j_aload_n (i := 1) rfl dX11_firstBreak_27 ?_
  refine j_iload_n (i := 2) rfl dX11_firstBreak_28 ?_
  refine j_iload_n (i := 3) rfl dX11_firstBreak_29 ?_
  refine j_callV (idx := 383) (As := [.ref a, .int l2, .int l3]) (ci := 11) (n := 3) k1 jint_nt (jlkT (jtb5 200 rfl) rfl) sX11_breaksOn kX11_breaksOn rfl ⟨rfl, by decide +kernel, by decide +kernel, by decide +kernel⟩ rfl ⟨by decide, by decide⟩ (Nat.le_of_ble_eq_true rfl) rfl (Nat.le_of_ble_eq_true rfl) (Nat.le_of_ble_eq_true rfl) ⟨Nat.zero_le _, Nat.zero_le _⟩ dX11_firstBreak_30 (fun r Γ' h1 q => ?_)
  obtain ⟨x1, q0, rfl, p1⟩ := q; cases q0
  refine j_eqst [.int x1] (by rfl) ?_
  refine j_if_eq (off := 10) 43 dX11_firstBreak_33 (by decide) (fun c1 => ?_) (fun c1 => ?_)
  · exact j_le [some (.ref 0), some (.ref a), some (.int l2), some (.int l3)] (And.intro rfl (And.intro rfl (And.intro rfl (And.intro rfl True.intro)))) (v1 x1 h1 p1 c1)
  · exact j_le [some (.ref 0), some (.ref a), some (.int l2), some (.int l3)] (And.intro rfl (And.intro rfl (And.intro rfl (And.intro rfl True.intro)))) (v2 x1 h1 p1 c1)
set_option maxRecDepth 100000 in
theorem bX11_firstBreak_36 {sc : Nat × (Nat → Int32)} {h : jH} {Q : jQ} {a : Nat} {l2 l3 : Int32} (a_h : jI4 a)
    (v1 : Q (.inl (some (.int ((16 * l2) + l3)))) (jG0 sc) h) :
    WP mX11_firstBreak Q 36 [some (.ref 0), some (.ref a), some (.int l2), some (.int l3)] [] (jG0 sc) h (0, 0) := by
  obtain ⟨a_lt1, a_K0, a_R0_0, a_K1, a_L1⟩ := a_h
  have a_lt0 : a + 0 < jN (jG0 sc) := Nat.lt_of_succ_lt a_lt1
  refine j_bipush (n := 16) 16 (by decide) dX11_firstBreak_36 ?_
  refine j_iload_n (i := 2) rfl dX11_firstBreak_38 ?_
  refine j_imul dX11_firstBreak_39 ?_
  refine j_iload_n (i := 3) rfl dX11_firstBreak_40 ?_
  refine j_iadd dX11_firstBreak_41 ?_
  exact j_iret rfl rfl (Nat.zero_le _) (Nat.zero_le _) dX11_firstBreak_42 v1
set_option maxRecDepth 100000 in
theorem bX11_firstBreak_43 {sc : Nat × (Nat → Int32)} {h : jH} {Q : jQ} {a : Nat} {l2 l3 : Int32} (a_h : jI4 a)
    (v1 : WP mX11_firstBreak Q 15 [some (.ref 0), some (.ref a), some (.int l2), some (.int (l3 + 1))] [] (jG0 sc) h (0, 0)) :
    WP mX11_firstBreak Q 43 [some (.ref 0), some (.ref a), some (.int l2), some (.int l3)] [] (jG0 sc) h (0, 0) := by
  obtain ⟨a_lt1, a_K0, a_R0_0, a_K1, a_L1⟩ := a_h
  have a_lt0 : a + 0 < jN (jG0 sc) := Nat.lt_of_succ_lt a_lt1
  refine j_iinc (i := 3) (n := 1) rfl dX11_firstBreak_43 (Nat.le_of_ble_eq_true rfl) ?_
  refine j_eqlv [some (.ref 0), some (.ref a), some (.int l2), some (.int (l3 + 1))] rfl ?_
  refine j_goto (off := -31) 15 dX11_firstBreak_46 (by decide) ?_
  exact j_le [some (.ref 0), some (.ref a), some (.int l2), some (.int (l3 + 1))] (And.intro rfl (And.intro rfl (And.intro rfl (And.intro rfl True.intro)))) v1
set_option maxRecDepth 100000 in
theorem bX11_firstBreak_49 {sc : Nat × (Nat → Int32)} {h : jH} {Q : jQ} {a : Nat} {l2 l3 : Int32} (a_h : jI4 a)
    (v1 : WP mX11_firstBreak Q 2 [some (.ref 0), some (.ref a), some (.int (l2 + 1)), none] [] (jG0 sc) h (0, 0)) :
    WP mX11_firstBreak Q 49 [some (.ref 0), some (.ref a), some (.int l2), some (.int l3)] [] (jG0 sc) h (0, 0) := by
  obtain ⟨a_lt1, a_K0, a_R0_0, a_K1, a_L1⟩ := a_h
  have a_lt0 : a + 0 < jN (jG0 sc) := Nat.lt_of_succ_lt a_lt1
  refine j_iinc (i := 2) (n := 1) rfl dX11_firstBreak_49 (Nat.le_of_ble_eq_true rfl) ?_
  refine j_eqlv [some (.ref 0), some (.ref a), some (.int (l2 + 1)), some (.int l3)] rfl ?_
  refine j_goto (off := -50) 2 dX11_firstBreak_52 (by decide) ?_
  exact j_le [some (.ref 0), some (.ref a), some (.int (l2 + 1)), none] (And.intro rfl (And.intro rfl (And.intro rfl True.intro))) v1
set_option maxRecDepth 100000 in
theorem bX11_firstBreak_55 {sc : Nat × (Nat → Int32)} {h : jH} {Q : jQ} {a : Nat} {l2 : Int32} (a_h : jI4 a)
    (v1 : Q (.inl (some (.int (-1)))) (jG0 sc) h) :
    WP mX11_firstBreak Q 55 [some (.ref 0), some (.ref a), some (.int l2), none] [] (jG0 sc) h (0, 0) := by
  obtain ⟨a_lt1, a_K0, a_R0_0, a_K1, a_L1⟩ := a_h
  have a_lt0 : a + 0 < jN (jG0 sc) := Nat.lt_of_succ_lt a_lt1
  refine j_iconst (n := (-1)) (-1) (by decide) dX11_firstBreak_55 ?_
  exact j_iret rfl rfl (Nat.zero_le _) (Nat.zero_le _) dX11_firstBreak_56 v1
set_option maxRecDepth 100000 in
theorem rX11_firstBreak_0 {sc : Nat × (Nat → Int32)} {h : jH} {Q : jQ} {a : Nat} (a_h : jI4 a)
    (v1 : WP mX11_firstBreak Q 2 [some (.ref 0), some (.ref a), some (.int 0), none] [] (jG0 sc) h (0, 0)) :
    WP mX11_firstBreak Q 0 [some (.ref 0), some (.ref a), none, none] [] (jG0 sc) h (0, 0) := by
  exact (bX11_firstBreak_0 a_h v1)
set_option maxRecDepth 100000 in
theorem rX11_firstBreak_2 {sc : Nat × (Nat → Int32)} {h : jH} {Q : jQ} {a : Nat} {l2 : Int32} (a_h : jI4 a)
    (v1 : (h 9 8) < l2 → Q (.inl (some (.int (-1)))) (jG0 sc) h)
    (v2 : ¬ (h 9 8) < l2 → WP mX11_firstBreak Q 15 [some (.ref 0), some (.ref a), some (.int l2), some (.int 0)] [] (jG0 sc) h (0, 0)) :
    WP mX11_firstBreak Q 2 [some (.ref 0), some (.ref a), some (.int l2), none] [] (jG0 sc) h (0, 0) := by
  exact (bX11_firstBreak_2 a_h (fun c1 => (bX11_firstBreak_55 a_h (v1 c1))) (fun c1 => (bX11_firstBreak_13 a_h (v2 c1))))
set_option maxRecDepth 100000 in
theorem rX11_firstBreak_15 {sc : Nat × (Nat → Int32)} {h : jH} {Q : jQ} {a : Nat} {l2 l3 : Int32} {P1 : Int32 → jH → Prop} (a_h : jI4 a)
    (v1 : (h 9 8) < l3 → WP mX11_firstBreak Q 2 [some (.ref 0), some (.ref a), some (.int (l2 + 1)), none] [] (jG0 sc) h (0, 0))
    (k1 : ¬ (h 9 8) < l3 → JM mX11_breaksOn [.ref 0, .ref a, .int l2, .int l3] (jG0 sc) h (jint sc P1))
    (v2 : ¬ (h 9 8) < l3 → ∀ (x1 : Int32) (h1 : jH), P1 x1 h1 → x1 = 0 → WP mX11_firstBreak Q 15 [some (.ref 0), some (.ref a), some (.int l2), some (.int (l3 + 1))] [] (jG0 sc) h1 (0, 0))
    (v3 : ¬ (h 9 8) < l3 → ∀ (x1 : Int32) (h1 : jH), P1 x1 h1 → ¬ x1 = 0 → Q (.inl (some (.int ((16 * l2) + l3)))) (jG0 sc) h1) :
    WP mX11_firstBreak Q 15 [some (.ref 0), some (.ref a), some (.int l2), some (.int l3)] [] (jG0 sc) h (0, 0) := by
  exact (bX11_firstBreak_15 a_h (fun c1 => (bX11_firstBreak_49 a_h (v1 c1))) (fun c1 => (bX11_firstBreak_26 a_h (k1 c1) (fun x1 h1 p1 c2 => (bX11_firstBreak_43 a_h (v2 c1 x1 h1 p1 c2))) (fun x1 h1 p1 c2 => (bX11_firstBreak_36 a_h (v3 c1 x1 h1 p1 c2))))))
theorem dX11_breaksOn_0 : decode (mC mX11_breaksOn) 0 = .ok (.aload_n 0, 1) := by decide +kernel
theorem dX11_breaksOn_1 : decode (mC mX11_breaksOn) 1 = .ok (.getfield 47, 3) := by decide +kernel
theorem dX11_breaksOn_4 : decode (mC mX11_breaksOn) 4 = .ok (.aload_n 1, 1) := by decide +kernel
theorem dX11_breaksOn_5 : decode (mC mX11_breaksOn) 5 = .ok (.iload_n 2, 1) := by decide +kernel
theorem dX11_breaksOn_6 : decode (mC mX11_breaksOn) 6 = .ok (.iload_n 3, 1) := by decide +kernel
theorem dX11_breaksOn_7 : decode (mC mX11_breaksOn) 7 = .ok (.invokevirtual 196, 3) := by decide +kernel
theorem dX11_breaksOn_10 : decode (mC mX11_breaksOn) 10 = .ok (.istore 4, 2) := by decide +kernel
theorem dX11_breaksOn_12 : decode (mC mX11_breaksOn) 12 = .ok (.iload 4, 2) := by decide +kernel
theorem dX11_breaksOn_14 : decode (mC mX11_breaksOn) 14 = .ok (.invokestatic 387, 3) := by decide +kernel
theorem dX11_breaksOn_17 : decode (mC mX11_breaksOn) 17 = .ok (.ifCond .eq 20, 3) := by decide +kernel
theorem dX11_breaksOn_20 : decode (mC mX11_breaksOn) 20 = .ok (.aload_n 0, 1) := by decide +kernel
theorem dX11_breaksOn_21 : decode (mC mX11_breaksOn) 21 = .ok (.getfield 37, 3) := by decide +kernel
theorem dX11_breaksOn_24 : decode (mC mX11_breaksOn) 24 = .ok (.getfield 140, 3) := by decide +kernel
theorem dX11_breaksOn_27 : decode (mC mX11_breaksOn) 27 = .ok (.iload 4, 2) := by decide +kernel
theorem dX11_breaksOn_29 : decode (mC mX11_breaksOn) 29 = .ok (.iload_n 2, 1) := by decide +kernel
theorem dX11_breaksOn_30 : decode (mC mX11_breaksOn) 30 = .ok (.iload_n 3, 1) := by decide +kernel
theorem dX11_breaksOn_31 : decode (mC mX11_breaksOn) 31 = .ok (.invokevirtual 390, 3) := by decide +kernel
theorem dX11_breaksOn_34 : decode (mC mX11_breaksOn) 34 = .ok (.ifCond .ne 7, 3) := by decide +kernel
theorem dX11_breaksOn_37 : decode (mC mX11_breaksOn) 37 = .ok (.iconst 1, 1) := by decide +kernel
theorem dX11_breaksOn_38 : decode (mC mX11_breaksOn) 38 = .ok (.goto 4, 3) := by decide +kernel
theorem dX11_breaksOn_41 : decode (mC mX11_breaksOn) 41 = .ok (.iconst 0, 1) := by decide +kernel
theorem dX11_breaksOn_42 : decode (mC mX11_breaksOn) 42 = .ok (.ireturn, 1) := by decide +kernel
set_option maxRecDepth 100000 in
theorem bX11_breaksOn_0 {sc : Nat × (Nat → Int32)} {h : jH} {Q : jQ} {a : Nat} {l2 l3 : Int32} {P1 : Int32 → jH → Prop} {P2 : Int32 → jH → Prop} (a_h : jI4 a)
    (k1 : JM mX10_through [.ref 69, .ref a, .int l2, .int l3] (jG0 sc) h (jint sc P1))
    (k2 : ∀ (x1 : Int32) (h1 : jH), P1 x1 h1 → JM mX11_isNumber [.int x1] (jG0 sc) h1 (jint sc P2))
    (v1 : ∀ (x1 : Int32) (h1 : jH), P1 x1 h1 → ∀ (x2 : Int32) (h2 : jH), P2 x2 h2 → x2 = 0 → WP mX11_breaksOn Q 37 [some (.ref 0), some (.ref a), some (.int l2), some (.int l3), some (.int x1)] [] (jG0 sc) h2 (0, 0))
    (v2 : ∀ (x1 : Int32) (h1 : jH), P1 x1 h1 → ∀ (x2 : Int32) (h2 : jH), P2 x2 h2 → ¬ x2 = 0 → WP mX11_breaksOn Q 20 [some (.ref 0), some (.ref a), some (.int l2), some (.int l3), some (.int x1)] [] (jG0 sc) h2 (0, 0)) :
    WP mX11_breaksOn Q 0 [some (.ref 0), some (.ref a), some (.int l2), some (.int l3), none] [] (jG0 sc) h (0, 0) := by
  obtain ⟨a_lt1, a_K0, a_R0_0, a_K1, a_L1⟩ := a_h
  have a_lt0 : a + 0 < jN (jG0 sc) := Nat.lt_of_succ_lt a_lt1
  refine j_aload_n (i := 0) rfl dX11_breaksOn_0 ?_
  refine j_getR (idx := 47) (ci := 11) (k := 7) (nest := false) (show (11, 47, 11, 7, false) ∈ jFT by decide) rfl (Nat.le_of_ble_eq_true rfl) rfl (a := 69) rfl dX11_breaksOn_1 ?_
  refine j_aload_n (i := 1) rfl dX11_breaksOn_4 ?_
  refine j_iload_n (i := 2) rfl dX11_breaksOn_5 ?_
  refine j_iload_n (i := 3) rfl dX11_breaksOn_6 ?_
  refine j_callVN (idx := 196) (As := [.ref a, .int l2, .int l3]) (ci := 10) (n := 3) k1 jint_nt (jTbl (jtb3 9 rfl)) sX10_through kX10_through rfl ⟨rfl, by decide +kernel, by decide +kernel, by decide +kernel⟩ rfl ⟨by decide, by decide⟩ (Nat.le_of_ble_eq_true rfl) rfl (Nat.le_of_ble_eq_true rfl) (Nat.le_of_ble_eq_true rfl) ⟨Nat.zero_le _, Nat.zero_le _⟩ dX11_breaksOn_7 (fun r Γ' h1 q => ?_)
  obtain ⟨x1, q0, rfl, p1⟩ := q; cases q0
  refine j_eqst [.int x1] (by rfl) ?_
  refine j_istore (i := 4) dX11_breaksOn_10 (Nat.le_of_ble_eq_true rfl) ?_
  refine j_iload (i := 4) rfl dX11_breaksOn_12 ?_
  refine j_callS (idx := 387) (As := [.int x1]) (n := 1) (k2 x1 h1 p1) jint_nt (jlkT (jtb5 204 rfl) rfl) sX11_isNumber kX11_isNumber rfl ⟨by decide +kernel, by decide +kernel, by decide +kernel⟩ rfl ⟨by decide, by decide⟩ (Nat.le_of_ble_eq_true rfl) ⟨Nat.zero_le _, Nat.zero_le _⟩ dX11_breaksOn_14 (fun r Γ' h2 q => ?_)
  obtain ⟨x2, q0, rfl, p2⟩ := q; cases q0
  refine j_eqst [.int x2] (by rfl) ?_
  refine j_if_eq (off := 20) 37 dX11_breaksOn_17 (by decide) (fun c1 => ?_) (fun c1 => ?_)
  · exact j_le [some (.ref 0), some (.ref a), some (.int l2), some (.int l3), some (.int x1)] (And.intro rfl (And.intro rfl (And.intro rfl (And.intro rfl (And.intro rfl True.intro))))) (v1 x1 h1 p1 x2 h2 p2 c1)
  · exact j_le [some (.ref 0), some (.ref a), some (.int l2), some (.int l3), some (.int x1)] (And.intro rfl (And.intro rfl (And.intro rfl (And.intro rfl (And.intro rfl True.intro))))) (v2 x1 h1 p1 x2 h2 p2 c1)
set_option maxRecDepth 100000 in
theorem bX11_breaksOn_20 {sc : Nat × (Nat → Int32)} {h : jH} {Q : jQ} {a : Nat} {l2 l3 l4 : Int32} {P1 : Int32 → jH → Prop} (a_h : jI4 a)
    (k1 : JM mX1_holds [.ref 18, .int l4, .int l2, .int l3] (jG0 sc) h (jint sc P1))
    (v1 : ∀ (x1 : Int32) (h1 : jH), P1 x1 h1 → ¬ x1 = 0 → WP mX11_breaksOn Q 41 [some (.ref 0), some (.ref a), some (.int l2), some (.int l3), some (.int l4)] [] (jG0 sc) h1 (0, 0))
    (v2 : ∀ (x1 : Int32) (h1 : jH), P1 x1 h1 → x1 = 0 → WP mX11_breaksOn Q 37 [some (.ref 0), some (.ref a), some (.int l2), some (.int l3), some (.int l4)] [] (jG0 sc) h1 (0, 0)) :
    WP mX11_breaksOn Q 20 [some (.ref 0), some (.ref a), some (.int l2), some (.int l3), some (.int l4)] [] (jG0 sc) h (0, 0) := by
  obtain ⟨a_lt1, a_K0, a_R0_0, a_K1, a_L1⟩ := a_h
  have a_lt0 : a + 0 < jN (jG0 sc) := Nat.lt_of_succ_lt a_lt1
  refine j_aload_n (i := 0) rfl dX11_breaksOn_20 ?_
  refine j_getR (idx := 37) (ci := 11) (k := 4) (nest := false) (show (11, 37, 11, 4, false) ∈ jFT by decide) rfl (Nat.le_of_ble_eq_true rfl) rfl (a := 9) rfl dX11_breaksOn_21 ?_
  refine j_getR (idx := 140) (ci := 6) (k := 3) (nest := true) (show (11, 140, 6, 3, true) ∈ jFT by decide) rfl (Nat.le_of_ble_eq_true rfl) rfl (a := 18) rfl dX11_breaksOn_24 ?_
  refine j_iload (i := 4) rfl dX11_breaksOn_27 ?_
  refine j_iload_n (i := 2) rfl dX11_breaksOn_29 ?_
  refine j_iload_n (i := 3) rfl dX11_breaksOn_30 ?_
  refine j_callVN (idx := 390) (As := [.int l4, .int l2, .int l3]) (ci := 1) (n := 3) k1 jint_nt (jTbl (jtb5 205 rfl)) sX1_holds kX1_holds rfl ⟨rfl, by decide +kernel, by decide +kernel, by decide +kernel⟩ rfl ⟨by decide, by decide⟩ (Nat.le_of_ble_eq_true rfl) rfl (Nat.le_of_ble_eq_true rfl) (Nat.le_of_ble_eq_true rfl) ⟨Nat.zero_le _, Nat.zero_le _⟩ dX11_breaksOn_31 (fun r Γ' h1 q => ?_)
  obtain ⟨x1, q0, rfl, p1⟩ := q; cases q0
  refine j_eqst [.int x1] (by rfl) ?_
  refine j_if_ne (off := 7) 41 dX11_breaksOn_34 (by decide) (fun c1 => ?_) (fun c1 => ?_)
  · exact j_le [some (.ref 0), some (.ref a), some (.int l2), some (.int l3), some (.int l4)] (And.intro rfl (And.intro rfl (And.intro rfl (And.intro rfl (And.intro rfl True.intro))))) (v1 x1 h1 p1 c1)
  · exact j_le [some (.ref 0), some (.ref a), some (.int l2), some (.int l3), some (.int l4)] (And.intro rfl (And.intro rfl (And.intro rfl (And.intro rfl (And.intro rfl True.intro))))) (v2 x1 h1 p1 c1)
set_option maxRecDepth 100000 in
theorem bX11_breaksOn_37 {sc : Nat × (Nat → Int32)} {h : jH} {Q : jQ} {a : Nat} {l2 l3 l4 : Int32} (a_h : jI4 a)
    (v1 : WP mX11_breaksOn Q 42 [some (.ref 0), some (.ref a), some (.int l2), some (.int l3), some (.int l4)] [.int 1] (jG0 sc) h (0, 0)) :
    WP mX11_breaksOn Q 37 [some (.ref 0), some (.ref a), some (.int l2), some (.int l3), some (.int l4)] [] (jG0 sc) h (0, 0) := by
  obtain ⟨a_lt1, a_K0, a_R0_0, a_K1, a_L1⟩ := a_h
  have a_lt0 : a + 0 < jN (jG0 sc) := Nat.lt_of_succ_lt a_lt1
  refine j_iconst (n := 1) 1 (by decide) dX11_breaksOn_37 ?_
  refine j_goto (off := 4) 42 dX11_breaksOn_38 (by decide) ?_
  exact j_le [some (.ref 0), some (.ref a), some (.int l2), some (.int l3), some (.int l4)] (And.intro rfl (And.intro rfl (And.intro rfl (And.intro rfl (And.intro rfl True.intro))))) v1
set_option maxRecDepth 100000 in
theorem bX11_breaksOn_41 {sc : Nat × (Nat → Int32)} {h : jH} {Q : jQ} {a : Nat} {l2 l3 l4 : Int32} (a_h : jI4 a)
    (v1 : WP mX11_breaksOn Q 42 [some (.ref 0), some (.ref a), some (.int l2), some (.int l3), some (.int l4)] [.int 0] (jG0 sc) h (0, 0)) :
    WP mX11_breaksOn Q 41 [some (.ref 0), some (.ref a), some (.int l2), some (.int l3), some (.int l4)] [] (jG0 sc) h (0, 0) := by
  obtain ⟨a_lt1, a_K0, a_R0_0, a_K1, a_L1⟩ := a_h
  have a_lt0 : a + 0 < jN (jG0 sc) := Nat.lt_of_succ_lt a_lt1
  refine j_iconst (n := 0) 0 (by decide) dX11_breaksOn_41 ?_
  exact j_le [some (.ref 0), some (.ref a), some (.int l2), some (.int l3), some (.int l4)] (And.intro rfl (And.intro rfl (And.intro rfl (And.intro rfl (And.intro rfl True.intro))))) v1
set_option maxRecDepth 100000 in
theorem bX11_breaksOn_42 {sc : Nat × (Nat → Int32)} {h : jH} {Q : jQ} {a : Nat} {l2 l3 l4 s0 : Int32} (a_h : jI4 a)
    (o1 : s0 = 0 ∨ s0 = 1)
    (v1 : Q (.inl (some (.int s0))) (jG0 sc) h) :
    WP mX11_breaksOn Q 42 [some (.ref 0), some (.ref a), some (.int l2), some (.int l3), some (.int l4)] [.int s0] (jG0 sc) h (0, 0) := by
  obtain ⟨a_lt1, a_K0, a_R0_0, a_K1, a_L1⟩ := a_h
  have a_lt0 : a + 0 < jN (jG0 sc) := Nat.lt_of_succ_lt a_lt1
  exact j_iret rfl (jbn o1) (Nat.zero_le _) (Nat.zero_le _) dX11_breaksOn_42 v1
set_option maxRecDepth 100000 in
theorem rX11_breaksOn_0 {sc : Nat × (Nat → Int32)} {h : jH} {Q : jQ} {a : Nat} {l2 l3 : Int32} {P1 : Int32 → jH → Prop} {P2 : Int32 → jH → Prop} {P3 : Int32 → jH → Prop} (a_h : jI4 a)
    (k1 : JM mX10_through [.ref 69, .ref a, .int l2, .int l3] (jG0 sc) h (jint sc P1))
    (k2 : ∀ (x1 : Int32) (h1 : jH), P1 x1 h1 → JM mX11_isNumber [.int x1] (jG0 sc) h1 (jint sc P2))
    (v1 : ∀ (x1 : Int32) (h1 : jH), P1 x1 h1 → ∀ (x2 : Int32) (h2 : jH), P2 x2 h2 → x2 = 0 → Q (.inl (some (.int 1))) (jG0 sc) h2)
    (k3 : ∀ (x1 : Int32) (h1 : jH), P1 x1 h1 → ∀ (x2 : Int32) (h2 : jH), P2 x2 h2 → ¬ x2 = 0 → JM mX1_holds [.ref 18, .int x1, .int l2, .int l3] (jG0 sc) h2 (jint sc P3))
    (v2 : ∀ (x1 : Int32) (h1 : jH), P1 x1 h1 → ∀ (x2 : Int32) (h2 : jH), P2 x2 h2 → ¬ x2 = 0 → ∀ (x3 : Int32) (h3 : jH), P3 x3 h3 → ¬ x3 = 0 → Q (.inl (some (.int 0))) (jG0 sc) h3)
    (v3 : ∀ (x1 : Int32) (h1 : jH), P1 x1 h1 → ∀ (x2 : Int32) (h2 : jH), P2 x2 h2 → ¬ x2 = 0 → ∀ (x3 : Int32) (h3 : jH), P3 x3 h3 → x3 = 0 → Q (.inl (some (.int 1))) (jG0 sc) h3) :
    WP mX11_breaksOn Q 0 [some (.ref 0), some (.ref a), some (.int l2), some (.int l3), none] [] (jG0 sc) h (0, 0) := by
  exact (bX11_breaksOn_0 a_h k1 (fun x1 h1 p1 => (k2 x1 h1 p1)) (fun x1 h1 p1 x2 h2 p2 c1 => (bX11_breaksOn_37 a_h (bX11_breaksOn_42 a_h (by decide) (v1 x1 h1 p1 x2 h2 p2 c1)))) (fun x1 h1 p1 x2 h2 p2 c1 => (bX11_breaksOn_20 a_h (k3 x1 h1 p1 x2 h2 p2 c1) (fun x3 h3 p3 c2 => (bX11_breaksOn_41 a_h (bX11_breaksOn_42 a_h (by decide) (v2 x1 h1 p1 x2 h2 p2 c1 x3 h3 p3 c2)))) (fun x3 h3 p3 c2 => (bX11_breaksOn_37 a_h (bX11_breaksOn_42 a_h (by decide) (v3 x1 h1 p1 x2 h2 p2 c1 x3 h3 p3 c2)))))))
theorem dX11_bar_0 : decode (mC mX11_bar) 0 = .ok (.aload_n 0, 1) := by decide +kernel
theorem dX11_bar_1 : decode (mC mX11_bar) 1 = .ok (.getfield 37, 3) := by decide +kernel
theorem dX11_bar_4 : decode (mC mX11_bar) 4 = .ok (.getfield 140, 3) := by decide +kernel
theorem dX11_bar_7 : decode (mC mX11_bar) 7 = .ok (.getfield 374, 3) := by decide +kernel
theorem dX11_bar_10 : decode (mC mX11_bar) 10 = .ok (.ifCond .ne 14, 3) := by decide +kernel
theorem dX11_bar_13 : decode (mC mX11_bar) 13 = .ok (.new 203, 3) := by decide +kernel
theorem dX11_bar_16 : decode (mC mX11_bar) 16 = .ok (.dup, 1) := by decide +kernel
theorem dX11_bar_17 : decode (mC mX11_bar) 17 = .ok (.ldc_w 375, 3) := by decide +kernel
theorem dX11_bar_20 : decode (mC mX11_bar) 20 = .ok (.invokespecial 207, 3) := by decide +kernel
theorem dX11_bar_23 : decode (mC mX11_bar) 23 = .ok (.athrow, 1) := by decide +kernel
theorem dX11_bar_24 : decode (mC mX11_bar) 24 = .ok (.aload_n 0, 1) := by decide +kernel
theorem dX11_bar_25 : decode (mC mX11_bar) 25 = .ok (.getfield 37, 3) := by decide +kernel
theorem dX11_bar_28 : decode (mC mX11_bar) 28 = .ok (.getfield 151, 3) := by decide +kernel
theorem dX11_bar_31 : decode (mC mX11_bar) 31 = .ok (.astore_n 1, 1) := by decide +kernel
theorem dX11_bar_32 : decode (mC mX11_bar) 32 = .ok (.iconst 0, 1) := by decide +kernel
theorem dX11_bar_33 : decode (mC mX11_bar) 33 = .ok (.istore_n 2, 1) := by decide +kernel
theorem dX11_bar_34 : decode (mC mX11_bar) 34 = .ok (.iconst 0, 1) := by decide +kernel
theorem dX11_bar_35 : decode (mC mX11_bar) 35 = .ok (.istore_n 3, 1) := by decide +kernel
theorem dX11_bar_36 : decode (mC mX11_bar) 36 = .ok (.iconst 0, 1) := by decide +kernel
theorem dX11_bar_37 : decode (mC mX11_bar) 37 = .ok (.istore 4, 2) := by decide +kernel
theorem dX11_bar_39 : decode (mC mX11_bar) 39 = .ok (.iload 4, 2) := by decide +kernel
theorem dX11_bar_41 : decode (mC mX11_bar) 41 = .ok (.aload_n 1, 1) := by decide +kernel
theorem dX11_bar_42 : decode (mC mX11_bar) 42 = .ok (.getfield 187, 3) := by decide +kernel
theorem dX11_bar_45 : decode (mC mX11_bar) 45 = .ok (.if_icmp .ge 79, 3) := by decide +kernel
theorem dX11_bar_48 : decode (mC mX11_bar) 48 = .ok (.iload 4, 2) := by decide +kernel
theorem dX11_bar_50 : decode (mC mX11_bar) 50 = .ok (.aload_n 1, 1) := by decide +kernel
theorem dX11_bar_51 : decode (mC mX11_bar) 51 = .ok (.getfield 190, 3) := by decide +kernel
theorem dX11_bar_54 : decode (mC mX11_bar) 54 = .ok (.arraylength, 1) := by decide +kernel
theorem dX11_bar_55 : decode (mC mX11_bar) 55 = .ok (.if_icmp .ge 69, 3) := by decide +kernel
theorem dX11_bar_58 : decode (mC mX11_bar) 58 = .ok (.aload_n 0, 1) := by decide +kernel
theorem dX11_bar_59 : decode (mC mX11_bar) 59 = .ok (.getfield 61, 3) := by decide +kernel
theorem dX11_bar_62 : decode (mC mX11_bar) 62 = .ok (.aload_n 0, 1) := by decide +kernel
theorem dX11_bar_63 : decode (mC mX11_bar) 63 = .ok (.getfield 37, 3) := by decide +kernel
theorem dX11_bar_66 : decode (mC mX11_bar) 66 = .ok (.getfield 127, 3) := by decide +kernel
theorem dX11_bar_69 : decode (mC mX11_bar) 69 = .ok (.aload_n 1, 1) := by decide +kernel
theorem dX11_bar_70 : decode (mC mX11_bar) 70 = .ok (.getfield 190, 3) := by decide +kernel
theorem dX11_bar_73 : decode (mC mX11_bar) 73 = .ok (.iload 4, 2) := by decide +kernel
theorem dX11_bar_75 : decode (mC mX11_bar) 75 = .ok (.iaload, 1) := by decide +kernel
theorem dX11_bar_76 : decode (mC mX11_bar) 76 = .ok (.aload_n 0, 1) := by decide +kernel
theorem dX11_bar_77 : decode (mC mX11_bar) 77 = .ok (.getfield 71, 3) := by decide +kernel
theorem dX11_bar_80 : decode (mC mX11_bar) 80 = .ok (.invokevirtual 192, 3) := by decide +kernel
theorem dX11_bar_83 : decode (mC mX11_bar) 83 = .ok (.pop, 1) := by decide +kernel
theorem dX11_bar_84 : decode (mC mX11_bar) 84 = .ok (.aload_n 0, 1) := by decide +kernel
theorem dX11_bar_85 : decode (mC mX11_bar) 85 = .ok (.aload_n 0, 1) := by decide +kernel
theorem dX11_bar_86 : decode (mC mX11_bar) 86 = .ok (.getfield 71, 3) := by decide +kernel
theorem dX11_bar_89 : decode (mC mX11_bar) 89 = .ok (.invokevirtual 377, 3) := by decide +kernel
theorem dX11_bar_92 : decode (mC mX11_bar) 92 = .ok (.iconst (-1), 1) := by decide +kernel
theorem dX11_bar_93 : decode (mC mX11_bar) 93 = .ok (.if_icmp .ne 22, 3) := by decide +kernel
theorem dX11_bar_96 : decode (mC mX11_bar) 96 = .ok (.aload_n 1, 1) := by decide +kernel
theorem dX11_bar_97 : decode (mC mX11_bar) 97 = .ok (.getfield 190, 3) := by decide +kernel
theorem dX11_bar_100 : decode (mC mX11_bar) 100 = .ok (.iload_n 3, 1) := by decide +kernel
theorem dX11_bar_101 : decode (mC mX11_bar) 101 = .ok (.aload_n 1, 1) := by decide +kernel
theorem dX11_bar_102 : decode (mC mX11_bar) 102 = .ok (.getfield 190, 3) := by decide +kernel
theorem dX11_bar_105 : decode (mC mX11_bar) 105 = .ok (.iload 4, 2) := by decide +kernel
theorem dX11_bar_107 : decode (mC mX11_bar) 107 = .ok (.iaload, 1) := by decide +kernel
theorem dX11_bar_108 : decode (mC mX11_bar) 108 = .ok (.iastore, 1) := by decide +kernel
theorem dX11_bar_109 : decode (mC mX11_bar) 109 = .ok (.iinc 3 1, 3) := by decide +kernel
theorem dX11_bar_112 : decode (mC mX11_bar) 112 = .ok (.goto 6, 3) := by decide +kernel
theorem dX11_bar_115 : decode (mC mX11_bar) 115 = .ok (.iinc 2 1, 3) := by decide +kernel
theorem dX11_bar_118 : decode (mC mX11_bar) 118 = .ok (.iinc 4 1, 3) := by decide +kernel
theorem dX11_bar_121 : decode (mC mX11_bar) 121 = .ok (.goto (-82), 3) := by decide +kernel
theorem dX11_bar_124 : decode (mC mX11_bar) 124 = .ok (.aload_n 1, 1) := by decide +kernel
theorem dX11_bar_125 : decode (mC mX11_bar) 125 = .ok (.iload_n 3, 1) := by decide +kernel
theorem dX11_bar_126 : decode (mC mX11_bar) 126 = .ok (.putfield 187, 3) := by decide +kernel
theorem dX11_bar_129 : decode (mC mX11_bar) 129 = .ok (.aload_n 1, 1) := by decide +kernel
theorem dX11_bar_130 : decode (mC mX11_bar) 130 = .ok (.dup, 1) := by decide +kernel
theorem dX11_bar_131 : decode (mC mX11_bar) 131 = .ok (.getfield 394, 3) := by decide +kernel
theorem dX11_bar_134 : decode (mC mX11_bar) 134 = .ok (.iload_n 2, 1) := by decide +kernel
theorem dX11_bar_135 : decode (mC mX11_bar) 135 = .ok (.iadd, 1) := by decide +kernel
theorem dX11_bar_136 : decode (mC mX11_bar) 136 = .ok (.putfield 394, 3) := by decide +kernel
theorem dX11_bar_139 : decode (mC mX11_bar) 139 = .ok (.iload_n 2, 1) := by decide +kernel
theorem dX11_bar_140 : decode (mC mX11_bar) 140 = .ok (.ireturn, 1) := by decide +kernel
set_option maxRecDepth 100000 in
theorem bX11_bar_0 {sc : Nat × (Nat → Int32)} {h : jH} {Q : jQ}
    (v1 : ¬ (h 18 1) = 0 → WP mX11_bar Q 24 [some (.ref 0), none, none, none, none] [] (jG0 sc) h (0, 0))
    (v2 : (h 18 1) = 0 → WP mX11_bar Q 13 [some (.ref 0), none, none, none, none] [] (jG0 sc) h (0, 0)) :
    WP mX11_bar Q 0 [some (.ref 0), none, none, none, none] [] (jG0 sc) h (0, 0) := by
  refine j_aload_n (i := 0) rfl dX11_bar_0 ?_
  refine j_getR (idx := 37) (ci := 11) (k := 4) (nest := false) (show (11, 37, 11, 4, false) ∈ jFT by decide) rfl (Nat.le_of_ble_eq_true rfl) rfl (a := 9) rfl dX11_bar_1 ?_
  refine j_getR (idx := 140) (ci := 6) (k := 3) (nest := true) (show (11, 140, 6, 3, true) ∈ jFT by decide) rfl (Nat.le_of_ble_eq_true rfl) rfl (a := 18) rfl dX11_bar_4 ?_
  refine j_getI (idx := 374) (ci := 1) (k := 1) (nest := true) (show (11, 374, 1, 1, true) ∈ jFT by decide) rfl (Nat.le_of_ble_eq_true rfl) rfl dX11_bar_7 ?_
  refine j_if_ne (off := 14) 24 dX11_bar_10 (by decide) (fun c1 => ?_) (fun c1 => ?_)
  · exact j_le [some (.ref 0), none, none, none, none] (And.intro rfl True.intro) (v1 c1)
  · exact j_le [some (.ref 0), none, none, none, none] (And.intro rfl True.intro) (v2 c1)
set_option maxRecDepth 100000 in
theorem bX11_bar_13 {sc : Nat × (Nat → Int32)} {h : jH} {Q : jQ}
    (v1 : Q (.inr "java/lang/IllegalStateException") (jG0 sc) h) :
    WP mX11_bar Q 13 [some (.ref 0), none, none, none, none] [] (jG0 sc) h (0, 0) := by
  exact j_thrW_ISE (is := 375) "there is no LAW" 38 (by decide +kernel) rfl rfl (by decide) (by decide) (Nat.le_of_ble_eq_true rfl) dX11_bar_13 dX11_bar_16 dX11_bar_17 dX11_bar_20 dX11_bar_23 v1
set_option maxRecDepth 100000 in
theorem bX11_bar_24 {sc : Nat × (Nat → Int32)} {h : jH} {Q : jQ}
    (v1 : WP mX11_bar Q 39 [some (.ref 0), some (.ref 20), some (.int 0), some (.int 0), some (.int 0)] [] (jG0 sc) h (0, 0)) :
    WP mX11_bar Q 24 [some (.ref 0), none, none, none, none] [] (jG0 sc) h (0, 0) := by
  refine j_aload_n (i := 0) rfl dX11_bar_24 ?_
  refine j_getR (idx := 37) (ci := 11) (k := 4) (nest := false) (show (11, 37, 11, 4, false) ∈ jFT by decide) rfl (Nat.le_of_ble_eq_true rfl) rfl (a := 9) rfl dX11_bar_25 ?_
  refine j_getR (idx := 151) (ci := 6) (k := 4) (nest := true) (show (11, 151, 6, 4, true) ∈ jFT by decide) rfl (Nat.le_of_ble_eq_true rfl) rfl (a := 20) rfl dX11_bar_28 ?_
  refine j_astore_n (i := 1) dX11_bar_31 (Nat.le_of_ble_eq_true rfl) ?_
  refine j_iconst (n := 0) 0 (by decide) dX11_bar_32 ?_
  refine j_istore_n (i := 2) dX11_bar_33 (Nat.le_of_ble_eq_true rfl) ?_
  refine j_iconst (n := 0) 0 (by decide) dX11_bar_34 ?_
  refine j_istore_n (i := 3) dX11_bar_35 (Nat.le_of_ble_eq_true rfl) ?_
  refine j_iconst (n := 0) 0 (by decide) dX11_bar_36 ?_
  refine j_istore (i := 4) dX11_bar_37 (Nat.le_of_ble_eq_true rfl) ?_
  exact j_le [some (.ref 0), some (.ref 20), some (.int 0), some (.int 0), some (.int 0)] (And.intro rfl (And.intro rfl (And.intro rfl (And.intro rfl (And.intro rfl True.intro))))) v1
set_option maxRecDepth 100000 in
theorem bX11_bar_39 {sc : Nat × (Nat → Int32)} {h : jH} {Q : jQ} {l2 l3 l4 : Int32}
    (v1 : (h 20 1) ≤ l4 → WP mX11_bar Q 124 [some (.ref 0), some (.ref 20), some (.int l2), some (.int l3), some (.int l4)] [] (jG0 sc) h (0, 0))
    (v2 : ¬ (h 20 1) ≤ l4 → WP mX11_bar Q 48 [some (.ref 0), some (.ref 20), some (.int l2), some (.int l3), some (.int l4)] [] (jG0 sc) h (0, 0)) :
    WP mX11_bar Q 39 [some (.ref 0), some (.ref 20), some (.int l2), some (.int l3), some (.int l4)] [] (jG0 sc) h (0, 0) := by
  refine j_iload (i := 4) rfl dX11_bar_39 ?_
  refine j_aload_n (i := 1) rfl dX11_bar_41 ?_
  refine j_getI (idx := 187) (ci := 9) (k := 1) (nest := true) (show (11, 187, 9, 1, true) ∈ jFT by decide) rfl (Nat.le_of_ble_eq_true rfl) rfl dX11_bar_42 ?_
  refine j_icmp_ge (off := 79) 124 dX11_bar_45 (by decide) (fun c1 => ?_) (fun c1 => ?_)
  · exact j_le [some (.ref 0), some (.ref 20), some (.int l2), some (.int l3), some (.int l4)] (And.intro rfl (And.intro rfl (And.intro rfl (And.intro rfl (And.intro rfl True.intro))))) (v1 c1)
  · exact j_le [some (.ref 0), some (.ref 20), some (.int l2), some (.int l3), some (.int l4)] (And.intro rfl (And.intro rfl (And.intro rfl (And.intro rfl (And.intro rfl True.intro))))) (v2 c1)
set_option maxRecDepth 100000 in
theorem bX11_bar_48 {sc : Nat × (Nat → Int32)} {h : jH} {Q : jQ} {l2 l3 l4 : Int32}
    (v1 : 30 ≤ l4 → WP mX11_bar Q 124 [some (.ref 0), some (.ref 20), some (.int l2), some (.int l3), some (.int l4)] [] (jG0 sc) h (0, 0))
    (v2 : ¬ 30 ≤ l4 → WP mX11_bar Q 58 [some (.ref 0), some (.ref 20), some (.int l2), some (.int l3), some (.int l4)] [] (jG0 sc) h (0, 0)) :
    WP mX11_bar Q 48 [some (.ref 0), some (.ref 20), some (.int l2), some (.int l3), some (.int l4)] [] (jG0 sc) h (0, 0) := by
  refine j_iload (i := 4) rfl dX11_bar_48 ?_
  refine j_aload_n (i := 1) rfl dX11_bar_50 ?_
  refine j_getR (idx := 190) (ci := 9) (k := 0) (nest := true) (show (11, 190, 9, 0, true) ∈ jFT by decide) rfl (Nat.le_of_ble_eq_true rfl) rfl (a := 21) rfl dX11_bar_51 ?_
  refine j_alen (Nat.le_of_ble_eq_true rfl) rfl rfl 30 rfl dX11_bar_54 ?_
  refine j_icmp_ge (off := 69) 124 dX11_bar_55 (by decide) (fun c1 => ?_) (fun c1 => ?_)
  · exact j_le [some (.ref 0), some (.ref 20), some (.int l2), some (.int l3), some (.int l4)] (And.intro rfl (And.intro rfl (And.intro rfl (And.intro rfl (And.intro rfl True.intro))))) (v1 c1)
  · exact j_le [some (.ref 0), some (.ref 20), some (.int l2), some (.int l3), some (.int l4)] (And.intro rfl (And.intro rfl (And.intro rfl (And.intro rfl (And.intro rfl True.intro))))) (v2 c1)
set_option maxRecDepth 100000 in
theorem bX11_bar_58 {sc : Nat × (Nat → Int32)} {h : jH} {Q : jQ} {l2 l3 l4 : Int32} {P1 : Int32 → jH → Prop} {P2 : Int32 → jH → Prop}
    (o1 : vp_in l4 30)
    (k1 : JM mX3_shape [.ref 75, .ref 10, .int (h 21 l4.toNatClampNeg), .ref 89] (jG0 sc) h (jint sc P1))
    (k2 : ∀ (x1 : Int32) (h1 : jH), P1 x1 h1 → JM mX11_firstBreak [.ref 0, .ref 89] (jG0 sc) h1 (jint sc P2))
    (v1 : ∀ (x1 : Int32) (h1 : jH), P1 x1 h1 → ∀ (x2 : Int32) (h2 : jH), P2 x2 h2 → WP mX11_bar Q 92 [some (.ref 0), some (.ref 20), some (.int l2), some (.int l3), some (.int l4)] [.int x2] (jG0 sc) h2 (0, 0)) :
    WP mX11_bar Q 58 [some (.ref 0), some (.ref 20), some (.int l2), some (.int l3), some (.int l4)] [] (jG0 sc) h (0, 0) := by
  refine j_aload_n (i := 0) rfl dX11_bar_58 ?_
  refine j_getR (idx := 61) (ci := 11) (k := 9) (nest := false) (show (11, 61, 11, 9, false) ∈ jFT by decide) rfl (Nat.le_of_ble_eq_true rfl) rfl (a := 75) rfl dX11_bar_59 ?_
  refine j_aload_n (i := 0) rfl dX11_bar_62 ?_
  refine j_getR (idx := 37) (ci := 11) (k := 4) (nest := false) (show (11, 37, 11, 4, false) ∈ jFT by decide) rfl (Nat.le_of_ble_eq_true rfl) rfl (a := 9) rfl dX11_bar_63 ?_
  refine j_getR (idx := 127) (ci := 6) (k := 0) (nest := true) (show (11, 127, 6, 0, true) ∈ jFT by decide) rfl (Nat.le_of_ble_eq_true rfl) rfl (a := 10) rfl dX11_bar_66 ?_
  refine j_aload_n (i := 1) rfl dX11_bar_69 ?_
  refine j_getR (idx := 190) (ci := 9) (k := 0) (nest := true) (show (11, 190, 9, 0, true) ∈ jFT by decide) rfl (Nat.le_of_ble_eq_true rfl) rfl (a := 21) rfl dX11_bar_70 ?_
  refine j_iload (i := 4) rfl dX11_bar_73 ?_
  refine j_iald (Nat.le_of_ble_eq_true rfl) rfl o1 dX11_bar_75 ?_
  refine j_aload_n (i := 0) rfl dX11_bar_76 ?_
  refine j_getR (idx := 71) (ci := 11) (k := 11) (nest := false) (show (11, 71, 11, 11, false) ∈ jFT by decide) rfl (Nat.le_of_ble_eq_true rfl) rfl (a := 89) rfl dX11_bar_77 ?_
  refine j_callVN (idx := 192) (As := [.ref 10, .int (h 21 l4.toNatClampNeg), .ref 89]) (ci := 3) (n := 3) k1 jint_nt (jTbl (jtb2 199 rfl)) sX3_shape kX3_shape rfl ⟨rfl, by decide +kernel, by decide +kernel, by decide +kernel⟩ rfl ⟨by decide, by decide⟩ (Nat.le_of_ble_eq_true rfl) rfl (Nat.le_of_ble_eq_true rfl) (Nat.le_of_ble_eq_true rfl) ⟨Nat.zero_le _, Nat.zero_le _⟩ dX11_bar_80 (fun r Γ' h1 q => ?_)
  obtain ⟨x1, q0, rfl, p1⟩ := q; cases q0
  refine j_eqst [.int x1] (by rfl) ?_
  refine j_pop rfl dX11_bar_83 ?_
  refine j_aload_n (i := 0) rfl dX11_bar_84 ?_
  refine j_aload_n (i := 0) rfl dX11_bar_85 ?_
  refine j_getR (idx := 71) (ci := 11) (k := 11) (nest := false) (show (11, 71, 11, 11, false) ∈ jFT by decide) rfl (Nat.le_of_ble_eq_true rfl) rfl (a := 89) rfl dX11_bar_86 ?_
  refine j_callV (idx := 377) (As := [.ref 89]) (ci := 11) (n := 1) (k2 x1 h1 p1) jint_nt (jlkT (jtb5 196 rfl) rfl) sX11_firstBreak kX11_firstBreak rfl ⟨rfl, by decide +kernel, by decide +kernel, by decide +kernel⟩ rfl ⟨by decide, by decide⟩ (Nat.le_of_ble_eq_true rfl) rfl (Nat.le_of_ble_eq_true rfl) (Nat.le_of_ble_eq_true rfl) ⟨Nat.zero_le _, Nat.zero_le _⟩ dX11_bar_89 (fun r Γ' h2 q => ?_)
  obtain ⟨x2, q0, rfl, p2⟩ := q; cases q0
  refine j_eqst [.int x2] (by rfl) ?_
  exact j_le [some (.ref 0), some (.ref 20), some (.int l2), some (.int l3), some (.int l4)] (And.intro rfl (And.intro rfl (And.intro rfl (And.intro rfl (And.intro rfl True.intro))))) (v1 x1 h1 p1 x2 h2 p2)
set_option maxRecDepth 100000 in
theorem bX11_bar_92 {sc : Nat × (Nat → Int32)} {h : jH} {Q : jQ} {l2 l3 l4 s0 : Int32}
    (v1 : ¬ s0 = (-1) → WP mX11_bar Q 115 [some (.ref 0), some (.ref 20), some (.int l2), some (.int l3), some (.int l4)] [] (jG0 sc) h (0, 0))
    (v2 : s0 = (-1) → WP mX11_bar Q 96 [some (.ref 0), some (.ref 20), some (.int l2), some (.int l3), some (.int l4)] [] (jG0 sc) h (0, 0)) :
    WP mX11_bar Q 92 [some (.ref 0), some (.ref 20), some (.int l2), some (.int l3), some (.int l4)] [.int s0] (jG0 sc) h (0, 0) := by
  refine j_iconst (n := (-1)) (-1) (by decide) dX11_bar_92 ?_
  refine j_icmp_ne (off := 22) 115 dX11_bar_93 (by decide) (fun c1 => ?_) (fun c1 => ?_)
  · exact j_le [some (.ref 0), some (.ref 20), some (.int l2), some (.int l3), some (.int l4)] (And.intro rfl (And.intro rfl (And.intro rfl (And.intro rfl (And.intro rfl True.intro))))) (v1 c1)
  · exact j_le [some (.ref 0), some (.ref 20), some (.int l2), some (.int l3), some (.int l4)] (And.intro rfl (And.intro rfl (And.intro rfl (And.intro rfl (And.intro rfl True.intro))))) (v2 c1)
set_option maxRecDepth 100000 in
theorem bX11_bar_96 {sc : Nat × (Nat → Int32)} {h : jH} {Q : jQ} {l2 l3 l4 : Int32}
    (o1 : vp_in l4 30)
    (o2 : vp_in l3 30)
    (v1 : WP mX11_bar Q 118 [some (.ref 0), some (.ref 20), some (.int l2), some (.int (l3 + 1)), some (.int l4)] [] (jG0 sc) (jput h 21 l3.toNatClampNeg (h 21 l4.toNatClampNeg)) (0, 0)) :
    WP mX11_bar Q 96 [some (.ref 0), some (.ref 20), some (.int l2), some (.int l3), some (.int l4)] [] (jG0 sc) h (0, 0) := by
  refine j_aload_n (i := 1) rfl dX11_bar_96 ?_
  refine j_getR (idx := 190) (ci := 9) (k := 0) (nest := true) (show (11, 190, 9, 0, true) ∈ jFT by decide) rfl (Nat.le_of_ble_eq_true rfl) rfl (a := 21) rfl dX11_bar_97 ?_
  refine j_iload_n (i := 3) rfl dX11_bar_100 ?_
  refine j_aload_n (i := 1) rfl dX11_bar_101 ?_
  refine j_getR (idx := 190) (ci := 9) (k := 0) (nest := true) (show (11, 190, 9, 0, true) ∈ jFT by decide) rfl (Nat.le_of_ble_eq_true rfl) rfl (a := 21) rfl dX11_bar_102 ?_
  refine j_iload (i := 4) rfl dX11_bar_105 ?_
  refine j_iald (Nat.le_of_ble_eq_true rfl) rfl o1 dX11_bar_107 ?_
  refine j_iast (Nat.le_of_ble_eq_true rfl) rfl o2 dX11_bar_108 ?_
  refine j_iinc (i := 3) (n := 1) rfl dX11_bar_109 (Nat.le_of_ble_eq_true rfl) ?_
  refine j_eqlv [some (.ref 0), some (.ref 20), some (.int l2), some (.int (l3 + 1)), some (.int l4)] rfl ?_
  refine j_goto (off := 6) 118 dX11_bar_112 (by decide) ?_
  exact j_le [some (.ref 0), some (.ref 20), some (.int l2), some (.int (l3 + 1)), some (.int l4)] (And.intro rfl (And.intro rfl (And.intro rfl (And.intro rfl (And.intro rfl True.intro))))) v1
set_option maxRecDepth 100000 in
theorem bX11_bar_115 {sc : Nat × (Nat → Int32)} {h : jH} {Q : jQ} {l2 l3 l4 : Int32}
    (v1 : WP mX11_bar Q 118 [some (.ref 0), some (.ref 20), some (.int (l2 + 1)), some (.int l3), some (.int l4)] [] (jG0 sc) h (0, 0)) :
    WP mX11_bar Q 115 [some (.ref 0), some (.ref 20), some (.int l2), some (.int l3), some (.int l4)] [] (jG0 sc) h (0, 0) := by
  refine j_iinc (i := 2) (n := 1) rfl dX11_bar_115 (Nat.le_of_ble_eq_true rfl) ?_
  refine j_eqlv [some (.ref 0), some (.ref 20), some (.int (l2 + 1)), some (.int l3), some (.int l4)] rfl ?_
  exact j_le [some (.ref 0), some (.ref 20), some (.int (l2 + 1)), some (.int l3), some (.int l4)] (And.intro rfl (And.intro rfl (And.intro rfl (And.intro rfl (And.intro rfl True.intro))))) v1
set_option maxRecDepth 100000 in
theorem bX11_bar_118 {sc : Nat × (Nat → Int32)} {h : jH} {Q : jQ} {l2 l3 l4 : Int32}
    (v1 : WP mX11_bar Q 39 [some (.ref 0), some (.ref 20), some (.int l2), some (.int l3), some (.int (l4 + 1))] [] (jG0 sc) h (0, 0)) :
    WP mX11_bar Q 118 [some (.ref 0), some (.ref 20), some (.int l2), some (.int l3), some (.int l4)] [] (jG0 sc) h (0, 0) := by
  refine j_iinc (i := 4) (n := 1) rfl dX11_bar_118 (Nat.le_of_ble_eq_true rfl) ?_
  refine j_eqlv [some (.ref 0), some (.ref 20), some (.int l2), some (.int l3), some (.int (l4 + 1))] rfl ?_
  refine j_goto (off := -82) 39 dX11_bar_121 (by decide) ?_
  exact j_le [some (.ref 0), some (.ref 20), some (.int l2), some (.int l3), some (.int (l4 + 1))] (And.intro rfl (And.intro rfl (And.intro rfl (And.intro rfl (And.intro rfl True.intro))))) v1
set_option maxRecDepth 100000 in
theorem bX11_bar_124 {sc : Nat × (Nat → Int32)} {h : jH} {Q : jQ} {l2 l3 l4 : Int32}
    (v1 : Q (.inl (some (.int l2))) (jG0 sc) (jput (jput h 20 1 l3) 20 5 (((jput h 20 1 l3) 20 5) + l2))) :
    WP mX11_bar Q 124 [some (.ref 0), some (.ref 20), some (.int l2), some (.int l3), some (.int l4)] [] (jG0 sc) h (0, 0) := by
  refine j_aload_n (i := 1) rfl dX11_bar_124 ?_
  refine j_iload_n (i := 3) rfl dX11_bar_125 ?_
  refine j_putI (idx := 187) (ci := 9) (k := 1) (nest := true) (show (11, 187, 9, 1, true) ∈ jFT by decide) rfl rfl rfl rfl (Nat.le_of_ble_eq_true rfl) rfl dX11_bar_126 ?_
  refine j_aload_n (i := 1) rfl dX11_bar_129 ?_
  refine j_dup rfl dX11_bar_130 ?_
  refine j_getI (idx := 394) (ci := 9) (k := 5) (nest := true) (show (11, 394, 9, 5, true) ∈ jFT by decide) rfl (Nat.le_of_ble_eq_true rfl) rfl dX11_bar_131 ?_
  refine j_iload_n (i := 2) rfl dX11_bar_134 ?_
  refine j_iadd dX11_bar_135 ?_
  refine j_putI (idx := 394) (ci := 9) (k := 5) (nest := true) (show (11, 394, 9, 5, true) ∈ jFT by decide) rfl rfl rfl rfl (Nat.le_of_ble_eq_true rfl) rfl dX11_bar_136 ?_
  refine j_iload_n (i := 2) rfl dX11_bar_139 ?_
  exact j_iret rfl rfl (Nat.zero_le _) (Nat.zero_le _) dX11_bar_140 v1
set_option maxRecDepth 100000 in
theorem rX11_bar_0 {sc : Nat × (Nat → Int32)} {h : jH} {Q : jQ}
    (v1 : ¬ (h 18 1) = 0 → WP mX11_bar Q 39 [some (.ref 0), some (.ref 20), some (.int 0), some (.int 0), some (.int 0)] [] (jG0 sc) h (0, 0))
    (v2 : (h 18 1) = 0 → Q (.inr "java/lang/IllegalStateException") (jG0 sc) h) :
    WP mX11_bar Q 0 [some (.ref 0), none, none, none, none] [] (jG0 sc) h (0, 0) := by
  exact (bX11_bar_0 (fun c1 => (bX11_bar_24 (v1 c1))) (fun c1 => (bX11_bar_13 (v2 c1))))
set_option maxRecDepth 100000 in
theorem rX11_bar_39 {sc : Nat × (Nat → Int32)} {h : jH} {Q : jQ} {l2 l3 l4 : Int32} {P1 : Int32 → jH → Prop} {P2 : Int32 → jH → Prop}
    (v1 : (h 20 1) ≤ l4 → Q (.inl (some (.int l2))) (jG0 sc) (jput (jput h 20 1 l3) 20 5 (((jput h 20 1 l3) 20 5) + l2)))
    (v2 : ¬ (h 20 1) ≤ l4 → 30 ≤ l4 → Q (.inl (some (.int l2))) (jG0 sc) (jput (jput h 20 1 l3) 20 5 (((jput h 20 1 l3) 20 5) + l2)))
    (o1 : ¬ (h 20 1) ≤ l4 → ¬ 30 ≤ l4 → vp_in l4 30)
    (k1 : ¬ (h 20 1) ≤ l4 → ¬ 30 ≤ l4 → JM mX3_shape [.ref 75, .ref 10, .int (h 21 l4.toNatClampNeg), .ref 89] (jG0 sc) h (jint sc P1))
    (k2 : ¬ (h 20 1) ≤ l4 → ¬ 30 ≤ l4 → ∀ (x1 : Int32) (h1 : jH), P1 x1 h1 → JM mX11_firstBreak [.ref 0, .ref 89] (jG0 sc) h1 (jint sc P2))
    (v3 : ¬ (h 20 1) ≤ l4 → ¬ 30 ≤ l4 → ∀ (x1 : Int32) (h1 : jH), P1 x1 h1 → ∀ (x2 : Int32) (h2 : jH), P2 x2 h2 → ¬ x2 = (-1) → WP mX11_bar Q 39 [some (.ref 0), some (.ref 20), some (.int (l2 + 1)), some (.int l3), some (.int (l4 + 1))] [] (jG0 sc) h2 (0, 0))
    (o2 : ¬ (h 20 1) ≤ l4 → ¬ 30 ≤ l4 → ∀ (x1 : Int32) (h1 : jH), P1 x1 h1 → ∀ (x2 : Int32) (h2 : jH), P2 x2 h2 → x2 = (-1) → vp_in l4 30)
    (o3 : ¬ (h 20 1) ≤ l4 → ¬ 30 ≤ l4 → ∀ (x1 : Int32) (h1 : jH), P1 x1 h1 → ∀ (x2 : Int32) (h2 : jH), P2 x2 h2 → x2 = (-1) → vp_in l3 30)
    (v4 : ¬ (h 20 1) ≤ l4 → ¬ 30 ≤ l4 → ∀ (x1 : Int32) (h1 : jH), P1 x1 h1 → ∀ (x2 : Int32) (h2 : jH), P2 x2 h2 → x2 = (-1) → WP mX11_bar Q 39 [some (.ref 0), some (.ref 20), some (.int l2), some (.int (l3 + 1)), some (.int (l4 + 1))] [] (jG0 sc) (jput h2 21 l3.toNatClampNeg (h2 21 l4.toNatClampNeg)) (0, 0)) :
    WP mX11_bar Q 39 [some (.ref 0), some (.ref 20), some (.int l2), some (.int l3), some (.int l4)] [] (jG0 sc) h (0, 0) := by
  exact (bX11_bar_39 (fun c1 => (bX11_bar_124 (v1 c1))) (fun c1 => (bX11_bar_48 (fun c2 => (bX11_bar_124 (v2 c1 c2))) (fun c2 => (bX11_bar_58 (o1 c1 c2) (k1 c1 c2) (fun x1 h1 p1 => (k2 c1 c2 x1 h1 p1)) (fun x1 h1 p1 x2 h2 p2 => (bX11_bar_92 (fun c3 => (bX11_bar_115 (bX11_bar_118 (v3 c1 c2 x1 h1 p1 x2 h2 p2 c3)))) (fun c3 => (bX11_bar_96 (o2 c1 c2 x1 h1 p1 x2 h2 p2 c3) (o3 c1 c2 x1 h1 p1 x2 h2 p2 c3) (bX11_bar_118 (v4 c1 c2 x1 h1 p1 x2 h2 p2 c3)))))))))))
theorem dX11_otherwise_0 : decode (mC mX11_otherwise) 0 = .ok (.aload_n 0, 1) := by decide +kernel
theorem dX11_otherwise_1 : decode (mC mX11_otherwise) 1 = .ok (.iload_n 1, 1) := by decide +kernel
theorem dX11_otherwise_2 : decode (mC mX11_otherwise) 2 = .ok (.invokevirtual 326, 3) := by decide +kernel
theorem dX11_otherwise_5 : decode (mC mX11_otherwise) 5 = .ok (.istore_n 2, 1) := by decide +kernel
theorem dX11_otherwise_6 : decode (mC mX11_otherwise) 6 = .ok (.iload_n 1, 1) := by decide +kernel
theorem dX11_otherwise_7 : decode (mC mX11_otherwise) 7 = .ok (.iconst (-1), 1) := by decide +kernel
theorem dX11_otherwise_8 : decode (mC mX11_otherwise) 8 = .ok (.if_icmp .eq 19, 3) := by decide +kernel
theorem dX11_otherwise_11 : decode (mC mX11_otherwise) 11 = .ok (.iload_n 2, 1) := by decide +kernel
theorem dX11_otherwise_12 : decode (mC mX11_otherwise) 12 = .ok (.iconst (-1), 1) := by decide +kernel
theorem dX11_otherwise_13 : decode (mC mX11_otherwise) 13 = .ok (.if_icmp .ne 14, 3) := by decide +kernel
theorem dX11_otherwise_16 : decode (mC mX11_otherwise) 16 = .ok (.new 208, 3) := by decide +kernel
theorem dX11_otherwise_19 : decode (mC mX11_otherwise) 19 = .ok (.dup, 1) := by decide +kernel
theorem dX11_otherwise_20 : decode (mC mX11_otherwise) 20 = .ok (.ldc_w 329, 3) := by decide +kernel
theorem dX11_otherwise_23 : decode (mC mX11_otherwise) 23 = .ok (.invokespecial 212, 3) := by decide +kernel
theorem dX11_otherwise_26 : decode (mC mX11_otherwise) 26 = .ok (.athrow, 1) := by decide +kernel
theorem dX11_otherwise_27 : decode (mC mX11_otherwise) 27 = .ok (.aload_n 0, 1) := by decide +kernel
theorem dX11_otherwise_28 : decode (mC mX11_otherwise) 28 = .ok (.invokevirtual 213, 3) := by decide +kernel
theorem dX11_otherwise_31 : decode (mC mX11_otherwise) 31 = .ok (.ifCond .eq 16, 3) := by decide +kernel
theorem dX11_otherwise_34 : decode (mC mX11_otherwise) 34 = .ok (.aload_n 0, 1) := by decide +kernel
theorem dX11_otherwise_35 : decode (mC mX11_otherwise) 35 = .ok (.getfield 37, 3) := by decide +kernel
theorem dX11_otherwise_38 : decode (mC mX11_otherwise) 38 = .ok (.getfield 117, 3) := by decide +kernel
theorem dX11_otherwise_41 : decode (mC mX11_otherwise) 41 = .ok (.getfield 136, 3) := by decide +kernel
theorem dX11_otherwise_44 : decode (mC mX11_otherwise) 44 = .ok (.ifCond .ne 14, 3) := by decide +kernel
theorem dX11_otherwise_47 : decode (mC mX11_otherwise) 47 = .ok (.new 203, 3) := by decide +kernel
theorem dX11_otherwise_50 : decode (mC mX11_otherwise) 50 = .ok (.dup, 1) := by decide +kernel
theorem dX11_otherwise_51 : decode (mC mX11_otherwise) 51 = .ok (.ldc_w 397, 3) := by decide +kernel
theorem dX11_otherwise_54 : decode (mC mX11_otherwise) 54 = .ok (.invokespecial 207, 3) := by decide +kernel
theorem dX11_otherwise_57 : decode (mC mX11_otherwise) 57 = .ok (.athrow, 1) := by decide +kernel
theorem dX11_otherwise_58 : decode (mC mX11_otherwise) 58 = .ok (.aload_n 0, 1) := by decide +kernel
theorem dX11_otherwise_59 : decode (mC mX11_otherwise) 59 = .ok (.getfield 61, 3) := by decide +kernel
theorem dX11_otherwise_62 : decode (mC mX11_otherwise) 62 = .ok (.aload_n 0, 1) := by decide +kernel
theorem dX11_otherwise_63 : decode (mC mX11_otherwise) 63 = .ok (.getfield 37, 3) := by decide +kernel
theorem dX11_otherwise_66 : decode (mC mX11_otherwise) 66 = .ok (.getfield 127, 3) := by decide +kernel
theorem dX11_otherwise_69 : decode (mC mX11_otherwise) 69 = .ok (.iload_n 2, 1) := by decide +kernel
theorem dX11_otherwise_70 : decode (mC mX11_otherwise) 70 = .ok (.aload_n 0, 1) := by decide +kernel
theorem dX11_otherwise_71 : decode (mC mX11_otherwise) 71 = .ok (.getfield 71, 3) := by decide +kernel
theorem dX11_otherwise_74 : decode (mC mX11_otherwise) 74 = .ok (.invokevirtual 192, 3) := by decide +kernel
theorem dX11_otherwise_77 : decode (mC mX11_otherwise) 77 = .ok (.pop, 1) := by decide +kernel
theorem dX11_otherwise_78 : decode (mC mX11_otherwise) 78 = .ok (.iconst 0, 1) := by decide +kernel
theorem dX11_otherwise_79 : decode (mC mX11_otherwise) 79 = .ok (.istore_n 3, 1) := by decide +kernel
theorem dX11_otherwise_80 : decode (mC mX11_otherwise) 80 = .ok (.iconst 0, 1) := by decide +kernel
theorem dX11_otherwise_81 : decode (mC mX11_otherwise) 81 = .ok (.istore 4, 2) := by decide +kernel
theorem dX11_otherwise_83 : decode (mC mX11_otherwise) 83 = .ok (.iload 4, 2) := by decide +kernel
theorem dX11_otherwise_85 : decode (mC mX11_otherwise) 85 = .ok (.aload_n 0, 1) := by decide +kernel
theorem dX11_otherwise_86 : decode (mC mX11_otherwise) 86 = .ok (.getfield 37, 3) := by decide +kernel
theorem dX11_otherwise_89 : decode (mC mX11_otherwise) 89 = .ok (.getfield 351, 3) := by decide +kernel
theorem dX11_otherwise_92 : decode (mC mX11_otherwise) 92 = .ok (.if_icmp .gt 74, 3) := by decide +kernel
theorem dX11_otherwise_95 : decode (mC mX11_otherwise) 95 = .ok (.iconst 0, 1) := by decide +kernel
theorem dX11_otherwise_96 : decode (mC mX11_otherwise) 96 = .ok (.istore 5, 2) := by decide +kernel
theorem dX11_otherwise_98 : decode (mC mX11_otherwise) 98 = .ok (.iload 5, 2) := by decide +kernel
theorem dX11_otherwise_100 : decode (mC mX11_otherwise) 100 = .ok (.aload_n 0, 1) := by decide +kernel
theorem dX11_otherwise_101 : decode (mC mX11_otherwise) 101 = .ok (.getfield 37, 3) := by decide +kernel
theorem dX11_otherwise_104 : decode (mC mX11_otherwise) 104 = .ok (.getfield 351, 3) := by decide +kernel
theorem dX11_otherwise_107 : decode (mC mX11_otherwise) 107 = .ok (.if_icmp .gt 53, 3) := by decide +kernel
theorem dX11_otherwise_110 : decode (mC mX11_otherwise) 110 = .ok (.iload_n 3, 1) := by decide +kernel
theorem dX11_otherwise_111 : decode (mC mX11_otherwise) 111 = .ok (.aload_n 0, 1) := by decide +kernel
theorem dX11_otherwise_112 : decode (mC mX11_otherwise) 112 = .ok (.getfield 47, 3) := by decide +kernel
theorem dX11_otherwise_115 : decode (mC mX11_otherwise) 115 = .ok (.aload_n 0, 1) := by decide +kernel
theorem dX11_otherwise_116 : decode (mC mX11_otherwise) 116 = .ok (.getfield 71, 3) := by decide +kernel
theorem dX11_otherwise_119 : decode (mC mX11_otherwise) 119 = .ok (.iload 4, 2) := by decide +kernel
theorem dX11_otherwise_121 : decode (mC mX11_otherwise) 121 = .ok (.iload 5, 2) := by decide +kernel
theorem dX11_otherwise_123 : decode (mC mX11_otherwise) 123 = .ok (.invokevirtual 196, 3) := by decide +kernel
theorem dX11_otherwise_126 : decode (mC mX11_otherwise) 126 = .ok (.aload_n 0, 1) := by decide +kernel
theorem dX11_otherwise_127 : decode (mC mX11_otherwise) 127 = .ok (.getfield 47, 3) := by decide +kernel
theorem dX11_otherwise_130 : decode (mC mX11_otherwise) 130 = .ok (.aload_n 0, 1) := by decide +kernel
theorem dX11_otherwise_131 : decode (mC mX11_otherwise) 131 = .ok (.getfield 37, 3) := by decide +kernel
theorem dX11_otherwise_134 : decode (mC mX11_otherwise) 134 = .ok (.getfield 117, 3) := by decide +kernel
theorem dX11_otherwise_137 : decode (mC mX11_otherwise) 137 = .ok (.iload 4, 2) := by decide +kernel
theorem dX11_otherwise_139 : decode (mC mX11_otherwise) 139 = .ok (.iload 5, 2) := by decide +kernel
theorem dX11_otherwise_141 : decode (mC mX11_otherwise) 141 = .ok (.invokevirtual 196, 3) := by decide +kernel
theorem dX11_otherwise_144 : decode (mC mX11_otherwise) 144 = .ok (.if_icmp .eq 7, 3) := by decide +kernel
theorem dX11_otherwise_147 : decode (mC mX11_otherwise) 147 = .ok (.iconst 1, 1) := by decide +kernel
theorem dX11_otherwise_148 : decode (mC mX11_otherwise) 148 = .ok (.goto 4, 3) := by decide +kernel
theorem dX11_otherwise_151 : decode (mC mX11_otherwise) 151 = .ok (.iconst 0, 1) := by decide +kernel
theorem dX11_otherwise_152 : decode (mC mX11_otherwise) 152 = .ok (.iadd, 1) := by decide +kernel
theorem dX11_otherwise_153 : decode (mC mX11_otherwise) 153 = .ok (.istore_n 3, 1) := by decide +kernel
theorem dX11_otherwise_154 : decode (mC mX11_otherwise) 154 = .ok (.iinc 5 1, 3) := by decide +kernel
theorem dX11_otherwise_157 : decode (mC mX11_otherwise) 157 = .ok (.goto (-59), 3) := by decide +kernel
theorem dX11_otherwise_160 : decode (mC mX11_otherwise) 160 = .ok (.iinc 4 1, 3) := by decide +kernel
theorem dX11_otherwise_163 : decode (mC mX11_otherwise) 163 = .ok (.goto (-80), 3) := by decide +kernel
theorem dX11_otherwise_166 : decode (mC mX11_otherwise) 166 = .ok (.iload_n 3, 1) := by decide +kernel
theorem dX11_otherwise_167 : decode (mC mX11_otherwise) 167 = .ok (.ireturn, 1) := by decide +kernel
set_option maxRecDepth 100000 in
theorem bX11_otherwise_0 {sc : Nat × (Nat → Int32)} {h : jH} {Q : jQ} {l1 : Int32} {P1 : Int32 → jH → Prop}
    (k1 : JM mX11_keptNumber [.ref 0, .int l1] (jG0 sc) h (jint sc P1))
    (v1 : ∀ (x1 : Int32) (h1 : jH), P1 x1 h1 → l1 = (-1) → WP mX11_otherwise Q 27 [some (.ref 0), some (.int l1), some (.int x1), none, none, none] [] (jG0 sc) h1 (0, 0))
    (v2 : ∀ (x1 : Int32) (h1 : jH), P1 x1 h1 → ¬ l1 = (-1) → WP mX11_otherwise Q 11 [some (.ref 0), some (.int l1), some (.int x1), none, none, none] [] (jG0 sc) h1 (0, 0)) :
    WP mX11_otherwise Q 0 [some (.ref 0), some (.int l1), none, none, none, none] [] (jG0 sc) h (0, 0) := by
  refine j_aload_n (i := 0) rfl dX11_otherwise_0 ?_
  refine j_iload_n (i := 1) rfl dX11_otherwise_1 ?_
  refine j_callV (idx := 326) (As := [.int l1]) (ci := 11) (n := 1) k1 jint_nt (jlkT (jtb2 195 rfl) rfl) sX11_keptNumber kX11_keptNumber rfl ⟨rfl, by decide +kernel, by decide +kernel, by decide +kernel⟩ rfl ⟨by decide, by decide⟩ (Nat.le_of_ble_eq_true rfl) rfl (Nat.le_of_ble_eq_true rfl) (Nat.le_of_ble_eq_true rfl) ⟨Nat.zero_le _, Nat.zero_le _⟩ dX11_otherwise_2 (fun r Γ' h1 q => ?_)
  obtain ⟨x1, q0, rfl, p1⟩ := q; cases q0
  refine j_eqst [.int x1] (by rfl) ?_
  refine j_istore_n (i := 2) dX11_otherwise_5 (Nat.le_of_ble_eq_true rfl) ?_
  refine j_iload_n (i := 1) rfl dX11_otherwise_6 ?_
  refine j_iconst (n := (-1)) (-1) (by decide) dX11_otherwise_7 ?_
  refine j_icmp_eq (off := 19) 27 dX11_otherwise_8 (by decide) (fun c1 => ?_) (fun c1 => ?_)
  · exact j_le [some (.ref 0), some (.int l1), some (.int x1), none, none, none] (And.intro rfl (And.intro rfl (And.intro rfl True.intro))) (v1 x1 h1 p1 c1)
  · exact j_le [some (.ref 0), some (.int l1), some (.int x1), none, none, none] (And.intro rfl (And.intro rfl (And.intro rfl True.intro))) (v2 x1 h1 p1 c1)
set_option maxRecDepth 100000 in
theorem bX11_otherwise_11 {sc : Nat × (Nat → Int32)} {h : jH} {Q : jQ} {l1 l2 : Int32}
    (v1 : ¬ l2 = (-1) → WP mX11_otherwise Q 27 [some (.ref 0), some (.int l1), some (.int l2), none, none, none] [] (jG0 sc) h (0, 0))
    (v2 : l2 = (-1) → WP mX11_otherwise Q 16 [some (.ref 0), some (.int l1), some (.int l2), none, none, none] [] (jG0 sc) h (0, 0)) :
    WP mX11_otherwise Q 11 [some (.ref 0), some (.int l1), some (.int l2), none, none, none] [] (jG0 sc) h (0, 0) := by
  refine j_iload_n (i := 2) rfl dX11_otherwise_11 ?_
  refine j_iconst (n := (-1)) (-1) (by decide) dX11_otherwise_12 ?_
  refine j_icmp_ne (off := 14) 27 dX11_otherwise_13 (by decide) (fun c1 => ?_) (fun c1 => ?_)
  · exact j_le [some (.ref 0), some (.int l1), some (.int l2), none, none, none] (And.intro rfl (And.intro rfl (And.intro rfl True.intro))) (v1 c1)
  · exact j_le [some (.ref 0), some (.int l1), some (.int l2), none, none, none] (And.intro rfl (And.intro rfl (And.intro rfl True.intro))) (v2 c1)
set_option maxRecDepth 100000 in
theorem bX11_otherwise_16 {sc : Nat × (Nat → Int32)} {h : jH} {Q : jQ} {l1 l2 : Int32}
    (v1 : Q (.inr "java/lang/IndexOutOfBoundsException") (jG0 sc) h) :
    WP mX11_otherwise Q 16 [some (.ref 0), some (.int l1), some (.int l2), none, none, none] [] (jG0 sc) h (0, 0) := by
  exact j_thrW_IOB (is := 329) "no such kept ALIVE one" 35 (by decide +kernel) rfl rfl (by decide) (by decide) (Nat.le_of_ble_eq_true rfl) dX11_otherwise_16 dX11_otherwise_19 dX11_otherwise_20 dX11_otherwise_23 dX11_otherwise_26 v1
set_option maxRecDepth 100000 in
theorem bX11_otherwise_27 {sc : Nat × (Nat → Int32)} {h : jH} {Q : jQ} {l1 l2 : Int32} {P1 : Int32 → jH → Prop}
    (k1 : JM mX11_hasBody [.ref 0] (jG0 sc) h (jint sc P1))
    (v1 : ∀ (x1 : Int32) (h1 : jH), P1 x1 h1 → x1 = 0 → WP mX11_otherwise Q 47 [some (.ref 0), some (.int l1), some (.int l2), none, none, none] [] (jG0 sc) h1 (0, 0))
    (v2 : ∀ (x1 : Int32) (h1 : jH), P1 x1 h1 → ¬ x1 = 0 → WP mX11_otherwise Q 34 [some (.ref 0), some (.int l1), some (.int l2), none, none, none] [] (jG0 sc) h1 (0, 0)) :
    WP mX11_otherwise Q 27 [some (.ref 0), some (.int l1), some (.int l2), none, none, none] [] (jG0 sc) h (0, 0) := by
  refine j_aload_n (i := 0) rfl dX11_otherwise_27 ?_
  refine j_callV (idx := 213) (As := []) (ci := 11) (n := 0) k1 jint_nt (jlkT (jtb3 180 rfl) rfl) sX11_hasBody kX11_hasBody rfl ⟨rfl, by decide +kernel, by decide +kernel, by decide +kernel⟩ rfl ⟨by decide, by decide⟩ (Nat.le_of_ble_eq_true rfl) rfl (Nat.le_of_ble_eq_true rfl) (Nat.le_of_ble_eq_true rfl) ⟨Nat.zero_le _, Nat.zero_le _⟩ dX11_otherwise_28 (fun r Γ' h1 q => ?_)
  obtain ⟨x1, q0, rfl, p1⟩ := q; cases q0
  refine j_eqst [.int x1] (by rfl) ?_
  refine j_if_eq (off := 16) 47 dX11_otherwise_31 (by decide) (fun c1 => ?_) (fun c1 => ?_)
  · exact j_le [some (.ref 0), some (.int l1), some (.int l2), none, none, none] (And.intro rfl (And.intro rfl (And.intro rfl True.intro))) (v1 x1 h1 p1 c1)
  · exact j_le [some (.ref 0), some (.int l1), some (.int l2), none, none, none] (And.intro rfl (And.intro rfl (And.intro rfl True.intro))) (v2 x1 h1 p1 c1)
set_option maxRecDepth 100000 in
theorem bX11_otherwise_34 {sc : Nat × (Nat → Int32)} {h : jH} {Q : jQ} {l1 l2 : Int32}
    (v1 : ¬ (h 12 1) = 0 → WP mX11_otherwise Q 58 [some (.ref 0), some (.int l1), some (.int l2), none, none, none] [] (jG0 sc) h (0, 0))
    (v2 : (h 12 1) = 0 → WP mX11_otherwise Q 47 [some (.ref 0), some (.int l1), some (.int l2), none, none, none] [] (jG0 sc) h (0, 0)) :
    WP mX11_otherwise Q 34 [some (.ref 0), some (.int l1), some (.int l2), none, none, none] [] (jG0 sc) h (0, 0) := by
  refine j_aload_n (i := 0) rfl dX11_otherwise_34 ?_
  refine j_getR (idx := 37) (ci := 11) (k := 4) (nest := false) (show (11, 37, 11, 4, false) ∈ jFT by decide) rfl (Nat.le_of_ble_eq_true rfl) rfl (a := 9) rfl dX11_otherwise_35 ?_
  refine j_getR (idx := 117) (ci := 6) (k := 1) (nest := true) (show (11, 117, 6, 1, true) ∈ jFT by decide) rfl (Nat.le_of_ble_eq_true rfl) rfl (a := 12) rfl dX11_otherwise_38 ?_
  refine j_getI (idx := 136) (ci := 4) (k := 1) (nest := true) (show (11, 136, 4, 1, true) ∈ jFT by decide) rfl (Nat.le_of_ble_eq_true rfl) rfl dX11_otherwise_41 ?_
  refine j_if_ne (off := 14) 58 dX11_otherwise_44 (by decide) (fun c1 => ?_) (fun c1 => ?_)
  · exact j_le [some (.ref 0), some (.int l1), some (.int l2), none, none, none] (And.intro rfl (And.intro rfl (And.intro rfl True.intro))) (v1 c1)
  · exact j_le [some (.ref 0), some (.int l1), some (.int l2), none, none, none] (And.intro rfl (And.intro rfl (And.intro rfl True.intro))) (v2 c1)
set_option maxRecDepth 100000 in
theorem bX11_otherwise_47 {sc : Nat × (Nat → Int32)} {h : jH} {Q : jQ} {l1 l2 : Int32}
    (v1 : Q (.inr "java/lang/IllegalStateException") (jG0 sc) h) :
    WP mX11_otherwise Q 47 [some (.ref 0), some (.int l1), some (.int l2), none, none, none] [] (jG0 sc) h (0, 0) := by
  exact j_thrW_ISE (is := 397) "there is no BODY, or no SECOND" 39 (by decide +kernel) rfl rfl (by decide) (by decide) (Nat.le_of_ble_eq_true rfl) dX11_otherwise_47 dX11_otherwise_50 dX11_otherwise_51 dX11_otherwise_54 dX11_otherwise_57 v1
set_option maxRecDepth 100000 in
theorem bX11_otherwise_58 {sc : Nat × (Nat → Int32)} {h : jH} {Q : jQ} {l1 l2 : Int32} {P1 : Int32 → jH → Prop}
    (k1 : JM mX3_shape [.ref 75, .ref 10, .int l2, .ref 89] (jG0 sc) h (jint sc P1))
    (v1 : ∀ (x1 : Int32) (h1 : jH), P1 x1 h1 → WP mX11_otherwise Q 83 [some (.ref 0), some (.int l1), some (.int l2), some (.int 0), some (.int 0), none] [] (jG0 sc) h1 (0, 0)) :
    WP mX11_otherwise Q 58 [some (.ref 0), some (.int l1), some (.int l2), none, none, none] [] (jG0 sc) h (0, 0) := by
  refine j_aload_n (i := 0) rfl dX11_otherwise_58 ?_
  refine j_getR (idx := 61) (ci := 11) (k := 9) (nest := false) (show (11, 61, 11, 9, false) ∈ jFT by decide) rfl (Nat.le_of_ble_eq_true rfl) rfl (a := 75) rfl dX11_otherwise_59 ?_
  refine j_aload_n (i := 0) rfl dX11_otherwise_62 ?_
  refine j_getR (idx := 37) (ci := 11) (k := 4) (nest := false) (show (11, 37, 11, 4, false) ∈ jFT by decide) rfl (Nat.le_of_ble_eq_true rfl) rfl (a := 9) rfl dX11_otherwise_63 ?_
  refine j_getR (idx := 127) (ci := 6) (k := 0) (nest := true) (show (11, 127, 6, 0, true) ∈ jFT by decide) rfl (Nat.le_of_ble_eq_true rfl) rfl (a := 10) rfl dX11_otherwise_66 ?_
  refine j_iload_n (i := 2) rfl dX11_otherwise_69 ?_
  refine j_aload_n (i := 0) rfl dX11_otherwise_70 ?_
  refine j_getR (idx := 71) (ci := 11) (k := 11) (nest := false) (show (11, 71, 11, 11, false) ∈ jFT by decide) rfl (Nat.le_of_ble_eq_true rfl) rfl (a := 89) rfl dX11_otherwise_71 ?_
  refine j_callVN (idx := 192) (As := [.ref 10, .int l2, .ref 89]) (ci := 3) (n := 3) k1 jint_nt (jTbl (jtb2 199 rfl)) sX3_shape kX3_shape rfl ⟨rfl, by decide +kernel, by decide +kernel, by decide +kernel⟩ rfl ⟨by decide, by decide⟩ (Nat.le_of_ble_eq_true rfl) rfl (Nat.le_of_ble_eq_true rfl) (Nat.le_of_ble_eq_true rfl) ⟨Nat.zero_le _, Nat.zero_le _⟩ dX11_otherwise_74 (fun r Γ' h1 q => ?_)
  obtain ⟨x1, q0, rfl, p1⟩ := q; cases q0
  refine j_eqst [.int x1] (by rfl) ?_
  refine j_pop rfl dX11_otherwise_77 ?_
  refine j_iconst (n := 0) 0 (by decide) dX11_otherwise_78 ?_
  refine j_istore_n (i := 3) dX11_otherwise_79 (Nat.le_of_ble_eq_true rfl) ?_
  refine j_iconst (n := 0) 0 (by decide) dX11_otherwise_80 ?_
  refine j_istore (i := 4) dX11_otherwise_81 (Nat.le_of_ble_eq_true rfl) ?_
  exact j_le [some (.ref 0), some (.int l1), some (.int l2), some (.int 0), some (.int 0), none] (And.intro rfl (And.intro rfl (And.intro rfl (And.intro rfl (And.intro rfl True.intro))))) (v1 x1 h1 p1)
set_option maxRecDepth 100000 in
theorem bX11_otherwise_83 {sc : Nat × (Nat → Int32)} {h : jH} {Q : jQ} {l1 l2 l3 l4 : Int32}
    (v1 : (h 9 8) < l4 → WP mX11_otherwise Q 166 [some (.ref 0), some (.int l1), some (.int l2), some (.int l3), some (.int l4), none] [] (jG0 sc) h (0, 0))
    (v2 : ¬ (h 9 8) < l4 → WP mX11_otherwise Q 95 [some (.ref 0), some (.int l1), some (.int l2), some (.int l3), some (.int l4), none] [] (jG0 sc) h (0, 0)) :
    WP mX11_otherwise Q 83 [some (.ref 0), some (.int l1), some (.int l2), some (.int l3), some (.int l4), none] [] (jG0 sc) h (0, 0) := by
  refine j_iload (i := 4) rfl dX11_otherwise_83 ?_
  refine j_aload_n (i := 0) rfl dX11_otherwise_85 ?_
  refine j_getR (idx := 37) (ci := 11) (k := 4) (nest := false) (show (11, 37, 11, 4, false) ∈ jFT by decide) rfl (Nat.le_of_ble_eq_true rfl) rfl (a := 9) rfl dX11_otherwise_86 ?_
  refine j_getI (idx := 351) (ci := 6) (k := 8) (nest := true) (show (11, 351, 6, 8, true) ∈ jFT by decide) rfl (Nat.le_of_ble_eq_true rfl) rfl dX11_otherwise_89 ?_
  refine j_icmp_gt (off := 74) 166 dX11_otherwise_92 (by decide) (fun c1 => ?_) (fun c1 => ?_)
  · exact j_le [some (.ref 0), some (.int l1), some (.int l2), some (.int l3), some (.int l4), none] (And.intro rfl (And.intro rfl (And.intro rfl (And.intro rfl (And.intro rfl True.intro))))) (v1 c1)
  · exact j_le [some (.ref 0), some (.int l1), some (.int l2), some (.int l3), some (.int l4), none] (And.intro rfl (And.intro rfl (And.intro rfl (And.intro rfl (And.intro rfl True.intro))))) (v2 c1)
set_option maxRecDepth 100000 in
theorem bX11_otherwise_95 {sc : Nat × (Nat → Int32)} {h : jH} {Q : jQ} {l1 l2 l3 l4 : Int32}
    (v1 : WP mX11_otherwise Q 98 [some (.ref 0), some (.int l1), some (.int l2), some (.int l3), some (.int l4), some (.int 0)] [] (jG0 sc) h (0, 0)) :
    WP mX11_otherwise Q 95 [some (.ref 0), some (.int l1), some (.int l2), some (.int l3), some (.int l4), none] [] (jG0 sc) h (0, 0) := by
  refine j_iconst (n := 0) 0 (by decide) dX11_otherwise_95 ?_
  refine j_istore (i := 5) dX11_otherwise_96 (Nat.le_of_ble_eq_true rfl) ?_
  exact j_le [some (.ref 0), some (.int l1), some (.int l2), some (.int l3), some (.int l4), some (.int 0)] (And.intro rfl (And.intro rfl (And.intro rfl (And.intro rfl (And.intro rfl (And.intro rfl True.intro)))))) v1
set_option maxRecDepth 100000 in
theorem bX11_otherwise_98 {sc : Nat × (Nat → Int32)} {h : jH} {Q : jQ} {l1 l2 l3 l4 l5 : Int32}
    (v1 : (h 9 8) < l5 → WP mX11_otherwise Q 160 [some (.ref 0), some (.int l1), some (.int l2), some (.int l3), some (.int l4), some (.int l5)] [] (jG0 sc) h (0, 0))
    (v2 : ¬ (h 9 8) < l5 → WP mX11_otherwise Q 110 [some (.ref 0), some (.int l1), some (.int l2), some (.int l3), some (.int l4), some (.int l5)] [] (jG0 sc) h (0, 0)) :
    WP mX11_otherwise Q 98 [some (.ref 0), some (.int l1), some (.int l2), some (.int l3), some (.int l4), some (.int l5)] [] (jG0 sc) h (0, 0) := by
  refine j_iload (i := 5) rfl dX11_otherwise_98 ?_
  refine j_aload_n (i := 0) rfl dX11_otherwise_100 ?_
  refine j_getR (idx := 37) (ci := 11) (k := 4) (nest := false) (show (11, 37, 11, 4, false) ∈ jFT by decide) rfl (Nat.le_of_ble_eq_true rfl) rfl (a := 9) rfl dX11_otherwise_101 ?_
  refine j_getI (idx := 351) (ci := 6) (k := 8) (nest := true) (show (11, 351, 6, 8, true) ∈ jFT by decide) rfl (Nat.le_of_ble_eq_true rfl) rfl dX11_otherwise_104 ?_
  refine j_icmp_gt (off := 53) 160 dX11_otherwise_107 (by decide) (fun c1 => ?_) (fun c1 => ?_)
  · exact j_le [some (.ref 0), some (.int l1), some (.int l2), some (.int l3), some (.int l4), some (.int l5)] (And.intro rfl (And.intro rfl (And.intro rfl (And.intro rfl (And.intro rfl (And.intro rfl True.intro)))))) (v1 c1)
  · exact j_le [some (.ref 0), some (.int l1), some (.int l2), some (.int l3), some (.int l4), some (.int l5)] (And.intro rfl (And.intro rfl (And.intro rfl (And.intro rfl (And.intro rfl (And.intro rfl True.intro)))))) (v2 c1)
set_option maxRecDepth 100000 in
theorem bX11_otherwise_110 {sc : Nat × (Nat → Int32)} {h : jH} {Q : jQ} {l1 l2 l3 l4 l5 : Int32} {P1 : Int32 → jH → Prop} {P2 : Int32 → jH → Prop}
    (k1 : JM mX10_through [.ref 69, .ref 89, .int l4, .int l5] (jG0 sc) h (jint sc P1))
    (k2 : ∀ (x1 : Int32) (h1 : jH), P1 x1 h1 → JM mX10_through [.ref 69, .ref 12, .int l4, .int l5] (jG0 sc) h1 (jint sc P2))
    (v1 : ∀ (x1 : Int32) (h1 : jH), P1 x1 h1 → ∀ (x2 : Int32) (h2 : jH), P2 x2 h2 → x1 = x2 → WP mX11_otherwise Q 151 [some (.ref 0), some (.int l1), some (.int l2), some (.int l3), some (.int l4), some (.int l5)] [.int l3] (jG0 sc) h2 (0, 0))
    (v2 : ∀ (x1 : Int32) (h1 : jH), P1 x1 h1 → ∀ (x2 : Int32) (h2 : jH), P2 x2 h2 → ¬ x1 = x2 → WP mX11_otherwise Q 147 [some (.ref 0), some (.int l1), some (.int l2), some (.int l3), some (.int l4), some (.int l5)] [.int l3] (jG0 sc) h2 (0, 0)) :
    WP mX11_otherwise Q 110 [some (.ref 0), some (.int l1), some (.int l2), some (.int l3), some (.int l4), some (.int l5)] [] (jG0 sc) h (0, 0) := by
  refine j_iload_n (i := 3) rfl dX11_otherwise_110 ?_
  refine j_aload_n (i := 0) rfl dX11_otherwise_111 ?_
  refine j_getR (idx := 47) (ci := 11) (k := 7) (nest := false) (show (11, 47, 11, 7, false) ∈ jFT by decide) rfl (Nat.le_of_ble_eq_true rfl) rfl (a := 69) rfl dX11_otherwise_112 ?_
  refine j_aload_n (i := 0) rfl dX11_otherwise_115 ?_
  refine j_getR (idx := 71) (ci := 11) (k := 11) (nest := false) (show (11, 71, 11, 11, false) ∈ jFT by decide) rfl (Nat.le_of_ble_eq_true rfl) rfl (a := 89) rfl dX11_otherwise_116 ?_
  refine j_iload (i := 4) rfl dX11_otherwise_119 ?_
  refine j_iload (i := 5) rfl dX11_otherwise_121 ?_
  refine j_callVN (idx := 196) (As := [.ref 89, .int l4, .int l5]) (ci := 10) (n := 3) k1 jint_nt (jTbl (jtb3 9 rfl)) sX10_through kX10_through rfl ⟨rfl, by decide +kernel, by decide +kernel, by decide +kernel⟩ rfl ⟨by decide, by decide⟩ (Nat.le_of_ble_eq_true rfl) rfl (Nat.le_of_ble_eq_true rfl) (Nat.le_of_ble_eq_true rfl) ⟨Nat.zero_le _, Nat.zero_le _⟩ dX11_otherwise_123 (fun r Γ' h1 q => ?_)
  obtain ⟨x1, q0, rfl, p1⟩ := q; cases q0
  refine j_eqst [.int x1, .int l3] (by rfl) ?_
  refine j_aload_n (i := 0) rfl dX11_otherwise_126 ?_
  refine j_getR (idx := 47) (ci := 11) (k := 7) (nest := false) (show (11, 47, 11, 7, false) ∈ jFT by decide) rfl (Nat.le_of_ble_eq_true rfl) rfl (a := 69) rfl dX11_otherwise_127 ?_
  refine j_aload_n (i := 0) rfl dX11_otherwise_130 ?_
  refine j_getR (idx := 37) (ci := 11) (k := 4) (nest := false) (show (11, 37, 11, 4, false) ∈ jFT by decide) rfl (Nat.le_of_ble_eq_true rfl) rfl (a := 9) rfl dX11_otherwise_131 ?_
  refine j_getR (idx := 117) (ci := 6) (k := 1) (nest := true) (show (11, 117, 6, 1, true) ∈ jFT by decide) rfl (Nat.le_of_ble_eq_true rfl) rfl (a := 12) rfl dX11_otherwise_134 ?_
  refine j_iload (i := 4) rfl dX11_otherwise_137 ?_
  refine j_iload (i := 5) rfl dX11_otherwise_139 ?_
  refine j_callVN (idx := 196) (As := [.ref 12, .int l4, .int l5]) (ci := 10) (n := 3) (k2 x1 h1 p1) jint_nt (jTbl (jtb3 9 rfl)) sX10_through kX10_through rfl ⟨rfl, by decide +kernel, by decide +kernel, by decide +kernel⟩ rfl ⟨by decide, by decide⟩ (Nat.le_of_ble_eq_true rfl) rfl (Nat.le_of_ble_eq_true rfl) (Nat.le_of_ble_eq_true rfl) ⟨Nat.zero_le _, Nat.zero_le _⟩ dX11_otherwise_141 (fun r Γ' h2 q => ?_)
  obtain ⟨x2, q0, rfl, p2⟩ := q; cases q0
  refine j_eqst [.int x2, .int x1, .int l3] (by rfl) ?_
  refine j_icmp_eq (off := 7) 151 dX11_otherwise_144 (by decide) (fun c1 => ?_) (fun c1 => ?_)
  · exact j_le [some (.ref 0), some (.int l1), some (.int l2), some (.int l3), some (.int l4), some (.int l5)] (And.intro rfl (And.intro rfl (And.intro rfl (And.intro rfl (And.intro rfl (And.intro rfl True.intro)))))) (v1 x1 h1 p1 x2 h2 p2 c1)
  · exact j_le [some (.ref 0), some (.int l1), some (.int l2), some (.int l3), some (.int l4), some (.int l5)] (And.intro rfl (And.intro rfl (And.intro rfl (And.intro rfl (And.intro rfl (And.intro rfl True.intro)))))) (v2 x1 h1 p1 x2 h2 p2 c1)
set_option maxRecDepth 100000 in
theorem bX11_otherwise_147 {sc : Nat × (Nat → Int32)} {h : jH} {Q : jQ} {l1 l2 l3 l4 l5 s0 : Int32}
    (v1 : WP mX11_otherwise Q 152 [some (.ref 0), some (.int l1), some (.int l2), some (.int l3), some (.int l4), some (.int l5)] [.int 1, .int s0] (jG0 sc) h (0, 0)) :
    WP mX11_otherwise Q 147 [some (.ref 0), some (.int l1), some (.int l2), some (.int l3), some (.int l4), some (.int l5)] [.int s0] (jG0 sc) h (0, 0) := by
  refine j_iconst (n := 1) 1 (by decide) dX11_otherwise_147 ?_
  refine j_goto (off := 4) 152 dX11_otherwise_148 (by decide) ?_
  exact j_le [some (.ref 0), some (.int l1), some (.int l2), some (.int l3), some (.int l4), some (.int l5)] (And.intro rfl (And.intro rfl (And.intro rfl (And.intro rfl (And.intro rfl (And.intro rfl True.intro)))))) v1
set_option maxRecDepth 100000 in
theorem bX11_otherwise_151 {sc : Nat × (Nat → Int32)} {h : jH} {Q : jQ} {l1 l2 l3 l4 l5 s0 : Int32}
    (v1 : WP mX11_otherwise Q 152 [some (.ref 0), some (.int l1), some (.int l2), some (.int l3), some (.int l4), some (.int l5)] [.int 0, .int s0] (jG0 sc) h (0, 0)) :
    WP mX11_otherwise Q 151 [some (.ref 0), some (.int l1), some (.int l2), some (.int l3), some (.int l4), some (.int l5)] [.int s0] (jG0 sc) h (0, 0) := by
  refine j_iconst (n := 0) 0 (by decide) dX11_otherwise_151 ?_
  exact j_le [some (.ref 0), some (.int l1), some (.int l2), some (.int l3), some (.int l4), some (.int l5)] (And.intro rfl (And.intro rfl (And.intro rfl (And.intro rfl (And.intro rfl (And.intro rfl True.intro)))))) v1
set_option maxRecDepth 100000 in
theorem bX11_otherwise_152 {sc : Nat × (Nat → Int32)} {h : jH} {Q : jQ} {l1 l2 l3 l4 l5 s0 s1 : Int32}
    (v1 : WP mX11_otherwise Q 98 [some (.ref 0), some (.int l1), some (.int l2), some (.int (s1 + s0)), some (.int l4), some (.int (l5 + 1))] [] (jG0 sc) h (0, 0)) :
    WP mX11_otherwise Q 152 [some (.ref 0), some (.int l1), some (.int l2), some (.int l3), some (.int l4), some (.int l5)] [.int s0, .int s1] (jG0 sc) h (0, 0) := by
  refine j_iadd dX11_otherwise_152 ?_
  refine j_istore_n (i := 3) dX11_otherwise_153 (Nat.le_of_ble_eq_true rfl) ?_
  refine j_iinc (i := 5) (n := 1) rfl dX11_otherwise_154 (Nat.le_of_ble_eq_true rfl) ?_
  refine j_eqlv [some (.ref 0), some (.int l1), some (.int l2), some (.int (s1 + s0)), some (.int l4), some (.int (l5 + 1))] rfl ?_
  refine j_goto (off := -59) 98 dX11_otherwise_157 (by decide) ?_
  exact j_le [some (.ref 0), some (.int l1), some (.int l2), some (.int (s1 + s0)), some (.int l4), some (.int (l5 + 1))] (And.intro rfl (And.intro rfl (And.intro rfl (And.intro rfl (And.intro rfl (And.intro rfl True.intro)))))) v1
set_option maxRecDepth 100000 in
theorem bX11_otherwise_160 {sc : Nat × (Nat → Int32)} {h : jH} {Q : jQ} {l1 l2 l3 l4 l5 : Int32}
    (v1 : WP mX11_otherwise Q 83 [some (.ref 0), some (.int l1), some (.int l2), some (.int l3), some (.int (l4 + 1)), none] [] (jG0 sc) h (0, 0)) :
    WP mX11_otherwise Q 160 [some (.ref 0), some (.int l1), some (.int l2), some (.int l3), some (.int l4), some (.int l5)] [] (jG0 sc) h (0, 0) := by
  refine j_iinc (i := 4) (n := 1) rfl dX11_otherwise_160 (Nat.le_of_ble_eq_true rfl) ?_
  refine j_eqlv [some (.ref 0), some (.int l1), some (.int l2), some (.int l3), some (.int (l4 + 1)), some (.int l5)] rfl ?_
  refine j_goto (off := -80) 83 dX11_otherwise_163 (by decide) ?_
  exact j_le [some (.ref 0), some (.int l1), some (.int l2), some (.int l3), some (.int (l4 + 1)), none] (And.intro rfl (And.intro rfl (And.intro rfl (And.intro rfl (And.intro rfl True.intro))))) v1
set_option maxRecDepth 100000 in
theorem bX11_otherwise_166 {sc : Nat × (Nat → Int32)} {h : jH} {Q : jQ} {l1 l2 l3 l4 : Int32}
    (v1 : Q (.inl (some (.int l3))) (jG0 sc) h) :
    WP mX11_otherwise Q 166 [some (.ref 0), some (.int l1), some (.int l2), some (.int l3), some (.int l4), none] [] (jG0 sc) h (0, 0) := by
  refine j_iload_n (i := 3) rfl dX11_otherwise_166 ?_
  exact j_iret rfl rfl (Nat.zero_le _) (Nat.zero_le _) dX11_otherwise_167 v1
set_option maxRecDepth 100000 in
theorem rX11_otherwise_0 {sc : Nat × (Nat → Int32)} {h : jH} {Q : jQ} {l1 : Int32} {P1 : Int32 → jH → Prop} {P2 : Int32 → jH → Prop} {P3 : Int32 → jH → Prop} {P4 : Int32 → jH → Prop} {P5 : Int32 → jH → Prop}
    (k1 : JM mX11_keptNumber [.ref 0, .int l1] (jG0 sc) h (jint sc P1))
    (k2 : ∀ (x1 : Int32) (h1 : jH), P1 x1 h1 → l1 = (-1) → JM mX11_hasBody [.ref 0] (jG0 sc) h1 (jint sc P2))
    (v1 : ∀ (x1 : Int32) (h1 : jH), P1 x1 h1 → l1 = (-1) → ∀ (x2 : Int32) (h2 : jH), P2 x2 h2 → x2 = 0 → Q (.inr "java/lang/IllegalStateException") (jG0 sc) h2)
    (k3 : ∀ (x1 : Int32) (h1 : jH), P1 x1 h1 → l1 = (-1) → ∀ (x2 : Int32) (h2 : jH), P2 x2 h2 → ¬ x2 = 0 → ¬ (h2 12 1) = 0 → JM mX3_shape [.ref 75, .ref 10, .int x1, .ref 89] (jG0 sc) h2 (jint sc P3))
    (v2 : ∀ (x1 : Int32) (h1 : jH), P1 x1 h1 → l1 = (-1) → ∀ (x2 : Int32) (h2 : jH), P2 x2 h2 → ¬ x2 = 0 → ¬ (h2 12 1) = 0 → ∀ (x3 : Int32) (h3 : jH), P3 x3 h3 → WP mX11_otherwise Q 83 [some (.ref 0), some (.int l1), some (.int x1), some (.int 0), some (.int 0), none] [] (jG0 sc) h3 (0, 0))
    (v3 : ∀ (x1 : Int32) (h1 : jH), P1 x1 h1 → l1 = (-1) → ∀ (x2 : Int32) (h2 : jH), P2 x2 h2 → ¬ x2 = 0 → (h2 12 1) = 0 → Q (.inr "java/lang/IllegalStateException") (jG0 sc) h2)
    (k4 : ∀ (x1 : Int32) (h1 : jH), P1 x1 h1 → ¬ l1 = (-1) → ¬ x1 = (-1) → JM mX11_hasBody [.ref 0] (jG0 sc) h1 (jint sc P4))
    (v4 : ∀ (x1 : Int32) (h1 : jH), P1 x1 h1 → ¬ l1 = (-1) → ¬ x1 = (-1) → ∀ (x4 : Int32) (h4 : jH), P4 x4 h4 → x4 = 0 → Q (.inr "java/lang/IllegalStateException") (jG0 sc) h4)
    (k5 : ∀ (x1 : Int32) (h1 : jH), P1 x1 h1 → ¬ l1 = (-1) → ¬ x1 = (-1) → ∀ (x4 : Int32) (h4 : jH), P4 x4 h4 → ¬ x4 = 0 → ¬ (h4 12 1) = 0 → JM mX3_shape [.ref 75, .ref 10, .int x1, .ref 89] (jG0 sc) h4 (jint sc P5))
    (v5 : ∀ (x1 : Int32) (h1 : jH), P1 x1 h1 → ¬ l1 = (-1) → ¬ x1 = (-1) → ∀ (x4 : Int32) (h4 : jH), P4 x4 h4 → ¬ x4 = 0 → ¬ (h4 12 1) = 0 → ∀ (x5 : Int32) (h5 : jH), P5 x5 h5 → WP mX11_otherwise Q 83 [some (.ref 0), some (.int l1), some (.int x1), some (.int 0), some (.int 0), none] [] (jG0 sc) h5 (0, 0))
    (v6 : ∀ (x1 : Int32) (h1 : jH), P1 x1 h1 → ¬ l1 = (-1) → ¬ x1 = (-1) → ∀ (x4 : Int32) (h4 : jH), P4 x4 h4 → ¬ x4 = 0 → (h4 12 1) = 0 → Q (.inr "java/lang/IllegalStateException") (jG0 sc) h4)
    (v7 : ∀ (x1 : Int32) (h1 : jH), P1 x1 h1 → ¬ l1 = (-1) → x1 = (-1) → Q (.inr "java/lang/IndexOutOfBoundsException") (jG0 sc) h1) :
    WP mX11_otherwise Q 0 [some (.ref 0), some (.int l1), none, none, none, none] [] (jG0 sc) h (0, 0) := by
  exact (bX11_otherwise_0 k1 (fun x1 h1 p1 c1 => (bX11_otherwise_27 (k2 x1 h1 p1 c1) (fun x2 h2 p2 c2 => (bX11_otherwise_47 (v1 x1 h1 p1 c1 x2 h2 p2 c2))) (fun x2 h2 p2 c2 => (bX11_otherwise_34 (fun c3 => (bX11_otherwise_58 (k3 x1 h1 p1 c1 x2 h2 p2 c2 c3) (fun x3 h3 p3 => (v2 x1 h1 p1 c1 x2 h2 p2 c2 c3 x3 h3 p3)))) (fun c3 => (bX11_otherwise_47 (v3 x1 h1 p1 c1 x2 h2 p2 c2 c3))))))) (fun x1 h1 p1 c1 => (bX11_otherwise_11 (fun c4 => (bX11_otherwise_27 (k4 x1 h1 p1 c1 c4) (fun x4 h4 p4 c5 => (bX11_otherwise_47 (v4 x1 h1 p1 c1 c4 x4 h4 p4 c5))) (fun x4 h4 p4 c5 => (bX11_otherwise_34 (fun c6 => (bX11_otherwise_58 (k5 x1 h1 p1 c1 c4 x4 h4 p4 c5 c6) (fun x5 h5 p5 => (v5 x1 h1 p1 c1 c4 x4 h4 p4 c5 c6 x5 h5 p5)))) (fun c6 => (bX11_otherwise_47 (v6 x1 h1 p1 c1 c4 x4 h4 p4 c5 c6))))))) (fun c4 => (bX11_otherwise_16 (v7 x1 h1 p1 c1 c4))))))
set_option maxRecDepth 100000 in
theorem rX11_otherwise_83 {sc : Nat × (Nat → Int32)} {h : jH} {Q : jQ} {l1 l2 l3 l4 : Int32}
    (v1 : (h 9 8) < l4 → Q (.inl (some (.int l3))) (jG0 sc) h)
    (v2 : ¬ (h 9 8) < l4 → WP mX11_otherwise Q 98 [some (.ref 0), some (.int l1), some (.int l2), some (.int l3), some (.int l4), some (.int 0)] [] (jG0 sc) h (0, 0)) :
    WP mX11_otherwise Q 83 [some (.ref 0), some (.int l1), some (.int l2), some (.int l3), some (.int l4), none] [] (jG0 sc) h (0, 0) := by
  exact (bX11_otherwise_83 (fun c1 => (bX11_otherwise_166 (v1 c1))) (fun c1 => (bX11_otherwise_95 (v2 c1))))
set_option maxRecDepth 100000 in
theorem rX11_otherwise_98 {sc : Nat × (Nat → Int32)} {h : jH} {Q : jQ} {l1 l2 l3 l4 l5 : Int32} {P1 : Int32 → jH → Prop} {P2 : Int32 → jH → Prop}
    (v1 : (h 9 8) < l5 → WP mX11_otherwise Q 83 [some (.ref 0), some (.int l1), some (.int l2), some (.int l3), some (.int (l4 + 1)), none] [] (jG0 sc) h (0, 0))
    (k1 : ¬ (h 9 8) < l5 → JM mX10_through [.ref 69, .ref 89, .int l4, .int l5] (jG0 sc) h (jint sc P1))
    (k2 : ¬ (h 9 8) < l5 → ∀ (x1 : Int32) (h1 : jH), P1 x1 h1 → JM mX10_through [.ref 69, .ref 12, .int l4, .int l5] (jG0 sc) h1 (jint sc P2))
    (v2 : ¬ (h 9 8) < l5 → ∀ (x1 : Int32) (h1 : jH), P1 x1 h1 → ∀ (x2 : Int32) (h2 : jH), P2 x2 h2 → x1 = x2 → WP mX11_otherwise Q 98 [some (.ref 0), some (.int l1), some (.int l2), some (.int (l3 + 0)), some (.int l4), some (.int (l5 + 1))] [] (jG0 sc) h2 (0, 0))
    (v3 : ¬ (h 9 8) < l5 → ∀ (x1 : Int32) (h1 : jH), P1 x1 h1 → ∀ (x2 : Int32) (h2 : jH), P2 x2 h2 → ¬ x1 = x2 → WP mX11_otherwise Q 98 [some (.ref 0), some (.int l1), some (.int l2), some (.int (l3 + 1)), some (.int l4), some (.int (l5 + 1))] [] (jG0 sc) h2 (0, 0)) :
    WP mX11_otherwise Q 98 [some (.ref 0), some (.int l1), some (.int l2), some (.int l3), some (.int l4), some (.int l5)] [] (jG0 sc) h (0, 0) := by
  exact (bX11_otherwise_98 (fun c1 => (bX11_otherwise_160 (v1 c1))) (fun c1 => (bX11_otherwise_110 (k1 c1) (fun x1 h1 p1 => (k2 c1 x1 h1 p1)) (fun x1 h1 p1 x2 h2 p2 c2 => (bX11_otherwise_151 (bX11_otherwise_152 (v2 c1 x1 h1 p1 x2 h2 p2 c2)))) (fun x1 h1 p1 x2 h2 p2 c2 => (bX11_otherwise_147 (bX11_otherwise_152 (v3 c1 x1 h1 p1 x2 h2 p2 c2)))))))
theorem dX11_heaps_0 : decode (mC mX11_heaps) 0 = .ok (.aload_n 0, 1) := by decide +kernel
theorem dX11_heaps_1 : decode (mC mX11_heaps) 1 = .ok (.invokevirtual 213, 3) := by decide +kernel
theorem dX11_heaps_4 : decode (mC mX11_heaps) 4 = .ok (.ifCond .ne 13, 3) := by decide +kernel
theorem dX11_heaps_7 : decode (mC mX11_heaps) 7 = .ok (.new 203, 3) := by decide +kernel
theorem dX11_heaps_10 : decode (mC mX11_heaps) 10 = .ok (.dup, 1) := by decide +kernel
theorem dX11_heaps_11 : decode (mC mX11_heaps) 11 = .ok (.ldc 217, 2) := by decide +kernel
theorem dX11_heaps_13 : decode (mC mX11_heaps) 13 = .ok (.invokespecial 207, 3) := by decide +kernel
theorem dX11_heaps_16 : decode (mC mX11_heaps) 16 = .ok (.athrow, 1) := by decide +kernel
theorem dX11_heaps_17 : decode (mC mX11_heaps) 17 = .ok (.aload_n 0, 1) := by decide +kernel
theorem dX11_heaps_18 : decode (mC mX11_heaps) 18 = .ok (.aload_n 0, 1) := by decide +kernel
theorem dX11_heaps_19 : decode (mC mX11_heaps) 19 = .ok (.getfield 37, 3) := by decide +kernel
theorem dX11_heaps_22 : decode (mC mX11_heaps) 22 = .ok (.getfield 127, 3) := by decide +kernel
theorem dX11_heaps_25 : decode (mC mX11_heaps) 25 = .ok (.invokevirtual 293, 3) := by decide +kernel
theorem dX11_heaps_28 : decode (mC mX11_heaps) 28 = .ok (.istore_n 1, 1) := by decide +kernel
theorem dX11_heaps_29 : decode (mC mX11_heaps) 29 = .ok (.iconst 1, 1) := by decide +kernel
theorem dX11_heaps_30 : decode (mC mX11_heaps) 30 = .ok (.aload_n 0, 1) := by decide +kernel
theorem dX11_heaps_31 : decode (mC mX11_heaps) 31 = .ok (.getfield 37, 3) := by decide +kernel
theorem dX11_heaps_34 : decode (mC mX11_heaps) 34 = .ok (.getfield 169, 3) := by decide +kernel
theorem dX11_heaps_37 : decode (mC mX11_heaps) 37 = .ok (.getfield 173, 3) := by decide +kernel
theorem dX11_heaps_40 : decode (mC mX11_heaps) 40 = .ok (.ishl, 1) := by decide +kernel
theorem dX11_heaps_41 : decode (mC mX11_heaps) 41 = .ok (.iconst 1, 1) := by decide +kernel
theorem dX11_heaps_42 : decode (mC mX11_heaps) 42 = .ok (.isub, 1) := by decide +kernel
theorem dX11_heaps_43 : decode (mC mX11_heaps) 43 = .ok (.iload_n 1, 1) := by decide +kernel
theorem dX11_heaps_44 : decode (mC mX11_heaps) 44 = .ok (.iconst (-1), 1) := by decide +kernel
theorem dX11_heaps_45 : decode (mC mX11_heaps) 45 = .ok (.ixor, 1) := by decide +kernel
theorem dX11_heaps_46 : decode (mC mX11_heaps) 46 = .ok (.iand, 1) := by decide +kernel
theorem dX11_heaps_47 : decode (mC mX11_heaps) 47 = .ok (.istore_n 2, 1) := by decide +kernel
theorem dX11_heaps_48 : decode (mC mX11_heaps) 48 = .ok (.aload_n 0, 1) := by decide +kernel
theorem dX11_heaps_49 : decode (mC mX11_heaps) 49 = .ok (.iload_n 1, 1) := by decide +kernel
theorem dX11_heaps_50 : decode (mC mX11_heaps) 50 = .ok (.iload_n 2, 1) := by decide +kernel
theorem dX11_heaps_51 : decode (mC mX11_heaps) 51 = .ok (.invokevirtual 399, 3) := by decide +kernel
theorem dX11_heaps_54 : decode (mC mX11_heaps) 54 = .ok (.istore_n 3, 1) := by decide +kernel
theorem dX11_heaps_55 : decode (mC mX11_heaps) 55 = .ok (.iconst 0, 1) := by decide +kernel
theorem dX11_heaps_56 : decode (mC mX11_heaps) 56 = .ok (.istore 4, 2) := by decide +kernel
theorem dX11_heaps_58 : decode (mC mX11_heaps) 58 = .ok (.iconst 0, 1) := by decide +kernel
theorem dX11_heaps_59 : decode (mC mX11_heaps) 59 = .ok (.istore 5, 2) := by decide +kernel
theorem dX11_heaps_61 : decode (mC mX11_heaps) 61 = .ok (.iload 5, 2) := by decide +kernel
theorem dX11_heaps_63 : decode (mC mX11_heaps) 63 = .ok (.iload_n 3, 1) := by decide +kernel
theorem dX11_heaps_64 : decode (mC mX11_heaps) 64 = .ok (.if_icmp .ge 31, 3) := by decide +kernel
theorem dX11_heaps_67 : decode (mC mX11_heaps) 67 = .ok (.iload 5, 2) := by decide +kernel
theorem dX11_heaps_69 : decode (mC mX11_heaps) 69 = .ok (.aload_n 0, 1) := by decide +kernel
theorem dX11_heaps_70 : decode (mC mX11_heaps) 70 = .ok (.getfield 92, 3) := by decide +kernel
theorem dX11_heaps_73 : decode (mC mX11_heaps) 73 = .ok (.arraylength, 1) := by decide +kernel
theorem dX11_heaps_74 : decode (mC mX11_heaps) 74 = .ok (.if_icmp .ge 21, 3) := by decide +kernel
theorem dX11_heaps_77 : decode (mC mX11_heaps) 77 = .ok (.iload 4, 2) := by decide +kernel
theorem dX11_heaps_79 : decode (mC mX11_heaps) 79 = .ok (.aload_n 0, 1) := by decide +kernel
theorem dX11_heaps_80 : decode (mC mX11_heaps) 80 = .ok (.getfield 92, 3) := by decide +kernel
theorem dX11_heaps_83 : decode (mC mX11_heaps) 83 = .ok (.iload 5, 2) := by decide +kernel
theorem dX11_heaps_85 : decode (mC mX11_heaps) 85 = .ok (.iaload, 1) := by decide +kernel
theorem dX11_heaps_86 : decode (mC mX11_heaps) 86 = .ok (.ior, 1) := by decide +kernel
theorem dX11_heaps_87 : decode (mC mX11_heaps) 87 = .ok (.istore 4, 2) := by decide +kernel
theorem dX11_heaps_89 : decode (mC mX11_heaps) 89 = .ok (.iinc 5 1, 3) := by decide +kernel
theorem dX11_heaps_92 : decode (mC mX11_heaps) 92 = .ok (.goto (-31), 3) := by decide +kernel
theorem dX11_heaps_95 : decode (mC mX11_heaps) 95 = .ok (.iload 4, 2) := by decide +kernel
theorem dX11_heaps_97 : decode (mC mX11_heaps) 97 = .ok (.iload_n 2, 1) := by decide +kernel
theorem dX11_heaps_98 : decode (mC mX11_heaps) 98 = .ok (.if_icmp .ne 12, 3) := by decide +kernel
theorem dX11_heaps_101 : decode (mC mX11_heaps) 101 = .ok (.aload_n 0, 1) := by decide +kernel
theorem dX11_heaps_102 : decode (mC mX11_heaps) 102 = .ok (.iload_n 2, 1) := by decide +kernel
theorem dX11_heaps_103 : decode (mC mX11_heaps) 103 = .ok (.iload_n 3, 1) := by decide +kernel
theorem dX11_heaps_104 : decode (mC mX11_heaps) 104 = .ok (.invokevirtual 402, 3) := by decide +kernel
theorem dX11_heaps_107 : decode (mC mX11_heaps) 107 = .ok (.goto 4, 3) := by decide +kernel
theorem dX11_heaps_110 : decode (mC mX11_heaps) 110 = .ok (.iconst (-1), 1) := by decide +kernel
theorem dX11_heaps_111 : decode (mC mX11_heaps) 111 = .ok (.ireturn, 1) := by decide +kernel
set_option maxRecDepth 100000 in
theorem bX11_heaps_0 {sc : Nat × (Nat → Int32)} {h : jH} {Q : jQ} {P1 : Int32 → jH → Prop}
    (k1 : JM mX11_hasBody [.ref 0] (jG0 sc) h (jint sc P1))
    (v1 : ∀ (x1 : Int32) (h1 : jH), P1 x1 h1 → ¬ x1 = 0 → WP mX11_heaps Q 17 [some (.ref 0), none, none, none, none, none] [] (jG0 sc) h1 (0, 0))
    (v2 : ∀ (x1 : Int32) (h1 : jH), P1 x1 h1 → x1 = 0 → WP mX11_heaps Q 7 [some (.ref 0), none, none, none, none, none] [] (jG0 sc) h1 (0, 0)) :
    WP mX11_heaps Q 0 [some (.ref 0), none, none, none, none, none] [] (jG0 sc) h (0, 0) := by
  refine j_aload_n (i := 0) rfl dX11_heaps_0 ?_
  refine j_callV (idx := 213) (As := []) (ci := 11) (n := 0) k1 jint_nt (jlkT (jtb3 180 rfl) rfl) sX11_hasBody kX11_hasBody rfl ⟨rfl, by decide +kernel, by decide +kernel, by decide +kernel⟩ rfl ⟨by decide, by decide⟩ (Nat.le_of_ble_eq_true rfl) rfl (Nat.le_of_ble_eq_true rfl) (Nat.le_of_ble_eq_true rfl) ⟨Nat.zero_le _, Nat.zero_le _⟩ dX11_heaps_1 (fun r Γ' h1 q => ?_)
  obtain ⟨x1, q0, rfl, p1⟩ := q; cases q0
  refine j_eqst [.int x1] (by rfl) ?_
  refine j_if_ne (off := 13) 17 dX11_heaps_4 (by decide) (fun c1 => ?_) (fun c1 => ?_)
  · exact j_le [some (.ref 0), none, none, none, none, none] (And.intro rfl True.intro) (v1 x1 h1 p1 c1)
  · exact j_le [some (.ref 0), none, none, none, none, none] (And.intro rfl True.intro) (v2 x1 h1 p1 c1)
set_option maxRecDepth 100000 in
theorem bX11_heaps_7 {sc : Nat × (Nat → Int32)} {h : jH} {Q : jQ}
    (v1 : Q (.inr "java/lang/IllegalStateException") (jG0 sc) h) :
    WP mX11_heaps Q 7 [some (.ref 0), none, none, none, none, none] [] (jG0 sc) h (0, 0) := by
  exact j_thr_ISE (is := 217) "there is no BODY" 30 (by decide +kernel) rfl rfl (by decide) (by decide) (Nat.le_of_ble_eq_true rfl) dX11_heaps_7 dX11_heaps_10 dX11_heaps_11 dX11_heaps_13 dX11_heaps_16 v1
set_option maxRecDepth 100000 in
theorem bX11_heaps_17 {sc : Nat × (Nat → Int32)} {h : jH} {Q : jQ} {P1 : Int32 → jH → Prop}
    (k1 : JM mX11_rightBits [.ref 0, .ref 10] (jG0 sc) h (jint sc P1))
    (v1 : ∀ (x1 : Int32) (h1 : jH), P1 x1 h1 → WP mX11_heaps Q 49 [some (.ref 0), some (.int x1), some (.int ((((1 : Int32) <<< ((h1 14 3) &&& 31)) - 1) &&& (x1 ^^^ ((-1) : Int32)))), none, none, none] [.ref 0] (jG0 sc) h1 (0, 0)) :
    WP mX11_heaps Q 17 [some (.ref 0), none, none, none, none, none] [] (jG0 sc) h (0, 0) := by
  refine j_aload_n (i := 0) rfl dX11_heaps_17 ?_
  refine j_aload_n (i := 0) rfl dX11_heaps_18 ?_
  refine j_getR (idx := 37) (ci := 11) (k := 4) (nest := false) (show (11, 37, 11, 4, false) ∈ jFT by decide) rfl (Nat.le_of_ble_eq_true rfl) rfl (a := 9) rfl dX11_heaps_19 ?_
  refine j_getR (idx := 127) (ci := 6) (k := 0) (nest := true) (show (11, 127, 6, 0, true) ∈ jFT by decide) rfl (Nat.le_of_ble_eq_true rfl) rfl (a := 10) rfl dX11_heaps_22 ?_
  refine j_callV (idx := 293) (As := [.ref 10]) (ci := 11) (n := 1) k1 jint_nt (jlkT (jtb3 184 rfl) rfl) sX11_rightBits kX11_rightBits rfl ⟨rfl, by decide +kernel, by decide +kernel, by decide +kernel⟩ rfl ⟨by decide, by decide⟩ (Nat.le_of_ble_eq_true rfl) rfl (Nat.le_of_ble_eq_true rfl) (Nat.le_of_ble_eq_true rfl) ⟨Nat.zero_le _, Nat.zero_le _⟩ dX11_heaps_25 (fun r Γ' h1 q => ?_)
  obtain ⟨x1, q0, rfl, p1⟩ := q; cases q0
  refine j_eqst [.int x1] (by rfl) ?_
  refine j_istore_n (i := 1) dX11_heaps_28 (Nat.le_of_ble_eq_true rfl) ?_
  refine j_iconst (n := 1) 1 (by decide) dX11_heaps_29 ?_
  refine j_aload_n (i := 0) rfl dX11_heaps_30 ?_
  refine j_getR (idx := 37) (ci := 11) (k := 4) (nest := false) (show (11, 37, 11, 4, false) ∈ jFT by decide) rfl (Nat.le_of_ble_eq_true rfl) rfl (a := 9) rfl dX11_heaps_31 ?_
  refine j_getR (idx := 169) (ci := 6) (k := 2) (nest := true) (show (11, 169, 6, 2, true) ∈ jFT by decide) rfl (Nat.le_of_ble_eq_true rfl) rfl (a := 14) rfl dX11_heaps_34 ?_
  refine j_getI (idx := 173) (ci := 5) (k := 3) (nest := true) (show (11, 173, 5, 3, true) ∈ jFT by decide) rfl (Nat.le_of_ble_eq_true rfl) rfl dX11_heaps_37 ?_
  refine j_ishl dX11_heaps_40 ?_
  refine j_iconst (n := 1) 1 (by decide) dX11_heaps_41 ?_
  refine j_isub dX11_heaps_42 ?_
  refine j_iload_n (i := 1) rfl dX11_heaps_43 ?_
  refine j_iconst (n := (-1)) (-1) (by decide) dX11_heaps_44 ?_
  refine j_ixor dX11_heaps_45 ?_
  refine j_iand dX11_heaps_46 ?_
  refine j_istore_n (i := 2) dX11_heaps_47 (Nat.le_of_ble_eq_true rfl) ?_
  refine j_aload_n (i := 0) rfl dX11_heaps_48 ?_
  exact j_le [some (.ref 0), some (.int x1), some (.int ((((1 : Int32) <<< ((h1 14 3) &&& 31)) - 1) &&& (x1 ^^^ ((-1) : Int32)))), none, none, none] (And.intro rfl (And.intro rfl (And.intro rfl True.intro))) (v1 x1 h1 p1)
set_option maxRecDepth 100000 in
theorem bX11_heaps_49 {sc : Nat × (Nat → Int32)} {h : jH} {Q : jQ} {l1 l2 : Int32} {P1 : Int32 → jH → Prop}
    (k1 : JM mX11_listGains [.ref 0, .int l1, .int l2] (jG0 sc) h (jint sc P1))
    (v1 : ∀ (x1 : Int32) (h1 : jH), P1 x1 h1 → WP mX11_heaps Q 61 [some (.ref 0), some (.int l1), some (.int l2), some (.int x1), some (.int 0), some (.int 0)] [] (jG0 sc) h1 (0, 0)) :
    WP mX11_heaps Q 49 [some (.ref 0), some (.int l1), some (.int l2), none, none, none] [.ref 0] (jG0 sc) h (0, 0) := by
  refine j_iload_n (i := 1) rfl dX11_heaps_49 ?_
  refine j_iload_n (i := 2) rfl dX11_heaps_50 ?_
  refine j_callV (idx := 399) (As := [.int l1, .int l2]) (ci := 11) (n := 2) k1 jint_nt (jlkT (jtb6 1 rfl) rfl) sX11_listGains kX11_listGains rfl ⟨rfl, by decide +kernel, by decide +kernel, by decide +kernel⟩ rfl ⟨by decide, by decide⟩ (Nat.le_of_ble_eq_true rfl) rfl (Nat.le_of_ble_eq_true rfl) (Nat.le_of_ble_eq_true rfl) ⟨Nat.zero_le _, Nat.zero_le _⟩ dX11_heaps_51 (fun r Γ' h1 q => ?_)
  obtain ⟨x1, q0, rfl, p1⟩ := q; cases q0
  refine j_eqst [.int x1] (by rfl) ?_
  refine j_istore_n (i := 3) dX11_heaps_54 (Nat.le_of_ble_eq_true rfl) ?_
  refine j_iconst (n := 0) 0 (by decide) dX11_heaps_55 ?_
  refine j_istore (i := 4) dX11_heaps_56 (Nat.le_of_ble_eq_true rfl) ?_
  refine j_iconst (n := 0) 0 (by decide) dX11_heaps_58 ?_
  refine j_istore (i := 5) dX11_heaps_59 (Nat.le_of_ble_eq_true rfl) ?_
  exact j_le [some (.ref 0), some (.int l1), some (.int l2), some (.int x1), some (.int 0), some (.int 0)] (And.intro rfl (And.intro rfl (And.intro rfl (And.intro rfl (And.intro rfl (And.intro rfl True.intro)))))) (v1 x1 h1 p1)
set_option maxRecDepth 100000 in
theorem bX11_heaps_61 {sc : Nat × (Nat → Int32)} {h : jH} {Q : jQ} {l1 l2 l3 l4 l5 : Int32}
    (v1 : l3 ≤ l5 → WP mX11_heaps Q 95 [some (.ref 0), some (.int l1), some (.int l2), some (.int l3), some (.int l4), some (.int l5)] [] (jG0 sc) h (0, 0))
    (v2 : ¬ l3 ≤ l5 → WP mX11_heaps Q 67 [some (.ref 0), some (.int l1), some (.int l2), some (.int l3), some (.int l4), some (.int l5)] [] (jG0 sc) h (0, 0)) :
    WP mX11_heaps Q 61 [some (.ref 0), some (.int l1), some (.int l2), some (.int l3), some (.int l4), some (.int l5)] [] (jG0 sc) h (0, 0) := by
  refine j_iload (i := 5) rfl dX11_heaps_61 ?_
  refine j_iload_n (i := 3) rfl dX11_heaps_63 ?_
  refine j_icmp_ge (off := 31) 95 dX11_heaps_64 (by decide) (fun c1 => ?_) (fun c1 => ?_)
  · exact j_le [some (.ref 0), some (.int l1), some (.int l2), some (.int l3), some (.int l4), some (.int l5)] (And.intro rfl (And.intro rfl (And.intro rfl (And.intro rfl (And.intro rfl (And.intro rfl True.intro)))))) (v1 c1)
  · exact j_le [some (.ref 0), some (.int l1), some (.int l2), some (.int l3), some (.int l4), some (.int l5)] (And.intro rfl (And.intro rfl (And.intro rfl (And.intro rfl (And.intro rfl (And.intro rfl True.intro)))))) (v2 c1)
set_option maxRecDepth 100000 in
theorem bX11_heaps_67 {sc : Nat × (Nat → Int32)} {h : jH} {Q : jQ} {l1 l2 l3 l4 l5 : Int32}
    (v1 : 300 ≤ l5 → WP mX11_heaps Q 95 [some (.ref 0), some (.int l1), some (.int l2), some (.int l3), some (.int l4), some (.int l5)] [] (jG0 sc) h (0, 0))
    (v2 : ¬ 300 ≤ l5 → WP mX11_heaps Q 77 [some (.ref 0), some (.int l1), some (.int l2), some (.int l3), some (.int l4), some (.int l5)] [] (jG0 sc) h (0, 0)) :
    WP mX11_heaps Q 67 [some (.ref 0), some (.int l1), some (.int l2), some (.int l3), some (.int l4), some (.int l5)] [] (jG0 sc) h (0, 0) := by
  refine j_iload (i := 5) rfl dX11_heaps_67 ?_
  refine j_aload_n (i := 0) rfl dX11_heaps_69 ?_
  refine j_getR (idx := 92) (ci := 11) (k := 17) (nest := false) (show (11, 92, 11, 17, false) ∈ jFT by decide) rfl (Nat.le_of_ble_eq_true rfl) rfl (a := 97) rfl dX11_heaps_70 ?_
  refine j_alen (Nat.le_of_ble_eq_true rfl) rfl rfl 300 rfl dX11_heaps_73 ?_
  refine j_icmp_ge (off := 21) 95 dX11_heaps_74 (by decide) (fun c1 => ?_) (fun c1 => ?_)
  · exact j_le [some (.ref 0), some (.int l1), some (.int l2), some (.int l3), some (.int l4), some (.int l5)] (And.intro rfl (And.intro rfl (And.intro rfl (And.intro rfl (And.intro rfl (And.intro rfl True.intro)))))) (v1 c1)
  · exact j_le [some (.ref 0), some (.int l1), some (.int l2), some (.int l3), some (.int l4), some (.int l5)] (And.intro rfl (And.intro rfl (And.intro rfl (And.intro rfl (And.intro rfl (And.intro rfl True.intro)))))) (v2 c1)
set_option maxRecDepth 100000 in
theorem bX11_heaps_77 {sc : Nat × (Nat → Int32)} {h : jH} {Q : jQ} {l1 l2 l3 l4 l5 : Int32}
    (o1 : vp_in l5 300)
    (v1 : WP mX11_heaps Q 61 [some (.ref 0), some (.int l1), some (.int l2), some (.int l3), some (.int (l4 ||| (h 97 l5.toNatClampNeg))), some (.int (l5 + 1))] [] (jG0 sc) h (0, 0)) :
    WP mX11_heaps Q 77 [some (.ref 0), some (.int l1), some (.int l2), some (.int l3), some (.int l4), some (.int l5)] [] (jG0 sc) h (0, 0) := by
  refine j_iload (i := 4) rfl dX11_heaps_77 ?_
  refine j_aload_n (i := 0) rfl dX11_heaps_79 ?_
  refine j_getR (idx := 92) (ci := 11) (k := 17) (nest := false) (show (11, 92, 11, 17, false) ∈ jFT by decide) rfl (Nat.le_of_ble_eq_true rfl) rfl (a := 97) rfl dX11_heaps_80 ?_
  refine j_iload (i := 5) rfl dX11_heaps_83 ?_
  refine j_iald (Nat.le_of_ble_eq_true rfl) rfl o1 dX11_heaps_85 ?_
  refine j_ior dX11_heaps_86 ?_
  refine j_istore (i := 4) dX11_heaps_87 (Nat.le_of_ble_eq_true rfl) ?_
  refine j_iinc (i := 5) (n := 1) rfl dX11_heaps_89 (Nat.le_of_ble_eq_true rfl) ?_
  refine j_eqlv [some (.ref 0), some (.int l1), some (.int l2), some (.int l3), some (.int (l4 ||| (h 97 l5.toNatClampNeg))), some (.int (l5 + 1))] rfl ?_
  refine j_goto (off := -31) 61 dX11_heaps_92 (by decide) ?_
  exact j_le [some (.ref 0), some (.int l1), some (.int l2), some (.int l3), some (.int (l4 ||| (h 97 l5.toNatClampNeg))), some (.int (l5 + 1))] (And.intro rfl (And.intro rfl (And.intro rfl (And.intro rfl (And.intro rfl (And.intro rfl True.intro)))))) v1
set_option maxRecDepth 100000 in
theorem bX11_heaps_95 {sc : Nat × (Nat → Int32)} {h : jH} {Q : jQ} {l1 l2 l3 l4 l5 : Int32}
    (v1 : ¬ l4 = l2 → WP mX11_heaps Q 110 [some (.ref 0), some (.int l1), some (.int l2), some (.int l3), some (.int l4), some (.int l5)] [] (jG0 sc) h (0, 0))
    (v2 : l4 = l2 → WP mX11_heaps Q 101 [some (.ref 0), some (.int l1), some (.int l2), some (.int l3), some (.int l4), some (.int l5)] [] (jG0 sc) h (0, 0)) :
    WP mX11_heaps Q 95 [some (.ref 0), some (.int l1), some (.int l2), some (.int l3), some (.int l4), some (.int l5)] [] (jG0 sc) h (0, 0) := by
  refine j_iload (i := 4) rfl dX11_heaps_95 ?_
  refine j_iload_n (i := 2) rfl dX11_heaps_97 ?_
  refine j_icmp_ne (off := 12) 110 dX11_heaps_98 (by decide) (fun c1 => ?_) (fun c1 => ?_)
  · exact j_le [some (.ref 0), some (.int l1), some (.int l2), some (.int l3), some (.int l4), some (.int l5)] (And.intro rfl (And.intro rfl (And.intro rfl (And.intro rfl (And.intro rfl (And.intro rfl True.intro)))))) (v1 c1)
  · exact j_le [some (.ref 0), some (.int l1), some (.int l2), some (.int l3), some (.int l4), some (.int l5)] (And.intro rfl (And.intro rfl (And.intro rfl (And.intro rfl (And.intro rfl (And.intro rfl True.intro)))))) (v2 c1)
set_option maxRecDepth 100000 in
theorem bX11_heaps_101 {sc : Nat × (Nat → Int32)} {h : jH} {Q : jQ} {l1 l2 l3 l4 l5 : Int32} {P1 : Int32 → jH → Prop}
    (k1 : JM mX11_fewestMends [.ref 0, .int l2, .int l3] (jG0 sc) h (jint sc P1))
    (v1 : ∀ (x1 : Int32) (h1 : jH), P1 x1 h1 → WP mX11_heaps Q 111 [some (.ref 0), some (.int l1), some (.int l2), some (.int l3), some (.int l4), some (.int l5)] [.int x1] (jG0 sc) h1 (0, 0)) :
    WP mX11_heaps Q 101 [some (.ref 0), some (.int l1), some (.int l2), some (.int l3), some (.int l4), some (.int l5)] [] (jG0 sc) h (0, 0) := by
  refine j_aload_n (i := 0) rfl dX11_heaps_101 ?_
  refine j_iload_n (i := 2) rfl dX11_heaps_102 ?_
  refine j_iload_n (i := 3) rfl dX11_heaps_103 ?_
  refine j_callV (idx := 402) (As := [.int l2, .int l3]) (ci := 11) (n := 2) k1 jint_nt (jlkT (jtb6 5 rfl) rfl) sX11_fewestMends kX11_fewestMends rfl ⟨rfl, by decide +kernel, by decide +kernel, by decide +kernel⟩ rfl ⟨by decide, by decide⟩ (Nat.le_of_ble_eq_true rfl) rfl (Nat.le_of_ble_eq_true rfl) (Nat.le_of_ble_eq_true rfl) ⟨Nat.zero_le _, Nat.zero_le _⟩ dX11_heaps_104 (fun r Γ' h1 q => ?_)
  obtain ⟨x1, q0, rfl, p1⟩ := q; cases q0
  refine j_eqst [.int x1] (by rfl) ?_
  refine j_goto (off := 4) 111 dX11_heaps_107 (by decide) ?_
  exact j_le [some (.ref 0), some (.int l1), some (.int l2), some (.int l3), some (.int l4), some (.int l5)] (And.intro rfl (And.intro rfl (And.intro rfl (And.intro rfl (And.intro rfl (And.intro rfl True.intro)))))) (v1 x1 h1 p1)
set_option maxRecDepth 100000 in
theorem bX11_heaps_110 {sc : Nat × (Nat → Int32)} {h : jH} {Q : jQ} {l1 l2 l3 l4 l5 : Int32}
    (v1 : WP mX11_heaps Q 111 [some (.ref 0), some (.int l1), some (.int l2), some (.int l3), some (.int l4), some (.int l5)] [.int (-1)] (jG0 sc) h (0, 0)) :
    WP mX11_heaps Q 110 [some (.ref 0), some (.int l1), some (.int l2), some (.int l3), some (.int l4), some (.int l5)] [] (jG0 sc) h (0, 0) := by
  refine j_iconst (n := (-1)) (-1) (by decide) dX11_heaps_110 ?_
  exact j_le [some (.ref 0), some (.int l1), some (.int l2), some (.int l3), some (.int l4), some (.int l5)] (And.intro rfl (And.intro rfl (And.intro rfl (And.intro rfl (And.intro rfl (And.intro rfl True.intro)))))) v1
set_option maxRecDepth 100000 in
theorem bX11_heaps_111 {sc : Nat × (Nat → Int32)} {h : jH} {Q : jQ} {l1 l2 l3 l4 l5 s0 : Int32}
    (v1 : Q (.inl (some (.int s0))) (jG0 sc) h) :
    WP mX11_heaps Q 111 [some (.ref 0), some (.int l1), some (.int l2), some (.int l3), some (.int l4), some (.int l5)] [.int s0] (jG0 sc) h (0, 0) := by
  exact j_iret rfl rfl (Nat.zero_le _) (Nat.zero_le _) dX11_heaps_111 v1
set_option maxRecDepth 100000 in
theorem rX11_heaps_0 {sc : Nat × (Nat → Int32)} {h : jH} {Q : jQ} {P1 : Int32 → jH → Prop} {P2 : Int32 → jH → Prop} {P3 : Int32 → jH → Prop}
    (k1 : JM mX11_hasBody [.ref 0] (jG0 sc) h (jint sc P1))
    (k2 : ∀ (x1 : Int32) (h1 : jH), P1 x1 h1 → ¬ x1 = 0 → JM mX11_rightBits [.ref 0, .ref 10] (jG0 sc) h1 (jint sc P2))
    (k3 : ∀ (x1 : Int32) (h1 : jH), P1 x1 h1 → ¬ x1 = 0 → ∀ (x2 : Int32) (h2 : jH), P2 x2 h2 → JM mX11_listGains [.ref 0, .int x2, .int ((((1 : Int32) <<< ((h2 14 3) &&& 31)) - 1) &&& (x2 ^^^ ((-1) : Int32)))] (jG0 sc) h2 (jint sc P3))
    (v1 : ∀ (x1 : Int32) (h1 : jH), P1 x1 h1 → ¬ x1 = 0 → ∀ (x2 : Int32) (h2 : jH), P2 x2 h2 → ∀ (x3 : Int32) (h3 : jH), P3 x3 h3 → WP mX11_heaps Q 61 [some (.ref 0), some (.int x2), some (.int ((((1 : Int32) <<< ((h2 14 3) &&& 31)) - 1) &&& (x2 ^^^ ((-1) : Int32)))), some (.int x3), some (.int 0), some (.int 0)] [] (jG0 sc) h3 (0, 0))
    (v2 : ∀ (x1 : Int32) (h1 : jH), P1 x1 h1 → x1 = 0 → Q (.inr "java/lang/IllegalStateException") (jG0 sc) h1) :
    WP mX11_heaps Q 0 [some (.ref 0), none, none, none, none, none] [] (jG0 sc) h (0, 0) := by
  exact (bX11_heaps_0 k1 (fun x1 h1 p1 c1 => (bX11_heaps_17 (k2 x1 h1 p1 c1) (fun x2 h2 p2 => (bX11_heaps_49 (k3 x1 h1 p1 c1 x2 h2 p2) (fun x3 h3 p3 => (v1 x1 h1 p1 c1 x2 h2 p2 x3 h3 p3)))))) (fun x1 h1 p1 c1 => (bX11_heaps_7 (v2 x1 h1 p1 c1))))
set_option maxRecDepth 100000 in
theorem rX11_heaps_61 {sc : Nat × (Nat → Int32)} {h : jH} {Q : jQ} {l1 l2 l3 l4 l5 : Int32} {P1 : Int32 → jH → Prop} {P2 : Int32 → jH → Prop}
    (v1 : l3 ≤ l5 → ¬ l4 = l2 → Q (.inl (some (.int (-1)))) (jG0 sc) h)
    (k1 : l3 ≤ l5 → l4 = l2 → JM mX11_fewestMends [.ref 0, .int l2, .int l3] (jG0 sc) h (jint sc P1))
    (v2 : l3 ≤ l5 → l4 = l2 → ∀ (x1 : Int32) (h1 : jH), P1 x1 h1 → Q (.inl (some (.int x1))) (jG0 sc) h1)
    (v3 : ¬ l3 ≤ l5 → 300 ≤ l5 → ¬ l4 = l2 → Q (.inl (some (.int (-1)))) (jG0 sc) h)
    (k2 : ¬ l3 ≤ l5 → 300 ≤ l5 → l4 = l2 → JM mX11_fewestMends [.ref 0, .int l2, .int l3] (jG0 sc) h (jint sc P2))
    (v4 : ¬ l3 ≤ l5 → 300 ≤ l5 → l4 = l2 → ∀ (x2 : Int32) (h2 : jH), P2 x2 h2 → Q (.inl (some (.int x2))) (jG0 sc) h2)
    (o1 : ¬ l3 ≤ l5 → ¬ 300 ≤ l5 → vp_in l5 300)
    (v5 : ¬ l3 ≤ l5 → ¬ 300 ≤ l5 → WP mX11_heaps Q 61 [some (.ref 0), some (.int l1), some (.int l2), some (.int l3), some (.int (l4 ||| (h 97 l5.toNatClampNeg))), some (.int (l5 + 1))] [] (jG0 sc) h (0, 0)) :
    WP mX11_heaps Q 61 [some (.ref 0), some (.int l1), some (.int l2), some (.int l3), some (.int l4), some (.int l5)] [] (jG0 sc) h (0, 0) := by
  exact (bX11_heaps_61 (fun c1 => (bX11_heaps_95 (fun c2 => (bX11_heaps_110 (bX11_heaps_111 (v1 c1 c2)))) (fun c2 => (bX11_heaps_101 (k1 c1 c2) (fun x1 h1 p1 => (bX11_heaps_111 (v2 c1 c2 x1 h1 p1))))))) (fun c1 => (bX11_heaps_67 (fun c3 => (bX11_heaps_95 (fun c4 => (bX11_heaps_110 (bX11_heaps_111 (v3 c1 c3 c4)))) (fun c4 => (bX11_heaps_101 (k2 c1 c3 c4) (fun x2 h2 p2 => (bX11_heaps_111 (v4 c1 c3 c4 x2 h2 p2))))))) (fun c3 => (bX11_heaps_77 (o1 c1 c3) (v5 c1 c3))))))
theorem dX11_listGains_0 : decode (mC mX11_listGains) 0 = .ok (.iconst 0, 1) := by decide +kernel
theorem dX11_listGains_1 : decode (mC mX11_listGains) 1 = .ok (.istore_n 3, 1) := by decide +kernel
theorem dX11_listGains_2 : decode (mC mX11_listGains) 2 = .ok (.iconst 0, 1) := by decide +kernel
theorem dX11_listGains_3 : decode (mC mX11_listGains) 3 = .ok (.istore 4, 2) := by decide +kernel
theorem dX11_listGains_5 : decode (mC mX11_listGains) 5 = .ok (.iload 4, 2) := by decide +kernel
theorem dX11_listGains_7 : decode (mC mX11_listGains) 7 = .ok (.aload_n 0, 1) := by decide +kernel
theorem dX11_listGains_8 : decode (mC mX11_listGains) 8 = .ok (.getfield 61, 3) := by decide +kernel
theorem dX11_listGains_11 : decode (mC mX11_listGains) 11 = .ok (.getfield 284, 3) := by decide +kernel
theorem dX11_listGains_14 : decode (mC mX11_listGains) 14 = .ok (.if_icmp .ge 141, 3) := by decide +kernel
theorem dX11_listGains_17 : decode (mC mX11_listGains) 17 = .ok (.aload_n 0, 1) := by decide +kernel
theorem dX11_listGains_18 : decode (mC mX11_listGains) 18 = .ok (.getfield 61, 3) := by decide +kernel
theorem dX11_listGains_21 : decode (mC mX11_listGains) 21 = .ok (.aload_n 0, 1) := by decide +kernel
theorem dX11_listGains_22 : decode (mC mX11_listGains) 22 = .ok (.getfield 37, 3) := by decide +kernel
theorem dX11_listGains_25 : decode (mC mX11_listGains) 25 = .ok (.getfield 127, 3) := by decide +kernel
theorem dX11_listGains_28 : decode (mC mX11_listGains) 28 = .ok (.iload 4, 2) := by decide +kernel
theorem dX11_listGains_30 : decode (mC mX11_listGains) 30 = .ok (.aload_n 0, 1) := by decide +kernel
theorem dX11_listGains_31 : decode (mC mX11_listGains) 31 = .ok (.getfield 71, 3) := by decide +kernel
theorem dX11_listGains_34 : decode (mC mX11_listGains) 34 = .ok (.invokevirtual 192, 3) := by decide +kernel
theorem dX11_listGains_37 : decode (mC mX11_listGains) 37 = .ok (.pop, 1) := by decide +kernel
theorem dX11_listGains_38 : decode (mC mX11_listGains) 38 = .ok (.aload_n 0, 1) := by decide +kernel
theorem dX11_listGains_39 : decode (mC mX11_listGains) 39 = .ok (.aload_n 0, 1) := by decide +kernel
theorem dX11_listGains_40 : decode (mC mX11_listGains) 40 = .ok (.getfield 71, 3) := by decide +kernel
theorem dX11_listGains_43 : decode (mC mX11_listGains) 43 = .ok (.invokevirtual 293, 3) := by decide +kernel
theorem dX11_listGains_46 : decode (mC mX11_listGains) 46 = .ok (.istore 5, 2) := by decide +kernel
theorem dX11_listGains_48 : decode (mC mX11_listGains) 48 = .ok (.iload_n 1, 1) := by decide +kernel
theorem dX11_listGains_49 : decode (mC mX11_listGains) 49 = .ok (.iload 5, 2) := by decide +kernel
theorem dX11_listGains_51 : decode (mC mX11_listGains) 51 = .ok (.iconst (-1), 1) := by decide +kernel
theorem dX11_listGains_52 : decode (mC mX11_listGains) 52 = .ok (.ixor, 1) := by decide +kernel
theorem dX11_listGains_53 : decode (mC mX11_listGains) 53 = .ok (.iand, 1) := by decide +kernel
theorem dX11_listGains_54 : decode (mC mX11_listGains) 54 = .ok (.ifCond .ne 14, 3) := by decide +kernel
theorem dX11_listGains_57 : decode (mC mX11_listGains) 57 = .ok (.iload_n 2, 1) := by decide +kernel
theorem dX11_listGains_58 : decode (mC mX11_listGains) 58 = .ok (.iload 5, 2) := by decide +kernel
theorem dX11_listGains_60 : decode (mC mX11_listGains) 60 = .ok (.iand, 1) := by decide +kernel
theorem dX11_listGains_61 : decode (mC mX11_listGains) 61 = .ok (.ifCond .eq 7, 3) := by decide +kernel
theorem dX11_listGains_64 : decode (mC mX11_listGains) 64 = .ok (.iconst 1, 1) := by decide +kernel
theorem dX11_listGains_65 : decode (mC mX11_listGains) 65 = .ok (.goto 4, 3) := by decide +kernel
theorem dX11_listGains_68 : decode (mC mX11_listGains) 68 = .ok (.iconst 0, 1) := by decide +kernel
theorem dX11_listGains_69 : decode (mC mX11_listGains) 69 = .ok (.istore 6, 2) := by decide +kernel
theorem dX11_listGains_71 : decode (mC mX11_listGains) 71 = .ok (.iconst 0, 1) := by decide +kernel
theorem dX11_listGains_72 : decode (mC mX11_listGains) 72 = .ok (.istore 7, 2) := by decide +kernel
theorem dX11_listGains_74 : decode (mC mX11_listGains) 74 = .ok (.iload 7, 2) := by decide +kernel
theorem dX11_listGains_76 : decode (mC mX11_listGains) 76 = .ok (.iload_n 3, 1) := by decide +kernel
theorem dX11_listGains_77 : decode (mC mX11_listGains) 77 = .ok (.if_icmp .ge 45, 3) := by decide +kernel
theorem dX11_listGains_80 : decode (mC mX11_listGains) 80 = .ok (.iload 7, 2) := by decide +kernel
theorem dX11_listGains_82 : decode (mC mX11_listGains) 82 = .ok (.aload_n 0, 1) := by decide +kernel
theorem dX11_listGains_83 : decode (mC mX11_listGains) 83 = .ok (.getfield 92, 3) := by decide +kernel
theorem dX11_listGains_86 : decode (mC mX11_listGains) 86 = .ok (.arraylength, 1) := by decide +kernel
theorem dX11_listGains_87 : decode (mC mX11_listGains) 87 = .ok (.if_icmp .ge 35, 3) := by decide +kernel
theorem dX11_listGains_90 : decode (mC mX11_listGains) 90 = .ok (.iload 6, 2) := by decide +kernel
theorem dX11_listGains_92 : decode (mC mX11_listGains) 92 = .ok (.ifCond .eq 30, 3) := by decide +kernel
theorem dX11_listGains_95 : decode (mC mX11_listGains) 95 = .ok (.aload_n 0, 1) := by decide +kernel
theorem dX11_listGains_96 : decode (mC mX11_listGains) 96 = .ok (.getfield 92, 3) := by decide +kernel
theorem dX11_listGains_99 : decode (mC mX11_listGains) 99 = .ok (.iload 7, 2) := by decide +kernel
theorem dX11_listGains_101 : decode (mC mX11_listGains) 101 = .ok (.iaload, 1) := by decide +kernel
theorem dX11_listGains_102 : decode (mC mX11_listGains) 102 = .ok (.iload_n 2, 1) := by decide +kernel
theorem dX11_listGains_103 : decode (mC mX11_listGains) 103 = .ok (.iload 5, 2) := by decide +kernel
theorem dX11_listGains_105 : decode (mC mX11_listGains) 105 = .ok (.iand, 1) := by decide +kernel
theorem dX11_listGains_106 : decode (mC mX11_listGains) 106 = .ok (.if_icmp .eq 7, 3) := by decide +kernel
theorem dX11_listGains_109 : decode (mC mX11_listGains) 109 = .ok (.iconst 1, 1) := by decide +kernel
theorem dX11_listGains_110 : decode (mC mX11_listGains) 110 = .ok (.goto 4, 3) := by decide +kernel
theorem dX11_listGains_113 : decode (mC mX11_listGains) 113 = .ok (.iconst 0, 1) := by decide +kernel
theorem dX11_listGains_114 : decode (mC mX11_listGains) 114 = .ok (.istore 6, 2) := by decide +kernel
theorem dX11_listGains_116 : decode (mC mX11_listGains) 116 = .ok (.iinc 7 1, 3) := by decide +kernel
theorem dX11_listGains_119 : decode (mC mX11_listGains) 119 = .ok (.goto (-45), 3) := by decide +kernel
theorem dX11_listGains_122 : decode (mC mX11_listGains) 122 = .ok (.iload 6, 2) := by decide +kernel
theorem dX11_listGains_124 : decode (mC mX11_listGains) 124 = .ok (.ifCond .eq 25, 3) := by decide +kernel
theorem dX11_listGains_127 : decode (mC mX11_listGains) 127 = .ok (.iload_n 3, 1) := by decide +kernel
theorem dX11_listGains_128 : decode (mC mX11_listGains) 128 = .ok (.aload_n 0, 1) := by decide +kernel
theorem dX11_listGains_129 : decode (mC mX11_listGains) 129 = .ok (.getfield 92, 3) := by decide +kernel
theorem dX11_listGains_132 : decode (mC mX11_listGains) 132 = .ok (.arraylength, 1) := by decide +kernel
theorem dX11_listGains_133 : decode (mC mX11_listGains) 133 = .ok (.if_icmp .ge 16, 3) := by decide +kernel
theorem dX11_listGains_136 : decode (mC mX11_listGains) 136 = .ok (.aload_n 0, 1) := by decide +kernel
theorem dX11_listGains_137 : decode (mC mX11_listGains) 137 = .ok (.getfield 92, 3) := by decide +kernel
theorem dX11_listGains_140 : decode (mC mX11_listGains) 140 = .ok (.iload_n 3, 1) := by decide +kernel
theorem dX11_listGains_141 : decode (mC mX11_listGains) 141 = .ok (.iload_n 2, 1) := by decide +kernel
theorem dX11_listGains_142 : decode (mC mX11_listGains) 142 = .ok (.iload 5, 2) := by decide +kernel
theorem dX11_listGains_144 : decode (mC mX11_listGains) 144 = .ok (.iand, 1) := by decide +kernel
theorem dX11_listGains_145 : decode (mC mX11_listGains) 145 = .ok (.iastore, 1) := by decide +kernel
theorem dX11_listGains_146 : decode (mC mX11_listGains) 146 = .ok (.iinc 3 1, 3) := by decide +kernel
theorem dX11_listGains_149 : decode (mC mX11_listGains) 149 = .ok (.iinc 4 1, 3) := by decide +kernel
theorem dX11_listGains_152 : decode (mC mX11_listGains) 152 = .ok (.goto (-147), 3) := by decide +kernel
theorem dX11_listGains_155 : decode (mC mX11_listGains) 155 = .ok (.iload_n 3, 1) := by decide +kernel
theorem dX11_listGains_156 : decode (mC mX11_listGains) 156 = .ok (.ireturn, 1) := by decide +kernel
set_option maxRecDepth 100000 in
theorem bX11_listGains_0 {sc : Nat × (Nat → Int32)} {h : jH} {Q : jQ} {l1 l2 : Int32}
    (v1 : WP mX11_listGains Q 5 [some (.ref 0), some (.int l1), some (.int l2), some (.int 0), some (.int 0), none, none, none] [] (jG0 sc) h (0, 0)) :
    WP mX11_listGains Q 0 [some (.ref 0), some (.int l1), some (.int l2), none, none, none, none, none] [] (jG0 sc) h (0, 0) := by
  refine j_iconst (n := 0) 0 (by decide) dX11_listGains_0 ?_
  refine j_istore_n (i := 3) dX11_listGains_1 (Nat.le_of_ble_eq_true rfl) ?_
  refine j_iconst (n := 0) 0 (by decide) dX11_listGains_2 ?_
  refine j_istore (i := 4) dX11_listGains_3 (Nat.le_of_ble_eq_true rfl) ?_
  exact j_le [some (.ref 0), some (.int l1), some (.int l2), some (.int 0), some (.int 0), none, none, none] (And.intro rfl (And.intro rfl (And.intro rfl (And.intro rfl (And.intro rfl True.intro))))) v1
set_option maxRecDepth 100000 in
theorem bX11_listGains_5 {sc : Nat × (Nat → Int32)} {h : jH} {Q : jQ} {l1 l2 l3 l4 : Int32}
    (v1 : (h 75 6) ≤ l4 → WP mX11_listGains Q 155 [some (.ref 0), some (.int l1), some (.int l2), some (.int l3), some (.int l4), none, none, none] [] (jG0 sc) h (0, 0))
    (v2 : ¬ (h 75 6) ≤ l4 → WP mX11_listGains Q 17 [some (.ref 0), some (.int l1), some (.int l2), some (.int l3), some (.int l4), none, none, none] [] (jG0 sc) h (0, 0)) :
    WP mX11_listGains Q 5 [some (.ref 0), some (.int l1), some (.int l2), some (.int l3), some (.int l4), none, none, none] [] (jG0 sc) h (0, 0) := by
  refine j_iload (i := 4) rfl dX11_listGains_5 ?_
  refine j_aload_n (i := 0) rfl dX11_listGains_7 ?_
  refine j_getR (idx := 61) (ci := 11) (k := 9) (nest := false) (show (11, 61, 11, 9, false) ∈ jFT by decide) rfl (Nat.le_of_ble_eq_true rfl) rfl (a := 75) rfl dX11_listGains_8 ?_
  refine j_getI (idx := 284) (ci := 3) (k := 6) (nest := true) (show (11, 284, 3, 6, true) ∈ jFT by decide) rfl (Nat.le_of_ble_eq_true rfl) rfl dX11_listGains_11 ?_
  refine j_icmp_ge (off := 141) 155 dX11_listGains_14 (by decide) (fun c1 => ?_) (fun c1 => ?_)
  · exact j_le [some (.ref 0), some (.int l1), some (.int l2), some (.int l3), some (.int l4), none, none, none] (And.intro rfl (And.intro rfl (And.intro rfl (And.intro rfl (And.intro rfl True.intro))))) (v1 c1)
  · exact j_le [some (.ref 0), some (.int l1), some (.int l2), some (.int l3), some (.int l4), none, none, none] (And.intro rfl (And.intro rfl (And.intro rfl (And.intro rfl (And.intro rfl True.intro))))) (v2 c1)
set_option maxRecDepth 100000 in
theorem bX11_listGains_17 {sc : Nat × (Nat → Int32)} {h : jH} {Q : jQ} {l1 l2 l3 l4 : Int32} {P1 : Int32 → jH → Prop} {P2 : Int32 → jH → Prop}
    (k1 : JM mX3_shape [.ref 75, .ref 10, .int l4, .ref 89] (jG0 sc) h (jint sc P1))
    (k2 : ∀ (x1 : Int32) (h1 : jH), P1 x1 h1 → JM mX11_rightBits [.ref 0, .ref 89] (jG0 sc) h1 (jint sc P2))
    (v1 : ∀ (x1 : Int32) (h1 : jH), P1 x1 h1 → ∀ (x2 : Int32) (h2 : jH), P2 x2 h2 → WP mX11_listGains Q 51 [some (.ref 0), some (.int l1), some (.int l2), some (.int l3), some (.int l4), some (.int x2), none, none] [.int x2, .int l1] (jG0 sc) h2 (0, 0)) :
    WP mX11_listGains Q 17 [some (.ref 0), some (.int l1), some (.int l2), some (.int l3), some (.int l4), none, none, none] [] (jG0 sc) h (0, 0) := by
  refine j_aload_n (i := 0) rfl dX11_listGains_17 ?_
  refine j_getR (idx := 61) (ci := 11) (k := 9) (nest := false) (show (11, 61, 11, 9, false) ∈ jFT by decide) rfl (Nat.le_of_ble_eq_true rfl) rfl (a := 75) rfl dX11_listGains_18 ?_
  refine j_aload_n (i := 0) rfl dX11_listGains_21 ?_
  refine j_getR (idx := 37) (ci := 11) (k := 4) (nest := false) (show (11, 37, 11, 4, false) ∈ jFT by decide) rfl (Nat.le_of_ble_eq_true rfl) rfl (a := 9) rfl dX11_listGains_22 ?_
  refine j_getR (idx := 127) (ci := 6) (k := 0) (nest := true) (show (11, 127, 6, 0, true) ∈ jFT by decide) rfl (Nat.le_of_ble_eq_true rfl) rfl (a := 10) rfl dX11_listGains_25 ?_
  refine j_iload (i := 4) rfl dX11_listGains_28 ?_
  refine j_aload_n (i := 0) rfl dX11_listGains_30 ?_
  refine j_getR (idx := 71) (ci := 11) (k := 11) (nest := false) (show (11, 71, 11, 11, false) ∈ jFT by decide) rfl (Nat.le_of_ble_eq_true rfl) rfl (a := 89) rfl dX11_listGains_31 ?_
  refine j_callVN (idx := 192) (As := [.ref 10, .int l4, .ref 89]) (ci := 3) (n := 3) k1 jint_nt (jTbl (jtb2 199 rfl)) sX3_shape kX3_shape rfl ⟨rfl, by decide +kernel, by decide +kernel, by decide +kernel⟩ rfl ⟨by decide, by decide⟩ (Nat.le_of_ble_eq_true rfl) rfl (Nat.le_of_ble_eq_true rfl) (Nat.le_of_ble_eq_true rfl) ⟨Nat.zero_le _, Nat.zero_le _⟩ dX11_listGains_34 (fun r Γ' h1 q => ?_)
  obtain ⟨x1, q0, rfl, p1⟩ := q; cases q0
  refine j_eqst [.int x1] (by rfl) ?_
  refine j_pop rfl dX11_listGains_37 ?_
  refine j_aload_n (i := 0) rfl dX11_listGains_38 ?_
  refine j_aload_n (i := 0) rfl dX11_listGains_39 ?_
  refine j_getR (idx := 71) (ci := 11) (k := 11) (nest := false) (show (11, 71, 11, 11, false) ∈ jFT by decide) rfl (Nat.le_of_ble_eq_true rfl) rfl (a := 89) rfl dX11_listGains_40 ?_
  refine j_callV (idx := 293) (As := [.ref 89]) (ci := 11) (n := 1) (k2 x1 h1 p1) jint_nt (jlkT (jtb3 184 rfl) rfl) sX11_rightBits kX11_rightBits rfl ⟨rfl, by decide +kernel, by decide +kernel, by decide +kernel⟩ rfl ⟨by decide, by decide⟩ (Nat.le_of_ble_eq_true rfl) rfl (Nat.le_of_ble_eq_true rfl) (Nat.le_of_ble_eq_true rfl) ⟨Nat.zero_le _, Nat.zero_le _⟩ dX11_listGains_43 (fun r Γ' h2 q => ?_)
  obtain ⟨x2, q0, rfl, p2⟩ := q; cases q0
  refine j_eqst [.int x2] (by rfl) ?_
  refine j_istore (i := 5) dX11_listGains_46 (Nat.le_of_ble_eq_true rfl) ?_
  refine j_iload_n (i := 1) rfl dX11_listGains_48 ?_
  refine j_iload (i := 5) rfl dX11_listGains_49 ?_
  exact j_le [some (.ref 0), some (.int l1), some (.int l2), some (.int l3), some (.int l4), some (.int x2), none, none] (And.intro rfl (And.intro rfl (And.intro rfl (And.intro rfl (And.intro rfl (And.intro rfl True.intro)))))) (v1 x1 h1 p1 x2 h2 p2)
set_option maxRecDepth 100000 in
theorem bX11_listGains_51 {sc : Nat × (Nat → Int32)} {h : jH} {Q : jQ} {l1 l2 l3 l4 l5 s0 s1 : Int32}
    (v1 : ¬ (s1 &&& (s0 ^^^ ((-1) : Int32))) = 0 → WP mX11_listGains Q 68 [some (.ref 0), some (.int l1), some (.int l2), some (.int l3), some (.int l4), some (.int l5), none, none] [] (jG0 sc) h (0, 0))
    (v2 : (s1 &&& (s0 ^^^ ((-1) : Int32))) = 0 → WP mX11_listGains Q 57 [some (.ref 0), some (.int l1), some (.int l2), some (.int l3), some (.int l4), some (.int l5), none, none] [] (jG0 sc) h (0, 0)) :
    WP mX11_listGains Q 51 [some (.ref 0), some (.int l1), some (.int l2), some (.int l3), some (.int l4), some (.int l5), none, none] [.int s0, .int s1] (jG0 sc) h (0, 0) := by
  refine j_iconst (n := (-1)) (-1) (by decide) dX11_listGains_51 ?_
  refine j_ixor dX11_listGains_52 ?_
  refine j_iand dX11_listGains_53 ?_
  refine j_if_ne (off := 14) 68 dX11_listGains_54 (by decide) (fun c1 => ?_) (fun c1 => ?_)
  · exact j_le [some (.ref 0), some (.int l1), some (.int l2), some (.int l3), some (.int l4), some (.int l5), none, none] (And.intro rfl (And.intro rfl (And.intro rfl (And.intro rfl (And.intro rfl (And.intro rfl True.intro)))))) (v1 c1)
  · exact j_le [some (.ref 0), some (.int l1), some (.int l2), some (.int l3), some (.int l4), some (.int l5), none, none] (And.intro rfl (And.intro rfl (And.intro rfl (And.intro rfl (And.intro rfl (And.intro rfl True.intro)))))) (v2 c1)
set_option maxRecDepth 100000 in
theorem bX11_listGains_57 {sc : Nat × (Nat → Int32)} {h : jH} {Q : jQ} {l1 l2 l3 l4 l5 : Int32}
    (v1 : (l2 &&& l5) = 0 → WP mX11_listGains Q 68 [some (.ref 0), some (.int l1), some (.int l2), some (.int l3), some (.int l4), some (.int l5), none, none] [] (jG0 sc) h (0, 0))
    (v2 : ¬ (l2 &&& l5) = 0 → WP mX11_listGains Q 64 [some (.ref 0), some (.int l1), some (.int l2), some (.int l3), some (.int l4), some (.int l5), none, none] [] (jG0 sc) h (0, 0)) :
    WP mX11_listGains Q 57 [some (.ref 0), some (.int l1), some (.int l2), some (.int l3), some (.int l4), some (.int l5), none, none] [] (jG0 sc) h (0, 0) := by
  refine j_iload_n (i := 2) rfl dX11_listGains_57 ?_
  refine j_iload (i := 5) rfl dX11_listGains_58 ?_
  refine j_iand dX11_listGains_60 ?_
  refine j_if_eq (off := 7) 68 dX11_listGains_61 (by decide) (fun c1 => ?_) (fun c1 => ?_)
  · exact j_le [some (.ref 0), some (.int l1), some (.int l2), some (.int l3), some (.int l4), some (.int l5), none, none] (And.intro rfl (And.intro rfl (And.intro rfl (And.intro rfl (And.intro rfl (And.intro rfl True.intro)))))) (v1 c1)
  · exact j_le [some (.ref 0), some (.int l1), some (.int l2), some (.int l3), some (.int l4), some (.int l5), none, none] (And.intro rfl (And.intro rfl (And.intro rfl (And.intro rfl (And.intro rfl (And.intro rfl True.intro)))))) (v2 c1)
set_option maxRecDepth 100000 in
theorem bX11_listGains_64 {sc : Nat × (Nat → Int32)} {h : jH} {Q : jQ} {l1 l2 l3 l4 l5 : Int32}
    (v1 : WP mX11_listGains Q 69 [some (.ref 0), some (.int l1), some (.int l2), some (.int l3), some (.int l4), some (.int l5), none, none] [.int 1] (jG0 sc) h (0, 0)) :
    WP mX11_listGains Q 64 [some (.ref 0), some (.int l1), some (.int l2), some (.int l3), some (.int l4), some (.int l5), none, none] [] (jG0 sc) h (0, 0) := by
  refine j_iconst (n := 1) 1 (by decide) dX11_listGains_64 ?_
  refine j_goto (off := 4) 69 dX11_listGains_65 (by decide) ?_
  exact j_le [some (.ref 0), some (.int l1), some (.int l2), some (.int l3), some (.int l4), some (.int l5), none, none] (And.intro rfl (And.intro rfl (And.intro rfl (And.intro rfl (And.intro rfl (And.intro rfl True.intro)))))) v1
set_option maxRecDepth 100000 in
theorem bX11_listGains_68 {sc : Nat × (Nat → Int32)} {h : jH} {Q : jQ} {l1 l2 l3 l4 l5 : Int32}
    (v1 : WP mX11_listGains Q 69 [some (.ref 0), some (.int l1), some (.int l2), some (.int l3), some (.int l4), some (.int l5), none, none] [.int 0] (jG0 sc) h (0, 0)) :
    WP mX11_listGains Q 68 [some (.ref 0), some (.int l1), some (.int l2), some (.int l3), some (.int l4), some (.int l5), none, none] [] (jG0 sc) h (0, 0) := by
  refine j_iconst (n := 0) 0 (by decide) dX11_listGains_68 ?_
  exact j_le [some (.ref 0), some (.int l1), some (.int l2), some (.int l3), some (.int l4), some (.int l5), none, none] (And.intro rfl (And.intro rfl (And.intro rfl (And.intro rfl (And.intro rfl (And.intro rfl True.intro)))))) v1
set_option maxRecDepth 100000 in
theorem bX11_listGains_69 {sc : Nat × (Nat → Int32)} {h : jH} {Q : jQ} {l1 l2 l3 l4 l5 s0 : Int32}
    (v1 : WP mX11_listGains Q 74 [some (.ref 0), some (.int l1), some (.int l2), some (.int l3), some (.int l4), some (.int l5), some (.int s0), some (.int 0)] [] (jG0 sc) h (0, 0)) :
    WP mX11_listGains Q 69 [some (.ref 0), some (.int l1), some (.int l2), some (.int l3), some (.int l4), some (.int l5), none, none] [.int s0] (jG0 sc) h (0, 0) := by
  refine j_istore (i := 6) dX11_listGains_69 (Nat.le_of_ble_eq_true rfl) ?_
  refine j_iconst (n := 0) 0 (by decide) dX11_listGains_71 ?_
  refine j_istore (i := 7) dX11_listGains_72 (Nat.le_of_ble_eq_true rfl) ?_
  exact j_le [some (.ref 0), some (.int l1), some (.int l2), some (.int l3), some (.int l4), some (.int l5), some (.int s0), some (.int 0)] (And.intro rfl (And.intro rfl (And.intro rfl (And.intro rfl (And.intro rfl (And.intro rfl (And.intro rfl (And.intro rfl True.intro)))))))) v1
set_option maxRecDepth 100000 in
theorem bX11_listGains_74 {sc : Nat × (Nat → Int32)} {h : jH} {Q : jQ} {l1 l2 l3 l4 l5 l6 l7 : Int32}
    (v1 : l3 ≤ l7 → WP mX11_listGains Q 122 [some (.ref 0), some (.int l1), some (.int l2), some (.int l3), some (.int l4), some (.int l5), some (.int l6), some (.int l7)] [] (jG0 sc) h (0, 0))
    (v2 : ¬ l3 ≤ l7 → WP mX11_listGains Q 80 [some (.ref 0), some (.int l1), some (.int l2), some (.int l3), some (.int l4), some (.int l5), some (.int l6), some (.int l7)] [] (jG0 sc) h (0, 0)) :
    WP mX11_listGains Q 74 [some (.ref 0), some (.int l1), some (.int l2), some (.int l3), some (.int l4), some (.int l5), some (.int l6), some (.int l7)] [] (jG0 sc) h (0, 0) := by
  refine j_iload (i := 7) rfl dX11_listGains_74 ?_
  refine j_iload_n (i := 3) rfl dX11_listGains_76 ?_
  refine j_icmp_ge (off := 45) 122 dX11_listGains_77 (by decide) (fun c1 => ?_) (fun c1 => ?_)
  · exact j_le [some (.ref 0), some (.int l1), some (.int l2), some (.int l3), some (.int l4), some (.int l5), some (.int l6), some (.int l7)] (And.intro rfl (And.intro rfl (And.intro rfl (And.intro rfl (And.intro rfl (And.intro rfl (And.intro rfl (And.intro rfl True.intro)))))))) (v1 c1)
  · exact j_le [some (.ref 0), some (.int l1), some (.int l2), some (.int l3), some (.int l4), some (.int l5), some (.int l6), some (.int l7)] (And.intro rfl (And.intro rfl (And.intro rfl (And.intro rfl (And.intro rfl (And.intro rfl (And.intro rfl (And.intro rfl True.intro)))))))) (v2 c1)
set_option maxRecDepth 100000 in
theorem bX11_listGains_80 {sc : Nat × (Nat → Int32)} {h : jH} {Q : jQ} {l1 l2 l3 l4 l5 l6 l7 : Int32}
    (v1 : 300 ≤ l7 → WP mX11_listGains Q 122 [some (.ref 0), some (.int l1), some (.int l2), some (.int l3), some (.int l4), some (.int l5), some (.int l6), some (.int l7)] [] (jG0 sc) h (0, 0))
    (v2 : ¬ 300 ≤ l7 → WP mX11_listGains Q 90 [some (.ref 0), some (.int l1), some (.int l2), some (.int l3), some (.int l4), some (.int l5), some (.int l6), some (.int l7)] [] (jG0 sc) h (0, 0)) :
    WP mX11_listGains Q 80 [some (.ref 0), some (.int l1), some (.int l2), some (.int l3), some (.int l4), some (.int l5), some (.int l6), some (.int l7)] [] (jG0 sc) h (0, 0) := by
  refine j_iload (i := 7) rfl dX11_listGains_80 ?_
  refine j_aload_n (i := 0) rfl dX11_listGains_82 ?_
  refine j_getR (idx := 92) (ci := 11) (k := 17) (nest := false) (show (11, 92, 11, 17, false) ∈ jFT by decide) rfl (Nat.le_of_ble_eq_true rfl) rfl (a := 97) rfl dX11_listGains_83 ?_
  refine j_alen (Nat.le_of_ble_eq_true rfl) rfl rfl 300 rfl dX11_listGains_86 ?_
  refine j_icmp_ge (off := 35) 122 dX11_listGains_87 (by decide) (fun c1 => ?_) (fun c1 => ?_)
  · exact j_le [some (.ref 0), some (.int l1), some (.int l2), some (.int l3), some (.int l4), some (.int l5), some (.int l6), some (.int l7)] (And.intro rfl (And.intro rfl (And.intro rfl (And.intro rfl (And.intro rfl (And.intro rfl (And.intro rfl (And.intro rfl True.intro)))))))) (v1 c1)
  · exact j_le [some (.ref 0), some (.int l1), some (.int l2), some (.int l3), some (.int l4), some (.int l5), some (.int l6), some (.int l7)] (And.intro rfl (And.intro rfl (And.intro rfl (And.intro rfl (And.intro rfl (And.intro rfl (And.intro rfl (And.intro rfl True.intro)))))))) (v2 c1)
set_option maxRecDepth 100000 in
theorem bX11_listGains_90 {sc : Nat × (Nat → Int32)} {h : jH} {Q : jQ} {l1 l2 l3 l4 l5 l6 l7 : Int32}
    (v1 : l6 = 0 → WP mX11_listGains Q 122 [some (.ref 0), some (.int l1), some (.int l2), some (.int l3), some (.int l4), some (.int l5), some (.int l6), some (.int l7)] [] (jG0 sc) h (0, 0))
    (v2 : ¬ l6 = 0 → WP mX11_listGains Q 95 [some (.ref 0), some (.int l1), some (.int l2), some (.int l3), some (.int l4), some (.int l5), some (.int l6), some (.int l7)] [] (jG0 sc) h (0, 0)) :
    WP mX11_listGains Q 90 [some (.ref 0), some (.int l1), some (.int l2), some (.int l3), some (.int l4), some (.int l5), some (.int l6), some (.int l7)] [] (jG0 sc) h (0, 0) := by
  refine j_iload (i := 6) rfl dX11_listGains_90 ?_
  refine j_if_eq (off := 30) 122 dX11_listGains_92 (by decide) (fun c1 => ?_) (fun c1 => ?_)
  · exact j_le [some (.ref 0), some (.int l1), some (.int l2), some (.int l3), some (.int l4), some (.int l5), some (.int l6), some (.int l7)] (And.intro rfl (And.intro rfl (And.intro rfl (And.intro rfl (And.intro rfl (And.intro rfl (And.intro rfl (And.intro rfl True.intro)))))))) (v1 c1)
  · exact j_le [some (.ref 0), some (.int l1), some (.int l2), some (.int l3), some (.int l4), some (.int l5), some (.int l6), some (.int l7)] (And.intro rfl (And.intro rfl (And.intro rfl (And.intro rfl (And.intro rfl (And.intro rfl (And.intro rfl (And.intro rfl True.intro)))))))) (v2 c1)
set_option maxRecDepth 100000 in
theorem bX11_listGains_95 {sc : Nat × (Nat → Int32)} {h : jH} {Q : jQ} {l1 l2 l3 l4 l5 l6 l7 : Int32}
    (o1 : vp_in l7 300)
    (v1 : (h 97 l7.toNatClampNeg) = (l2 &&& l5) → WP mX11_listGains Q 113 [some (.ref 0), some (.int l1), some (.int l2), some (.int l3), some (.int l4), some (.int l5), some (.int l6), some (.int l7)] [] (jG0 sc) h (0, 0))
    (v2 : ¬ (h 97 l7.toNatClampNeg) = (l2 &&& l5) → WP mX11_listGains Q 109 [some (.ref 0), some (.int l1), some (.int l2), some (.int l3), some (.int l4), some (.int l5), some (.int l6), some (.int l7)] [] (jG0 sc) h (0, 0)) :
    WP mX11_listGains Q 95 [some (.ref 0), some (.int l1), some (.int l2), some (.int l3), some (.int l4), some (.int l5), some (.int l6), some (.int l7)] [] (jG0 sc) h (0, 0) := by
  refine j_aload_n (i := 0) rfl dX11_listGains_95 ?_
  refine j_getR (idx := 92) (ci := 11) (k := 17) (nest := false) (show (11, 92, 11, 17, false) ∈ jFT by decide) rfl (Nat.le_of_ble_eq_true rfl) rfl (a := 97) rfl dX11_listGains_96 ?_
  refine j_iload (i := 7) rfl dX11_listGains_99 ?_
  refine j_iald (Nat.le_of_ble_eq_true rfl) rfl o1 dX11_listGains_101 ?_
  refine j_iload_n (i := 2) rfl dX11_listGains_102 ?_
  refine j_iload (i := 5) rfl dX11_listGains_103 ?_
  refine j_iand dX11_listGains_105 ?_
  refine j_icmp_eq (off := 7) 113 dX11_listGains_106 (by decide) (fun c1 => ?_) (fun c1 => ?_)
  · exact j_le [some (.ref 0), some (.int l1), some (.int l2), some (.int l3), some (.int l4), some (.int l5), some (.int l6), some (.int l7)] (And.intro rfl (And.intro rfl (And.intro rfl (And.intro rfl (And.intro rfl (And.intro rfl (And.intro rfl (And.intro rfl True.intro)))))))) (v1 c1)
  · exact j_le [some (.ref 0), some (.int l1), some (.int l2), some (.int l3), some (.int l4), some (.int l5), some (.int l6), some (.int l7)] (And.intro rfl (And.intro rfl (And.intro rfl (And.intro rfl (And.intro rfl (And.intro rfl (And.intro rfl (And.intro rfl True.intro)))))))) (v2 c1)
set_option maxRecDepth 100000 in
theorem bX11_listGains_109 {sc : Nat × (Nat → Int32)} {h : jH} {Q : jQ} {l1 l2 l3 l4 l5 l6 l7 : Int32}
    (v1 : WP mX11_listGains Q 114 [some (.ref 0), some (.int l1), some (.int l2), some (.int l3), some (.int l4), some (.int l5), some (.int l6), some (.int l7)] [.int 1] (jG0 sc) h (0, 0)) :
    WP mX11_listGains Q 109 [some (.ref 0), some (.int l1), some (.int l2), some (.int l3), some (.int l4), some (.int l5), some (.int l6), some (.int l7)] [] (jG0 sc) h (0, 0) := by
  refine j_iconst (n := 1) 1 (by decide) dX11_listGains_109 ?_
  refine j_goto (off := 4) 114 dX11_listGains_110 (by decide) ?_
  exact j_le [some (.ref 0), some (.int l1), some (.int l2), some (.int l3), some (.int l4), some (.int l5), some (.int l6), some (.int l7)] (And.intro rfl (And.intro rfl (And.intro rfl (And.intro rfl (And.intro rfl (And.intro rfl (And.intro rfl (And.intro rfl True.intro)))))))) v1
set_option maxRecDepth 100000 in
theorem bX11_listGains_113 {sc : Nat × (Nat → Int32)} {h : jH} {Q : jQ} {l1 l2 l3 l4 l5 l6 l7 : Int32}
    (v1 : WP mX11_listGains Q 114 [some (.ref 0), some (.int l1), some (.int l2), some (.int l3), some (.int l4), some (.int l5), some (.int l6), some (.int l7)] [.int 0] (jG0 sc) h (0, 0)) :
    WP mX11_listGains Q 113 [some (.ref 0), some (.int l1), some (.int l2), some (.int l3), some (.int l4), some (.int l5), some (.int l6), some (.int l7)] [] (jG0 sc) h (0, 0) := by
  refine j_iconst (n := 0) 0 (by decide) dX11_listGains_113 ?_
  exact j_le [some (.ref 0), some (.int l1), some (.int l2), some (.int l3), some (.int l4), some (.int l5), some (.int l6), some (.int l7)] (And.intro rfl (And.intro rfl (And.intro rfl (And.intro rfl (And.intro rfl (And.intro rfl (And.intro rfl (And.intro rfl True.intro)))))))) v1
set_option maxRecDepth 100000 in
theorem bX11_listGains_114 {sc : Nat × (Nat → Int32)} {h : jH} {Q : jQ} {l1 l2 l3 l4 l5 l6 l7 s0 : Int32}
    (v1 : WP mX11_listGains Q 74 [some (.ref 0), some (.int l1), some (.int l2), some (.int l3), some (.int l4), some (.int l5), some (.int s0), some (.int (l7 + 1))] [] (jG0 sc) h (0, 0)) :
    WP mX11_listGains Q 114 [some (.ref 0), some (.int l1), some (.int l2), some (.int l3), some (.int l4), some (.int l5), some (.int l6), some (.int l7)] [.int s0] (jG0 sc) h (0, 0) := by
  refine j_istore (i := 6) dX11_listGains_114 (Nat.le_of_ble_eq_true rfl) ?_
  refine j_iinc (i := 7) (n := 1) rfl dX11_listGains_116 (Nat.le_of_ble_eq_true rfl) ?_
  refine j_eqlv [some (.ref 0), some (.int l1), some (.int l2), some (.int l3), some (.int l4), some (.int l5), some (.int s0), some (.int (l7 + 1))] rfl ?_
  refine j_goto (off := -45) 74 dX11_listGains_119 (by decide) ?_
  exact j_le [some (.ref 0), some (.int l1), some (.int l2), some (.int l3), some (.int l4), some (.int l5), some (.int s0), some (.int (l7 + 1))] (And.intro rfl (And.intro rfl (And.intro rfl (And.intro rfl (And.intro rfl (And.intro rfl (And.intro rfl (And.intro rfl True.intro)))))))) v1
set_option maxRecDepth 100000 in
theorem bX11_listGains_122 {sc : Nat × (Nat → Int32)} {h : jH} {Q : jQ} {l1 l2 l3 l4 l5 l6 l7 : Int32}
    (v1 : l6 = 0 → WP mX11_listGains Q 149 [some (.ref 0), some (.int l1), some (.int l2), some (.int l3), some (.int l4), some (.int l5), some (.int l6), some (.int l7)] [] (jG0 sc) h (0, 0))
    (v2 : ¬ l6 = 0 → WP mX11_listGains Q 127 [some (.ref 0), some (.int l1), some (.int l2), some (.int l3), some (.int l4), some (.int l5), some (.int l6), some (.int l7)] [] (jG0 sc) h (0, 0)) :
    WP mX11_listGains Q 122 [some (.ref 0), some (.int l1), some (.int l2), some (.int l3), some (.int l4), some (.int l5), some (.int l6), some (.int l7)] [] (jG0 sc) h (0, 0) := by
  refine j_iload (i := 6) rfl dX11_listGains_122 ?_
  refine j_if_eq (off := 25) 149 dX11_listGains_124 (by decide) (fun c1 => ?_) (fun c1 => ?_)
  · exact j_le [some (.ref 0), some (.int l1), some (.int l2), some (.int l3), some (.int l4), some (.int l5), some (.int l6), some (.int l7)] (And.intro rfl (And.intro rfl (And.intro rfl (And.intro rfl (And.intro rfl (And.intro rfl (And.intro rfl (And.intro rfl True.intro)))))))) (v1 c1)
  · exact j_le [some (.ref 0), some (.int l1), some (.int l2), some (.int l3), some (.int l4), some (.int l5), some (.int l6), some (.int l7)] (And.intro rfl (And.intro rfl (And.intro rfl (And.intro rfl (And.intro rfl (And.intro rfl (And.intro rfl (And.intro rfl True.intro)))))))) (v2 c1)
set_option maxRecDepth 100000 in
theorem bX11_listGains_127 {sc : Nat × (Nat → Int32)} {h : jH} {Q : jQ} {l1 l2 l3 l4 l5 l6 l7 : Int32}
    (v1 : 300 ≤ l3 → WP mX11_listGains Q 149 [some (.ref 0), some (.int l1), some (.int l2), some (.int l3), some (.int l4), some (.int l5), some (.int l6), some (.int l7)] [] (jG0 sc) h (0, 0))
    (v2 : ¬ 300 ≤ l3 → WP mX11_listGains Q 136 [some (.ref 0), some (.int l1), some (.int l2), some (.int l3), some (.int l4), some (.int l5), some (.int l6), some (.int l7)] [] (jG0 sc) h (0, 0)) :
    WP mX11_listGains Q 127 [some (.ref 0), some (.int l1), some (.int l2), some (.int l3), some (.int l4), some (.int l5), some (.int l6), some (.int l7)] [] (jG0 sc) h (0, 0) := by
  refine j_iload_n (i := 3) rfl dX11_listGains_127 ?_
  refine j_aload_n (i := 0) rfl dX11_listGains_128 ?_
  refine j_getR (idx := 92) (ci := 11) (k := 17) (nest := false) (show (11, 92, 11, 17, false) ∈ jFT by decide) rfl (Nat.le_of_ble_eq_true rfl) rfl (a := 97) rfl dX11_listGains_129 ?_
  refine j_alen (Nat.le_of_ble_eq_true rfl) rfl rfl 300 rfl dX11_listGains_132 ?_
  refine j_icmp_ge (off := 16) 149 dX11_listGains_133 (by decide) (fun c1 => ?_) (fun c1 => ?_)
  · exact j_le [some (.ref 0), some (.int l1), some (.int l2), some (.int l3), some (.int l4), some (.int l5), some (.int l6), some (.int l7)] (And.intro rfl (And.intro rfl (And.intro rfl (And.intro rfl (And.intro rfl (And.intro rfl (And.intro rfl (And.intro rfl True.intro)))))))) (v1 c1)
  · exact j_le [some (.ref 0), some (.int l1), some (.int l2), some (.int l3), some (.int l4), some (.int l5), some (.int l6), some (.int l7)] (And.intro rfl (And.intro rfl (And.intro rfl (And.intro rfl (And.intro rfl (And.intro rfl (And.intro rfl (And.intro rfl True.intro)))))))) (v2 c1)
set_option maxRecDepth 100000 in
theorem bX11_listGains_136 {sc : Nat × (Nat → Int32)} {h : jH} {Q : jQ} {l1 l2 l3 l4 l5 l6 l7 : Int32}
    (o1 : vp_in l3 300)
    (v1 : WP mX11_listGains Q 149 [some (.ref 0), some (.int l1), some (.int l2), some (.int (l3 + 1)), some (.int l4), some (.int l5), some (.int l6), some (.int l7)] [] (jG0 sc) (jput h 97 l3.toNatClampNeg (l2 &&& l5)) (0, 0)) :
    WP mX11_listGains Q 136 [some (.ref 0), some (.int l1), some (.int l2), some (.int l3), some (.int l4), some (.int l5), some (.int l6), some (.int l7)] [] (jG0 sc) h (0, 0) := by
  refine j_aload_n (i := 0) rfl dX11_listGains_136 ?_
  refine j_getR (idx := 92) (ci := 11) (k := 17) (nest := false) (show (11, 92, 11, 17, false) ∈ jFT by decide) rfl (Nat.le_of_ble_eq_true rfl) rfl (a := 97) rfl dX11_listGains_137 ?_
  refine j_iload_n (i := 3) rfl dX11_listGains_140 ?_
  refine j_iload_n (i := 2) rfl dX11_listGains_141 ?_
  refine j_iload (i := 5) rfl dX11_listGains_142 ?_
  refine j_iand dX11_listGains_144 ?_
  refine j_iast (Nat.le_of_ble_eq_true rfl) rfl o1 dX11_listGains_145 ?_
  refine j_iinc (i := 3) (n := 1) rfl dX11_listGains_146 (Nat.le_of_ble_eq_true rfl) ?_
  refine j_eqlv [some (.ref 0), some (.int l1), some (.int l2), some (.int (l3 + 1)), some (.int l4), some (.int l5), some (.int l6), some (.int l7)] rfl ?_
  exact j_le [some (.ref 0), some (.int l1), some (.int l2), some (.int (l3 + 1)), some (.int l4), some (.int l5), some (.int l6), some (.int l7)] (And.intro rfl (And.intro rfl (And.intro rfl (And.intro rfl (And.intro rfl (And.intro rfl (And.intro rfl (And.intro rfl True.intro)))))))) v1
set_option maxRecDepth 100000 in
theorem bX11_listGains_149 {sc : Nat × (Nat → Int32)} {h : jH} {Q : jQ} {l1 l2 l3 l4 l5 l6 l7 : Int32}
    (v1 : WP mX11_listGains Q 5 [some (.ref 0), some (.int l1), some (.int l2), some (.int l3), some (.int (l4 + 1)), none, none, none] [] (jG0 sc) h (0, 0)) :
    WP mX11_listGains Q 149 [some (.ref 0), some (.int l1), some (.int l2), some (.int l3), some (.int l4), some (.int l5), some (.int l6), some (.int l7)] [] (jG0 sc) h (0, 0) := by
  refine j_iinc (i := 4) (n := 1) rfl dX11_listGains_149 (Nat.le_of_ble_eq_true rfl) ?_
  refine j_eqlv [some (.ref 0), some (.int l1), some (.int l2), some (.int l3), some (.int (l4 + 1)), some (.int l5), some (.int l6), some (.int l7)] rfl ?_
  refine j_goto (off := -147) 5 dX11_listGains_152 (by decide) ?_
  exact j_le [some (.ref 0), some (.int l1), some (.int l2), some (.int l3), some (.int (l4 + 1)), none, none, none] (And.intro rfl (And.intro rfl (And.intro rfl (And.intro rfl (And.intro rfl True.intro))))) v1
set_option maxRecDepth 100000 in
theorem bX11_listGains_155 {sc : Nat × (Nat → Int32)} {h : jH} {Q : jQ} {l1 l2 l3 l4 : Int32}
    (v1 : Q (.inl (some (.int l3))) (jG0 sc) h) :
    WP mX11_listGains Q 155 [some (.ref 0), some (.int l1), some (.int l2), some (.int l3), some (.int l4), none, none, none] [] (jG0 sc) h (0, 0) := by
  refine j_iload_n (i := 3) rfl dX11_listGains_155 ?_
  exact j_iret rfl rfl (Nat.zero_le _) (Nat.zero_le _) dX11_listGains_156 v1
set_option maxRecDepth 100000 in
theorem rX11_listGains_0 {sc : Nat × (Nat → Int32)} {h : jH} {Q : jQ} {l1 l2 : Int32}
    (v1 : WP mX11_listGains Q 5 [some (.ref 0), some (.int l1), some (.int l2), some (.int 0), some (.int 0), none, none, none] [] (jG0 sc) h (0, 0)) :
    WP mX11_listGains Q 0 [some (.ref 0), some (.int l1), some (.int l2), none, none, none, none, none] [] (jG0 sc) h (0, 0) := by
  exact (bX11_listGains_0 v1)
set_option maxRecDepth 100000 in
theorem rX11_listGains_5 {sc : Nat × (Nat → Int32)} {h : jH} {Q : jQ} {l1 l2 l3 l4 : Int32} {P1 : Int32 → jH → Prop} {P2 : Int32 → jH → Prop}
    (v1 : (h 75 6) ≤ l4 → Q (.inl (some (.int l3))) (jG0 sc) h)
    (k1 : ¬ (h 75 6) ≤ l4 → JM mX3_shape [.ref 75, .ref 10, .int l4, .ref 89] (jG0 sc) h (jint sc P1))
    (k2 : ¬ (h 75 6) ≤ l4 → ∀ (x1 : Int32) (h1 : jH), P1 x1 h1 → JM mX11_rightBits [.ref 0, .ref 89] (jG0 sc) h1 (jint sc P2))
    (v2 : ¬ (h 75 6) ≤ l4 → ∀ (x1 : Int32) (h1 : jH), P1 x1 h1 → ∀ (x2 : Int32) (h2 : jH), P2 x2 h2 → ¬ (l1 &&& (x2 ^^^ ((-1) : Int32))) = 0 → WP mX11_listGains Q 74 [some (.ref 0), some (.int l1), some (.int l2), some (.int l3), some (.int l4), some (.int x2), some (.int 0), some (.int 0)] [] (jG0 sc) h2 (0, 0))
    (v3 : ¬ (h 75 6) ≤ l4 → ∀ (x1 : Int32) (h1 : jH), P1 x1 h1 → ∀ (x2 : Int32) (h2 : jH), P2 x2 h2 → (l1 &&& (x2 ^^^ ((-1) : Int32))) = 0 → (l2 &&& x2) = 0 → WP mX11_listGains Q 74 [some (.ref 0), some (.int l1), some (.int l2), some (.int l3), some (.int l4), some (.int x2), some (.int 0), some (.int 0)] [] (jG0 sc) h2 (0, 0))
    (v4 : ¬ (h 75 6) ≤ l4 → ∀ (x1 : Int32) (h1 : jH), P1 x1 h1 → ∀ (x2 : Int32) (h2 : jH), P2 x2 h2 → (l1 &&& (x2 ^^^ ((-1) : Int32))) = 0 → ¬ (l2 &&& x2) = 0 → WP mX11_listGains Q 74 [some (.ref 0), some (.int l1), some (.int l2), some (.int l3), some (.int l4), some (.int x2), some (.int 1), some (.int 0)] [] (jG0 sc) h2 (0, 0)) :
    WP mX11_listGains Q 5 [some (.ref 0), some (.int l1), some (.int l2), some (.int l3), some (.int l4), none, none, none] [] (jG0 sc) h (0, 0) := by
  exact (bX11_listGains_5 (fun c1 => (bX11_listGains_155 (v1 c1))) (fun c1 => (bX11_listGains_17 (k1 c1) (fun x1 h1 p1 => (k2 c1 x1 h1 p1)) (fun x1 h1 p1 x2 h2 p2 => (bX11_listGains_51 (fun c2 => (bX11_listGains_68 (bX11_listGains_69 (v2 c1 x1 h1 p1 x2 h2 p2 c2)))) (fun c2 => (bX11_listGains_57 (fun c3 => (bX11_listGains_68 (bX11_listGains_69 (v3 c1 x1 h1 p1 x2 h2 p2 c2 c3)))) (fun c3 => (bX11_listGains_64 (bX11_listGains_69 (v4 c1 x1 h1 p1 x2 h2 p2 c2 c3)))))))))))
set_option maxRecDepth 100000 in
theorem rX11_listGains_74 {sc : Nat × (Nat → Int32)} {h : jH} {Q : jQ} {l1 l2 l3 l4 l5 l6 l7 : Int32}
    (v1 : l3 ≤ l7 → l6 = 0 → WP mX11_listGains Q 5 [some (.ref 0), some (.int l1), some (.int l2), some (.int l3), some (.int (l4 + 1)), none, none, none] [] (jG0 sc) h (0, 0))
    (v2 : l3 ≤ l7 → ¬ l6 = 0 → 300 ≤ l3 → WP mX11_listGains Q 5 [some (.ref 0), some (.int l1), some (.int l2), some (.int l3), some (.int (l4 + 1)), none, none, none] [] (jG0 sc) h (0, 0))
    (o1 : l3 ≤ l7 → ¬ l6 = 0 → ¬ 300 ≤ l3 → vp_in l3 300)
    (v3 : l3 ≤ l7 → ¬ l6 = 0 → ¬ 300 ≤ l3 → WP mX11_listGains Q 5 [some (.ref 0), some (.int l1), some (.int l2), some (.int (l3 + 1)), some (.int (l4 + 1)), none, none, none] [] (jG0 sc) (jput h 97 l3.toNatClampNeg (l2 &&& l5)) (0, 0))
    (v4 : ¬ l3 ≤ l7 → 300 ≤ l7 → l6 = 0 → WP mX11_listGains Q 5 [some (.ref 0), some (.int l1), some (.int l2), some (.int l3), some (.int (l4 + 1)), none, none, none] [] (jG0 sc) h (0, 0))
    (v5 : ¬ l3 ≤ l7 → 300 ≤ l7 → ¬ l6 = 0 → 300 ≤ l3 → WP mX11_listGains Q 5 [some (.ref 0), some (.int l1), some (.int l2), some (.int l3), some (.int (l4 + 1)), none, none, none] [] (jG0 sc) h (0, 0))
    (o2 : ¬ l3 ≤ l7 → 300 ≤ l7 → ¬ l6 = 0 → ¬ 300 ≤ l3 → vp_in l3 300)
    (v6 : ¬ l3 ≤ l7 → 300 ≤ l7 → ¬ l6 = 0 → ¬ 300 ≤ l3 → WP mX11_listGains Q 5 [some (.ref 0), some (.int l1), some (.int l2), some (.int (l3 + 1)), some (.int (l4 + 1)), none, none, none] [] (jG0 sc) (jput h 97 l3.toNatClampNeg (l2 &&& l5)) (0, 0))
    (v7 : ¬ l3 ≤ l7 → ¬ 300 ≤ l7 → l6 = 0 → l6 = 0 → WP mX11_listGains Q 5 [some (.ref 0), some (.int l1), some (.int l2), some (.int l3), some (.int (l4 + 1)), none, none, none] [] (jG0 sc) h (0, 0))
    (v8 : ¬ l3 ≤ l7 → ¬ 300 ≤ l7 → l6 = 0 → ¬ l6 = 0 → 300 ≤ l3 → WP mX11_listGains Q 5 [some (.ref 0), some (.int l1), some (.int l2), some (.int l3), some (.int (l4 + 1)), none, none, none] [] (jG0 sc) h (0, 0))
    (o3 : ¬ l3 ≤ l7 → ¬ 300 ≤ l7 → l6 = 0 → ¬ l6 = 0 → ¬ 300 ≤ l3 → vp_in l3 300)
    (v9 : ¬ l3 ≤ l7 → ¬ 300 ≤ l7 → l6 = 0 → ¬ l6 = 0 → ¬ 300 ≤ l3 → WP mX11_listGains Q 5 [some (.ref 0), some (.int l1), some (.int l2), some (.int (l3 + 1)), some (.int (l4 + 1)), none, none, none] [] (jG0 sc) (jput h 97 l3.toNatClampNeg (l2 &&& l5)) (0, 0))
    (o4 : ¬ l3 ≤ l7 → ¬ 300 ≤ l7 → ¬ l6 = 0 → vp_in l7 300)
    (v10 : ¬ l3 ≤ l7 → ¬ 300 ≤ l7 → ¬ l6 = 0 → (h 97 l7.toNatClampNeg) = (l2 &&& l5) → WP mX11_listGains Q 74 [some (.ref 0), some (.int l1), some (.int l2), some (.int l3), some (.int l4), some (.int l5), some (.int 0), some (.int (l7 + 1))] [] (jG0 sc) h (0, 0))
    (v11 : ¬ l3 ≤ l7 → ¬ 300 ≤ l7 → ¬ l6 = 0 → ¬ (h 97 l7.toNatClampNeg) = (l2 &&& l5) → WP mX11_listGains Q 74 [some (.ref 0), some (.int l1), some (.int l2), some (.int l3), some (.int l4), some (.int l5), some (.int 1), some (.int (l7 + 1))] [] (jG0 sc) h (0, 0)) :
    WP mX11_listGains Q 74 [some (.ref 0), some (.int l1), some (.int l2), some (.int l3), some (.int l4), some (.int l5), some (.int l6), some (.int l7)] [] (jG0 sc) h (0, 0) := by
  exact (bX11_listGains_74 (fun c1 => (bX11_listGains_122 (fun c2 => (bX11_listGains_149 (v1 c1 c2))) (fun c2 => (bX11_listGains_127 (fun c3 => (bX11_listGains_149 (v2 c1 c2 c3))) (fun c3 => (bX11_listGains_136 (o1 c1 c2 c3) (bX11_listGains_149 (v3 c1 c2 c3)))))))) (fun c1 => (bX11_listGains_80 (fun c4 => (bX11_listGains_122 (fun c5 => (bX11_listGains_149 (v4 c1 c4 c5))) (fun c5 => (bX11_listGains_127 (fun c6 => (bX11_listGains_149 (v5 c1 c4 c5 c6))) (fun c6 => (bX11_listGains_136 (o2 c1 c4 c5 c6) (bX11_listGains_149 (v6 c1 c4 c5 c6)))))))) (fun c4 => (bX11_listGains_90 (fun c7 => (bX11_listGains_122 (fun c8 => (bX11_listGains_149 (v7 c1 c4 c7 c8))) (fun c8 => (bX11_listGains_127 (fun c9 => (bX11_listGains_149 (v8 c1 c4 c7 c8 c9))) (fun c9 => (bX11_listGains_136 (o3 c1 c4 c7 c8 c9) (bX11_listGains_149 (v9 c1 c4 c7 c8 c9)))))))) (fun c7 => (bX11_listGains_95 (o4 c1 c4 c7) (fun c10 => (bX11_listGains_113 (bX11_listGains_114 (v10 c1 c4 c7 c10)))) (fun c10 => (bX11_listGains_109 (bX11_listGains_114 (v11 c1 c4 c7 c10)))))))))))
theorem dX11_fewestMends_0 : decode (mC mX11_fewestMends) 0 = .ok (.iconst 0, 1) := by decide +kernel
theorem dX11_fewestMends_1 : decode (mC mX11_fewestMends) 1 = .ok (.istore_n 3, 1) := by decide +kernel
theorem dX11_fewestMends_2 : decode (mC mX11_fewestMends) 2 = .ok (.iload_n 3, 1) := by decide +kernel
theorem dX11_fewestMends_3 : decode (mC mX11_fewestMends) 3 = .ok (.iload_n 1, 1) := by decide +kernel
theorem dX11_fewestMends_4 : decode (mC mX11_fewestMends) 4 = .ok (.if_icmp .gt 26, 3) := by decide +kernel
theorem dX11_fewestMends_7 : decode (mC mX11_fewestMends) 7 = .ok (.iload_n 3, 1) := by decide +kernel
theorem dX11_fewestMends_8 : decode (mC mX11_fewestMends) 8 = .ok (.aload_n 0, 1) := by decide +kernel
theorem dX11_fewestMends_9 : decode (mC mX11_fewestMends) 9 = .ok (.getfield 95, 3) := by decide +kernel
theorem dX11_fewestMends_12 : decode (mC mX11_fewestMends) 12 = .ok (.arraylength, 1) := by decide +kernel
theorem dX11_fewestMends_13 : decode (mC mX11_fewestMends) 13 = .ok (.if_icmp .ge 17, 3) := by decide +kernel
theorem dX11_fewestMends_16 : decode (mC mX11_fewestMends) 16 = .ok (.aload_n 0, 1) := by decide +kernel
theorem dX11_fewestMends_17 : decode (mC mX11_fewestMends) 17 = .ok (.getfield 95, 3) := by decide +kernel
theorem dX11_fewestMends_20 : decode (mC mX11_fewestMends) 20 = .ok (.iload_n 3, 1) := by decide +kernel
theorem dX11_fewestMends_21 : decode (mC mX11_fewestMends) 21 = .ok (.bipush 100, 2) := by decide +kernel
theorem dX11_fewestMends_23 : decode (mC mX11_fewestMends) 23 = .ok (.bastore, 1) := by decide +kernel
theorem dX11_fewestMends_24 : decode (mC mX11_fewestMends) 24 = .ok (.iinc 3 1, 3) := by decide +kernel
theorem dX11_fewestMends_27 : decode (mC mX11_fewestMends) 27 = .ok (.goto (-25), 3) := by decide +kernel
theorem dX11_fewestMends_30 : decode (mC mX11_fewestMends) 30 = .ok (.aload_n 0, 1) := by decide +kernel
theorem dX11_fewestMends_31 : decode (mC mX11_fewestMends) 31 = .ok (.getfield 95, 3) := by decide +kernel
theorem dX11_fewestMends_34 : decode (mC mX11_fewestMends) 34 = .ok (.iconst 0, 1) := by decide +kernel
theorem dX11_fewestMends_35 : decode (mC mX11_fewestMends) 35 = .ok (.iconst 0, 1) := by decide +kernel
theorem dX11_fewestMends_36 : decode (mC mX11_fewestMends) 36 = .ok (.bastore, 1) := by decide +kernel
theorem dX11_fewestMends_37 : decode (mC mX11_fewestMends) 37 = .ok (.iconst 0, 1) := by decide +kernel
theorem dX11_fewestMends_38 : decode (mC mX11_fewestMends) 38 = .ok (.istore_n 3, 1) := by decide +kernel
theorem dX11_fewestMends_39 : decode (mC mX11_fewestMends) 39 = .ok (.iload_n 3, 1) := by decide +kernel
theorem dX11_fewestMends_40 : decode (mC mX11_fewestMends) 40 = .ok (.iload_n 1, 1) := by decide +kernel
theorem dX11_fewestMends_41 : decode (mC mX11_fewestMends) 41 = .ok (.if_icmp .ge 51, 3) := by decide +kernel
theorem dX11_fewestMends_44 : decode (mC mX11_fewestMends) 44 = .ok (.iload_n 3, 1) := by decide +kernel
theorem dX11_fewestMends_45 : decode (mC mX11_fewestMends) 45 = .ok (.aload_n 0, 1) := by decide +kernel
theorem dX11_fewestMends_46 : decode (mC mX11_fewestMends) 46 = .ok (.getfield 95, 3) := by decide +kernel
theorem dX11_fewestMends_49 : decode (mC mX11_fewestMends) 49 = .ok (.arraylength, 1) := by decide +kernel
theorem dX11_fewestMends_50 : decode (mC mX11_fewestMends) 50 = .ok (.if_icmp .ge 42, 3) := by decide +kernel
theorem dX11_fewestMends_53 : decode (mC mX11_fewestMends) 53 = .ok (.aload_n 0, 1) := by decide +kernel
theorem dX11_fewestMends_54 : decode (mC mX11_fewestMends) 54 = .ok (.getfield 95, 3) := by decide +kernel
theorem dX11_fewestMends_57 : decode (mC mX11_fewestMends) 57 = .ok (.iload_n 3, 1) := by decide +kernel
theorem dX11_fewestMends_58 : decode (mC mX11_fewestMends) 58 = .ok (.baload, 1) := by decide +kernel
theorem dX11_fewestMends_59 : decode (mC mX11_fewestMends) 59 = .ok (.bipush 100, 2) := by decide +kernel
theorem dX11_fewestMends_61 : decode (mC mX11_fewestMends) 61 = .ok (.if_icmp .ge 25, 3) := by decide +kernel
theorem dX11_fewestMends_64 : decode (mC mX11_fewestMends) 64 = .ok (.aload_n 0, 1) := by decide +kernel
theorem dX11_fewestMends_65 : decode (mC mX11_fewestMends) 65 = .ok (.iload_n 3, 1) := by decide +kernel
theorem dX11_fewestMends_66 : decode (mC mX11_fewestMends) 66 = .ok (.iload_n 1, 1) := by decide +kernel
theorem dX11_fewestMends_67 : decode (mC mX11_fewestMends) 67 = .ok (.iload_n 3, 1) := by decide +kernel
theorem dX11_fewestMends_68 : decode (mC mX11_fewestMends) 68 = .ok (.iconst (-1), 1) := by decide +kernel
theorem dX11_fewestMends_69 : decode (mC mX11_fewestMends) 69 = .ok (.ixor, 1) := by decide +kernel
theorem dX11_fewestMends_70 : decode (mC mX11_fewestMends) 70 = .ok (.iand, 1) := by decide +kernel
theorem dX11_fewestMends_71 : decode (mC mX11_fewestMends) 71 = .ok (.invokestatic 405, 3) := by decide +kernel
theorem dX11_fewestMends_74 : decode (mC mX11_fewestMends) 74 = .ok (.aload_n 0, 1) := by decide +kernel
theorem dX11_fewestMends_75 : decode (mC mX11_fewestMends) 75 = .ok (.getfield 95, 3) := by decide +kernel
theorem dX11_fewestMends_78 : decode (mC mX11_fewestMends) 78 = .ok (.iload_n 3, 1) := by decide +kernel
theorem dX11_fewestMends_79 : decode (mC mX11_fewestMends) 79 = .ok (.baload, 1) := by decide +kernel
theorem dX11_fewestMends_80 : decode (mC mX11_fewestMends) 80 = .ok (.iconst 1, 1) := by decide +kernel
theorem dX11_fewestMends_81 : decode (mC mX11_fewestMends) 81 = .ok (.iadd, 1) := by decide +kernel
theorem dX11_fewestMends_82 : decode (mC mX11_fewestMends) 82 = .ok (.iload_n 2, 1) := by decide +kernel
theorem dX11_fewestMends_83 : decode (mC mX11_fewestMends) 83 = .ok (.invokevirtual 408, 3) := by decide +kernel
theorem dX11_fewestMends_86 : decode (mC mX11_fewestMends) 86 = .ok (.iinc 3 1, 3) := by decide +kernel
theorem dX11_fewestMends_89 : decode (mC mX11_fewestMends) 89 = .ok (.goto (-50), 3) := by decide +kernel
theorem dX11_fewestMends_92 : decode (mC mX11_fewestMends) 92 = .ok (.iload_n 1, 1) := by decide +kernel
theorem dX11_fewestMends_93 : decode (mC mX11_fewestMends) 93 = .ok (.ifCond .lt 21, 3) := by decide +kernel
theorem dX11_fewestMends_96 : decode (mC mX11_fewestMends) 96 = .ok (.iload_n 1, 1) := by decide +kernel
theorem dX11_fewestMends_97 : decode (mC mX11_fewestMends) 97 = .ok (.aload_n 0, 1) := by decide +kernel
theorem dX11_fewestMends_98 : decode (mC mX11_fewestMends) 98 = .ok (.getfield 95, 3) := by decide +kernel
theorem dX11_fewestMends_101 : decode (mC mX11_fewestMends) 101 = .ok (.arraylength, 1) := by decide +kernel
theorem dX11_fewestMends_102 : decode (mC mX11_fewestMends) 102 = .ok (.if_icmp .ge 12, 3) := by decide +kernel
theorem dX11_fewestMends_105 : decode (mC mX11_fewestMends) 105 = .ok (.aload_n 0, 1) := by decide +kernel
theorem dX11_fewestMends_106 : decode (mC mX11_fewestMends) 106 = .ok (.getfield 95, 3) := by decide +kernel
theorem dX11_fewestMends_109 : decode (mC mX11_fewestMends) 109 = .ok (.iload_n 1, 1) := by decide +kernel
theorem dX11_fewestMends_110 : decode (mC mX11_fewestMends) 110 = .ok (.baload, 1) := by decide +kernel
theorem dX11_fewestMends_111 : decode (mC mX11_fewestMends) 111 = .ok (.goto 4, 3) := by decide +kernel
theorem dX11_fewestMends_114 : decode (mC mX11_fewestMends) 114 = .ok (.iconst (-1), 1) := by decide +kernel
theorem dX11_fewestMends_115 : decode (mC mX11_fewestMends) 115 = .ok (.ireturn, 1) := by decide +kernel
set_option maxRecDepth 100000 in
theorem bX11_fewestMends_0 {sc : Nat × (Nat → Int32)} {h : jH} {Q : jQ} {l1 l2 : Int32}
    (v1 : WP mX11_fewestMends Q 2 [some (.ref 0), some (.int l1), some (.int l2), some (.int 0)] [] (jG0 sc) h (0, 0)) :
    WP mX11_fewestMends Q 0 [some (.ref 0), some (.int l1), some (.int l2), none] [] (jG0 sc) h (0, 0) := by
  refine j_iconst (n := 0) 0 (by decide) dX11_fewestMends_0 ?_
  refine j_istore_n (i := 3) dX11_fewestMends_1 (Nat.le_of_ble_eq_true rfl) ?_
  exact j_le [some (.ref 0), some (.int l1), some (.int l2), some (.int 0)] (And.intro rfl (And.intro rfl (And.intro rfl (And.intro rfl True.intro)))) v1
set_option maxRecDepth 100000 in
theorem bX11_fewestMends_2 {sc : Nat × (Nat → Int32)} {h : jH} {Q : jQ} {l1 l2 l3 : Int32}
    (v1 : l1 < l3 → WP mX11_fewestMends Q 30 [some (.ref 0), some (.int l1), some (.int l2), some (.int l3)] [] (jG0 sc) h (0, 0))
    (v2 : ¬ l1 < l3 → WP mX11_fewestMends Q 7 [some (.ref 0), some (.int l1), some (.int l2), some (.int l3)] [] (jG0 sc) h (0, 0)) :
    WP mX11_fewestMends Q 2 [some (.ref 0), some (.int l1), some (.int l2), some (.int l3)] [] (jG0 sc) h (0, 0) := by
  refine j_iload_n (i := 3) rfl dX11_fewestMends_2 ?_
  refine j_iload_n (i := 1) rfl dX11_fewestMends_3 ?_
  refine j_icmp_gt (off := 26) 30 dX11_fewestMends_4 (by decide) (fun c1 => ?_) (fun c1 => ?_)
  · exact j_le [some (.ref 0), some (.int l1), some (.int l2), some (.int l3)] (And.intro rfl (And.intro rfl (And.intro rfl (And.intro rfl True.intro)))) (v1 c1)
  · exact j_le [some (.ref 0), some (.int l1), some (.int l2), some (.int l3)] (And.intro rfl (And.intro rfl (And.intro rfl (And.intro rfl True.intro)))) (v2 c1)
set_option maxRecDepth 100000 in
theorem bX11_fewestMends_7 {sc : Nat × (Nat → Int32)} {h : jH} {Q : jQ} {l1 l2 l3 : Int32}
    (v1 : 4096 ≤ l3 → WP mX11_fewestMends Q 30 [some (.ref 0), some (.int l1), some (.int l2), some (.int l3)] [] (jG0 sc) h (0, 0))
    (v2 : ¬ 4096 ≤ l3 → WP mX11_fewestMends Q 16 [some (.ref 0), some (.int l1), some (.int l2), some (.int l3)] [] (jG0 sc) h (0, 0)) :
    WP mX11_fewestMends Q 7 [some (.ref 0), some (.int l1), some (.int l2), some (.int l3)] [] (jG0 sc) h (0, 0) := by
  refine j_iload_n (i := 3) rfl dX11_fewestMends_7 ?_
  refine j_aload_n (i := 0) rfl dX11_fewestMends_8 ?_
  refine j_getR (idx := 95) (ci := 11) (k := 18) (nest := false) (show (11, 95, 11, 18, false) ∈ jFT by decide) rfl (Nat.le_of_ble_eq_true rfl) rfl (a := 98) rfl dX11_fewestMends_9 ?_
  refine j_alen (Nat.le_of_ble_eq_true rfl) rfl rfl 4096 rfl dX11_fewestMends_12 ?_
  refine j_icmp_ge (off := 17) 30 dX11_fewestMends_13 (by decide) (fun c1 => ?_) (fun c1 => ?_)
  · exact j_le [some (.ref 0), some (.int l1), some (.int l2), some (.int l3)] (And.intro rfl (And.intro rfl (And.intro rfl (And.intro rfl True.intro)))) (v1 c1)
  · exact j_le [some (.ref 0), some (.int l1), some (.int l2), some (.int l3)] (And.intro rfl (And.intro rfl (And.intro rfl (And.intro rfl True.intro)))) (v2 c1)
set_option maxRecDepth 100000 in
theorem bX11_fewestMends_16 {sc : Nat × (Nat → Int32)} {h : jH} {Q : jQ} {l1 l2 l3 : Int32}
    (o1 : vp_in l3 4096)
    (v1 : WP mX11_fewestMends Q 2 [some (.ref 0), some (.int l1), some (.int l2), some (.int (l3 + 1))] [] (jG0 sc) (jput h 98 l3.toNatClampNeg (((100 : Int32)).toInt8.toInt32)) (0, 0)) :
    WP mX11_fewestMends Q 16 [some (.ref 0), some (.int l1), some (.int l2), some (.int l3)] [] (jG0 sc) h (0, 0) := by
  refine j_aload_n (i := 0) rfl dX11_fewestMends_16 ?_
  refine j_getR (idx := 95) (ci := 11) (k := 18) (nest := false) (show (11, 95, 11, 18, false) ∈ jFT by decide) rfl (Nat.le_of_ble_eq_true rfl) rfl (a := 98) rfl dX11_fewestMends_17 ?_
  refine j_iload_n (i := 3) rfl dX11_fewestMends_20 ?_
  refine j_bipush (n := 100) 100 (by decide) dX11_fewestMends_21 ?_
  refine j_bast (Nat.le_of_ble_eq_true rfl) rfl o1 dX11_fewestMends_23 ?_
  refine j_iinc (i := 3) (n := 1) rfl dX11_fewestMends_24 (Nat.le_of_ble_eq_true rfl) ?_
  refine j_eqlv [some (.ref 0), some (.int l1), some (.int l2), some (.int (l3 + 1))] rfl ?_
  refine j_goto (off := -25) 2 dX11_fewestMends_27 (by decide) ?_
  exact j_le [some (.ref 0), some (.int l1), some (.int l2), some (.int (l3 + 1))] (And.intro rfl (And.intro rfl (And.intro rfl (And.intro rfl True.intro)))) v1
set_option maxRecDepth 100000 in
theorem bX11_fewestMends_30 {sc : Nat × (Nat → Int32)} {h : jH} {Q : jQ} {l1 l2 l3 : Int32}
    (v1 : WP mX11_fewestMends Q 39 [some (.ref 0), some (.int l1), some (.int l2), some (.int 0)] [] (jG0 sc) (jput h 98 0 (((0 : Int32)).toInt8.toInt32)) (0, 0)) :
    WP mX11_fewestMends Q 30 [some (.ref 0), some (.int l1), some (.int l2), some (.int l3)] [] (jG0 sc) h (0, 0) := by
  refine j_aload_n (i := 0) rfl dX11_fewestMends_30 ?_
  refine j_getR (idx := 95) (ci := 11) (k := 18) (nest := false) (show (11, 95, 11, 18, false) ∈ jFT by decide) rfl (Nat.le_of_ble_eq_true rfl) rfl (a := 98) rfl dX11_fewestMends_31 ?_
  refine j_iconst (n := 0) 0 (by decide) dX11_fewestMends_34 ?_
  refine j_iconst (n := 0) 0 (by decide) dX11_fewestMends_35 ?_
  refine j_bast (Nat.le_of_ble_eq_true rfl) rfl (jinl (n := 4096) (by decide)) dX11_fewestMends_36 ?_
  refine j_iconst (n := 0) 0 (by decide) dX11_fewestMends_37 ?_
  refine j_istore_n (i := 3) dX11_fewestMends_38 (Nat.le_of_ble_eq_true rfl) ?_
  exact j_le [some (.ref 0), some (.int l1), some (.int l2), some (.int 0)] (And.intro rfl (And.intro rfl (And.intro rfl (And.intro rfl True.intro)))) v1
set_option maxRecDepth 100000 in
theorem bX11_fewestMends_39 {sc : Nat × (Nat → Int32)} {h : jH} {Q : jQ} {l1 l2 l3 : Int32}
    (v1 : l1 ≤ l3 → WP mX11_fewestMends Q 92 [some (.ref 0), some (.int l1), some (.int l2), some (.int l3)] [] (jG0 sc) h (0, 0))
    (v2 : ¬ l1 ≤ l3 → WP mX11_fewestMends Q 44 [some (.ref 0), some (.int l1), some (.int l2), some (.int l3)] [] (jG0 sc) h (0, 0)) :
    WP mX11_fewestMends Q 39 [some (.ref 0), some (.int l1), some (.int l2), some (.int l3)] [] (jG0 sc) h (0, 0) := by
  refine j_iload_n (i := 3) rfl dX11_fewestMends_39 ?_
  refine j_iload_n (i := 1) rfl dX11_fewestMends_40 ?_
  refine j_icmp_ge (off := 51) 92 dX11_fewestMends_41 (by decide) (fun c1 => ?_) (fun c1 => ?_)
  · exact j_le [some (.ref 0), some (.int l1), some (.int l2), some (.int l3)] (And.intro rfl (And.intro rfl (And.intro rfl (And.intro rfl True.intro)))) (v1 c1)
  · exact j_le [some (.ref 0), some (.int l1), some (.int l2), some (.int l3)] (And.intro rfl (And.intro rfl (And.intro rfl (And.intro rfl True.intro)))) (v2 c1)
set_option maxRecDepth 100000 in
theorem bX11_fewestMends_44 {sc : Nat × (Nat → Int32)} {h : jH} {Q : jQ} {l1 l2 l3 : Int32}
    (v1 : 4096 ≤ l3 → WP mX11_fewestMends Q 92 [some (.ref 0), some (.int l1), some (.int l2), some (.int l3)] [] (jG0 sc) h (0, 0))
    (v2 : ¬ 4096 ≤ l3 → WP mX11_fewestMends Q 53 [some (.ref 0), some (.int l1), some (.int l2), some (.int l3)] [] (jG0 sc) h (0, 0)) :
    WP mX11_fewestMends Q 44 [some (.ref 0), some (.int l1), some (.int l2), some (.int l3)] [] (jG0 sc) h (0, 0) := by
  refine j_iload_n (i := 3) rfl dX11_fewestMends_44 ?_
  refine j_aload_n (i := 0) rfl dX11_fewestMends_45 ?_
  refine j_getR (idx := 95) (ci := 11) (k := 18) (nest := false) (show (11, 95, 11, 18, false) ∈ jFT by decide) rfl (Nat.le_of_ble_eq_true rfl) rfl (a := 98) rfl dX11_fewestMends_46 ?_
  refine j_alen (Nat.le_of_ble_eq_true rfl) rfl rfl 4096 rfl dX11_fewestMends_49 ?_
  refine j_icmp_ge (off := 42) 92 dX11_fewestMends_50 (by decide) (fun c1 => ?_) (fun c1 => ?_)
  · exact j_le [some (.ref 0), some (.int l1), some (.int l2), some (.int l3)] (And.intro rfl (And.intro rfl (And.intro rfl (And.intro rfl True.intro)))) (v1 c1)
  · exact j_le [some (.ref 0), some (.int l1), some (.int l2), some (.int l3)] (And.intro rfl (And.intro rfl (And.intro rfl (And.intro rfl True.intro)))) (v2 c1)
set_option maxRecDepth 100000 in
theorem bX11_fewestMends_53 {sc : Nat × (Nat → Int32)} {h : jH} {Q : jQ} {l1 l2 l3 : Int32}
    (o1 : vp_in l3 4096)
    (v1 : 100 ≤ (h 98 l3.toNatClampNeg) → WP mX11_fewestMends Q 86 [some (.ref 0), some (.int l1), some (.int l2), some (.int l3)] [] (jG0 sc) h (0, 0))
    (v2 : ¬ 100 ≤ (h 98 l3.toNatClampNeg) → WP mX11_fewestMends Q 64 [some (.ref 0), some (.int l1), some (.int l2), some (.int l3)] [] (jG0 sc) h (0, 0)) :
    WP mX11_fewestMends Q 53 [some (.ref 0), some (.int l1), some (.int l2), some (.int l3)] [] (jG0 sc) h (0, 0) := by
  refine j_aload_n (i := 0) rfl dX11_fewestMends_53 ?_
  refine j_getR (idx := 95) (ci := 11) (k := 18) (nest := false) (show (11, 95, 11, 18, false) ∈ jFT by decide) rfl (Nat.le_of_ble_eq_true rfl) rfl (a := 98) rfl dX11_fewestMends_54 ?_
  refine j_iload_n (i := 3) rfl dX11_fewestMends_57 ?_
  refine j_bald (Nat.le_of_ble_eq_true rfl) rfl o1 dX11_fewestMends_58 ?_
  refine j_bipush (n := 100) 100 (by decide) dX11_fewestMends_59 ?_
  refine j_icmp_ge (off := 25) 86 dX11_fewestMends_61 (by decide) (fun c1 => ?_) (fun c1 => ?_)
  · exact j_le [some (.ref 0), some (.int l1), some (.int l2), some (.int l3)] (And.intro rfl (And.intro rfl (And.intro rfl (And.intro rfl True.intro)))) (v1 c1)
  · exact j_le [some (.ref 0), some (.int l1), some (.int l2), some (.int l3)] (And.intro rfl (And.intro rfl (And.intro rfl (And.intro rfl True.intro)))) (v2 c1)
set_option maxRecDepth 100000 in
theorem bX11_fewestMends_64 {sc : Nat × (Nat → Int32)} {h : jH} {Q : jQ} {l1 l2 l3 : Int32} {P1 : Int32 → jH → Prop} {P2 : jH → Prop}
    (k1 : JM mX11_lowestBit [.int (l1 &&& (l3 ^^^ ((-1) : Int32)))] (jG0 sc) h (jint sc P1))
    (o1 : ∀ (x1 : Int32) (h1 : jH), P1 x1 h1 → vp_in l3 4096)
    (k2 : ∀ (x1 : Int32) (h1 : jH), P1 x1 h1 → JM mX11_addGains [.ref 0, .int l3, .int x1, .int ((h1 98 l3.toNatClampNeg) + 1), .int l2] (jG0 sc) h1 (jvoid sc P2))
    (v1 : ∀ (x1 : Int32) (h1 : jH), P1 x1 h1 → ∀ h2 : jH, P2 h2 → WP mX11_fewestMends Q 86 [some (.ref 0), some (.int l1), some (.int l2), some (.int l3)] [] (jG0 sc) h2 (0, 0)) :
    WP mX11_fewestMends Q 64 [some (.ref 0), some (.int l1), some (.int l2), some (.int l3)] [] (jG0 sc) h (0, 0) := by
  refine j_aload_n (i := 0) rfl dX11_fewestMends_64 ?_
  refine j_iload_n (i := 3) rfl dX11_fewestMends_65 ?_
  refine j_iload_n (i := 1) rfl dX11_fewestMends_66 ?_
  refine j_iload_n (i := 3) rfl dX11_fewestMends_67 ?_
  refine j_iconst (n := (-1)) (-1) (by decide) dX11_fewestMends_68 ?_
  refine j_ixor dX11_fewestMends_69 ?_
  refine j_iand dX11_fewestMends_70 ?_
  refine j_callS (idx := 405) (As := [.int (l1 &&& (l3 ^^^ ((-1) : Int32)))]) (n := 1) k1 jint_nt (jlkT (jtb6 9 rfl) rfl) sX11_lowestBit kX11_lowestBit rfl ⟨by decide +kernel, by decide +kernel, by decide +kernel⟩ rfl ⟨by decide, by decide⟩ (Nat.le_of_ble_eq_true rfl) ⟨Nat.zero_le _, Nat.zero_le _⟩ dX11_fewestMends_71 (fun r Γ' h1 q => ?_)
  obtain ⟨x1, q0, rfl, p1⟩ := q; cases q0
  refine j_eqst [.int x1, .int l3, .ref 0] (by rfl) ?_
  refine j_aload_n (i := 0) rfl dX11_fewestMends_74 ?_
  refine j_getR (idx := 95) (ci := 11) (k := 18) (nest := false) (show (11, 95, 11, 18, false) ∈ jFT by decide) rfl (Nat.le_of_ble_eq_true rfl) rfl (a := 98) rfl dX11_fewestMends_75 ?_
  refine j_iload_n (i := 3) rfl dX11_fewestMends_78 ?_
  refine j_bald (Nat.le_of_ble_eq_true rfl) rfl (o1 x1 h1 p1) dX11_fewestMends_79 ?_
  refine j_iconst (n := 1) 1 (by decide) dX11_fewestMends_80 ?_
  refine j_iadd dX11_fewestMends_81 ?_
  refine j_iload_n (i := 2) rfl dX11_fewestMends_82 ?_
  refine j_callV (idx := 408) (As := [.int l3, .int x1, .int ((h1 98 l3.toNatClampNeg) + 1), .int l2]) (ci := 11) (n := 4) (k2 x1 h1 p1) jvoid_nt (jlkT (jtb6 12 rfl) rfl) sX11_addGains kX11_addGains rfl ⟨rfl, by decide +kernel, by decide +kernel, by decide +kernel⟩ rfl ⟨by decide, by decide⟩ (Nat.le_of_ble_eq_true rfl) rfl (Nat.le_of_ble_eq_true rfl) (Nat.le_of_ble_eq_true rfl) ⟨Nat.zero_le _, Nat.zero_le _⟩ dX11_fewestMends_83 (fun r Γ' h2 q => ?_)
  obtain ⟨q0, rfl, p2⟩ := q; cases q0
  refine j_eqst [] (by rfl) ?_
  exact j_le [some (.ref 0), some (.int l1), some (.int l2), some (.int l3)] (And.intro rfl (And.intro rfl (And.intro rfl (And.intro rfl True.intro)))) (v1 x1 h1 p1 h2 p2)
set_option maxRecDepth 100000 in
theorem bX11_fewestMends_86 {sc : Nat × (Nat → Int32)} {h : jH} {Q : jQ} {l1 l2 l3 : Int32}
    (v1 : WP mX11_fewestMends Q 39 [some (.ref 0), some (.int l1), some (.int l2), some (.int (l3 + 1))] [] (jG0 sc) h (0, 0)) :
    WP mX11_fewestMends Q 86 [some (.ref 0), some (.int l1), some (.int l2), some (.int l3)] [] (jG0 sc) h (0, 0) := by
  refine j_iinc (i := 3) (n := 1) rfl dX11_fewestMends_86 (Nat.le_of_ble_eq_true rfl) ?_
  refine j_eqlv [some (.ref 0), some (.int l1), some (.int l2), some (.int (l3 + 1))] rfl ?_
  refine j_goto (off := -50) 39 dX11_fewestMends_89 (by decide) ?_
  exact j_le [some (.ref 0), some (.int l1), some (.int l2), some (.int (l3 + 1))] (And.intro rfl (And.intro rfl (And.intro rfl (And.intro rfl True.intro)))) v1
set_option maxRecDepth 100000 in
theorem bX11_fewestMends_92 {sc : Nat × (Nat → Int32)} {h : jH} {Q : jQ} {l1 l2 l3 : Int32}
    (v1 : l1 < 0 → WP mX11_fewestMends Q 114 [some (.ref 0), some (.int l1), some (.int l2), some (.int l3)] [] (jG0 sc) h (0, 0))
    (v2 : ¬ l1 < 0 → WP mX11_fewestMends Q 96 [some (.ref 0), some (.int l1), some (.int l2), some (.int l3)] [] (jG0 sc) h (0, 0)) :
    WP mX11_fewestMends Q 92 [some (.ref 0), some (.int l1), some (.int l2), some (.int l3)] [] (jG0 sc) h (0, 0) := by
  refine j_iload_n (i := 1) rfl dX11_fewestMends_92 ?_
  refine j_if_lt (off := 21) 114 dX11_fewestMends_93 (by decide) (fun c1 => ?_) (fun c1 => ?_)
  · exact j_le [some (.ref 0), some (.int l1), some (.int l2), some (.int l3)] (And.intro rfl (And.intro rfl (And.intro rfl (And.intro rfl True.intro)))) (v1 c1)
  · exact j_le [some (.ref 0), some (.int l1), some (.int l2), some (.int l3)] (And.intro rfl (And.intro rfl (And.intro rfl (And.intro rfl True.intro)))) (v2 c1)
set_option maxRecDepth 100000 in
theorem bX11_fewestMends_96 {sc : Nat × (Nat → Int32)} {h : jH} {Q : jQ} {l1 l2 l3 : Int32}
    (v1 : 4096 ≤ l1 → WP mX11_fewestMends Q 114 [some (.ref 0), some (.int l1), some (.int l2), some (.int l3)] [] (jG0 sc) h (0, 0))
    (v2 : ¬ 4096 ≤ l1 → WP mX11_fewestMends Q 105 [some (.ref 0), some (.int l1), some (.int l2), some (.int l3)] [] (jG0 sc) h (0, 0)) :
    WP mX11_fewestMends Q 96 [some (.ref 0), some (.int l1), some (.int l2), some (.int l3)] [] (jG0 sc) h (0, 0) := by
  refine j_iload_n (i := 1) rfl dX11_fewestMends_96 ?_
  refine j_aload_n (i := 0) rfl dX11_fewestMends_97 ?_
  refine j_getR (idx := 95) (ci := 11) (k := 18) (nest := false) (show (11, 95, 11, 18, false) ∈ jFT by decide) rfl (Nat.le_of_ble_eq_true rfl) rfl (a := 98) rfl dX11_fewestMends_98 ?_
  refine j_alen (Nat.le_of_ble_eq_true rfl) rfl rfl 4096 rfl dX11_fewestMends_101 ?_
  refine j_icmp_ge (off := 12) 114 dX11_fewestMends_102 (by decide) (fun c1 => ?_) (fun c1 => ?_)
  · exact j_le [some (.ref 0), some (.int l1), some (.int l2), some (.int l3)] (And.intro rfl (And.intro rfl (And.intro rfl (And.intro rfl True.intro)))) (v1 c1)
  · exact j_le [some (.ref 0), some (.int l1), some (.int l2), some (.int l3)] (And.intro rfl (And.intro rfl (And.intro rfl (And.intro rfl True.intro)))) (v2 c1)
set_option maxRecDepth 100000 in
theorem bX11_fewestMends_105 {sc : Nat × (Nat → Int32)} {h : jH} {Q : jQ} {l1 l2 l3 : Int32}
    (o1 : vp_in l1 4096)
    (v1 : WP mX11_fewestMends Q 115 [some (.ref 0), some (.int l1), some (.int l2), some (.int l3)] [.int (h 98 l1.toNatClampNeg)] (jG0 sc) h (0, 0)) :
    WP mX11_fewestMends Q 105 [some (.ref 0), some (.int l1), some (.int l2), some (.int l3)] [] (jG0 sc) h (0, 0) := by
  refine j_aload_n (i := 0) rfl dX11_fewestMends_105 ?_
  refine j_getR (idx := 95) (ci := 11) (k := 18) (nest := false) (show (11, 95, 11, 18, false) ∈ jFT by decide) rfl (Nat.le_of_ble_eq_true rfl) rfl (a := 98) rfl dX11_fewestMends_106 ?_
  refine j_iload_n (i := 1) rfl dX11_fewestMends_109 ?_
  refine j_bald (Nat.le_of_ble_eq_true rfl) rfl o1 dX11_fewestMends_110 ?_
  refine j_goto (off := 4) 115 dX11_fewestMends_111 (by decide) ?_
  exact j_le [some (.ref 0), some (.int l1), some (.int l2), some (.int l3)] (And.intro rfl (And.intro rfl (And.intro rfl (And.intro rfl True.intro)))) v1
set_option maxRecDepth 100000 in
theorem bX11_fewestMends_114 {sc : Nat × (Nat → Int32)} {h : jH} {Q : jQ} {l1 l2 l3 : Int32}
    (v1 : WP mX11_fewestMends Q 115 [some (.ref 0), some (.int l1), some (.int l2), some (.int l3)] [.int (-1)] (jG0 sc) h (0, 0)) :
    WP mX11_fewestMends Q 114 [some (.ref 0), some (.int l1), some (.int l2), some (.int l3)] [] (jG0 sc) h (0, 0) := by
  refine j_iconst (n := (-1)) (-1) (by decide) dX11_fewestMends_114 ?_
  exact j_le [some (.ref 0), some (.int l1), some (.int l2), some (.int l3)] (And.intro rfl (And.intro rfl (And.intro rfl (And.intro rfl True.intro)))) v1
set_option maxRecDepth 100000 in
theorem bX11_fewestMends_115 {sc : Nat × (Nat → Int32)} {h : jH} {Q : jQ} {l1 l2 l3 s0 : Int32}
    (v1 : Q (.inl (some (.int s0))) (jG0 sc) h) :
    WP mX11_fewestMends Q 115 [some (.ref 0), some (.int l1), some (.int l2), some (.int l3)] [.int s0] (jG0 sc) h (0, 0) := by
  exact j_iret rfl rfl (Nat.zero_le _) (Nat.zero_le _) dX11_fewestMends_115 v1
set_option maxRecDepth 100000 in
theorem rX11_fewestMends_0 {sc : Nat × (Nat → Int32)} {h : jH} {Q : jQ} {l1 l2 : Int32}
    (v1 : WP mX11_fewestMends Q 2 [some (.ref 0), some (.int l1), some (.int l2), some (.int 0)] [] (jG0 sc) h (0, 0)) :
    WP mX11_fewestMends Q 0 [some (.ref 0), some (.int l1), some (.int l2), none] [] (jG0 sc) h (0, 0) := by
  exact (bX11_fewestMends_0 v1)
set_option maxRecDepth 100000 in
theorem rX11_fewestMends_2 {sc : Nat × (Nat → Int32)} {h : jH} {Q : jQ} {l1 l2 l3 : Int32}
    (v1 : l1 < l3 → WP mX11_fewestMends Q 39 [some (.ref 0), some (.int l1), some (.int l2), some (.int 0)] [] (jG0 sc) (jput h 98 0 (((0 : Int32)).toInt8.toInt32)) (0, 0))
    (v2 : ¬ l1 < l3 → 4096 ≤ l3 → WP mX11_fewestMends Q 39 [some (.ref 0), some (.int l1), some (.int l2), some (.int 0)] [] (jG0 sc) (jput h 98 0 (((0 : Int32)).toInt8.toInt32)) (0, 0))
    (o1 : ¬ l1 < l3 → ¬ 4096 ≤ l3 → vp_in l3 4096)
    (v3 : ¬ l1 < l3 → ¬ 4096 ≤ l3 → WP mX11_fewestMends Q 2 [some (.ref 0), some (.int l1), some (.int l2), some (.int (l3 + 1))] [] (jG0 sc) (jput h 98 l3.toNatClampNeg (((100 : Int32)).toInt8.toInt32)) (0, 0)) :
    WP mX11_fewestMends Q 2 [some (.ref 0), some (.int l1), some (.int l2), some (.int l3)] [] (jG0 sc) h (0, 0) := by
  exact (bX11_fewestMends_2 (fun c1 => (bX11_fewestMends_30 (v1 c1))) (fun c1 => (bX11_fewestMends_7 (fun c2 => (bX11_fewestMends_30 (v2 c1 c2))) (fun c2 => (bX11_fewestMends_16 (o1 c1 c2) (v3 c1 c2))))))
set_option maxRecDepth 100000 in
theorem rX11_fewestMends_39 {sc : Nat × (Nat → Int32)} {h : jH} {Q : jQ} {l1 l2 l3 : Int32} {P1 : Int32 → jH → Prop} {P2 : jH → Prop}
    (v1 : l1 ≤ l3 → l1 < 0 → Q (.inl (some (.int (-1)))) (jG0 sc) h)
    (v2 : l1 ≤ l3 → ¬ l1 < 0 → 4096 ≤ l1 → Q (.inl (some (.int (-1)))) (jG0 sc) h)
    (o1 : l1 ≤ l3 → ¬ l1 < 0 → ¬ 4096 ≤ l1 → vp_in l1 4096)
    (v3 : l1 ≤ l3 → ¬ l1 < 0 → ¬ 4096 ≤ l1 → Q (.inl (some (.int (h 98 l1.toNatClampNeg)))) (jG0 sc) h)
    (v4 : ¬ l1 ≤ l3 → 4096 ≤ l3 → l1 < 0 → Q (.inl (some (.int (-1)))) (jG0 sc) h)
    (v5 : ¬ l1 ≤ l3 → 4096 ≤ l3 → ¬ l1 < 0 → 4096 ≤ l1 → Q (.inl (some (.int (-1)))) (jG0 sc) h)
    (o2 : ¬ l1 ≤ l3 → 4096 ≤ l3 → ¬ l1 < 0 → ¬ 4096 ≤ l1 → vp_in l1 4096)
    (v6 : ¬ l1 ≤ l3 → 4096 ≤ l3 → ¬ l1 < 0 → ¬ 4096 ≤ l1 → Q (.inl (some (.int (h 98 l1.toNatClampNeg)))) (jG0 sc) h)
    (o3 : ¬ l1 ≤ l3 → ¬ 4096 ≤ l3 → vp_in l3 4096)
    (v7 : ¬ l1 ≤ l3 → ¬ 4096 ≤ l3 → 100 ≤ (h 98 l3.toNatClampNeg) → WP mX11_fewestMends Q 39 [some (.ref 0), some (.int l1), some (.int l2), some (.int (l3 + 1))] [] (jG0 sc) h (0, 0))
    (k1 : ¬ l1 ≤ l3 → ¬ 4096 ≤ l3 → ¬ 100 ≤ (h 98 l3.toNatClampNeg) → JM mX11_lowestBit [.int (l1 &&& (l3 ^^^ ((-1) : Int32)))] (jG0 sc) h (jint sc P1))
    (o4 : ¬ l1 ≤ l3 → ¬ 4096 ≤ l3 → ¬ 100 ≤ (h 98 l3.toNatClampNeg) → ∀ (x1 : Int32) (h1 : jH), P1 x1 h1 → vp_in l3 4096)
    (k2 : ¬ l1 ≤ l3 → ¬ 4096 ≤ l3 → ¬ 100 ≤ (h 98 l3.toNatClampNeg) → ∀ (x1 : Int32) (h1 : jH), P1 x1 h1 → JM mX11_addGains [.ref 0, .int l3, .int x1, .int ((h1 98 l3.toNatClampNeg) + 1), .int l2] (jG0 sc) h1 (jvoid sc P2))
    (v8 : ¬ l1 ≤ l3 → ¬ 4096 ≤ l3 → ¬ 100 ≤ (h 98 l3.toNatClampNeg) → ∀ (x1 : Int32) (h1 : jH), P1 x1 h1 → ∀ h2 : jH, P2 h2 → WP mX11_fewestMends Q 39 [some (.ref 0), some (.int l1), some (.int l2), some (.int (l3 + 1))] [] (jG0 sc) h2 (0, 0)) :
    WP mX11_fewestMends Q 39 [some (.ref 0), some (.int l1), some (.int l2), some (.int l3)] [] (jG0 sc) h (0, 0) := by
  exact (bX11_fewestMends_39 (fun c1 => (bX11_fewestMends_92 (fun c2 => (bX11_fewestMends_114 (bX11_fewestMends_115 (v1 c1 c2)))) (fun c2 => (bX11_fewestMends_96 (fun c3 => (bX11_fewestMends_114 (bX11_fewestMends_115 (v2 c1 c2 c3)))) (fun c3 => (bX11_fewestMends_105 (o1 c1 c2 c3) (bX11_fewestMends_115 (v3 c1 c2 c3)))))))) (fun c1 => (bX11_fewestMends_44 (fun c4 => (bX11_fewestMends_92 (fun c5 => (bX11_fewestMends_114 (bX11_fewestMends_115 (v4 c1 c4 c5)))) (fun c5 => (bX11_fewestMends_96 (fun c6 => (bX11_fewestMends_114 (bX11_fewestMends_115 (v5 c1 c4 c5 c6)))) (fun c6 => (bX11_fewestMends_105 (o2 c1 c4 c5 c6) (bX11_fewestMends_115 (v6 c1 c4 c5 c6)))))))) (fun c4 => (bX11_fewestMends_53 (o3 c1 c4) (fun c7 => (bX11_fewestMends_86 (v7 c1 c4 c7))) (fun c7 => (bX11_fewestMends_64 (k1 c1 c4 c7) (fun x1 h1 p1 => (o4 c1 c4 c7 x1 h1 p1)) (fun x1 h1 p1 => (k2 c1 c4 c7 x1 h1 p1)) (fun x1 h1 p1 h2 p2 => (bX11_fewestMends_86 (v8 c1 c4 c7 x1 h1 p1 h2 p2))))))))))
theorem dX11_addGains_0 : decode (mC mX11_addGains) 0 = .ok (.iconst 0, 1) := by decide +kernel
theorem dX11_addGains_1 : decode (mC mX11_addGains) 1 = .ok (.istore 5, 2) := by decide +kernel
theorem dX11_addGains_3 : decode (mC mX11_addGains) 3 = .ok (.iload 5, 2) := by decide +kernel
theorem dX11_addGains_5 : decode (mC mX11_addGains) 5 = .ok (.iload 4, 2) := by decide +kernel
theorem dX11_addGains_7 : decode (mC mX11_addGains) 7 = .ok (.if_icmp .ge 77, 3) := by decide +kernel
theorem dX11_addGains_10 : decode (mC mX11_addGains) 10 = .ok (.iload 5, 2) := by decide +kernel
theorem dX11_addGains_12 : decode (mC mX11_addGains) 12 = .ok (.aload_n 0, 1) := by decide +kernel
theorem dX11_addGains_13 : decode (mC mX11_addGains) 13 = .ok (.getfield 92, 3) := by decide +kernel
theorem dX11_addGains_16 : decode (mC mX11_addGains) 16 = .ok (.arraylength, 1) := by decide +kernel
theorem dX11_addGains_17 : decode (mC mX11_addGains) 17 = .ok (.if_icmp .ge 67, 3) := by decide +kernel
theorem dX11_addGains_20 : decode (mC mX11_addGains) 20 = .ok (.iload_n 1, 1) := by decide +kernel
theorem dX11_addGains_21 : decode (mC mX11_addGains) 21 = .ok (.aload_n 0, 1) := by decide +kernel
theorem dX11_addGains_22 : decode (mC mX11_addGains) 22 = .ok (.getfield 92, 3) := by decide +kernel
theorem dX11_addGains_25 : decode (mC mX11_addGains) 25 = .ok (.iload 5, 2) := by decide +kernel
theorem dX11_addGains_27 : decode (mC mX11_addGains) 27 = .ok (.iaload, 1) := by decide +kernel
theorem dX11_addGains_28 : decode (mC mX11_addGains) 28 = .ok (.ior, 1) := by decide +kernel
theorem dX11_addGains_29 : decode (mC mX11_addGains) 29 = .ok (.istore 6, 2) := by decide +kernel
theorem dX11_addGains_31 : decode (mC mX11_addGains) 31 = .ok (.aload_n 0, 1) := by decide +kernel
theorem dX11_addGains_32 : decode (mC mX11_addGains) 32 = .ok (.getfield 92, 3) := by decide +kernel
theorem dX11_addGains_35 : decode (mC mX11_addGains) 35 = .ok (.iload 5, 2) := by decide +kernel
theorem dX11_addGains_37 : decode (mC mX11_addGains) 37 = .ok (.iaload, 1) := by decide +kernel
theorem dX11_addGains_38 : decode (mC mX11_addGains) 38 = .ok (.iload_n 2, 1) := by decide +kernel
theorem dX11_addGains_39 : decode (mC mX11_addGains) 39 = .ok (.iand, 1) := by decide +kernel
theorem dX11_addGains_40 : decode (mC mX11_addGains) 40 = .ok (.ifCond .eq 38, 3) := by decide +kernel
theorem dX11_addGains_43 : decode (mC mX11_addGains) 43 = .ok (.iload 6, 2) := by decide +kernel
theorem dX11_addGains_45 : decode (mC mX11_addGains) 45 = .ok (.ifCond .lt 33, 3) := by decide +kernel
theorem dX11_addGains_48 : decode (mC mX11_addGains) 48 = .ok (.iload 6, 2) := by decide +kernel
theorem dX11_addGains_50 : decode (mC mX11_addGains) 50 = .ok (.aload_n 0, 1) := by decide +kernel
theorem dX11_addGains_51 : decode (mC mX11_addGains) 51 = .ok (.getfield 95, 3) := by decide +kernel
theorem dX11_addGains_54 : decode (mC mX11_addGains) 54 = .ok (.arraylength, 1) := by decide +kernel
theorem dX11_addGains_55 : decode (mC mX11_addGains) 55 = .ok (.if_icmp .ge 23, 3) := by decide +kernel
theorem dX11_addGains_58 : decode (mC mX11_addGains) 58 = .ok (.aload_n 0, 1) := by decide +kernel
theorem dX11_addGains_59 : decode (mC mX11_addGains) 59 = .ok (.getfield 95, 3) := by decide +kernel
theorem dX11_addGains_62 : decode (mC mX11_addGains) 62 = .ok (.iload 6, 2) := by decide +kernel
theorem dX11_addGains_64 : decode (mC mX11_addGains) 64 = .ok (.baload, 1) := by decide +kernel
theorem dX11_addGains_65 : decode (mC mX11_addGains) 65 = .ok (.iload_n 3, 1) := by decide +kernel
theorem dX11_addGains_66 : decode (mC mX11_addGains) 66 = .ok (.if_icmp .le 12, 3) := by decide +kernel
theorem dX11_addGains_69 : decode (mC mX11_addGains) 69 = .ok (.aload_n 0, 1) := by decide +kernel
theorem dX11_addGains_70 : decode (mC mX11_addGains) 70 = .ok (.getfield 95, 3) := by decide +kernel
theorem dX11_addGains_73 : decode (mC mX11_addGains) 73 = .ok (.iload 6, 2) := by decide +kernel
theorem dX11_addGains_75 : decode (mC mX11_addGains) 75 = .ok (.iload_n 3, 1) := by decide +kernel
theorem dX11_addGains_76 : decode (mC mX11_addGains) 76 = .ok (.i2b, 1) := by decide +kernel
theorem dX11_addGains_77 : decode (mC mX11_addGains) 77 = .ok (.bastore, 1) := by decide +kernel
theorem dX11_addGains_78 : decode (mC mX11_addGains) 78 = .ok (.iinc 5 1, 3) := by decide +kernel
theorem dX11_addGains_81 : decode (mC mX11_addGains) 81 = .ok (.goto (-78), 3) := by decide +kernel
theorem dX11_addGains_84 : decode (mC mX11_addGains) 84 = .ok (.return_, 1) := by decide +kernel
set_option maxRecDepth 100000 in
theorem bX11_addGains_0 {sc : Nat × (Nat → Int32)} {h : jH} {Q : jQ} {l1 l2 l3 l4 : Int32}
    (v1 : WP mX11_addGains Q 3 [some (.ref 0), some (.int l1), some (.int l2), some (.int l3), some (.int l4), some (.int 0), none] [] (jG0 sc) h (0, 0)) :
    WP mX11_addGains Q 0 [some (.ref 0), some (.int l1), some (.int l2), some (.int l3), some (.int l4), none, none] [] (jG0 sc) h (0, 0) := by
  refine j_iconst (n := 0) 0 (by decide) dX11_addGains_0 ?_
  refine j_istore (i := 5) dX11_addGains_1 (Nat.le_of_ble_eq_true rfl) ?_
  exact j_le [some (.ref 0), some (.int l1), some (.int l2), some (.int l3), some (.int l4), some (.int 0), none] (And.intro rfl (And.intro rfl (And.intro rfl (And.intro rfl (And.intro rfl (And.intro rfl True.intro)))))) v1
set_option maxRecDepth 100000 in
theorem bX11_addGains_3 {sc : Nat × (Nat → Int32)} {h : jH} {Q : jQ} {l1 l2 l3 l4 l5 : Int32}
    (v1 : l4 ≤ l5 → WP mX11_addGains Q 84 [some (.ref 0), some (.int l1), some (.int l2), some (.int l3), some (.int l4), some (.int l5), none] [] (jG0 sc) h (0, 0))
    (v2 : ¬ l4 ≤ l5 → WP mX11_addGains Q 10 [some (.ref 0), some (.int l1), some (.int l2), some (.int l3), some (.int l4), some (.int l5), none] [] (jG0 sc) h (0, 0)) :
    WP mX11_addGains Q 3 [some (.ref 0), some (.int l1), some (.int l2), some (.int l3), some (.int l4), some (.int l5), none] [] (jG0 sc) h (0, 0) := by
  refine j_iload (i := 5) rfl dX11_addGains_3 ?_
  refine j_iload (i := 4) rfl dX11_addGains_5 ?_
  refine j_icmp_ge (off := 77) 84 dX11_addGains_7 (by decide) (fun c1 => ?_) (fun c1 => ?_)
  · exact j_le [some (.ref 0), some (.int l1), some (.int l2), some (.int l3), some (.int l4), some (.int l5), none] (And.intro rfl (And.intro rfl (And.intro rfl (And.intro rfl (And.intro rfl (And.intro rfl True.intro)))))) (v1 c1)
  · exact j_le [some (.ref 0), some (.int l1), some (.int l2), some (.int l3), some (.int l4), some (.int l5), none] (And.intro rfl (And.intro rfl (And.intro rfl (And.intro rfl (And.intro rfl (And.intro rfl True.intro)))))) (v2 c1)
set_option maxRecDepth 100000 in
theorem bX11_addGains_10 {sc : Nat × (Nat → Int32)} {h : jH} {Q : jQ} {l1 l2 l3 l4 l5 : Int32}
    (v1 : 300 ≤ l5 → WP mX11_addGains Q 84 [some (.ref 0), some (.int l1), some (.int l2), some (.int l3), some (.int l4), some (.int l5), none] [] (jG0 sc) h (0, 0))
    (v2 : ¬ 300 ≤ l5 → WP mX11_addGains Q 20 [some (.ref 0), some (.int l1), some (.int l2), some (.int l3), some (.int l4), some (.int l5), none] [] (jG0 sc) h (0, 0)) :
    WP mX11_addGains Q 10 [some (.ref 0), some (.int l1), some (.int l2), some (.int l3), some (.int l4), some (.int l5), none] [] (jG0 sc) h (0, 0) := by
  refine j_iload (i := 5) rfl dX11_addGains_10 ?_
  refine j_aload_n (i := 0) rfl dX11_addGains_12 ?_
  refine j_getR (idx := 92) (ci := 11) (k := 17) (nest := false) (show (11, 92, 11, 17, false) ∈ jFT by decide) rfl (Nat.le_of_ble_eq_true rfl) rfl (a := 97) rfl dX11_addGains_13 ?_
  refine j_alen (Nat.le_of_ble_eq_true rfl) rfl rfl 300 rfl dX11_addGains_16 ?_
  refine j_icmp_ge (off := 67) 84 dX11_addGains_17 (by decide) (fun c1 => ?_) (fun c1 => ?_)
  · exact j_le [some (.ref 0), some (.int l1), some (.int l2), some (.int l3), some (.int l4), some (.int l5), none] (And.intro rfl (And.intro rfl (And.intro rfl (And.intro rfl (And.intro rfl (And.intro rfl True.intro)))))) (v1 c1)
  · exact j_le [some (.ref 0), some (.int l1), some (.int l2), some (.int l3), some (.int l4), some (.int l5), none] (And.intro rfl (And.intro rfl (And.intro rfl (And.intro rfl (And.intro rfl (And.intro rfl True.intro)))))) (v2 c1)
set_option maxRecDepth 100000 in
theorem bX11_addGains_20 {sc : Nat × (Nat → Int32)} {h : jH} {Q : jQ} {l1 l2 l3 l4 l5 : Int32}
    (o1 : vp_in l5 300)
    (o2 : vp_in l5 300)
    (v1 : ((h 97 l5.toNatClampNeg) &&& l2) = 0 → WP mX11_addGains Q 78 [some (.ref 0), some (.int l1), some (.int l2), some (.int l3), some (.int l4), some (.int l5), some (.int (l1 ||| (h 97 l5.toNatClampNeg)))] [] (jG0 sc) h (0, 0))
    (v2 : ¬ ((h 97 l5.toNatClampNeg) &&& l2) = 0 → WP mX11_addGains Q 43 [some (.ref 0), some (.int l1), some (.int l2), some (.int l3), some (.int l4), some (.int l5), some (.int (l1 ||| (h 97 l5.toNatClampNeg)))] [] (jG0 sc) h (0, 0)) :
    WP mX11_addGains Q 20 [some (.ref 0), some (.int l1), some (.int l2), some (.int l3), some (.int l4), some (.int l5), none] [] (jG0 sc) h (0, 0) := by
  refine j_iload_n (i := 1) rfl dX11_addGains_20 ?_
  refine j_aload_n (i := 0) rfl dX11_addGains_21 ?_
  refine j_getR (idx := 92) (ci := 11) (k := 17) (nest := false) (show (11, 92, 11, 17, false) ∈ jFT by decide) rfl (Nat.le_of_ble_eq_true rfl) rfl (a := 97) rfl dX11_addGains_22 ?_
  refine j_iload (i := 5) rfl dX11_addGains_25 ?_
  refine j_iald (Nat.le_of_ble_eq_true rfl) rfl o1 dX11_addGains_27 ?_
  refine j_ior dX11_addGains_28 ?_
  refine j_istore (i := 6) dX11_addGains_29 (Nat.le_of_ble_eq_true rfl) ?_
  refine j_aload_n (i := 0) rfl dX11_addGains_31 ?_
  refine j_getR (idx := 92) (ci := 11) (k := 17) (nest := false) (show (11, 92, 11, 17, false) ∈ jFT by decide) rfl (Nat.le_of_ble_eq_true rfl) rfl (a := 97) rfl dX11_addGains_32 ?_
  refine j_iload (i := 5) rfl dX11_addGains_35 ?_
  refine j_iald (Nat.le_of_ble_eq_true rfl) rfl o2 dX11_addGains_37 ?_
  refine j_iload_n (i := 2) rfl dX11_addGains_38 ?_
  refine j_iand dX11_addGains_39 ?_
  refine j_if_eq (off := 38) 78 dX11_addGains_40 (by decide) (fun c1 => ?_) (fun c1 => ?_)
  · exact j_le [some (.ref 0), some (.int l1), some (.int l2), some (.int l3), some (.int l4), some (.int l5), some (.int (l1 ||| (h 97 l5.toNatClampNeg)))] (And.intro rfl (And.intro rfl (And.intro rfl (And.intro rfl (And.intro rfl (And.intro rfl (And.intro rfl True.intro))))))) (v1 c1)
  · exact j_le [some (.ref 0), some (.int l1), some (.int l2), some (.int l3), some (.int l4), some (.int l5), some (.int (l1 ||| (h 97 l5.toNatClampNeg)))] (And.intro rfl (And.intro rfl (And.intro rfl (And.intro rfl (And.intro rfl (And.intro rfl (And.intro rfl True.intro))))))) (v2 c1)
set_option maxRecDepth 100000 in
theorem bX11_addGains_43 {sc : Nat × (Nat → Int32)} {h : jH} {Q : jQ} {l1 l2 l3 l4 l5 l6 : Int32}
    (v1 : l6 < 0 → WP mX11_addGains Q 78 [some (.ref 0), some (.int l1), some (.int l2), some (.int l3), some (.int l4), some (.int l5), some (.int l6)] [] (jG0 sc) h (0, 0))
    (v2 : ¬ l6 < 0 → WP mX11_addGains Q 48 [some (.ref 0), some (.int l1), some (.int l2), some (.int l3), some (.int l4), some (.int l5), some (.int l6)] [] (jG0 sc) h (0, 0)) :
    WP mX11_addGains Q 43 [some (.ref 0), some (.int l1), some (.int l2), some (.int l3), some (.int l4), some (.int l5), some (.int l6)] [] (jG0 sc) h (0, 0) := by
  refine j_iload (i := 6) rfl dX11_addGains_43 ?_
  refine j_if_lt (off := 33) 78 dX11_addGains_45 (by decide) (fun c1 => ?_) (fun c1 => ?_)
  · exact j_le [some (.ref 0), some (.int l1), some (.int l2), some (.int l3), some (.int l4), some (.int l5), some (.int l6)] (And.intro rfl (And.intro rfl (And.intro rfl (And.intro rfl (And.intro rfl (And.intro rfl (And.intro rfl True.intro))))))) (v1 c1)
  · exact j_le [some (.ref 0), some (.int l1), some (.int l2), some (.int l3), some (.int l4), some (.int l5), some (.int l6)] (And.intro rfl (And.intro rfl (And.intro rfl (And.intro rfl (And.intro rfl (And.intro rfl (And.intro rfl True.intro))))))) (v2 c1)
set_option maxRecDepth 100000 in
theorem bX11_addGains_48 {sc : Nat × (Nat → Int32)} {h : jH} {Q : jQ} {l1 l2 l3 l4 l5 l6 : Int32}
    (v1 : 4096 ≤ l6 → WP mX11_addGains Q 78 [some (.ref 0), some (.int l1), some (.int l2), some (.int l3), some (.int l4), some (.int l5), some (.int l6)] [] (jG0 sc) h (0, 0))
    (v2 : ¬ 4096 ≤ l6 → WP mX11_addGains Q 58 [some (.ref 0), some (.int l1), some (.int l2), some (.int l3), some (.int l4), some (.int l5), some (.int l6)] [] (jG0 sc) h (0, 0)) :
    WP mX11_addGains Q 48 [some (.ref 0), some (.int l1), some (.int l2), some (.int l3), some (.int l4), some (.int l5), some (.int l6)] [] (jG0 sc) h (0, 0) := by
  refine j_iload (i := 6) rfl dX11_addGains_48 ?_
  refine j_aload_n (i := 0) rfl dX11_addGains_50 ?_
  refine j_getR (idx := 95) (ci := 11) (k := 18) (nest := false) (show (11, 95, 11, 18, false) ∈ jFT by decide) rfl (Nat.le_of_ble_eq_true rfl) rfl (a := 98) rfl dX11_addGains_51 ?_
  refine j_alen (Nat.le_of_ble_eq_true rfl) rfl rfl 4096 rfl dX11_addGains_54 ?_
  refine j_icmp_ge (off := 23) 78 dX11_addGains_55 (by decide) (fun c1 => ?_) (fun c1 => ?_)
  · exact j_le [some (.ref 0), some (.int l1), some (.int l2), some (.int l3), some (.int l4), some (.int l5), some (.int l6)] (And.intro rfl (And.intro rfl (And.intro rfl (And.intro rfl (And.intro rfl (And.intro rfl (And.intro rfl True.intro))))))) (v1 c1)
  · exact j_le [some (.ref 0), some (.int l1), some (.int l2), some (.int l3), some (.int l4), some (.int l5), some (.int l6)] (And.intro rfl (And.intro rfl (And.intro rfl (And.intro rfl (And.intro rfl (And.intro rfl (And.intro rfl True.intro))))))) (v2 c1)
set_option maxRecDepth 100000 in
theorem bX11_addGains_58 {sc : Nat × (Nat → Int32)} {h : jH} {Q : jQ} {l1 l2 l3 l4 l5 l6 : Int32}
    (o1 : vp_in l6 4096)
    (v1 : (h 98 l6.toNatClampNeg) ≤ l3 → WP mX11_addGains Q 78 [some (.ref 0), some (.int l1), some (.int l2), some (.int l3), some (.int l4), some (.int l5), some (.int l6)] [] (jG0 sc) h (0, 0))
    (v2 : ¬ (h 98 l6.toNatClampNeg) ≤ l3 → WP mX11_addGains Q 69 [some (.ref 0), some (.int l1), some (.int l2), some (.int l3), some (.int l4), some (.int l5), some (.int l6)] [] (jG0 sc) h (0, 0)) :
    WP mX11_addGains Q 58 [some (.ref 0), some (.int l1), some (.int l2), some (.int l3), some (.int l4), some (.int l5), some (.int l6)] [] (jG0 sc) h (0, 0) := by
  refine j_aload_n (i := 0) rfl dX11_addGains_58 ?_
  refine j_getR (idx := 95) (ci := 11) (k := 18) (nest := false) (show (11, 95, 11, 18, false) ∈ jFT by decide) rfl (Nat.le_of_ble_eq_true rfl) rfl (a := 98) rfl dX11_addGains_59 ?_
  refine j_iload (i := 6) rfl dX11_addGains_62 ?_
  refine j_bald (Nat.le_of_ble_eq_true rfl) rfl o1 dX11_addGains_64 ?_
  refine j_iload_n (i := 3) rfl dX11_addGains_65 ?_
  refine j_icmp_le (off := 12) 78 dX11_addGains_66 (by decide) (fun c1 => ?_) (fun c1 => ?_)
  · exact j_le [some (.ref 0), some (.int l1), some (.int l2), some (.int l3), some (.int l4), some (.int l5), some (.int l6)] (And.intro rfl (And.intro rfl (And.intro rfl (And.intro rfl (And.intro rfl (And.intro rfl (And.intro rfl True.intro))))))) (v1 c1)
  · exact j_le [some (.ref 0), some (.int l1), some (.int l2), some (.int l3), some (.int l4), some (.int l5), some (.int l6)] (And.intro rfl (And.intro rfl (And.intro rfl (And.intro rfl (And.intro rfl (And.intro rfl (And.intro rfl True.intro))))))) (v2 c1)
set_option maxRecDepth 100000 in
theorem bX11_addGains_69 {sc : Nat × (Nat → Int32)} {h : jH} {Q : jQ} {l1 l2 l3 l4 l5 l6 : Int32}
    (o1 : vp_in l6 4096)
    (v1 : WP mX11_addGains Q 78 [some (.ref 0), some (.int l1), some (.int l2), some (.int l3), some (.int l4), some (.int l5), some (.int l6)] [] (jG0 sc) (jput h 98 l6.toNatClampNeg (((((l3 : Int32)).toInt8.toInt32 : Int32)).toInt8.toInt32)) (0, 0)) :
    WP mX11_addGains Q 69 [some (.ref 0), some (.int l1), some (.int l2), some (.int l3), some (.int l4), some (.int l5), some (.int l6)] [] (jG0 sc) h (0, 0) := by
  refine j_aload_n (i := 0) rfl dX11_addGains_69 ?_
  refine j_getR (idx := 95) (ci := 11) (k := 18) (nest := false) (show (11, 95, 11, 18, false) ∈ jFT by decide) rfl (Nat.le_of_ble_eq_true rfl) rfl (a := 98) rfl dX11_addGains_70 ?_
  refine j_iload (i := 6) rfl dX11_addGains_73 ?_
  refine j_iload_n (i := 3) rfl dX11_addGains_75 ?_
  refine j_i2b dX11_addGains_76 ?_
  refine j_bast (Nat.le_of_ble_eq_true rfl) rfl o1 dX11_addGains_77 ?_
  exact j_le [some (.ref 0), some (.int l1), some (.int l2), some (.int l3), some (.int l4), some (.int l5), some (.int l6)] (And.intro rfl (And.intro rfl (And.intro rfl (And.intro rfl (And.intro rfl (And.intro rfl (And.intro rfl True.intro))))))) v1
set_option maxRecDepth 100000 in
theorem bX11_addGains_78 {sc : Nat × (Nat → Int32)} {h : jH} {Q : jQ} {l1 l2 l3 l4 l5 l6 : Int32}
    (v1 : WP mX11_addGains Q 3 [some (.ref 0), some (.int l1), some (.int l2), some (.int l3), some (.int l4), some (.int (l5 + 1)), none] [] (jG0 sc) h (0, 0)) :
    WP mX11_addGains Q 78 [some (.ref 0), some (.int l1), some (.int l2), some (.int l3), some (.int l4), some (.int l5), some (.int l6)] [] (jG0 sc) h (0, 0) := by
  refine j_iinc (i := 5) (n := 1) rfl dX11_addGains_78 (Nat.le_of_ble_eq_true rfl) ?_
  refine j_eqlv [some (.ref 0), some (.int l1), some (.int l2), some (.int l3), some (.int l4), some (.int (l5 + 1)), some (.int l6)] rfl ?_
  refine j_goto (off := -78) 3 dX11_addGains_81 (by decide) ?_
  exact j_le [some (.ref 0), some (.int l1), some (.int l2), some (.int l3), some (.int l4), some (.int (l5 + 1)), none] (And.intro rfl (And.intro rfl (And.intro rfl (And.intro rfl (And.intro rfl (And.intro rfl True.intro)))))) v1
set_option maxRecDepth 100000 in
theorem bX11_addGains_84 {sc : Nat × (Nat → Int32)} {h : jH} {Q : jQ} {l1 l2 l3 l4 l5 : Int32}
    (v1 : Q (.inl none) (jG0 sc) h) :
    WP mX11_addGains Q 84 [some (.ref 0), some (.int l1), some (.int l2), some (.int l3), some (.int l4), some (.int l5), none] [] (jG0 sc) h (0, 0) := by
  exact j_vret rfl (Nat.zero_le _) (Nat.zero_le _) dX11_addGains_84 v1
set_option maxRecDepth 100000 in
theorem rX11_addGains_0 {sc : Nat × (Nat → Int32)} {h : jH} {Q : jQ} {l1 l2 l3 l4 : Int32}
    (v1 : WP mX11_addGains Q 3 [some (.ref 0), some (.int l1), some (.int l2), some (.int l3), some (.int l4), some (.int 0), none] [] (jG0 sc) h (0, 0)) :
    WP mX11_addGains Q 0 [some (.ref 0), some (.int l1), some (.int l2), some (.int l3), some (.int l4), none, none] [] (jG0 sc) h (0, 0) := by
  exact (bX11_addGains_0 v1)
set_option maxRecDepth 100000 in
theorem rX11_addGains_3 {sc : Nat × (Nat → Int32)} {h : jH} {Q : jQ} {l1 l2 l3 l4 l5 : Int32}
    (v1 : l4 ≤ l5 → Q (.inl none) (jG0 sc) h)
    (v2 : ¬ l4 ≤ l5 → 300 ≤ l5 → Q (.inl none) (jG0 sc) h)
    (o1 : ¬ l4 ≤ l5 → ¬ 300 ≤ l5 → vp_in l5 300)
    (v3 : ¬ l4 ≤ l5 → ¬ 300 ≤ l5 → ((h 97 l5.toNatClampNeg) &&& l2) = 0 → WP mX11_addGains Q 3 [some (.ref 0), some (.int l1), some (.int l2), some (.int l3), some (.int l4), some (.int (l5 + 1)), none] [] (jG0 sc) h (0, 0))
    (v4 : ¬ l4 ≤ l5 → ¬ 300 ≤ l5 → ¬ ((h 97 l5.toNatClampNeg) &&& l2) = 0 → (l1 ||| (h 97 l5.toNatClampNeg)) < 0 → WP mX11_addGains Q 3 [some (.ref 0), some (.int l1), some (.int l2), some (.int l3), some (.int l4), some (.int (l5 + 1)), none] [] (jG0 sc) h (0, 0))
    (v5 : ¬ l4 ≤ l5 → ¬ 300 ≤ l5 → ¬ ((h 97 l5.toNatClampNeg) &&& l2) = 0 → ¬ (l1 ||| (h 97 l5.toNatClampNeg)) < 0 → 4096 ≤ (l1 ||| (h 97 l5.toNatClampNeg)) → WP mX11_addGains Q 3 [some (.ref 0), some (.int l1), some (.int l2), some (.int l3), some (.int l4), some (.int (l5 + 1)), none] [] (jG0 sc) h (0, 0))
    (o2 : ¬ l4 ≤ l5 → ¬ 300 ≤ l5 → ¬ ((h 97 l5.toNatClampNeg) &&& l2) = 0 → ¬ (l1 ||| (h 97 l5.toNatClampNeg)) < 0 → ¬ 4096 ≤ (l1 ||| (h 97 l5.toNatClampNeg)) → vp_in (l1 ||| (h 97 l5.toNatClampNeg)) 4096)
    (v6 : ¬ l4 ≤ l5 → ¬ 300 ≤ l5 → ¬ ((h 97 l5.toNatClampNeg) &&& l2) = 0 → ¬ (l1 ||| (h 97 l5.toNatClampNeg)) < 0 → ¬ 4096 ≤ (l1 ||| (h 97 l5.toNatClampNeg)) → (h 98 ((l1 ||| (h 97 l5.toNatClampNeg)).toNatClampNeg)) ≤ l3 → WP mX11_addGains Q 3 [some (.ref 0), some (.int l1), some (.int l2), some (.int l3), some (.int l4), some (.int (l5 + 1)), none] [] (jG0 sc) h (0, 0))
    (o3 : ¬ l4 ≤ l5 → ¬ 300 ≤ l5 → ¬ ((h 97 l5.toNatClampNeg) &&& l2) = 0 → ¬ (l1 ||| (h 97 l5.toNatClampNeg)) < 0 → ¬ 4096 ≤ (l1 ||| (h 97 l5.toNatClampNeg)) → ¬ (h 98 ((l1 ||| (h 97 l5.toNatClampNeg)).toNatClampNeg)) ≤ l3 → vp_in (l1 ||| (h 97 l5.toNatClampNeg)) 4096)
    (v7 : ¬ l4 ≤ l5 → ¬ 300 ≤ l5 → ¬ ((h 97 l5.toNatClampNeg) &&& l2) = 0 → ¬ (l1 ||| (h 97 l5.toNatClampNeg)) < 0 → ¬ 4096 ≤ (l1 ||| (h 97 l5.toNatClampNeg)) → ¬ (h 98 ((l1 ||| (h 97 l5.toNatClampNeg)).toNatClampNeg)) ≤ l3 → WP mX11_addGains Q 3 [some (.ref 0), some (.int l1), some (.int l2), some (.int l3), some (.int l4), some (.int (l5 + 1)), none] [] (jG0 sc) (jput h 98 ((l1 ||| (h 97 l5.toNatClampNeg)).toNatClampNeg) (((((l3 : Int32)).toInt8.toInt32 : Int32)).toInt8.toInt32)) (0, 0)) :
    WP mX11_addGains Q 3 [some (.ref 0), some (.int l1), some (.int l2), some (.int l3), some (.int l4), some (.int l5), none] [] (jG0 sc) h (0, 0) := by
  exact (bX11_addGains_3 (fun c1 => (bX11_addGains_84 (v1 c1))) (fun c1 => (bX11_addGains_10 (fun c2 => (bX11_addGains_84 (v2 c1 c2))) (fun c2 => (bX11_addGains_20 (o1 c1 c2) (o1 c1 c2) (fun c3 => (bX11_addGains_78 (v3 c1 c2 c3))) (fun c3 => (bX11_addGains_43 (fun c4 => (bX11_addGains_78 (v4 c1 c2 c3 c4))) (fun c4 => (bX11_addGains_48 (fun c5 => (bX11_addGains_78 (v5 c1 c2 c3 c4 c5))) (fun c5 => (bX11_addGains_58 (o2 c1 c2 c3 c4 c5) (fun c6 => (bX11_addGains_78 (v6 c1 c2 c3 c4 c5 c6))) (fun c6 => (bX11_addGains_69 (o3 c1 c2 c3 c4 c5 c6) (bX11_addGains_78 (v7 c1 c2 c3 c4 c5 c6)))))))))))))))
theorem dX11_putIn_0 : decode (mC mX11_putIn) 0 = .ok (.iload_n 1, 1) := by decide +kernel
theorem dX11_putIn_1 : decode (mC mX11_putIn) 1 = .ok (.ifCond .lt 14, 3) := by decide +kernel
theorem dX11_putIn_4 : decode (mC mX11_putIn) 4 = .ok (.iload_n 1, 1) := by decide +kernel
theorem dX11_putIn_5 : decode (mC mX11_putIn) 5 = .ok (.aload_n 0, 1) := by decide +kernel
theorem dX11_putIn_6 : decode (mC mX11_putIn) 6 = .ok (.getfield 61, 3) := by decide +kernel
theorem dX11_putIn_9 : decode (mC mX11_putIn) 9 = .ok (.getfield 284, 3) := by decide +kernel
theorem dX11_putIn_12 : decode (mC mX11_putIn) 12 = .ok (.if_icmp .lt 14, 3) := by decide +kernel
theorem dX11_putIn_15 : decode (mC mX11_putIn) 15 = .ok (.new 208, 3) := by decide +kernel
theorem dX11_putIn_18 : decode (mC mX11_putIn) 18 = .ok (.dup, 1) := by decide +kernel
theorem dX11_putIn_19 : decode (mC mX11_putIn) 19 = .ok (.ldc_w 285, 3) := by decide +kernel
theorem dX11_putIn_22 : decode (mC mX11_putIn) 22 = .ok (.invokespecial 212, 3) := by decide +kernel
theorem dX11_putIn_25 : decode (mC mX11_putIn) 25 = .ok (.athrow, 1) := by decide +kernel
theorem dX11_putIn_26 : decode (mC mX11_putIn) 26 = .ok (.aload_n 0, 1) := by decide +kernel
theorem dX11_putIn_27 : decode (mC mX11_putIn) 27 = .ok (.getfield 37, 3) := by decide +kernel
theorem dX11_putIn_30 : decode (mC mX11_putIn) 30 = .ok (.getfield 169, 3) := by decide +kernel
theorem dX11_putIn_33 : decode (mC mX11_putIn) 33 = .ok (.astore_n 2, 1) := by decide +kernel
theorem dX11_putIn_34 : decode (mC mX11_putIn) 34 = .ok (.iconst 0, 1) := by decide +kernel
theorem dX11_putIn_35 : decode (mC mX11_putIn) 35 = .ok (.istore_n 3, 1) := by decide +kernel
theorem dX11_putIn_36 : decode (mC mX11_putIn) 36 = .ok (.iload_n 3, 1) := by decide +kernel
theorem dX11_putIn_37 : decode (mC mX11_putIn) 37 = .ok (.aload_n 2, 1) := by decide +kernel
theorem dX11_putIn_38 : decode (mC mX11_putIn) 38 = .ok (.getfield 173, 3) := by decide +kernel
theorem dX11_putIn_41 : decode (mC mX11_putIn) 41 = .ok (.if_icmp .ge 50, 3) := by decide +kernel
theorem dX11_putIn_44 : decode (mC mX11_putIn) 44 = .ok (.iload_n 3, 1) := by decide +kernel
theorem dX11_putIn_45 : decode (mC mX11_putIn) 45 = .ok (.aload_n 0, 1) := by decide +kernel
theorem dX11_putIn_46 : decode (mC mX11_putIn) 46 = .ok (.getfield 86, 3) := by decide +kernel
theorem dX11_putIn_49 : decode (mC mX11_putIn) 49 = .ok (.arraylength, 1) := by decide +kernel
theorem dX11_putIn_50 : decode (mC mX11_putIn) 50 = .ok (.if_icmp .ge 41, 3) := by decide +kernel
theorem dX11_putIn_53 : decode (mC mX11_putIn) 53 = .ok (.aload_n 0, 1) := by decide +kernel
theorem dX11_putIn_54 : decode (mC mX11_putIn) 54 = .ok (.getfield 86, 3) := by decide +kernel
theorem dX11_putIn_57 : decode (mC mX11_putIn) 57 = .ok (.iload_n 3, 1) := by decide +kernel
theorem dX11_putIn_58 : decode (mC mX11_putIn) 58 = .ok (.aload_n 0, 1) := by decide +kernel
theorem dX11_putIn_59 : decode (mC mX11_putIn) 59 = .ok (.getfield 47, 3) := by decide +kernel
theorem dX11_putIn_62 : decode (mC mX11_putIn) 62 = .ok (.aload_n 0, 1) := by decide +kernel
theorem dX11_putIn_63 : decode (mC mX11_putIn) 63 = .ok (.getfield 37, 3) := by decide +kernel
theorem dX11_putIn_66 : decode (mC mX11_putIn) 66 = .ok (.getfield 127, 3) := by decide +kernel
theorem dX11_putIn_69 : decode (mC mX11_putIn) 69 = .ok (.aload_n 2, 1) := by decide +kernel
theorem dX11_putIn_70 : decode (mC mX11_putIn) 70 = .ok (.getfield 219, 3) := by decide +kernel
theorem dX11_putIn_73 : decode (mC mX11_putIn) 73 = .ok (.iload_n 3, 1) := by decide +kernel
theorem dX11_putIn_74 : decode (mC mX11_putIn) 74 = .ok (.iaload, 1) := by decide +kernel
theorem dX11_putIn_75 : decode (mC mX11_putIn) 75 = .ok (.aload_n 2, 1) := by decide +kernel
theorem dX11_putIn_76 : decode (mC mX11_putIn) 76 = .ok (.getfield 222, 3) := by decide +kernel
theorem dX11_putIn_79 : decode (mC mX11_putIn) 79 = .ok (.iload_n 3, 1) := by decide +kernel
theorem dX11_putIn_80 : decode (mC mX11_putIn) 80 = .ok (.iaload, 1) := by decide +kernel
theorem dX11_putIn_81 : decode (mC mX11_putIn) 81 = .ok (.invokevirtual 196, 3) := by decide +kernel
theorem dX11_putIn_84 : decode (mC mX11_putIn) 84 = .ok (.iastore, 1) := by decide +kernel
theorem dX11_putIn_85 : decode (mC mX11_putIn) 85 = .ok (.iinc 3 1, 3) := by decide +kernel
theorem dX11_putIn_88 : decode (mC mX11_putIn) 88 = .ok (.goto (-52), 3) := by decide +kernel
theorem dX11_putIn_91 : decode (mC mX11_putIn) 91 = .ok (.aload_n 0, 1) := by decide +kernel
theorem dX11_putIn_92 : decode (mC mX11_putIn) 92 = .ok (.getfield 61, 3) := by decide +kernel
theorem dX11_putIn_95 : decode (mC mX11_putIn) 95 = .ok (.aload_n 0, 1) := by decide +kernel
theorem dX11_putIn_96 : decode (mC mX11_putIn) 96 = .ok (.getfield 37, 3) := by decide +kernel
theorem dX11_putIn_99 : decode (mC mX11_putIn) 99 = .ok (.getfield 127, 3) := by decide +kernel
theorem dX11_putIn_102 : decode (mC mX11_putIn) 102 = .ok (.iload_n 1, 1) := by decide +kernel
theorem dX11_putIn_103 : decode (mC mX11_putIn) 103 = .ok (.aload_n 0, 1) := by decide +kernel
theorem dX11_putIn_104 : decode (mC mX11_putIn) 104 = .ok (.getfield 75, 3) := by decide +kernel
theorem dX11_putIn_107 : decode (mC mX11_putIn) 107 = .ok (.invokevirtual 192, 3) := by decide +kernel
theorem dX11_putIn_110 : decode (mC mX11_putIn) 110 = .ok (.pop, 1) := by decide +kernel
theorem dX11_putIn_111 : decode (mC mX11_putIn) 111 = .ok (.aload_n 0, 1) := by decide +kernel
theorem dX11_putIn_112 : decode (mC mX11_putIn) 112 = .ok (.aload_n 0, 1) := by decide +kernel
theorem dX11_putIn_113 : decode (mC mX11_putIn) 113 = .ok (.getfield 75, 3) := by decide +kernel
theorem dX11_putIn_116 : decode (mC mX11_putIn) 116 = .ok (.invokevirtual 412, 3) := by decide +kernel
theorem dX11_putIn_119 : decode (mC mX11_putIn) 119 = .ok (.ifCond .eq 5, 3) := by decide +kernel
theorem dX11_putIn_122 : decode (mC mX11_putIn) 122 = .ok (.iconst 3, 1) := by decide +kernel
theorem dX11_putIn_123 : decode (mC mX11_putIn) 123 = .ok (.ireturn, 1) := by decide +kernel
theorem dX11_putIn_124 : decode (mC mX11_putIn) 124 = .ok (.iconst 0, 1) := by decide +kernel
theorem dX11_putIn_125 : decode (mC mX11_putIn) 125 = .ok (.istore_n 3, 1) := by decide +kernel
theorem dX11_putIn_126 : decode (mC mX11_putIn) 126 = .ok (.iload_n 3, 1) := by decide +kernel
theorem dX11_putIn_127 : decode (mC mX11_putIn) 127 = .ok (.aload_n 0, 1) := by decide +kernel
theorem dX11_putIn_128 : decode (mC mX11_putIn) 128 = .ok (.getfield 37, 3) := by decide +kernel
theorem dX11_putIn_131 : decode (mC mX11_putIn) 131 = .ok (.getfield 351, 3) := by decide +kernel
theorem dX11_putIn_134 : decode (mC mX11_putIn) 134 = .ok (.if_icmp .gt 63, 3) := by decide +kernel
theorem dX11_putIn_137 : decode (mC mX11_putIn) 137 = .ok (.iconst 0, 1) := by decide +kernel
theorem dX11_putIn_138 : decode (mC mX11_putIn) 138 = .ok (.istore 4, 2) := by decide +kernel
theorem dX11_putIn_140 : decode (mC mX11_putIn) 140 = .ok (.iload 4, 2) := by decide +kernel
theorem dX11_putIn_142 : decode (mC mX11_putIn) 142 = .ok (.aload_n 0, 1) := by decide +kernel
theorem dX11_putIn_143 : decode (mC mX11_putIn) 143 = .ok (.getfield 37, 3) := by decide +kernel
theorem dX11_putIn_146 : decode (mC mX11_putIn) 146 = .ok (.getfield 351, 3) := by decide +kernel
theorem dX11_putIn_149 : decode (mC mX11_putIn) 149 = .ok (.if_icmp .gt 42, 3) := by decide +kernel
theorem dX11_putIn_152 : decode (mC mX11_putIn) 152 = .ok (.aload_n 0, 1) := by decide +kernel
theorem dX11_putIn_153 : decode (mC mX11_putIn) 153 = .ok (.getfield 89, 3) := by decide +kernel
theorem dX11_putIn_156 : decode (mC mX11_putIn) 156 = .ok (.bipush 16, 2) := by decide +kernel
theorem dX11_putIn_158 : decode (mC mX11_putIn) 158 = .ok (.iload_n 3, 1) := by decide +kernel
theorem dX11_putIn_159 : decode (mC mX11_putIn) 159 = .ok (.imul, 1) := by decide +kernel
theorem dX11_putIn_160 : decode (mC mX11_putIn) 160 = .ok (.iload 4, 2) := by decide +kernel
theorem dX11_putIn_162 : decode (mC mX11_putIn) 162 = .ok (.iadd, 1) := by decide +kernel
theorem dX11_putIn_163 : decode (mC mX11_putIn) 163 = .ok (.sipush 255, 3) := by decide +kernel
theorem dX11_putIn_166 : decode (mC mX11_putIn) 166 = .ok (.iand, 1) := by decide +kernel
theorem dX11_putIn_167 : decode (mC mX11_putIn) 167 = .ok (.aload_n 0, 1) := by decide +kernel
theorem dX11_putIn_168 : decode (mC mX11_putIn) 168 = .ok (.getfield 47, 3) := by decide +kernel
theorem dX11_putIn_171 : decode (mC mX11_putIn) 171 = .ok (.aload_n 0, 1) := by decide +kernel
theorem dX11_putIn_172 : decode (mC mX11_putIn) 172 = .ok (.getfield 37, 3) := by decide +kernel
theorem dX11_putIn_175 : decode (mC mX11_putIn) 175 = .ok (.getfield 127, 3) := by decide +kernel
theorem dX11_putIn_178 : decode (mC mX11_putIn) 178 = .ok (.iload_n 3, 1) := by decide +kernel
theorem dX11_putIn_179 : decode (mC mX11_putIn) 179 = .ok (.iload 4, 2) := by decide +kernel
theorem dX11_putIn_181 : decode (mC mX11_putIn) 181 = .ok (.invokevirtual 196, 3) := by decide +kernel
theorem dX11_putIn_184 : decode (mC mX11_putIn) 184 = .ok (.iastore, 1) := by decide +kernel
theorem dX11_putIn_185 : decode (mC mX11_putIn) 185 = .ok (.iinc 4 1, 3) := by decide +kernel
theorem dX11_putIn_188 : decode (mC mX11_putIn) 188 = .ok (.goto (-48), 3) := by decide +kernel
theorem dX11_putIn_191 : decode (mC mX11_putIn) 191 = .ok (.iinc 3 1, 3) := by decide +kernel
theorem dX11_putIn_194 : decode (mC mX11_putIn) 194 = .ok (.goto (-68), 3) := by decide +kernel
theorem dX11_putIn_197 : decode (mC mX11_putIn) 197 = .ok (.aload_n 0, 1) := by decide +kernel
theorem dX11_putIn_198 : decode (mC mX11_putIn) 198 = .ok (.invokevirtual 416, 3) := by decide +kernel
theorem dX11_putIn_201 : decode (mC mX11_putIn) 201 = .ok (.ireturn, 1) := by decide +kernel
set_option maxRecDepth 100000 in
theorem bX11_putIn_0 {sc : Nat × (Nat → Int32)} {h : jH} {Q : jQ} {l1 : Int32}
    (v1 : l1 < 0 → WP mX11_putIn Q 15 [some (.ref 0), some (.int l1), none, none, none] [] (jG0 sc) h (0, 0))
    (v2 : ¬ l1 < 0 → WP mX11_putIn Q 4 [some (.ref 0), some (.int l1), none, none, none] [] (jG0 sc) h (0, 0)) :
    WP mX11_putIn Q 0 [some (.ref 0), some (.int l1), none, none, none] [] (jG0 sc) h (0, 0) := by
  refine j_iload_n (i := 1) rfl dX11_putIn_0 ?_
  refine j_if_lt (off := 14) 15 dX11_putIn_1 (by decide) (fun c1 => ?_) (fun c1 => ?_)
  · exact j_le [some (.ref 0), some (.int l1), none, none, none] (And.intro rfl (And.intro rfl True.intro)) (v1 c1)
  · exact j_le [some (.ref 0), some (.int l1), none, none, none] (And.intro rfl (And.intro rfl True.intro)) (v2 c1)
set_option maxRecDepth 100000 in
theorem bX11_putIn_4 {sc : Nat × (Nat → Int32)} {h : jH} {Q : jQ} {l1 : Int32}
    (v1 : l1 < (h 75 6) → WP mX11_putIn Q 26 [some (.ref 0), some (.int l1), none, none, none] [] (jG0 sc) h (0, 0))
    (v2 : ¬ l1 < (h 75 6) → WP mX11_putIn Q 15 [some (.ref 0), some (.int l1), none, none, none] [] (jG0 sc) h (0, 0)) :
    WP mX11_putIn Q 4 [some (.ref 0), some (.int l1), none, none, none] [] (jG0 sc) h (0, 0) := by
  refine j_iload_n (i := 1) rfl dX11_putIn_4 ?_
  refine j_aload_n (i := 0) rfl dX11_putIn_5 ?_
  refine j_getR (idx := 61) (ci := 11) (k := 9) (nest := false) (show (11, 61, 11, 9, false) ∈ jFT by decide) rfl (Nat.le_of_ble_eq_true rfl) rfl (a := 75) rfl dX11_putIn_6 ?_
  refine j_getI (idx := 284) (ci := 3) (k := 6) (nest := true) (show (11, 284, 3, 6, true) ∈ jFT by decide) rfl (Nat.le_of_ble_eq_true rfl) rfl dX11_putIn_9 ?_
  refine j_icmp_lt (off := 14) 26 dX11_putIn_12 (by decide) (fun c1 => ?_) (fun c1 => ?_)
  · exact j_le [some (.ref 0), some (.int l1), none, none, none] (And.intro rfl (And.intro rfl True.intro)) (v1 c1)
  · exact j_le [some (.ref 0), some (.int l1), none, none, none] (And.intro rfl (And.intro rfl True.intro)) (v2 c1)
set_option maxRecDepth 100000 in
theorem bX11_putIn_15 {sc : Nat × (Nat → Int32)} {h : jH} {Q : jQ} {l1 : Int32}
    (v1 : Q (.inr "java/lang/IndexOutOfBoundsException") (jG0 sc) h) :
    WP mX11_putIn Q 15 [some (.ref 0), some (.int l1), none, none, none] [] (jG0 sc) h (0, 0) := by
  exact j_thrW_IOB (is := 285) "no such MEND" 33 (by decide +kernel) rfl rfl (by decide) (by decide) (Nat.le_of_ble_eq_true rfl) dX11_putIn_15 dX11_putIn_18 dX11_putIn_19 dX11_putIn_22 dX11_putIn_25 v1
set_option maxRecDepth 100000 in
theorem bX11_putIn_26 {sc : Nat × (Nat → Int32)} {h : jH} {Q : jQ} {l1 : Int32}
    (v1 : WP mX11_putIn Q 36 [some (.ref 0), some (.int l1), some (.ref 14), some (.int 0), none] [] (jG0 sc) h (0, 0)) :
    WP mX11_putIn Q 26 [some (.ref 0), some (.int l1), none, none, none] [] (jG0 sc) h (0, 0) := by
  refine j_aload_n (i := 0) rfl dX11_putIn_26 ?_
  refine j_getR (idx := 37) (ci := 11) (k := 4) (nest := false) (show (11, 37, 11, 4, false) ∈ jFT by decide) rfl (Nat.le_of_ble_eq_true rfl) rfl (a := 9) rfl dX11_putIn_27 ?_
  refine j_getR (idx := 169) (ci := 6) (k := 2) (nest := true) (show (11, 169, 6, 2, true) ∈ jFT by decide) rfl (Nat.le_of_ble_eq_true rfl) rfl (a := 14) rfl dX11_putIn_30 ?_
  refine j_astore_n (i := 2) dX11_putIn_33 (Nat.le_of_ble_eq_true rfl) ?_
  refine j_iconst (n := 0) 0 (by decide) dX11_putIn_34 ?_
  refine j_istore_n (i := 3) dX11_putIn_35 (Nat.le_of_ble_eq_true rfl) ?_
  exact j_le [some (.ref 0), some (.int l1), some (.ref 14), some (.int 0), none] (And.intro rfl (And.intro rfl (And.intro rfl (And.intro rfl True.intro)))) v1
set_option maxRecDepth 100000 in
theorem bX11_putIn_36 {sc : Nat × (Nat → Int32)} {h : jH} {Q : jQ} {l1 l3 : Int32}
    (v1 : (h 14 3) ≤ l3 → WP mX11_putIn Q 91 [some (.ref 0), some (.int l1), some (.ref 14), some (.int l3), none] [] (jG0 sc) h (0, 0))
    (v2 : ¬ (h 14 3) ≤ l3 → WP mX11_putIn Q 44 [some (.ref 0), some (.int l1), some (.ref 14), some (.int l3), none] [] (jG0 sc) h (0, 0)) :
    WP mX11_putIn Q 36 [some (.ref 0), some (.int l1), some (.ref 14), some (.int l3), none] [] (jG0 sc) h (0, 0) := by
  refine j_iload_n (i := 3) rfl dX11_putIn_36 ?_
  refine j_aload_n (i := 2) rfl dX11_putIn_37 ?_
  refine j_getI (idx := 173) (ci := 5) (k := 3) (nest := true) (show (11, 173, 5, 3, true) ∈ jFT by decide) rfl (Nat.le_of_ble_eq_true rfl) rfl dX11_putIn_38 ?_
  refine j_icmp_ge (off := 50) 91 dX11_putIn_41 (by decide) (fun c1 => ?_) (fun c1 => ?_)
  · exact j_le [some (.ref 0), some (.int l1), some (.ref 14), some (.int l3), none] (And.intro rfl (And.intro rfl (And.intro rfl (And.intro rfl True.intro)))) (v1 c1)
  · exact j_le [some (.ref 0), some (.int l1), some (.ref 14), some (.int l3), none] (And.intro rfl (And.intro rfl (And.intro rfl (And.intro rfl True.intro)))) (v2 c1)
set_option maxRecDepth 100000 in
theorem bX11_putIn_44 {sc : Nat × (Nat → Int32)} {h : jH} {Q : jQ} {l1 l3 : Int32}
    (v1 : 12 ≤ l3 → WP mX11_putIn Q 91 [some (.ref 0), some (.int l1), some (.ref 14), some (.int l3), none] [] (jG0 sc) h (0, 0))
    (v2 : ¬ 12 ≤ l3 → WP mX11_putIn Q 53 [some (.ref 0), some (.int l1), some (.ref 14), some (.int l3), none] [] (jG0 sc) h (0, 0)) :
    WP mX11_putIn Q 44 [some (.ref 0), some (.int l1), some (.ref 14), some (.int l3), none] [] (jG0 sc) h (0, 0) := by
  refine j_iload_n (i := 3) rfl dX11_putIn_44 ?_
  refine j_aload_n (i := 0) rfl dX11_putIn_45 ?_
  refine j_getR (idx := 86) (ci := 11) (k := 15) (nest := false) (show (11, 86, 11, 15, false) ∈ jFT by decide) rfl (Nat.le_of_ble_eq_true rfl) rfl (a := 95) rfl dX11_putIn_46 ?_
  refine j_alen (Nat.le_of_ble_eq_true rfl) rfl rfl 12 rfl dX11_putIn_49 ?_
  refine j_icmp_ge (off := 41) 91 dX11_putIn_50 (by decide) (fun c1 => ?_) (fun c1 => ?_)
  · exact j_le [some (.ref 0), some (.int l1), some (.ref 14), some (.int l3), none] (And.intro rfl (And.intro rfl (And.intro rfl (And.intro rfl True.intro)))) (v1 c1)
  · exact j_le [some (.ref 0), some (.int l1), some (.ref 14), some (.int l3), none] (And.intro rfl (And.intro rfl (And.intro rfl (And.intro rfl True.intro)))) (v2 c1)
set_option maxRecDepth 100000 in
theorem bX11_putIn_53 {sc : Nat × (Nat → Int32)} {h : jH} {Q : jQ} {l1 l3 : Int32} {P1 : Int32 → jH → Prop}
    (o1 : vp_in l3 12)
    (o2 : vp_in l3 12)
    (k1 : JM mX10_through [.ref 69, .ref 10, .int (h 15 l3.toNatClampNeg), .int (h 16 l3.toNatClampNeg)] (jG0 sc) h (jint sc P1))
    (o3 : ∀ (x1 : Int32) (h1 : jH), P1 x1 h1 → vp_in l3 12)
    (v1 : ∀ (x1 : Int32) (h1 : jH), P1 x1 h1 → WP mX11_putIn Q 36 [some (.ref 0), some (.int l1), some (.ref 14), some (.int (l3 + 1)), none] [] (jG0 sc) (jput h1 95 l3.toNatClampNeg x1) (0, 0)) :
    WP mX11_putIn Q 53 [some (.ref 0), some (.int l1), some (.ref 14), some (.int l3), none] [] (jG0 sc) h (0, 0) := by
  refine j_aload_n (i := 0) rfl dX11_putIn_53 ?_
  refine j_getR (idx := 86) (ci := 11) (k := 15) (nest := false) (show (11, 86, 11, 15, false) ∈ jFT by decide) rfl (Nat.le_of_ble_eq_true rfl) rfl (a := 95) rfl dX11_putIn_54 ?_
  refine j_iload_n (i := 3) rfl dX11_putIn_57 ?_
  refine j_aload_n (i := 0) rfl dX11_putIn_58 ?_
  refine j_getR (idx := 47) (ci := 11) (k := 7) (nest := false) (show (11, 47, 11, 7, false) ∈ jFT by decide) rfl (Nat.le_of_ble_eq_true rfl) rfl (a := 69) rfl dX11_putIn_59 ?_
  refine j_aload_n (i := 0) rfl dX11_putIn_62 ?_
  refine j_getR (idx := 37) (ci := 11) (k := 4) (nest := false) (show (11, 37, 11, 4, false) ∈ jFT by decide) rfl (Nat.le_of_ble_eq_true rfl) rfl (a := 9) rfl dX11_putIn_63 ?_
  refine j_getR (idx := 127) (ci := 6) (k := 0) (nest := true) (show (11, 127, 6, 0, true) ∈ jFT by decide) rfl (Nat.le_of_ble_eq_true rfl) rfl (a := 10) rfl dX11_putIn_66 ?_
  refine j_aload_n (i := 2) rfl dX11_putIn_69 ?_
  refine j_getR (idx := 219) (ci := 5) (k := 0) (nest := true) (show (11, 219, 5, 0, true) ∈ jFT by decide) rfl (Nat.le_of_ble_eq_true rfl) rfl (a := 15) rfl dX11_putIn_70 ?_
  refine j_iload_n (i := 3) rfl dX11_putIn_73 ?_
  refine j_iald (Nat.le_of_ble_eq_true rfl) rfl o1 dX11_putIn_74 ?_
  refine j_aload_n (i := 2) rfl dX11_putIn_75 ?_
  refine j_getR (idx := 222) (ci := 5) (k := 1) (nest := true) (show (11, 222, 5, 1, true) ∈ jFT by decide) rfl (Nat.le_of_ble_eq_true rfl) rfl (a := 16) rfl dX11_putIn_76 ?_
  refine j_iload_n (i := 3) rfl dX11_putIn_79 ?_
  refine j_iald (Nat.le_of_ble_eq_true rfl) rfl o2 dX11_putIn_80 ?_
  refine j_callVN (idx := 196) (As := [.ref 10, .int (h 15 l3.toNatClampNeg), .int (h 16 l3.toNatClampNeg)]) (ci := 10) (n := 3) k1 jint_nt (jTbl (jtb3 9 rfl)) sX10_through kX10_through rfl ⟨rfl, by decide +kernel, by decide +kernel, by decide +kernel⟩ rfl ⟨by decide, by decide⟩ (Nat.le_of_ble_eq_true rfl) rfl (Nat.le_of_ble_eq_true rfl) (Nat.le_of_ble_eq_true rfl) ⟨Nat.zero_le _, Nat.zero_le _⟩ dX11_putIn_81 (fun r Γ' h1 q => ?_)
  obtain ⟨x1, q0, rfl, p1⟩ := q; cases q0
  refine j_eqst [.int x1, .int l3, .ref 95] (by rfl) ?_
  refine j_iast (Nat.le_of_ble_eq_true rfl) rfl (o3 x1 h1 p1) dX11_putIn_84 ?_
  refine j_iinc (i := 3) (n := 1) rfl dX11_putIn_85 (Nat.le_of_ble_eq_true rfl) ?_
  refine j_eqlv [some (.ref 0), some (.int l1), some (.ref 14), some (.int (l3 + 1)), none] rfl ?_
  refine j_goto (off := -52) 36 dX11_putIn_88 (by decide) ?_
  exact j_le [some (.ref 0), some (.int l1), some (.ref 14), some (.int (l3 + 1)), none] (And.intro rfl (And.intro rfl (And.intro rfl (And.intro rfl True.intro)))) (v1 x1 h1 p1)
set_option maxRecDepth 100000 in
theorem bX11_putIn_91 {sc : Nat × (Nat → Int32)} {h : jH} {Q : jQ} {l1 l3 : Int32} {P1 : Int32 → jH → Prop} {P2 : Int32 → jH → Prop}
    (k1 : JM mX3_shape [.ref 75, .ref 10, .int l1, .ref 91] (jG0 sc) h (jint sc P1))
    (k2 : ∀ (x1 : Int32) (h1 : jH), P1 x1 h1 → JM mX11_endsAsAsked [.ref 0, .ref 91] (jG0 sc) h1 (jint sc P2))
    (v1 : ∀ (x1 : Int32) (h1 : jH), P1 x1 h1 → ∀ (x2 : Int32) (h2 : jH), P2 x2 h2 → x2 = 0 → WP mX11_putIn Q 124 [some (.ref 0), some (.int l1), some (.ref 14), some (.int l3), none] [] (jG0 sc) h2 (0, 0))
    (v2 : ∀ (x1 : Int32) (h1 : jH), P1 x1 h1 → ∀ (x2 : Int32) (h2 : jH), P2 x2 h2 → ¬ x2 = 0 → WP mX11_putIn Q 122 [some (.ref 0), some (.int l1), some (.ref 14), some (.int l3), none] [] (jG0 sc) h2 (0, 0)) :
    WP mX11_putIn Q 91 [some (.ref 0), some (.int l1), some (.ref 14), some (.int l3), none] [] (jG0 sc) h (0, 0) := by
  refine j_aload_n (i := 0) rfl dX11_putIn_91 ?_
  refine j_getR (idx := 61) (ci := 11) (k := 9) (nest := false) (show (11, 61, 11, 9, false) ∈ jFT by decide) rfl (Nat.le_of_ble_eq_true rfl) rfl (a := 75) rfl dX11_putIn_92 ?_
  refine j_aload_n (i := 0) rfl dX11_putIn_95 ?_
  refine j_getR (idx := 37) (ci := 11) (k := 4) (nest := false) (show (11, 37, 11, 4, false) ∈ jFT by decide) rfl (Nat.le_of_ble_eq_true rfl) rfl (a := 9) rfl dX11_putIn_96 ?_
  refine j_getR (idx := 127) (ci := 6) (k := 0) (nest := true) (show (11, 127, 6, 0, true) ∈ jFT by decide) rfl (Nat.le_of_ble_eq_true rfl) rfl (a := 10) rfl dX11_putIn_99 ?_
  refine j_iload_n (i := 1) rfl dX11_putIn_102 ?_
  refine j_aload_n (i := 0) rfl dX11_putIn_103 ?_
  refine j_getR (idx := 75) (ci := 11) (k := 12) (nest := false) (show (11, 75, 11, 12, false) ∈ jFT by decide) rfl (Nat.le_of_ble_eq_true rfl) rfl (a := 91) rfl dX11_putIn_104 ?_
  refine j_callVN (idx := 192) (As := [.ref 10, .int l1, .ref 91]) (ci := 3) (n := 3) k1 jint_nt (jTbl (jtb2 199 rfl)) sX3_shape kX3_shape rfl ⟨rfl, by decide +kernel, by decide +kernel, by decide +kernel⟩ rfl ⟨by decide, by decide⟩ (Nat.le_of_ble_eq_true rfl) rfl (Nat.le_of_ble_eq_true rfl) (Nat.le_of_ble_eq_true rfl) ⟨Nat.zero_le _, Nat.zero_le _⟩ dX11_putIn_107 (fun r Γ' h1 q => ?_)
  obtain ⟨x1, q0, rfl, p1⟩ := q; cases q0
  refine j_eqst [.int x1] (by rfl) ?_
  refine j_pop rfl dX11_putIn_110 ?_
  refine j_aload_n (i := 0) rfl dX11_putIn_111 ?_
  refine j_aload_n (i := 0) rfl dX11_putIn_112 ?_
  refine j_getR (idx := 75) (ci := 11) (k := 12) (nest := false) (show (11, 75, 11, 12, false) ∈ jFT by decide) rfl (Nat.le_of_ble_eq_true rfl) rfl (a := 91) rfl dX11_putIn_113 ?_
  refine j_callV (idx := 412) (As := [.ref 91]) (ci := 11) (n := 1) (k2 x1 h1 p1) jint_nt (jlkT (jtb6 23 rfl) rfl) sX11_endsAsAsked kX11_endsAsAsked rfl ⟨rfl, by decide +kernel, by decide +kernel, by decide +kernel⟩ rfl ⟨by decide, by decide⟩ (Nat.le_of_ble_eq_true rfl) rfl (Nat.le_of_ble_eq_true rfl) (Nat.le_of_ble_eq_true rfl) ⟨Nat.zero_le _, Nat.zero_le _⟩ dX11_putIn_116 (fun r Γ' h2 q => ?_)
  obtain ⟨x2, q0, rfl, p2⟩ := q; cases q0
  refine j_eqst [.int x2] (by rfl) ?_
  refine j_if_eq (off := 5) 124 dX11_putIn_119 (by decide) (fun c1 => ?_) (fun c1 => ?_)
  · exact j_le [some (.ref 0), some (.int l1), some (.ref 14), some (.int l3), none] (And.intro rfl (And.intro rfl (And.intro rfl (And.intro rfl True.intro)))) (v1 x1 h1 p1 x2 h2 p2 c1)
  · exact j_le [some (.ref 0), some (.int l1), some (.ref 14), some (.int l3), none] (And.intro rfl (And.intro rfl (And.intro rfl (And.intro rfl True.intro)))) (v2 x1 h1 p1 x2 h2 p2 c1)
set_option maxRecDepth 100000 in
theorem bX11_putIn_122 {sc : Nat × (Nat → Int32)} {h : jH} {Q : jQ} {l1 l3 : Int32}
    (v1 : Q (.inl (some (.int 3))) (jG0 sc) h) :
    WP mX11_putIn Q 122 [some (.ref 0), some (.int l1), some (.ref 14), some (.int l3), none] [] (jG0 sc) h (0, 0) := by
  refine j_iconst (n := 3) 3 (by decide) dX11_putIn_122 ?_
  exact j_iret rfl rfl (Nat.zero_le _) (Nat.zero_le _) dX11_putIn_123 v1
set_option maxRecDepth 100000 in
theorem bX11_putIn_124 {sc : Nat × (Nat → Int32)} {h : jH} {Q : jQ} {l1 l3 : Int32}
    (v1 : WP mX11_putIn Q 126 [some (.ref 0), some (.int l1), some (.ref 14), some (.int 0), none] [] (jG0 sc) h (0, 0)) :
    WP mX11_putIn Q 124 [some (.ref 0), some (.int l1), some (.ref 14), some (.int l3), none] [] (jG0 sc) h (0, 0) := by
  refine j_iconst (n := 0) 0 (by decide) dX11_putIn_124 ?_
  refine j_istore_n (i := 3) dX11_putIn_125 (Nat.le_of_ble_eq_true rfl) ?_
  exact j_le [some (.ref 0), some (.int l1), some (.ref 14), some (.int 0), none] (And.intro rfl (And.intro rfl (And.intro rfl (And.intro rfl True.intro)))) v1
set_option maxRecDepth 100000 in
theorem bX11_putIn_126 {sc : Nat × (Nat → Int32)} {h : jH} {Q : jQ} {l1 l3 : Int32}
    (v1 : (h 9 8) < l3 → WP mX11_putIn Q 197 [some (.ref 0), some (.int l1), some (.ref 14), some (.int l3), none] [] (jG0 sc) h (0, 0))
    (v2 : ¬ (h 9 8) < l3 → WP mX11_putIn Q 137 [some (.ref 0), some (.int l1), some (.ref 14), some (.int l3), none] [] (jG0 sc) h (0, 0)) :
    WP mX11_putIn Q 126 [some (.ref 0), some (.int l1), some (.ref 14), some (.int l3), none] [] (jG0 sc) h (0, 0) := by
  refine j_iload_n (i := 3) rfl dX11_putIn_126 ?_
  refine j_aload_n (i := 0) rfl dX11_putIn_127 ?_
  refine j_getR (idx := 37) (ci := 11) (k := 4) (nest := false) (show (11, 37, 11, 4, false) ∈ jFT by decide) rfl (Nat.le_of_ble_eq_true rfl) rfl (a := 9) rfl dX11_putIn_128 ?_
  refine j_getI (idx := 351) (ci := 6) (k := 8) (nest := true) (show (11, 351, 6, 8, true) ∈ jFT by decide) rfl (Nat.le_of_ble_eq_true rfl) rfl dX11_putIn_131 ?_
  refine j_icmp_gt (off := 63) 197 dX11_putIn_134 (by decide) (fun c1 => ?_) (fun c1 => ?_)
  · exact j_le [some (.ref 0), some (.int l1), some (.ref 14), some (.int l3), none] (And.intro rfl (And.intro rfl (And.intro rfl (And.intro rfl True.intro)))) (v1 c1)
  · exact j_le [some (.ref 0), some (.int l1), some (.ref 14), some (.int l3), none] (And.intro rfl (And.intro rfl (And.intro rfl (And.intro rfl True.intro)))) (v2 c1)
set_option maxRecDepth 100000 in
theorem bX11_putIn_137 {sc : Nat × (Nat → Int32)} {h : jH} {Q : jQ} {l1 l3 : Int32}
    (v1 : WP mX11_putIn Q 140 [some (.ref 0), some (.int l1), some (.ref 14), some (.int l3), some (.int 0)] [] (jG0 sc) h (0, 0)) :
    WP mX11_putIn Q 137 [some (.ref 0), some (.int l1), some (.ref 14), some (.int l3), none] [] (jG0 sc) h (0, 0) := by
  refine j_iconst (n := 0) 0 (by decide) dX11_putIn_137 ?_
  refine j_istore (i := 4) dX11_putIn_138 (Nat.le_of_ble_eq_true rfl) ?_
  exact j_le [some (.ref 0), some (.int l1), some (.ref 14), some (.int l3), some (.int 0)] (And.intro rfl (And.intro rfl (And.intro rfl (And.intro rfl (And.intro rfl True.intro))))) v1
set_option maxRecDepth 100000 in
theorem bX11_putIn_140 {sc : Nat × (Nat → Int32)} {h : jH} {Q : jQ} {l1 l3 l4 : Int32}
    (v1 : (h 9 8) < l4 → WP mX11_putIn Q 191 [some (.ref 0), some (.int l1), some (.ref 14), some (.int l3), some (.int l4)] [] (jG0 sc) h (0, 0))
    (v2 : ¬ (h 9 8) < l4 → WP mX11_putIn Q 152 [some (.ref 0), some (.int l1), some (.ref 14), some (.int l3), some (.int l4)] [] (jG0 sc) h (0, 0)) :
    WP mX11_putIn Q 140 [some (.ref 0), some (.int l1), some (.ref 14), some (.int l3), some (.int l4)] [] (jG0 sc) h (0, 0) := by
  refine j_iload (i := 4) rfl dX11_putIn_140 ?_
  refine j_aload_n (i := 0) rfl dX11_putIn_142 ?_
  refine j_getR (idx := 37) (ci := 11) (k := 4) (nest := false) (show (11, 37, 11, 4, false) ∈ jFT by decide) rfl (Nat.le_of_ble_eq_true rfl) rfl (a := 9) rfl dX11_putIn_143 ?_
  refine j_getI (idx := 351) (ci := 6) (k := 8) (nest := true) (show (11, 351, 6, 8, true) ∈ jFT by decide) rfl (Nat.le_of_ble_eq_true rfl) rfl dX11_putIn_146 ?_
  refine j_icmp_gt (off := 42) 191 dX11_putIn_149 (by decide) (fun c1 => ?_) (fun c1 => ?_)
  · exact j_le [some (.ref 0), some (.int l1), some (.ref 14), some (.int l3), some (.int l4)] (And.intro rfl (And.intro rfl (And.intro rfl (And.intro rfl (And.intro rfl True.intro))))) (v1 c1)
  · exact j_le [some (.ref 0), some (.int l1), some (.ref 14), some (.int l3), some (.int l4)] (And.intro rfl (And.intro rfl (And.intro rfl (And.intro rfl (And.intro rfl True.intro))))) (v2 c1)
set_option maxRecDepth 100000 in
theorem bX11_putIn_152 {sc : Nat × (Nat → Int32)} {h : jH} {Q : jQ} {l1 l3 l4 : Int32} {P1 : Int32 → jH → Prop}
    (k1 : JM mX10_through [.ref 69, .ref 10, .int l3, .int l4] (jG0 sc) h (jint sc P1))
    (o1 : ∀ (x1 : Int32) (h1 : jH), P1 x1 h1 → vp_in (((16 * l3) + l4) &&& 255) 256)
    (v1 : ∀ (x1 : Int32) (h1 : jH), P1 x1 h1 → WP mX11_putIn Q 140 [some (.ref 0), some (.int l1), some (.ref 14), some (.int l3), some (.int (l4 + 1))] [] (jG0 sc) (jput h1 96 ((((16 * l3) + l4) &&& 255).toNatClampNeg) x1) (0, 0)) :
    WP mX11_putIn Q 152 [some (.ref 0), some (.int l1), some (.ref 14), some (.int l3), some (.int l4)] [] (jG0 sc) h (0, 0) := by
  refine j_aload_n (i := 0) rfl dX11_putIn_152 ?_
  refine j_getR (idx := 89) (ci := 11) (k := 16) (nest := false) (show (11, 89, 11, 16, false) ∈ jFT by decide) rfl (Nat.le_of_ble_eq_true rfl) rfl (a := 96) rfl dX11_putIn_153 ?_
  refine j_bipush (n := 16) 16 (by decide) dX11_putIn_156 ?_
  refine j_iload_n (i := 3) rfl dX11_putIn_158 ?_
  refine j_imul dX11_putIn_159 ?_
  refine j_iload (i := 4) rfl dX11_putIn_160 ?_
  refine j_iadd dX11_putIn_162 ?_
  refine j_sipush (n := 255) 255 (by decide) dX11_putIn_163 ?_
  refine j_iand dX11_putIn_166 ?_
  refine j_aload_n (i := 0) rfl dX11_putIn_167 ?_
  refine j_getR (idx := 47) (ci := 11) (k := 7) (nest := false) (show (11, 47, 11, 7, false) ∈ jFT by decide) rfl (Nat.le_of_ble_eq_true rfl) rfl (a := 69) rfl dX11_putIn_168 ?_
  refine j_aload_n (i := 0) rfl dX11_putIn_171 ?_
  refine j_getR (idx := 37) (ci := 11) (k := 4) (nest := false) (show (11, 37, 11, 4, false) ∈ jFT by decide) rfl (Nat.le_of_ble_eq_true rfl) rfl (a := 9) rfl dX11_putIn_172 ?_
  refine j_getR (idx := 127) (ci := 6) (k := 0) (nest := true) (show (11, 127, 6, 0, true) ∈ jFT by decide) rfl (Nat.le_of_ble_eq_true rfl) rfl (a := 10) rfl dX11_putIn_175 ?_
  refine j_iload_n (i := 3) rfl dX11_putIn_178 ?_
  refine j_iload (i := 4) rfl dX11_putIn_179 ?_
  refine j_callVN (idx := 196) (As := [.ref 10, .int l3, .int l4]) (ci := 10) (n := 3) k1 jint_nt (jTbl (jtb3 9 rfl)) sX10_through kX10_through rfl ⟨rfl, by decide +kernel, by decide +kernel, by decide +kernel⟩ rfl ⟨by decide, by decide⟩ (Nat.le_of_ble_eq_true rfl) rfl (Nat.le_of_ble_eq_true rfl) (Nat.le_of_ble_eq_true rfl) ⟨Nat.zero_le _, Nat.zero_le _⟩ dX11_putIn_181 (fun r Γ' h1 q => ?_)
  obtain ⟨x1, q0, rfl, p1⟩ := q; cases q0
  refine j_eqst [.int x1, .int (((16 * l3) + l4) &&& 255), .ref 96] (by rfl) ?_
  refine j_iast (Nat.le_of_ble_eq_true rfl) rfl (o1 x1 h1 p1) dX11_putIn_184 ?_
  refine j_iinc (i := 4) (n := 1) rfl dX11_putIn_185 (Nat.le_of_ble_eq_true rfl) ?_
  refine j_eqlv [some (.ref 0), some (.int l1), some (.ref 14), some (.int l3), some (.int (l4 + 1))] rfl ?_
  refine j_goto (off := -48) 140 dX11_putIn_188 (by decide) ?_
  exact j_le [some (.ref 0), some (.int l1), some (.ref 14), some (.int l3), some (.int (l4 + 1))] (And.intro rfl (And.intro rfl (And.intro rfl (And.intro rfl (And.intro rfl True.intro))))) (v1 x1 h1 p1)
set_option maxRecDepth 100000 in
theorem bX11_putIn_191 {sc : Nat × (Nat → Int32)} {h : jH} {Q : jQ} {l1 l3 l4 : Int32}
    (v1 : WP mX11_putIn Q 126 [some (.ref 0), some (.int l1), some (.ref 14), some (.int (l3 + 1)), none] [] (jG0 sc) h (0, 0)) :
    WP mX11_putIn Q 191 [some (.ref 0), some (.int l1), some (.ref 14), some (.int l3), some (.int l4)] [] (jG0 sc) h (0, 0) := by
  refine j_iinc (i := 3) (n := 1) rfl dX11_putIn_191 (Nat.le_of_ble_eq_true rfl) ?_
  refine j_eqlv [some (.ref 0), some (.int l1), some (.ref 14), some (.int (l3 + 1)), some (.int l4)] rfl ?_
  refine j_goto (off := -68) 126 dX11_putIn_194 (by decide) ?_
  exact j_le [some (.ref 0), some (.int l1), some (.ref 14), some (.int (l3 + 1)), none] (And.intro rfl (And.intro rfl (And.intro rfl (And.intro rfl True.intro)))) v1
set_option maxRecDepth 100000 in
theorem bX11_putIn_197 {sc : Nat × (Nat → Int32)} {h : jH} {Q : jQ} {l1 l3 : Int32} {P1 : Int32 → jH → Prop}
    (k1 : JM mX11_judgeFault [.ref 0] (jG0 sc) h (jint sc P1))
    (v1 : ∀ (x1 : Int32) (h1 : jH), P1 x1 h1 → Q (.inl (some (.int x1))) (jG0 sc) h1) :
    WP mX11_putIn Q 197 [some (.ref 0), some (.int l1), some (.ref 14), some (.int l3), none] [] (jG0 sc) h (0, 0) := by
  refine j_aload_n (i := 0) rfl dX11_putIn_197 ?_
  refine j_callV (idx := 416) (As := []) (ci := 11) (n := 0) k1 jint_nt (jlkT (jtb6 27 rfl) rfl) sX11_judgeFault kX11_judgeFault rfl ⟨rfl, by decide +kernel, by decide +kernel, by decide +kernel⟩ rfl ⟨by decide, by decide⟩ (Nat.le_of_ble_eq_true rfl) rfl (Nat.le_of_ble_eq_true rfl) (Nat.le_of_ble_eq_true rfl) ⟨Nat.zero_le _, Nat.zero_le _⟩ dX11_putIn_198 (fun r Γ' h1 q => ?_)
  obtain ⟨x1, q0, rfl, p1⟩ := q; cases q0
  refine j_eqst [.int x1] (by rfl) ?_
  exact j_iret rfl rfl (Nat.zero_le _) (Nat.zero_le _) dX11_putIn_201 (v1 x1 h1 p1)
set_option maxRecDepth 100000 in
theorem rX11_putIn_0 {sc : Nat × (Nat → Int32)} {h : jH} {Q : jQ} {l1 : Int32}
    (v1 : l1 < 0 → Q (.inr "java/lang/IndexOutOfBoundsException") (jG0 sc) h)
    (v2 : ¬ l1 < 0 → l1 < (h 75 6) → WP mX11_putIn Q 36 [some (.ref 0), some (.int l1), some (.ref 14), some (.int 0), none] [] (jG0 sc) h (0, 0))
    (v3 : ¬ l1 < 0 → ¬ l1 < (h 75 6) → Q (.inr "java/lang/IndexOutOfBoundsException") (jG0 sc) h) :
    WP mX11_putIn Q 0 [some (.ref 0), some (.int l1), none, none, none] [] (jG0 sc) h (0, 0) := by
  exact (bX11_putIn_0 (fun c1 => (bX11_putIn_15 (v1 c1))) (fun c1 => (bX11_putIn_4 (fun c2 => (bX11_putIn_26 (v2 c1 c2))) (fun c2 => (bX11_putIn_15 (v3 c1 c2))))))
set_option maxRecDepth 100000 in
theorem rX11_putIn_36 {sc : Nat × (Nat → Int32)} {h : jH} {Q : jQ} {l1 l3 : Int32} {P1 : Int32 → jH → Prop} {P2 : Int32 → jH → Prop} {P3 : Int32 → jH → Prop} {P4 : Int32 → jH → Prop} {P5 : Int32 → jH → Prop}
    (k1 : (h 14 3) ≤ l3 → JM mX3_shape [.ref 75, .ref 10, .int l1, .ref 91] (jG0 sc) h (jint sc P1))
    (k2 : (h 14 3) ≤ l3 → ∀ (x1 : Int32) (h1 : jH), P1 x1 h1 → JM mX11_endsAsAsked [.ref 0, .ref 91] (jG0 sc) h1 (jint sc P2))
    (v1 : (h 14 3) ≤ l3 → ∀ (x1 : Int32) (h1 : jH), P1 x1 h1 → ∀ (x2 : Int32) (h2 : jH), P2 x2 h2 → x2 = 0 → WP mX11_putIn Q 126 [some (.ref 0), some (.int l1), some (.ref 14), some (.int 0), none] [] (jG0 sc) h2 (0, 0))
    (v2 : (h 14 3) ≤ l3 → ∀ (x1 : Int32) (h1 : jH), P1 x1 h1 → ∀ (x2 : Int32) (h2 : jH), P2 x2 h2 → ¬ x2 = 0 → Q (.inl (some (.int 3))) (jG0 sc) h2)
    (k3 : ¬ (h 14 3) ≤ l3 → 12 ≤ l3 → JM mX3_shape [.ref 75, .ref 10, .int l1, .ref 91] (jG0 sc) h (jint sc P3))
    (k4 : ¬ (h 14 3) ≤ l3 → 12 ≤ l3 → ∀ (x3 : Int32) (h3 : jH), P3 x3 h3 → JM mX11_endsAsAsked [.ref 0, .ref 91] (jG0 sc) h3 (jint sc P4))
    (v3 : ¬ (h 14 3) ≤ l3 → 12 ≤ l3 → ∀ (x3 : Int32) (h3 : jH), P3 x3 h3 → ∀ (x4 : Int32) (h4 : jH), P4 x4 h4 → x4 = 0 → WP mX11_putIn Q 126 [some (.ref 0), some (.int l1), some (.ref 14), some (.int 0), none] [] (jG0 sc) h4 (0, 0))
    (v4 : ¬ (h 14 3) ≤ l3 → 12 ≤ l3 → ∀ (x3 : Int32) (h3 : jH), P3 x3 h3 → ∀ (x4 : Int32) (h4 : jH), P4 x4 h4 → ¬ x4 = 0 → Q (.inl (some (.int 3))) (jG0 sc) h4)
    (o1 : ¬ (h 14 3) ≤ l3 → ¬ 12 ≤ l3 → vp_in l3 12)
    (k5 : ¬ (h 14 3) ≤ l3 → ¬ 12 ≤ l3 → JM mX10_through [.ref 69, .ref 10, .int (h 15 l3.toNatClampNeg), .int (h 16 l3.toNatClampNeg)] (jG0 sc) h (jint sc P5))
    (o2 : ¬ (h 14 3) ≤ l3 → ¬ 12 ≤ l3 → ∀ (x5 : Int32) (h5 : jH), P5 x5 h5 → vp_in l3 12)
    (v5 : ¬ (h 14 3) ≤ l3 → ¬ 12 ≤ l3 → ∀ (x5 : Int32) (h5 : jH), P5 x5 h5 → WP mX11_putIn Q 36 [some (.ref 0), some (.int l1), some (.ref 14), some (.int (l3 + 1)), none] [] (jG0 sc) (jput h5 95 l3.toNatClampNeg x5) (0, 0)) :
    WP mX11_putIn Q 36 [some (.ref 0), some (.int l1), some (.ref 14), some (.int l3), none] [] (jG0 sc) h (0, 0) := by
  exact (bX11_putIn_36 (fun c1 => (bX11_putIn_91 (k1 c1) (fun x1 h1 p1 => (k2 c1 x1 h1 p1)) (fun x1 h1 p1 x2 h2 p2 c2 => (bX11_putIn_124 (v1 c1 x1 h1 p1 x2 h2 p2 c2))) (fun x1 h1 p1 x2 h2 p2 c2 => (bX11_putIn_122 (v2 c1 x1 h1 p1 x2 h2 p2 c2))))) (fun c1 => (bX11_putIn_44 (fun c3 => (bX11_putIn_91 (k3 c1 c3) (fun x3 h3 p3 => (k4 c1 c3 x3 h3 p3)) (fun x3 h3 p3 x4 h4 p4 c4 => (bX11_putIn_124 (v3 c1 c3 x3 h3 p3 x4 h4 p4 c4))) (fun x3 h3 p3 x4 h4 p4 c4 => (bX11_putIn_122 (v4 c1 c3 x3 h3 p3 x4 h4 p4 c4))))) (fun c3 => (bX11_putIn_53 (o1 c1 c3) (o1 c1 c3) (k5 c1 c3) (fun x5 h5 p5 => (o2 c1 c3 x5 h5 p5)) (fun x5 h5 p5 => (v5 c1 c3 x5 h5 p5)))))))
set_option maxRecDepth 100000 in
theorem rX11_putIn_126 {sc : Nat × (Nat → Int32)} {h : jH} {Q : jQ} {l1 l3 : Int32} {P1 : Int32 → jH → Prop}
    (k1 : (h 9 8) < l3 → JM mX11_judgeFault [.ref 0] (jG0 sc) h (jint sc P1))
    (v1 : (h 9 8) < l3 → ∀ (x1 : Int32) (h1 : jH), P1 x1 h1 → Q (.inl (some (.int x1))) (jG0 sc) h1)
    (v2 : ¬ (h 9 8) < l3 → WP mX11_putIn Q 140 [some (.ref 0), some (.int l1), some (.ref 14), some (.int l3), some (.int 0)] [] (jG0 sc) h (0, 0)) :
    WP mX11_putIn Q 126 [some (.ref 0), some (.int l1), some (.ref 14), some (.int l3), none] [] (jG0 sc) h (0, 0) := by
  exact (bX11_putIn_126 (fun c1 => (bX11_putIn_197 (k1 c1) (fun x1 h1 p1 => (v1 c1 x1 h1 p1)))) (fun c1 => (bX11_putIn_137 (v2 c1))))
set_option maxRecDepth 100000 in
theorem rX11_putIn_140 {sc : Nat × (Nat → Int32)} {h : jH} {Q : jQ} {l1 l3 l4 : Int32} {P1 : Int32 → jH → Prop}
    (v1 : (h 9 8) < l4 → WP mX11_putIn Q 126 [some (.ref 0), some (.int l1), some (.ref 14), some (.int (l3 + 1)), none] [] (jG0 sc) h (0, 0))
    (k1 : ¬ (h 9 8) < l4 → JM mX10_through [.ref 69, .ref 10, .int l3, .int l4] (jG0 sc) h (jint sc P1))
    (o1 : ¬ (h 9 8) < l4 → ∀ (x1 : Int32) (h1 : jH), P1 x1 h1 → vp_in (((16 * l3) + l4) &&& 255) 256)
    (v2 : ¬ (h 9 8) < l4 → ∀ (x1 : Int32) (h1 : jH), P1 x1 h1 → WP mX11_putIn Q 140 [some (.ref 0), some (.int l1), some (.ref 14), some (.int l3), some (.int (l4 + 1))] [] (jG0 sc) (jput h1 96 ((((16 * l3) + l4) &&& 255).toNatClampNeg) x1) (0, 0)) :
    WP mX11_putIn Q 140 [some (.ref 0), some (.int l1), some (.ref 14), some (.int l3), some (.int l4)] [] (jG0 sc) h (0, 0) := by
  exact (bX11_putIn_140 (fun c1 => (bX11_putIn_191 (v1 c1))) (fun c1 => (bX11_putIn_152 (k1 c1) (fun x1 h1 p1 => (o1 c1 x1 h1 p1)) (fun x1 h1 p1 => (v2 c1 x1 h1 p1)))))
theorem dX11_judgeFault_0 : decode (mC mX11_judgeFault) 0 = .ok (.aload_n 0, 1) := by decide +kernel
theorem dX11_judgeFault_1 : decode (mC mX11_judgeFault) 1 = .ok (.getfield 65, 3) := by decide +kernel
theorem dX11_judgeFault_4 : decode (mC mX11_judgeFault) 4 = .ok (.aload_n 0, 1) := by decide +kernel
theorem dX11_judgeFault_5 : decode (mC mX11_judgeFault) 5 = .ok (.getfield 75, 3) := by decide +kernel
theorem dX11_judgeFault_8 : decode (mC mX11_judgeFault) 8 = .ok (.invokevirtual 160, 3) := by decide +kernel
theorem dX11_judgeFault_11 : decode (mC mX11_judgeFault) 11 = .ok (.iconst 0, 1) := by decide +kernel
theorem dX11_judgeFault_12 : decode (mC mX11_judgeFault) 12 = .ok (.istore_n 1, 1) := by decide +kernel
theorem dX11_judgeFault_13 : decode (mC mX11_judgeFault) 13 = .ok (.iconst 1, 1) := by decide +kernel
theorem dX11_judgeFault_14 : decode (mC mX11_judgeFault) 14 = .ok (.istore_n 2, 1) := by decide +kernel
theorem dX11_judgeFault_15 : decode (mC mX11_judgeFault) 15 = .ok (.iconst 0, 1) := by decide +kernel
theorem dX11_judgeFault_16 : decode (mC mX11_judgeFault) 16 = .ok (.istore_n 3, 1) := by decide +kernel
theorem dX11_judgeFault_17 : decode (mC mX11_judgeFault) 17 = .ok (.iload_n 3, 1) := by decide +kernel
theorem dX11_judgeFault_18 : decode (mC mX11_judgeFault) 18 = .ok (.aload_n 0, 1) := by decide +kernel
theorem dX11_judgeFault_19 : decode (mC mX11_judgeFault) 19 = .ok (.getfield 65, 3) := by decide +kernel
theorem dX11_judgeFault_22 : decode (mC mX11_judgeFault) 22 = .ok (.getfield 284, 3) := by decide +kernel
theorem dX11_judgeFault_25 : decode (mC mX11_judgeFault) 25 = .ok (.if_icmp .ge 65, 3) := by decide +kernel
theorem dX11_judgeFault_28 : decode (mC mX11_judgeFault) 28 = .ok (.iload_n 2, 1) := by decide +kernel
theorem dX11_judgeFault_29 : decode (mC mX11_judgeFault) 29 = .ok (.ifCond .ne 7, 3) := by decide +kernel
theorem dX11_judgeFault_32 : decode (mC mX11_judgeFault) 32 = .ok (.iload_n 1, 1) := by decide +kernel
theorem dX11_judgeFault_33 : decode (mC mX11_judgeFault) 33 = .ok (.ifCond .ne 57, 3) := by decide +kernel
theorem dX11_judgeFault_36 : decode (mC mX11_judgeFault) 36 = .ok (.aload_n 0, 1) := by decide +kernel
theorem dX11_judgeFault_37 : decode (mC mX11_judgeFault) 37 = .ok (.getfield 65, 3) := by decide +kernel
theorem dX11_judgeFault_40 : decode (mC mX11_judgeFault) 40 = .ok (.aload_n 0, 1) := by decide +kernel
theorem dX11_judgeFault_41 : decode (mC mX11_judgeFault) 41 = .ok (.getfield 75, 3) := by decide +kernel
theorem dX11_judgeFault_44 : decode (mC mX11_judgeFault) 44 = .ok (.iload_n 3, 1) := by decide +kernel
theorem dX11_judgeFault_45 : decode (mC mX11_judgeFault) 45 = .ok (.aload_n 0, 1) := by decide +kernel
theorem dX11_judgeFault_46 : decode (mC mX11_judgeFault) 46 = .ok (.getfield 71, 3) := by decide +kernel
theorem dX11_judgeFault_49 : decode (mC mX11_judgeFault) 49 = .ok (.invokevirtual 192, 3) := by decide +kernel
theorem dX11_judgeFault_52 : decode (mC mX11_judgeFault) 52 = .ok (.pop, 1) := by decide +kernel
theorem dX11_judgeFault_53 : decode (mC mX11_judgeFault) 53 = .ok (.aload_n 0, 1) := by decide +kernel
theorem dX11_judgeFault_54 : decode (mC mX11_judgeFault) 54 = .ok (.aload_n 0, 1) := by decide +kernel
theorem dX11_judgeFault_55 : decode (mC mX11_judgeFault) 55 = .ok (.getfield 71, 3) := by decide +kernel
theorem dX11_judgeFault_58 : decode (mC mX11_judgeFault) 58 = .ok (.invokevirtual 412, 3) := by decide +kernel
theorem dX11_judgeFault_61 : decode (mC mX11_judgeFault) 61 = .ok (.ifCond .eq 23, 3) := by decide +kernel
theorem dX11_judgeFault_64 : decode (mC mX11_judgeFault) 64 = .ok (.aload_n 0, 1) := by decide +kernel
theorem dX11_judgeFault_65 : decode (mC mX11_judgeFault) 65 = .ok (.aload_n 0, 1) := by decide +kernel
theorem dX11_judgeFault_66 : decode (mC mX11_judgeFault) 66 = .ok (.getfield 71, 3) := by decide +kernel
theorem dX11_judgeFault_69 : decode (mC mX11_judgeFault) 69 = .ok (.invokevirtual 419, 3) := by decide +kernel
theorem dX11_judgeFault_72 : decode (mC mX11_judgeFault) 72 = .ok (.istore 4, 2) := by decide +kernel
theorem dX11_judgeFault_74 : decode (mC mX11_judgeFault) 74 = .ok (.iload_n 1, 1) := by decide +kernel
theorem dX11_judgeFault_75 : decode (mC mX11_judgeFault) 75 = .ok (.iload 4, 2) := by decide +kernel
theorem dX11_judgeFault_77 : decode (mC mX11_judgeFault) 77 = .ok (.ior, 1) := by decide +kernel
theorem dX11_judgeFault_78 : decode (mC mX11_judgeFault) 78 = .ok (.istore_n 1, 1) := by decide +kernel
theorem dX11_judgeFault_79 : decode (mC mX11_judgeFault) 79 = .ok (.iload_n 2, 1) := by decide +kernel
theorem dX11_judgeFault_80 : decode (mC mX11_judgeFault) 80 = .ok (.iload 4, 2) := by decide +kernel
theorem dX11_judgeFault_82 : decode (mC mX11_judgeFault) 82 = .ok (.iand, 1) := by decide +kernel
theorem dX11_judgeFault_83 : decode (mC mX11_judgeFault) 83 = .ok (.istore_n 2, 1) := by decide +kernel
theorem dX11_judgeFault_84 : decode (mC mX11_judgeFault) 84 = .ok (.iinc 3 1, 3) := by decide +kernel
theorem dX11_judgeFault_87 : decode (mC mX11_judgeFault) 87 = .ok (.goto (-70), 3) := by decide +kernel
theorem dX11_judgeFault_90 : decode (mC mX11_judgeFault) 90 = .ok (.iload_n 1, 1) := by decide +kernel
theorem dX11_judgeFault_91 : decode (mC mX11_judgeFault) 91 = .ok (.ifCond .ne 5, 3) := by decide +kernel
theorem dX11_judgeFault_94 : decode (mC mX11_judgeFault) 94 = .ok (.iconst 0, 1) := by decide +kernel
theorem dX11_judgeFault_95 : decode (mC mX11_judgeFault) 95 = .ok (.ireturn, 1) := by decide +kernel
theorem dX11_judgeFault_96 : decode (mC mX11_judgeFault) 96 = .ok (.iload_n 2, 1) := by decide +kernel
theorem dX11_judgeFault_97 : decode (mC mX11_judgeFault) 97 = .ok (.ifCond .eq 7, 3) := by decide +kernel
theorem dX11_judgeFault_100 : decode (mC mX11_judgeFault) 100 = .ok (.iconst 1, 1) := by decide +kernel
theorem dX11_judgeFault_101 : decode (mC mX11_judgeFault) 101 = .ok (.goto 4, 3) := by decide +kernel
theorem dX11_judgeFault_104 : decode (mC mX11_judgeFault) 104 = .ok (.iconst 2, 1) := by decide +kernel
theorem dX11_judgeFault_105 : decode (mC mX11_judgeFault) 105 = .ok (.ireturn, 1) := by decide +kernel
set_option maxRecDepth 100000 in
theorem bX11_judgeFault_0 {sc : Nat × (Nat → Int32)} {h : jH} {Q : jQ} {P1 : jH → Prop}
    (k1 : JM mX3_of [.ref 82, .ref 91] (jG0 sc) h (jvoid sc P1))
    (v1 : ∀ h1 : jH, P1 h1 → WP mX11_judgeFault Q 17 [some (.ref 0), some (.int 0), some (.int 1), some (.int 0), none] [] (jG0 sc) h1 (0, 0)) :
    WP mX11_judgeFault Q 0 [some (.ref 0), none, none, none, none] [] (jG0 sc) h (0, 0) := by
  refine j_aload_n (i := 0) rfl dX11_judgeFault_0 ?_
  refine j_getR (idx := 65) (ci := 11) (k := 10) (nest := false) (show (11, 65, 11, 10, false) ∈ jFT by decide) rfl (Nat.le_of_ble_eq_true rfl) rfl (a := 82) rfl dX11_judgeFault_1 ?_
  refine j_aload_n (i := 0) rfl dX11_judgeFault_4 ?_
  refine j_getR (idx := 75) (ci := 11) (k := 12) (nest := false) (show (11, 75, 11, 12, false) ∈ jFT by decide) rfl (Nat.le_of_ble_eq_true rfl) rfl (a := 91) rfl dX11_judgeFault_5 ?_
  refine j_callVN (idx := 160) (As := [.ref 91]) (ci := 3) (n := 1) k1 jvoid_nt (jTbl (jtb3 97 rfl)) sX3_of kX3_of rfl ⟨rfl, by decide +kernel, by decide +kernel, by decide +kernel⟩ rfl ⟨by decide, by decide⟩ (Nat.le_of_ble_eq_true rfl) rfl (Nat.le_of_ble_eq_true rfl) (Nat.le_of_ble_eq_true rfl) ⟨Nat.zero_le _, Nat.zero_le _⟩ dX11_judgeFault_8 (fun r Γ' h1 q => ?_)
  obtain ⟨q0, rfl, p1⟩ := q; cases q0
  refine j_eqst [] (by rfl) ?_
  refine j_iconst (n := 0) 0 (by decide) dX11_judgeFault_11 ?_
  refine j_istore_n (i := 1) dX11_judgeFault_12 (Nat.le_of_ble_eq_true rfl) ?_
  refine j_iconst (n := 1) 1 (by decide) dX11_judgeFault_13 ?_
  refine j_istore_n (i := 2) dX11_judgeFault_14 (Nat.le_of_ble_eq_true rfl) ?_
  refine j_iconst (n := 0) 0 (by decide) dX11_judgeFault_15 ?_
  refine j_istore_n (i := 3) dX11_judgeFault_16 (Nat.le_of_ble_eq_true rfl) ?_
  exact j_le [some (.ref 0), some (.int 0), some (.int 1), some (.int 0), none] (And.intro rfl (And.intro rfl (And.intro rfl (And.intro rfl True.intro)))) (v1 h1 p1)
set_option maxRecDepth 100000 in
theorem bX11_judgeFault_17 {sc : Nat × (Nat → Int32)} {h : jH} {Q : jQ} {l1 l2 l3 : Int32}
    (v1 : (h 82 6) ≤ l3 → WP mX11_judgeFault Q 90 [some (.ref 0), some (.int l1), some (.int l2), some (.int l3), none] [] (jG0 sc) h (0, 0))
    (v2 : ¬ (h 82 6) ≤ l3 → WP mX11_judgeFault Q 28 [some (.ref 0), some (.int l1), some (.int l2), some (.int l3), none] [] (jG0 sc) h (0, 0)) :
    WP mX11_judgeFault Q 17 [some (.ref 0), some (.int l1), some (.int l2), some (.int l3), none] [] (jG0 sc) h (0, 0) := by
  refine j_iload_n (i := 3) rfl dX11_judgeFault_17 ?_
  refine j_aload_n (i := 0) rfl dX11_judgeFault_18 ?_
  refine j_getR (idx := 65) (ci := 11) (k := 10) (nest := false) (show (11, 65, 11, 10, false) ∈ jFT by decide) rfl (Nat.le_of_ble_eq_true rfl) rfl (a := 82) rfl dX11_judgeFault_19 ?_
  refine j_getI (idx := 284) (ci := 3) (k := 6) (nest := true) (show (11, 284, 3, 6, true) ∈ jFT by decide) rfl (Nat.le_of_ble_eq_true rfl) rfl dX11_judgeFault_22 ?_
  refine j_icmp_ge (off := 65) 90 dX11_judgeFault_25 (by decide) (fun c1 => ?_) (fun c1 => ?_)
  · exact j_le [some (.ref 0), some (.int l1), some (.int l2), some (.int l3), none] (And.intro rfl (And.intro rfl (And.intro rfl (And.intro rfl True.intro)))) (v1 c1)
  · exact j_le [some (.ref 0), some (.int l1), some (.int l2), some (.int l3), none] (And.intro rfl (And.intro rfl (And.intro rfl (And.intro rfl True.intro)))) (v2 c1)
set_option maxRecDepth 100000 in
theorem bX11_judgeFault_28 {sc : Nat × (Nat → Int32)} {h : jH} {Q : jQ} {l1 l2 l3 : Int32}
    (v1 : ¬ l2 = 0 → WP mX11_judgeFault Q 36 [some (.ref 0), some (.int l1), some (.int l2), some (.int l3), none] [] (jG0 sc) h (0, 0))
    (v2 : l2 = 0 → WP mX11_judgeFault Q 32 [some (.ref 0), some (.int l1), some (.int l2), some (.int l3), none] [] (jG0 sc) h (0, 0)) :
    WP mX11_judgeFault Q 28 [some (.ref 0), some (.int l1), some (.int l2), some (.int l3), none] [] (jG0 sc) h (0, 0) := by
  refine j_iload_n (i := 2) rfl dX11_judgeFault_28 ?_
  refine j_if_ne (off := 7) 36 dX11_judgeFault_29 (by decide) (fun c1 => ?_) (fun c1 => ?_)
  · exact j_le [some (.ref 0), some (.int l1), some (.int l2), some (.int l3), none] (And.intro rfl (And.intro rfl (And.intro rfl (And.intro rfl True.intro)))) (v1 c1)
  · exact j_le [some (.ref 0), some (.int l1), some (.int l2), some (.int l3), none] (And.intro rfl (And.intro rfl (And.intro rfl (And.intro rfl True.intro)))) (v2 c1)
set_option maxRecDepth 100000 in
theorem bX11_judgeFault_32 {sc : Nat × (Nat → Int32)} {h : jH} {Q : jQ} {l1 l2 l3 : Int32}
    (v1 : ¬ l1 = 0 → WP mX11_judgeFault Q 90 [some (.ref 0), some (.int l1), some (.int l2), some (.int l3), none] [] (jG0 sc) h (0, 0))
    (v2 : l1 = 0 → WP mX11_judgeFault Q 36 [some (.ref 0), some (.int l1), some (.int l2), some (.int l3), none] [] (jG0 sc) h (0, 0)) :
    WP mX11_judgeFault Q 32 [some (.ref 0), some (.int l1), some (.int l2), some (.int l3), none] [] (jG0 sc) h (0, 0) := by
  refine j_iload_n (i := 1) rfl dX11_judgeFault_32 ?_
  refine j_if_ne (off := 57) 90 dX11_judgeFault_33 (by decide) (fun c1 => ?_) (fun c1 => ?_)
  · exact j_le [some (.ref 0), some (.int l1), some (.int l2), some (.int l3), none] (And.intro rfl (And.intro rfl (And.intro rfl (And.intro rfl True.intro)))) (v1 c1)
  · exact j_le [some (.ref 0), some (.int l1), some (.int l2), some (.int l3), none] (And.intro rfl (And.intro rfl (And.intro rfl (And.intro rfl True.intro)))) (v2 c1)
set_option maxRecDepth 100000 in
theorem bX11_judgeFault_36 {sc : Nat × (Nat → Int32)} {h : jH} {Q : jQ} {l1 l2 l3 : Int32} {P1 : Int32 → jH → Prop} {P2 : Int32 → jH → Prop}
    (k1 : JM mX3_shape [.ref 82, .ref 91, .int l3, .ref 89] (jG0 sc) h (jint sc P1))
    (k2 : ∀ (x1 : Int32) (h1 : jH), P1 x1 h1 → JM mX11_endsAsAsked [.ref 0, .ref 89] (jG0 sc) h1 (jint sc P2))
    (v1 : ∀ (x1 : Int32) (h1 : jH), P1 x1 h1 → ∀ (x2 : Int32) (h2 : jH), P2 x2 h2 → x2 = 0 → WP mX11_judgeFault Q 84 [some (.ref 0), some (.int l1), some (.int l2), some (.int l3), none] [] (jG0 sc) h2 (0, 0))
    (v2 : ∀ (x1 : Int32) (h1 : jH), P1 x1 h1 → ∀ (x2 : Int32) (h2 : jH), P2 x2 h2 → ¬ x2 = 0 → WP mX11_judgeFault Q 64 [some (.ref 0), some (.int l1), some (.int l2), some (.int l3), none] [] (jG0 sc) h2 (0, 0)) :
    WP mX11_judgeFault Q 36 [some (.ref 0), some (.int l1), some (.int l2), some (.int l3), none] [] (jG0 sc) h (0, 0) := by
  refine j_aload_n (i := 0) rfl dX11_judgeFault_36 ?_
  refine j_getR (idx := 65) (ci := 11) (k := 10) (nest := false) (show (11, 65, 11, 10, false) ∈ jFT by decide) rfl (Nat.le_of_ble_eq_true rfl) rfl (a := 82) rfl dX11_judgeFault_37 ?_
  refine j_aload_n (i := 0) rfl dX11_judgeFault_40 ?_
  refine j_getR (idx := 75) (ci := 11) (k := 12) (nest := false) (show (11, 75, 11, 12, false) ∈ jFT by decide) rfl (Nat.le_of_ble_eq_true rfl) rfl (a := 91) rfl dX11_judgeFault_41 ?_
  refine j_iload_n (i := 3) rfl dX11_judgeFault_44 ?_
  refine j_aload_n (i := 0) rfl dX11_judgeFault_45 ?_
  refine j_getR (idx := 71) (ci := 11) (k := 11) (nest := false) (show (11, 71, 11, 11, false) ∈ jFT by decide) rfl (Nat.le_of_ble_eq_true rfl) rfl (a := 89) rfl dX11_judgeFault_46 ?_
  refine j_callVN (idx := 192) (As := [.ref 91, .int l3, .ref 89]) (ci := 3) (n := 3) k1 jint_nt (jTbl (jtb2 199 rfl)) sX3_shape kX3_shape rfl ⟨rfl, by decide +kernel, by decide +kernel, by decide +kernel⟩ rfl ⟨by decide, by decide⟩ (Nat.le_of_ble_eq_true rfl) rfl (Nat.le_of_ble_eq_true rfl) (Nat.le_of_ble_eq_true rfl) ⟨Nat.zero_le _, Nat.zero_le _⟩ dX11_judgeFault_49 (fun r Γ' h1 q => ?_)
  obtain ⟨x1, q0, rfl, p1⟩ := q; cases q0
  refine j_eqst [.int x1] (by rfl) ?_
  refine j_pop rfl dX11_judgeFault_52 ?_
  refine j_aload_n (i := 0) rfl dX11_judgeFault_53 ?_
  refine j_aload_n (i := 0) rfl dX11_judgeFault_54 ?_
  refine j_getR (idx := 71) (ci := 11) (k := 11) (nest := false) (show (11, 71, 11, 11, false) ∈ jFT by decide) rfl (Nat.le_of_ble_eq_true rfl) rfl (a := 89) rfl dX11_judgeFault_55 ?_
  refine j_callV (idx := 412) (As := [.ref 89]) (ci := 11) (n := 1) (k2 x1 h1 p1) jint_nt (jlkT (jtb6 23 rfl) rfl) sX11_endsAsAsked kX11_endsAsAsked rfl ⟨rfl, by decide +kernel, by decide +kernel, by decide +kernel⟩ rfl ⟨by decide, by decide⟩ (Nat.le_of_ble_eq_true rfl) rfl (Nat.le_of_ble_eq_true rfl) (Nat.le_of_ble_eq_true rfl) ⟨Nat.zero_le _, Nat.zero_le _⟩ dX11_judgeFault_58 (fun r Γ' h2 q => ?_)
  obtain ⟨x2, q0, rfl, p2⟩ := q; cases q0
  refine j_eqst [.int x2] (by rfl) ?_
  refine j_if_eq (off := 23) 84 dX11_judgeFault_61 (by decide) (fun c1 => ?_) (fun c1 => ?_)
  · exact j_le [some (.ref 0), some (.int l1), some (.int l2), some (.int l3), none] (And.intro rfl (And.intro rfl (And.intro rfl (And.intro rfl True.intro)))) (v1 x1 h1 p1 x2 h2 p2 c1)
  · exact j_le [some (.ref 0), some (.int l1), some (.int l2), some (.int l3), none] (And.intro rfl (And.intro rfl (And.intro rfl (And.intro rfl True.intro)))) (v2 x1 h1 p1 x2 h2 p2 c1)
set_option maxRecDepth 100000 in
theorem bX11_judgeFault_64 {sc : Nat × (Nat → Int32)} {h : jH} {Q : jQ} {l1 l2 l3 : Int32} {P1 : Int32 → jH → Prop}
    (k1 : JM mX11_endsAsBody [.ref 0, .ref 89] (jG0 sc) h (jint sc P1))
    (v1 : ∀ (x1 : Int32) (h1 : jH), P1 x1 h1 → WP mX11_judgeFault Q 84 [some (.ref 0), some (.int (l1 ||| x1)), some (.int (l2 &&& x1)), some (.int l3), none] [] (jG0 sc) h1 (0, 0)) :
    WP mX11_judgeFault Q 64 [some (.ref 0), some (.int l1), some (.int l2), some (.int l3), none] [] (jG0 sc) h (0, 0) := by
  refine j_aload_n (i := 0) rfl dX11_judgeFault_64 ?_
  refine j_aload_n (i := 0) rfl dX11_judgeFault_65 ?_
  refine j_getR (idx := 71) (ci := 11) (k := 11) (nest := false) (show (11, 71, 11, 11, false) ∈ jFT by decide) rfl (Nat.le_of_ble_eq_true rfl) rfl (a := 89) rfl dX11_judgeFault_66 ?_
  refine j_callV (idx := 419) (As := [.ref 89]) (ci := 11) (n := 1) k1 jint_nt (jlkT (jtb6 31 rfl) rfl) sX11_endsAsBody kX11_endsAsBody rfl ⟨rfl, by decide +kernel, by decide +kernel, by decide +kernel⟩ rfl ⟨by decide, by decide⟩ (Nat.le_of_ble_eq_true rfl) rfl (Nat.le_of_ble_eq_true rfl) (Nat.le_of_ble_eq_true rfl) ⟨Nat.zero_le _, Nat.zero_le _⟩ dX11_judgeFault_69 (fun r Γ' h1 q => ?_)
  obtain ⟨x1, q0, rfl, p1⟩ := q; cases q0
  refine j_eqst [.int x1] (by rfl) ?_
  refine j_istore (i := 4) dX11_judgeFault_72 (Nat.le_of_ble_eq_true rfl) ?_
  refine j_iload_n (i := 1) rfl dX11_judgeFault_74 ?_
  refine j_iload (i := 4) rfl dX11_judgeFault_75 ?_
  refine j_ior dX11_judgeFault_77 ?_
  refine j_istore_n (i := 1) dX11_judgeFault_78 (Nat.le_of_ble_eq_true rfl) ?_
  refine j_iload_n (i := 2) rfl dX11_judgeFault_79 ?_
  refine j_iload (i := 4) rfl dX11_judgeFault_80 ?_
  refine j_iand dX11_judgeFault_82 ?_
  refine j_istore_n (i := 2) dX11_judgeFault_83 (Nat.le_of_ble_eq_true rfl) ?_
  exact j_le [some (.ref 0), some (.int (l1 ||| x1)), some (.int (l2 &&& x1)), some (.int l3), none] (And.intro rfl (And.intro rfl (And.intro rfl (And.intro rfl True.intro)))) (v1 x1 h1 p1)
set_option maxRecDepth 100000 in
theorem bX11_judgeFault_84 {sc : Nat × (Nat → Int32)} {h : jH} {Q : jQ} {l1 l2 l3 : Int32}
    (v1 : WP mX11_judgeFault Q 17 [some (.ref 0), some (.int l1), some (.int l2), some (.int (l3 + 1)), none] [] (jG0 sc) h (0, 0)) :
    WP mX11_judgeFault Q 84 [some (.ref 0), some (.int l1), some (.int l2), some (.int l3), none] [] (jG0 sc) h (0, 0) := by
  refine j_iinc (i := 3) (n := 1) rfl dX11_judgeFault_84 (Nat.le_of_ble_eq_true rfl) ?_
  refine j_eqlv [some (.ref 0), some (.int l1), some (.int l2), some (.int (l3 + 1)), none] rfl ?_
  refine j_goto (off := -70) 17 dX11_judgeFault_87 (by decide) ?_
  exact j_le [some (.ref 0), some (.int l1), some (.int l2), some (.int (l3 + 1)), none] (And.intro rfl (And.intro rfl (And.intro rfl (And.intro rfl True.intro)))) v1
set_option maxRecDepth 100000 in
theorem bX11_judgeFault_90 {sc : Nat × (Nat → Int32)} {h : jH} {Q : jQ} {l1 l2 l3 : Int32}
    (v1 : ¬ l1 = 0 → WP mX11_judgeFault Q 96 [some (.ref 0), some (.int l1), some (.int l2), some (.int l3), none] [] (jG0 sc) h (0, 0))
    (v2 : l1 = 0 → WP mX11_judgeFault Q 94 [some (.ref 0), some (.int l1), some (.int l2), some (.int l3), none] [] (jG0 sc) h (0, 0)) :
    WP mX11_judgeFault Q 90 [some (.ref 0), some (.int l1), some (.int l2), some (.int l3), none] [] (jG0 sc) h (0, 0) := by
  refine j_iload_n (i := 1) rfl dX11_judgeFault_90 ?_
  refine j_if_ne (off := 5) 96 dX11_judgeFault_91 (by decide) (fun c1 => ?_) (fun c1 => ?_)
  · exact j_le [some (.ref 0), some (.int l1), some (.int l2), some (.int l3), none] (And.intro rfl (And.intro rfl (And.intro rfl (And.intro rfl True.intro)))) (v1 c1)
  · exact j_le [some (.ref 0), some (.int l1), some (.int l2), some (.int l3), none] (And.intro rfl (And.intro rfl (And.intro rfl (And.intro rfl True.intro)))) (v2 c1)
set_option maxRecDepth 100000 in
theorem bX11_judgeFault_94 {sc : Nat × (Nat → Int32)} {h : jH} {Q : jQ} {l1 l2 l3 : Int32}
    (v1 : Q (.inl (some (.int 0))) (jG0 sc) h) :
    WP mX11_judgeFault Q 94 [some (.ref 0), some (.int l1), some (.int l2), some (.int l3), none] [] (jG0 sc) h (0, 0) := by
  refine j_iconst (n := 0) 0 (by decide) dX11_judgeFault_94 ?_
  exact j_iret rfl rfl (Nat.zero_le _) (Nat.zero_le _) dX11_judgeFault_95 v1
set_option maxRecDepth 100000 in
theorem bX11_judgeFault_96 {sc : Nat × (Nat → Int32)} {h : jH} {Q : jQ} {l1 l2 l3 : Int32}
    (v1 : l2 = 0 → WP mX11_judgeFault Q 104 [some (.ref 0), some (.int l1), some (.int l2), some (.int l3), none] [] (jG0 sc) h (0, 0))
    (v2 : ¬ l2 = 0 → WP mX11_judgeFault Q 100 [some (.ref 0), some (.int l1), some (.int l2), some (.int l3), none] [] (jG0 sc) h (0, 0)) :
    WP mX11_judgeFault Q 96 [some (.ref 0), some (.int l1), some (.int l2), some (.int l3), none] [] (jG0 sc) h (0, 0) := by
  refine j_iload_n (i := 2) rfl dX11_judgeFault_96 ?_
  refine j_if_eq (off := 7) 104 dX11_judgeFault_97 (by decide) (fun c1 => ?_) (fun c1 => ?_)
  · exact j_le [some (.ref 0), some (.int l1), some (.int l2), some (.int l3), none] (And.intro rfl (And.intro rfl (And.intro rfl (And.intro rfl True.intro)))) (v1 c1)
  · exact j_le [some (.ref 0), some (.int l1), some (.int l2), some (.int l3), none] (And.intro rfl (And.intro rfl (And.intro rfl (And.intro rfl True.intro)))) (v2 c1)
set_option maxRecDepth 100000 in
theorem bX11_judgeFault_100 {sc : Nat × (Nat → Int32)} {h : jH} {Q : jQ} {l1 l2 l3 : Int32}
    (v1 : WP mX11_judgeFault Q 105 [some (.ref 0), some (.int l1), some (.int l2), some (.int l3), none] [.int 1] (jG0 sc) h (0, 0)) :
    WP mX11_judgeFault Q 100 [some (.ref 0), some (.int l1), some (.int l2), some (.int l3), none] [] (jG0 sc) h (0, 0) := by
  refine j_iconst (n := 1) 1 (by decide) dX11_judgeFault_100 ?_
  refine j_goto (off := 4) 105 dX11_judgeFault_101 (by decide) ?_
  exact j_le [some (.ref 0), some (.int l1), some (.int l2), some (.int l3), none] (And.intro rfl (And.intro rfl (And.intro rfl (And.intro rfl True.intro)))) v1
set_option maxRecDepth 100000 in
theorem bX11_judgeFault_104 {sc : Nat × (Nat → Int32)} {h : jH} {Q : jQ} {l1 l2 l3 : Int32}
    (v1 : WP mX11_judgeFault Q 105 [some (.ref 0), some (.int l1), some (.int l2), some (.int l3), none] [.int 2] (jG0 sc) h (0, 0)) :
    WP mX11_judgeFault Q 104 [some (.ref 0), some (.int l1), some (.int l2), some (.int l3), none] [] (jG0 sc) h (0, 0) := by
  refine j_iconst (n := 2) 2 (by decide) dX11_judgeFault_104 ?_
  exact j_le [some (.ref 0), some (.int l1), some (.int l2), some (.int l3), none] (And.intro rfl (And.intro rfl (And.intro rfl (And.intro rfl True.intro)))) v1
set_option maxRecDepth 100000 in
theorem bX11_judgeFault_105 {sc : Nat × (Nat → Int32)} {h : jH} {Q : jQ} {l1 l2 l3 s0 : Int32}
    (v1 : Q (.inl (some (.int s0))) (jG0 sc) h) :
    WP mX11_judgeFault Q 105 [some (.ref 0), some (.int l1), some (.int l2), some (.int l3), none] [.int s0] (jG0 sc) h (0, 0) := by
  exact j_iret rfl rfl (Nat.zero_le _) (Nat.zero_le _) dX11_judgeFault_105 v1
set_option maxRecDepth 100000 in
theorem rX11_judgeFault_0 {sc : Nat × (Nat → Int32)} {h : jH} {Q : jQ} {P1 : jH → Prop}
    (k1 : JM mX3_of [.ref 82, .ref 91] (jG0 sc) h (jvoid sc P1))
    (v1 : ∀ h1 : jH, P1 h1 → WP mX11_judgeFault Q 17 [some (.ref 0), some (.int 0), some (.int 1), some (.int 0), none] [] (jG0 sc) h1 (0, 0)) :
    WP mX11_judgeFault Q 0 [some (.ref 0), none, none, none, none] [] (jG0 sc) h (0, 0) := by
  exact (bX11_judgeFault_0 k1 (fun h1 p1 => (v1 h1 p1)))
set_option maxRecDepth 100000 in
theorem rX11_judgeFault_17 {sc : Nat × (Nat → Int32)} {h : jH} {Q : jQ} {l1 l2 l3 : Int32} {P1 : Int32 → jH → Prop} {P2 : Int32 → jH → Prop} {P3 : Int32 → jH → Prop} {P4 : Int32 → jH → Prop} {P5 : Int32 → jH → Prop} {P6 : Int32 → jH → Prop}
    (v1 : (h 82 6) ≤ l3 → ¬ l1 = 0 → l2 = 0 → Q (.inl (some (.int 2))) (jG0 sc) h)
    (v2 : (h 82 6) ≤ l3 → ¬ l1 = 0 → ¬ l2 = 0 → Q (.inl (some (.int 1))) (jG0 sc) h)
    (v3 : (h 82 6) ≤ l3 → l1 = 0 → Q (.inl (some (.int 0))) (jG0 sc) h)
    (k1 : ¬ (h 82 6) ≤ l3 → ¬ l2 = 0 → JM mX3_shape [.ref 82, .ref 91, .int l3, .ref 89] (jG0 sc) h (jint sc P1))
    (k2 : ¬ (h 82 6) ≤ l3 → ¬ l2 = 0 → ∀ (x1 : Int32) (h1 : jH), P1 x1 h1 → JM mX11_endsAsAsked [.ref 0, .ref 89] (jG0 sc) h1 (jint sc P2))
    (v4 : ¬ (h 82 6) ≤ l3 → ¬ l2 = 0 → ∀ (x1 : Int32) (h1 : jH), P1 x1 h1 → ∀ (x2 : Int32) (h2 : jH), P2 x2 h2 → x2 = 0 → WP mX11_judgeFault Q 17 [some (.ref 0), some (.int l1), some (.int l2), some (.int (l3 + 1)), none] [] (jG0 sc) h2 (0, 0))
    (k3 : ¬ (h 82 6) ≤ l3 → ¬ l2 = 0 → ∀ (x1 : Int32) (h1 : jH), P1 x1 h1 → ∀ (x2 : Int32) (h2 : jH), P2 x2 h2 → ¬ x2 = 0 → JM mX11_endsAsBody [.ref 0, .ref 89] (jG0 sc) h2 (jint sc P3))
    (v5 : ¬ (h 82 6) ≤ l3 → ¬ l2 = 0 → ∀ (x1 : Int32) (h1 : jH), P1 x1 h1 → ∀ (x2 : Int32) (h2 : jH), P2 x2 h2 → ¬ x2 = 0 → ∀ (x3 : Int32) (h3 : jH), P3 x3 h3 → WP mX11_judgeFault Q 17 [some (.ref 0), some (.int (l1 ||| x3)), some (.int (l2 &&& x3)), some (.int (l3 + 1)), none] [] (jG0 sc) h3 (0, 0))
    (v6 : ¬ (h 82 6) ≤ l3 → l2 = 0 → ¬ l1 = 0 → ¬ l1 = 0 → l2 = 0 → Q (.inl (some (.int 2))) (jG0 sc) h)
    (v7 : ¬ (h 82 6) ≤ l3 → l2 = 0 → ¬ l1 = 0 → ¬ l1 = 0 → ¬ l2 = 0 → Q (.inl (some (.int 1))) (jG0 sc) h)
    (v8 : ¬ (h 82 6) ≤ l3 → l2 = 0 → ¬ l1 = 0 → l1 = 0 → Q (.inl (some (.int 0))) (jG0 sc) h)
    (k4 : ¬ (h 82 6) ≤ l3 → l2 = 0 → l1 = 0 → JM mX3_shape [.ref 82, .ref 91, .int l3, .ref 89] (jG0 sc) h (jint sc P4))
    (k5 : ¬ (h 82 6) ≤ l3 → l2 = 0 → l1 = 0 → ∀ (x4 : Int32) (h4 : jH), P4 x4 h4 → JM mX11_endsAsAsked [.ref 0, .ref 89] (jG0 sc) h4 (jint sc P5))
    (v9 : ¬ (h 82 6) ≤ l3 → l2 = 0 → l1 = 0 → ∀ (x4 : Int32) (h4 : jH), P4 x4 h4 → ∀ (x5 : Int32) (h5 : jH), P5 x5 h5 → x5 = 0 → WP mX11_judgeFault Q 17 [some (.ref 0), some (.int l1), some (.int l2), some (.int (l3 + 1)), none] [] (jG0 sc) h5 (0, 0))
    (k6 : ¬ (h 82 6) ≤ l3 → l2 = 0 → l1 = 0 → ∀ (x4 : Int32) (h4 : jH), P4 x4 h4 → ∀ (x5 : Int32) (h5 : jH), P5 x5 h5 → ¬ x5 = 0 → JM mX11_endsAsBody [.ref 0, .ref 89] (jG0 sc) h5 (jint sc P6))
    (v10 : ¬ (h 82 6) ≤ l3 → l2 = 0 → l1 = 0 → ∀ (x4 : Int32) (h4 : jH), P4 x4 h4 → ∀ (x5 : Int32) (h5 : jH), P5 x5 h5 → ¬ x5 = 0 → ∀ (x6 : Int32) (h6 : jH), P6 x6 h6 → WP mX11_judgeFault Q 17 [some (.ref 0), some (.int (l1 ||| x6)), some (.int (l2 &&& x6)), some (.int (l3 + 1)), none] [] (jG0 sc) h6 (0, 0)) :
    WP mX11_judgeFault Q 17 [some (.ref 0), some (.int l1), some (.int l2), some (.int l3), none] [] (jG0 sc) h (0, 0) := by
  exact (bX11_judgeFault_17 (fun c1 => (bX11_judgeFault_90 (fun c2 => (bX11_judgeFault_96 (fun c3 => (bX11_judgeFault_104 (bX11_judgeFault_105 (v1 c1 c2 c3)))) (fun c3 => (bX11_judgeFault_100 (bX11_judgeFault_105 (v2 c1 c2 c3)))))) (fun c2 => (bX11_judgeFault_94 (v3 c1 c2))))) (fun c1 => (bX11_judgeFault_28 (fun c4 => (bX11_judgeFault_36 (k1 c1 c4) (fun x1 h1 p1 => (k2 c1 c4 x1 h1 p1)) (fun x1 h1 p1 x2 h2 p2 c5 => (bX11_judgeFault_84 (v4 c1 c4 x1 h1 p1 x2 h2 p2 c5))) (fun x1 h1 p1 x2 h2 p2 c5 => (bX11_judgeFault_64 (k3 c1 c4 x1 h1 p1 x2 h2 p2 c5) (fun x3 h3 p3 => (bX11_judgeFault_84 (v5 c1 c4 x1 h1 p1 x2 h2 p2 c5 x3 h3 p3))))))) (fun c4 => (bX11_judgeFault_32 (fun c6 => (bX11_judgeFault_90 (fun c7 => (bX11_judgeFault_96 (fun c8 => (bX11_judgeFault_104 (bX11_judgeFault_105 (v6 c1 c4 c6 c7 c8)))) (fun c8 => (bX11_judgeFault_100 (bX11_judgeFault_105 (v7 c1 c4 c6 c7 c8)))))) (fun c7 => (bX11_judgeFault_94 (v8 c1 c4 c6 c7))))) (fun c6 => (bX11_judgeFault_36 (k4 c1 c4 c6) (fun x4 h4 p4 => (k5 c1 c4 c6 x4 h4 p4)) (fun x4 h4 p4 x5 h5 p5 c9 => (bX11_judgeFault_84 (v9 c1 c4 c6 x4 h4 p4 x5 h5 p5 c9))) (fun x4 h4 p4 x5 h5 p5 c9 => (bX11_judgeFault_64 (k6 c1 c4 c6 x4 h4 p4 x5 h5 p5 c9) (fun x6 h6 p6 => (bX11_judgeFault_84 (v10 c1 c4 c6 x4 h4 p4 x5 h5 p5 c9 x6 h6 p6))))))))))))
theorem dX11_endsAsAsked_0 : decode (mC mX11_endsAsAsked) 0 = .ok (.aload_n 0, 1) := by decide +kernel
theorem dX11_endsAsAsked_1 : decode (mC mX11_endsAsAsked) 1 = .ok (.getfield 37, 3) := by decide +kernel
theorem dX11_endsAsAsked_4 : decode (mC mX11_endsAsAsked) 4 = .ok (.getfield 169, 3) := by decide +kernel
theorem dX11_endsAsAsked_7 : decode (mC mX11_endsAsAsked) 7 = .ok (.astore_n 2, 1) := by decide +kernel
theorem dX11_endsAsAsked_8 : decode (mC mX11_endsAsAsked) 8 = .ok (.iconst 0, 1) := by decide +kernel
theorem dX11_endsAsAsked_9 : decode (mC mX11_endsAsAsked) 9 = .ok (.istore_n 3, 1) := by decide +kernel
theorem dX11_endsAsAsked_10 : decode (mC mX11_endsAsAsked) 10 = .ok (.iload_n 3, 1) := by decide +kernel
theorem dX11_endsAsAsked_11 : decode (mC mX11_endsAsAsked) 11 = .ok (.aload_n 2, 1) := by decide +kernel
theorem dX11_endsAsAsked_12 : decode (mC mX11_endsAsAsked) 12 = .ok (.getfield 173, 3) := by decide +kernel
theorem dX11_endsAsAsked_15 : decode (mC mX11_endsAsAsked) 15 = .ok (.if_icmp .ge 61, 3) := by decide +kernel
theorem dX11_endsAsAsked_18 : decode (mC mX11_endsAsAsked) 18 = .ok (.iload_n 3, 1) := by decide +kernel
theorem dX11_endsAsAsked_19 : decode (mC mX11_endsAsAsked) 19 = .ok (.aload_n 0, 1) := by decide +kernel
theorem dX11_endsAsAsked_20 : decode (mC mX11_endsAsAsked) 20 = .ok (.getfield 86, 3) := by decide +kernel
theorem dX11_endsAsAsked_23 : decode (mC mX11_endsAsAsked) 23 = .ok (.arraylength, 1) := by decide +kernel
theorem dX11_endsAsAsked_24 : decode (mC mX11_endsAsAsked) 24 = .ok (.if_icmp .ge 52, 3) := by decide +kernel
theorem dX11_endsAsAsked_27 : decode (mC mX11_endsAsAsked) 27 = .ok (.aload_n 0, 1) := by decide +kernel
theorem dX11_endsAsAsked_28 : decode (mC mX11_endsAsAsked) 28 = .ok (.getfield 86, 3) := by decide +kernel
theorem dX11_endsAsAsked_31 : decode (mC mX11_endsAsAsked) 31 = .ok (.iload_n 3, 1) := by decide +kernel
theorem dX11_endsAsAsked_32 : decode (mC mX11_endsAsAsked) 32 = .ok (.iaload, 1) := by decide +kernel
theorem dX11_endsAsAsked_33 : decode (mC mX11_endsAsAsked) 33 = .ok (.invokestatic 387, 3) := by decide +kernel
theorem dX11_endsAsAsked_36 : decode (mC mX11_endsAsAsked) 36 = .ok (.ifCond .eq 34, 3) := by decide +kernel
theorem dX11_endsAsAsked_39 : decode (mC mX11_endsAsAsked) 39 = .ok (.aload_n 0, 1) := by decide +kernel
theorem dX11_endsAsAsked_40 : decode (mC mX11_endsAsAsked) 40 = .ok (.getfield 47, 3) := by decide +kernel
theorem dX11_endsAsAsked_43 : decode (mC mX11_endsAsAsked) 43 = .ok (.aload_n 1, 1) := by decide +kernel
theorem dX11_endsAsAsked_44 : decode (mC mX11_endsAsAsked) 44 = .ok (.aload_n 2, 1) := by decide +kernel
theorem dX11_endsAsAsked_45 : decode (mC mX11_endsAsAsked) 45 = .ok (.getfield 219, 3) := by decide +kernel
theorem dX11_endsAsAsked_48 : decode (mC mX11_endsAsAsked) 48 = .ok (.iload_n 3, 1) := by decide +kernel
theorem dX11_endsAsAsked_49 : decode (mC mX11_endsAsAsked) 49 = .ok (.iaload, 1) := by decide +kernel
theorem dX11_endsAsAsked_50 : decode (mC mX11_endsAsAsked) 50 = .ok (.aload_n 2, 1) := by decide +kernel
theorem dX11_endsAsAsked_51 : decode (mC mX11_endsAsAsked) 51 = .ok (.getfield 222, 3) := by decide +kernel
theorem dX11_endsAsAsked_54 : decode (mC mX11_endsAsAsked) 54 = .ok (.iload_n 3, 1) := by decide +kernel
theorem dX11_endsAsAsked_55 : decode (mC mX11_endsAsAsked) 55 = .ok (.iaload, 1) := by decide +kernel
theorem dX11_endsAsAsked_56 : decode (mC mX11_endsAsAsked) 56 = .ok (.invokevirtual 196, 3) := by decide +kernel
theorem dX11_endsAsAsked_59 : decode (mC mX11_endsAsAsked) 59 = .ok (.aload_n 0, 1) := by decide +kernel
theorem dX11_endsAsAsked_60 : decode (mC mX11_endsAsAsked) 60 = .ok (.getfield 86, 3) := by decide +kernel
theorem dX11_endsAsAsked_63 : decode (mC mX11_endsAsAsked) 63 = .ok (.iload_n 3, 1) := by decide +kernel
theorem dX11_endsAsAsked_64 : decode (mC mX11_endsAsAsked) 64 = .ok (.iaload, 1) := by decide +kernel
theorem dX11_endsAsAsked_65 : decode (mC mX11_endsAsAsked) 65 = .ok (.if_icmp .eq 5, 3) := by decide +kernel
theorem dX11_endsAsAsked_68 : decode (mC mX11_endsAsAsked) 68 = .ok (.iconst 0, 1) := by decide +kernel
theorem dX11_endsAsAsked_69 : decode (mC mX11_endsAsAsked) 69 = .ok (.ireturn, 1) := by decide +kernel
theorem dX11_endsAsAsked_70 : decode (mC mX11_endsAsAsked) 70 = .ok (.iinc 3 1, 3) := by decide +kernel
theorem dX11_endsAsAsked_73 : decode (mC mX11_endsAsAsked) 73 = .ok (.goto (-63), 3) := by decide +kernel
theorem dX11_endsAsAsked_76 : decode (mC mX11_endsAsAsked) 76 = .ok (.iconst 1, 1) := by decide +kernel
theorem dX11_endsAsAsked_77 : decode (mC mX11_endsAsAsked) 77 = .ok (.ireturn, 1) := by decide +kernel
set_option maxRecDepth 100000 in
theorem bX11_endsAsAsked_0 {sc : Nat × (Nat → Int32)} {h : jH} {Q : jQ} {a : Nat} (a_h : jI4 a)
    (v1 : WP mX11_endsAsAsked Q 10 [some (.ref 0), some (.ref a), some (.ref 14), some (.int 0)] [] (jG0 sc) h (0, 0)) :
    WP mX11_endsAsAsked Q 0 [some (.ref 0), some (.ref a), none, none] [] (jG0 sc) h (0, 0) := by
  obtain ⟨a_lt1, a_K0, a_R0_0, a_K1, a_L1⟩ := a_h
  have a_lt0 : a + 0 < jN (jG0 sc) := Nat.lt_of_succ_lt a_lt1
  refine j_aload_n (i := 0) rfl dX11_endsAsAsked_0 ?_
  refine j_getR (idx := 37) (ci := 11) (k := 4) (nest := false) (show (11, 37, 11, 4, false) ∈ jFT by decide) rfl (Nat.le_of_ble_eq_true rfl) rfl (a := 9) rfl dX11_endsAsAsked_1 ?_
  refine j_getR (idx := 169) (ci := 6) (k := 2) (nest := true) (show (11, 169, 6, 2, true) ∈ jFT by decide) rfl (Nat.le_of_ble_eq_true rfl) rfl (a := 14) rfl dX11_endsAsAsked_4 ?_
  refine j_astore_n (i := 2) dX11_endsAsAsked_7 (Nat.le_of_ble_eq_true rfl) ?_
  refine j_iconst (n := 0) 0 (by decide) dX11_endsAsAsked_8 ?_
  refine j_istore_n (i := 3) dX11_endsAsAsked_9 (Nat.le_of_ble_eq_true rfl) ?_
  exact j_le [some (.ref 0), some (.ref a), some (.ref 14), some (.int 0)] (And.intro rfl (And.intro rfl (And.intro rfl (And.intro rfl True.intro)))) v1
set_option maxRecDepth 100000 in
theorem bX11_endsAsAsked_10 {sc : Nat × (Nat → Int32)} {h : jH} {Q : jQ} {a : Nat} {l3 : Int32} (a_h : jI4 a)
    (v1 : (h 14 3) ≤ l3 → WP mX11_endsAsAsked Q 76 [some (.ref 0), some (.ref a), some (.ref 14), some (.int l3)] [] (jG0 sc) h (0, 0))
    (v2 : ¬ (h 14 3) ≤ l3 → WP mX11_endsAsAsked Q 18 [some (.ref 0), some (.ref a), some (.ref 14), some (.int l3)] [] (jG0 sc) h (0, 0)) :
    WP mX11_endsAsAsked Q 10 [some (.ref 0), some (.ref a), some (.ref 14), some (.int l3)] [] (jG0 sc) h (0, 0) := by
  obtain ⟨a_lt1, a_K0, a_R0_0, a_K1, a_L1⟩ := a_h
  have a_lt0 : a + 0 < jN (jG0 sc) := Nat.lt_of_succ_lt a_lt1
  refine j_iload_n (i := 3) rfl dX11_endsAsAsked_10 ?_
  refine j_aload_n (i := 2) rfl dX11_endsAsAsked_11 ?_
  refine j_getI (idx := 173) (ci := 5) (k := 3) (nest := true) (show (11, 173, 5, 3, true) ∈ jFT by decide) rfl (Nat.le_of_ble_eq_true rfl) rfl dX11_endsAsAsked_12 ?_
  refine j_icmp_ge (off := 61) 76 dX11_endsAsAsked_15 (by decide) (fun c1 => ?_) (fun c1 => ?_)
  · exact j_le [some (.ref 0), some (.ref a), some (.ref 14), some (.int l3)] (And.intro rfl (And.intro rfl (And.intro rfl (And.intro rfl True.intro)))) (v1 c1)
  · exact j_le [some (.ref 0), some (.ref a), some (.ref 14), some (.int l3)] (And.intro rfl (And.intro rfl (And.intro rfl (And.intro rfl True.intro)))) (v2 c1)
set_option maxRecDepth 100000 in
theorem bX11_endsAsAsked_18 {sc : Nat × (Nat → Int32)} {h : jH} {Q : jQ} {a : Nat} {l3 : Int32} (a_h : jI4 a)
    (v1 : 12 ≤ l3 → WP mX11_endsAsAsked Q 76 [some (.ref 0), some (.ref a), some (.ref 14), some (.int l3)] [] (jG0 sc) h (0, 0))
    (v2 : ¬ 12 ≤ l3 → WP mX11_endsAsAsked Q 27 [some (.ref 0), some (.ref a), some (.ref 14), some (.int l3)] [] (jG0 sc) h (0, 0)) :
    WP mX11_endsAsAsked Q 18 [some (.ref 0), some (.ref a), some (.ref 14), some (.int l3)] [] (jG0 sc) h (0, 0) := by
  obtain ⟨a_lt1, a_K0, a_R0_0, a_K1, a_L1⟩ := a_h
  have a_lt0 : a + 0 < jN (jG0 sc) := Nat.lt_of_succ_lt a_lt1
  refine j_iload_n (i := 3) rfl dX11_endsAsAsked_18 ?_
  refine j_aload_n (i := 0) rfl dX11_endsAsAsked_19 ?_
  refine j_getR (idx := 86) (ci := 11) (k := 15) (nest := false) (show (11, 86, 11, 15, false) ∈ jFT by decide) rfl (Nat.le_of_ble_eq_true rfl) rfl (a := 95) rfl dX11_endsAsAsked_20 ?_
  refine j_alen (Nat.le_of_ble_eq_true rfl) rfl rfl 12 rfl dX11_endsAsAsked_23 ?_
  refine j_icmp_ge (off := 52) 76 dX11_endsAsAsked_24 (by decide) (fun c1 => ?_) (fun c1 => ?_)
  · exact j_le [some (.ref 0), some (.ref a), some (.ref 14), some (.int l3)] (And.intro rfl (And.intro rfl (And.intro rfl (And.intro rfl True.intro)))) (v1 c1)
  · exact j_le [some (.ref 0), some (.ref a), some (.ref 14), some (.int l3)] (And.intro rfl (And.intro rfl (And.intro rfl (And.intro rfl True.intro)))) (v2 c1)
set_option maxRecDepth 100000 in
theorem bX11_endsAsAsked_27 {sc : Nat × (Nat → Int32)} {h : jH} {Q : jQ} {a : Nat} {l3 : Int32} {P1 : Int32 → jH → Prop} (a_h : jI4 a)
    (o1 : vp_in l3 12)
    (k1 : JM mX11_isNumber [.int (h 95 l3.toNatClampNeg)] (jG0 sc) h (jint sc P1))
    (v1 : ∀ (x1 : Int32) (h1 : jH), P1 x1 h1 → x1 = 0 → WP mX11_endsAsAsked Q 70 [some (.ref 0), some (.ref a), some (.ref 14), some (.int l3)] [] (jG0 sc) h1 (0, 0))
    (v2 : ∀ (x1 : Int32) (h1 : jH), P1 x1 h1 → ¬ x1 = 0 → WP mX11_endsAsAsked Q 39 [some (.ref 0), some (.ref a), some (.ref 14), some (.int l3)] [] (jG0 sc) h1 (0, 0)) :
    WP mX11_endsAsAsked Q 27 [some (.ref 0), some (.ref a), some (.ref 14), some (.int l3)] [] (jG0 sc) h (0, 0) := by
  obtain ⟨a_lt1, a_K0, a_R0_0, a_K1, a_L1⟩ := a_h
  have a_lt0 : a + 0 < jN (jG0 sc) := Nat.lt_of_succ_lt a_lt1
  refine j_aload_n (i := 0) rfl dX11_endsAsAsked_27 ?_
  refine j_getR (idx := 86) (ci := 11) (k := 15) (nest := false) (show (11, 86, 11, 15, false) ∈ jFT by decide) rfl (Nat.le_of_ble_eq_true rfl) rfl (a := 95) rfl dX11_endsAsAsked_28 ?_
  refine j_iload_n (i := 3) rfl dX11_endsAsAsked_31 ?_
  refine j_iald (Nat.le_of_ble_eq_true rfl) rfl o1 dX11_endsAsAsked_32 ?_
  refine j_callS (idx := 387) (As := [.int (h 95 l3.toNatClampNeg)]) (n := 1) k1 jint_nt (jlkT (jtb5 204 rfl) rfl) sX11_isNumber kX11_isNumber rfl ⟨by decide +kernel, by decide +kernel, by decide +kernel⟩ rfl ⟨by decide, by decide⟩ (Nat.le_of_ble_eq_true rfl) ⟨Nat.zero_le _, Nat.zero_le _⟩ dX11_endsAsAsked_33 (fun r Γ' h1 q => ?_)
  obtain ⟨x1, q0, rfl, p1⟩ := q; cases q0
  refine j_eqst [.int x1] (by rfl) ?_
  refine j_if_eq (off := 34) 70 dX11_endsAsAsked_36 (by decide) (fun c1 => ?_) (fun c1 => ?_)
  · exact j_le [some (.ref 0), some (.ref a), some (.ref 14), some (.int l3)] (And.intro rfl (And.intro rfl (And.intro rfl (And.intro rfl True.intro)))) (v1 x1 h1 p1 c1)
  · exact j_le [some (.ref 0), some (.ref a), some (.ref 14), some (.int l3)] (And.intro rfl (And.intro rfl (And.intro rfl (And.intro rfl True.intro)))) (v2 x1 h1 p1 c1)
set_option maxRecDepth 100000 in
theorem bX11_endsAsAsked_39 {sc : Nat × (Nat → Int32)} {h : jH} {Q : jQ} {a : Nat} {l3 : Int32} {P1 : Int32 → jH → Prop} (a_h : jI4 a)
    (o1 : vp_in l3 12)
    (o2 : vp_in l3 12)
    (k1 : JM mX10_through [.ref 69, .ref a, .int (h 15 l3.toNatClampNeg), .int (h 16 l3.toNatClampNeg)] (jG0 sc) h (jint sc P1))
    (o3 : ∀ (x1 : Int32) (h1 : jH), P1 x1 h1 → vp_in l3 12)
    (v1 : ∀ (x1 : Int32) (h1 : jH), P1 x1 h1 → x1 = (h1 95 l3.toNatClampNeg) → WP mX11_endsAsAsked Q 70 [some (.ref 0), some (.ref a), some (.ref 14), some (.int l3)] [] (jG0 sc) h1 (0, 0))
    (v2 : ∀ (x1 : Int32) (h1 : jH), P1 x1 h1 → ¬ x1 = (h1 95 l3.toNatClampNeg) → WP mX11_endsAsAsked Q 68 [some (.ref 0), some (.ref a), some (.ref 14), some (.int l3)] [] (jG0 sc) h1 (0, 0)) :
    WP mX11_endsAsAsked Q 39 [some (.ref 0), some (.ref a), some (.ref 14), some (.int l3)] [] (jG0 sc) h (0, 0) := by
  obtain ⟨a_lt1, a_K0, a_R0_0, a_K1, a_L1⟩ := a_h
  have a_lt0 : a + 0 < jN (jG0 sc) := Nat.lt_of_succ_lt a_lt1
  refine j_aload_n (i := 0) rfl dX11_endsAsAsked_39 ?_
  refine j_getR (idx := 47) (ci := 11) (k := 7) (nest := false) (show (11, 47, 11, 7, false) ∈ jFT by decide) rfl (Nat.le_of_ble_eq_true rfl) rfl (a := 69) rfl dX11_endsAsAsked_40 ?_
  refine j_aload_n (i := 1) rfl dX11_endsAsAsked_43 ?_
  refine j_aload_n (i := 2) rfl dX11_endsAsAsked_44 ?_
  refine j_getR (idx := 219) (ci := 5) (k := 0) (nest := true) (show (11, 219, 5, 0, true) ∈ jFT by decide) rfl (Nat.le_of_ble_eq_true rfl) rfl (a := 15) rfl dX11_endsAsAsked_45 ?_
  refine j_iload_n (i := 3) rfl dX11_endsAsAsked_48 ?_
  refine j_iald (Nat.le_of_ble_eq_true rfl) rfl o1 dX11_endsAsAsked_49 ?_
  refine j_aload_n (i := 2) rfl dX11_endsAsAsked_50 ?_
  refine j_getR (idx := 222) (ci := 5) (k := 1) (nest := true) (show (11, 222, 5, 1, true) ∈ jFT by decide) rfl (Nat.le_of_ble_eq_true rfl) rfl (a := 16) rfl dX11_endsAsAsked_51 ?_
  refine j_iload_n (i := 3) rfl dX11_endsAsAsked_54 ?_
  refine j_iald (Nat.le_of_ble_eq_true rfl) rfl o2 dX11_endsAsAsked_55 ?_
  refine j_callVN (idx := 196) (As := [.ref a, .int (h 15 l3.toNatClampNeg), .int (h 16 l3.toNatClampNeg)]) (ci := 10) (n := 3) k1 jint_nt (jTbl (jtb3 9 rfl)) sX10_through kX10_through rfl ⟨rfl, by decide +kernel, by decide +kernel, by decide +kernel⟩ rfl ⟨by decide, by decide⟩ (Nat.le_of_ble_eq_true rfl) rfl (Nat.le_of_ble_eq_true rfl) (Nat.le_of_ble_eq_true rfl) ⟨Nat.zero_le _, Nat.zero_le _⟩ dX11_endsAsAsked_56 (fun r Γ' h1 q => ?_)
  obtain ⟨x1, q0, rfl, p1⟩ := q; cases q0
  refine j_eqst [.int x1] (by rfl) ?_
  refine j_aload_n (i := 0) rfl dX11_endsAsAsked_59 ?_
  refine j_getR (idx := 86) (ci := 11) (k := 15) (nest := false) (show (11, 86, 11, 15, false) ∈ jFT by decide) rfl (Nat.le_of_ble_eq_true rfl) rfl (a := 95) rfl dX11_endsAsAsked_60 ?_
  refine j_iload_n (i := 3) rfl dX11_endsAsAsked_63 ?_
  refine j_iald (Nat.le_of_ble_eq_true rfl) rfl (o3 x1 h1 p1) dX11_endsAsAsked_64 ?_
  refine j_icmp_eq (off := 5) 70 dX11_endsAsAsked_65 (by decide) (fun c1 => ?_) (fun c1 => ?_)
  · exact j_le [some (.ref 0), some (.ref a), some (.ref 14), some (.int l3)] (And.intro rfl (And.intro rfl (And.intro rfl (And.intro rfl True.intro)))) (v1 x1 h1 p1 c1)
  · exact j_le [some (.ref 0), some (.ref a), some (.ref 14), some (.int l3)] (And.intro rfl (And.intro rfl (And.intro rfl (And.intro rfl True.intro)))) (v2 x1 h1 p1 c1)
set_option maxRecDepth 100000 in
theorem bX11_endsAsAsked_68 {sc : Nat × (Nat → Int32)} {h : jH} {Q : jQ} {a : Nat} {l3 : Int32} (a_h : jI4 a)
    (v1 : Q (.inl (some (.int 0))) (jG0 sc) h) :
    WP mX11_endsAsAsked Q 68 [some (.ref 0), some (.ref a), some (.ref 14), some (.int l3)] [] (jG0 sc) h (0, 0) := by
  obtain ⟨a_lt1, a_K0, a_R0_0, a_K1, a_L1⟩ := a_h
  have a_lt0 : a + 0 < jN (jG0 sc) := Nat.lt_of_succ_lt a_lt1
  refine j_iconst (n := 0) 0 (by decide) dX11_endsAsAsked_68 ?_
  exact j_iret rfl rfl (Nat.zero_le _) (Nat.zero_le _) dX11_endsAsAsked_69 v1
set_option maxRecDepth 100000 in
theorem bX11_endsAsAsked_70 {sc : Nat × (Nat → Int32)} {h : jH} {Q : jQ} {a : Nat} {l3 : Int32} (a_h : jI4 a)
    (v1 : WP mX11_endsAsAsked Q 10 [some (.ref 0), some (.ref a), some (.ref 14), some (.int (l3 + 1))] [] (jG0 sc) h (0, 0)) :
    WP mX11_endsAsAsked Q 70 [some (.ref 0), some (.ref a), some (.ref 14), some (.int l3)] [] (jG0 sc) h (0, 0) := by
  obtain ⟨a_lt1, a_K0, a_R0_0, a_K1, a_L1⟩ := a_h
  have a_lt0 : a + 0 < jN (jG0 sc) := Nat.lt_of_succ_lt a_lt1
  refine j_iinc (i := 3) (n := 1) rfl dX11_endsAsAsked_70 (Nat.le_of_ble_eq_true rfl) ?_
  refine j_eqlv [some (.ref 0), some (.ref a), some (.ref 14), some (.int (l3 + 1))] rfl ?_
  refine j_goto (off := -63) 10 dX11_endsAsAsked_73 (by decide) ?_
  exact j_le [some (.ref 0), some (.ref a), some (.ref 14), some (.int (l3 + 1))] (And.intro rfl (And.intro rfl (And.intro rfl (And.intro rfl True.intro)))) v1
set_option maxRecDepth 100000 in
theorem bX11_endsAsAsked_76 {sc : Nat × (Nat → Int32)} {h : jH} {Q : jQ} {a : Nat} {l3 : Int32} (a_h : jI4 a)
    (v1 : Q (.inl (some (.int 1))) (jG0 sc) h) :
    WP mX11_endsAsAsked Q 76 [some (.ref 0), some (.ref a), some (.ref 14), some (.int l3)] [] (jG0 sc) h (0, 0) := by
  obtain ⟨a_lt1, a_K0, a_R0_0, a_K1, a_L1⟩ := a_h
  have a_lt0 : a + 0 < jN (jG0 sc) := Nat.lt_of_succ_lt a_lt1
  refine j_iconst (n := 1) 1 (by decide) dX11_endsAsAsked_76 ?_
  exact j_iret rfl rfl (Nat.zero_le _) (Nat.zero_le _) dX11_endsAsAsked_77 v1
set_option maxRecDepth 100000 in
theorem rX11_endsAsAsked_0 {sc : Nat × (Nat → Int32)} {h : jH} {Q : jQ} {a : Nat} (a_h : jI4 a)
    (v1 : WP mX11_endsAsAsked Q 10 [some (.ref 0), some (.ref a), some (.ref 14), some (.int 0)] [] (jG0 sc) h (0, 0)) :
    WP mX11_endsAsAsked Q 0 [some (.ref 0), some (.ref a), none, none] [] (jG0 sc) h (0, 0) := by
  exact (bX11_endsAsAsked_0 a_h v1)
set_option maxRecDepth 100000 in
theorem rX11_endsAsAsked_10 {sc : Nat × (Nat → Int32)} {h : jH} {Q : jQ} {a : Nat} {l3 : Int32} {P1 : Int32 → jH → Prop} {P2 : Int32 → jH → Prop} (a_h : jI4 a)
    (v1 : (h 14 3) ≤ l3 → Q (.inl (some (.int 1))) (jG0 sc) h)
    (v2 : ¬ (h 14 3) ≤ l3 → 12 ≤ l3 → Q (.inl (some (.int 1))) (jG0 sc) h)
    (o1 : ¬ (h 14 3) ≤ l3 → ¬ 12 ≤ l3 → vp_in l3 12)
    (k1 : ¬ (h 14 3) ≤ l3 → ¬ 12 ≤ l3 → JM mX11_isNumber [.int (h 95 l3.toNatClampNeg)] (jG0 sc) h (jint sc P1))
    (v3 : ¬ (h 14 3) ≤ l3 → ¬ 12 ≤ l3 → ∀ (x1 : Int32) (h1 : jH), P1 x1 h1 → x1 = 0 → WP mX11_endsAsAsked Q 10 [some (.ref 0), some (.ref a), some (.ref 14), some (.int (l3 + 1))] [] (jG0 sc) h1 (0, 0))
    (o2 : ¬ (h 14 3) ≤ l3 → ¬ 12 ≤ l3 → ∀ (x1 : Int32) (h1 : jH), P1 x1 h1 → ¬ x1 = 0 → vp_in l3 12)
    (k2 : ¬ (h 14 3) ≤ l3 → ¬ 12 ≤ l3 → ∀ (x1 : Int32) (h1 : jH), P1 x1 h1 → ¬ x1 = 0 → JM mX10_through [.ref 69, .ref a, .int (h1 15 l3.toNatClampNeg), .int (h1 16 l3.toNatClampNeg)] (jG0 sc) h1 (jint sc P2))
    (o3 : ¬ (h 14 3) ≤ l3 → ¬ 12 ≤ l3 → ∀ (x1 : Int32) (h1 : jH), P1 x1 h1 → ¬ x1 = 0 → ∀ (x2 : Int32) (h2 : jH), P2 x2 h2 → vp_in l3 12)
    (v4 : ¬ (h 14 3) ≤ l3 → ¬ 12 ≤ l3 → ∀ (x1 : Int32) (h1 : jH), P1 x1 h1 → ¬ x1 = 0 → ∀ (x2 : Int32) (h2 : jH), P2 x2 h2 → x2 = (h2 95 l3.toNatClampNeg) → WP mX11_endsAsAsked Q 10 [some (.ref 0), some (.ref a), some (.ref 14), some (.int (l3 + 1))] [] (jG0 sc) h2 (0, 0))
    (v5 : ¬ (h 14 3) ≤ l3 → ¬ 12 ≤ l3 → ∀ (x1 : Int32) (h1 : jH), P1 x1 h1 → ¬ x1 = 0 → ∀ (x2 : Int32) (h2 : jH), P2 x2 h2 → ¬ x2 = (h2 95 l3.toNatClampNeg) → Q (.inl (some (.int 0))) (jG0 sc) h2) :
    WP mX11_endsAsAsked Q 10 [some (.ref 0), some (.ref a), some (.ref 14), some (.int l3)] [] (jG0 sc) h (0, 0) := by
  exact (bX11_endsAsAsked_10 a_h (fun c1 => (bX11_endsAsAsked_76 a_h (v1 c1))) (fun c1 => (bX11_endsAsAsked_18 a_h (fun c2 => (bX11_endsAsAsked_76 a_h (v2 c1 c2))) (fun c2 => (bX11_endsAsAsked_27 a_h (o1 c1 c2) (k1 c1 c2) (fun x1 h1 p1 c3 => (bX11_endsAsAsked_70 a_h (v3 c1 c2 x1 h1 p1 c3))) (fun x1 h1 p1 c3 => (bX11_endsAsAsked_39 a_h (o2 c1 c2 x1 h1 p1 c3) (o2 c1 c2 x1 h1 p1 c3) (k2 c1 c2 x1 h1 p1 c3) (fun x2 h2 p2 => (o3 c1 c2 x1 h1 p1 c3 x2 h2 p2)) (fun x2 h2 p2 c4 => (bX11_endsAsAsked_70 a_h (v4 c1 c2 x1 h1 p1 c3 x2 h2 p2 c4))) (fun x2 h2 p2 c4 => (bX11_endsAsAsked_68 a_h (v5 c1 c2 x1 h1 p1 c3 x2 h2 p2 c4))))))))))
theorem dX11_endsAsBody_0 : decode (mC mX11_endsAsBody) 0 = .ok (.iconst 0, 1) := by decide +kernel
theorem dX11_endsAsBody_1 : decode (mC mX11_endsAsBody) 1 = .ok (.istore_n 2, 1) := by decide +kernel
theorem dX11_endsAsBody_2 : decode (mC mX11_endsAsBody) 2 = .ok (.iload_n 2, 1) := by decide +kernel
theorem dX11_endsAsBody_3 : decode (mC mX11_endsAsBody) 3 = .ok (.aload_n 0, 1) := by decide +kernel
theorem dX11_endsAsBody_4 : decode (mC mX11_endsAsBody) 4 = .ok (.getfield 37, 3) := by decide +kernel
theorem dX11_endsAsBody_7 : decode (mC mX11_endsAsBody) 7 = .ok (.getfield 351, 3) := by decide +kernel
theorem dX11_endsAsBody_10 : decode (mC mX11_endsAsBody) 10 = .ok (.if_icmp .gt 58, 3) := by decide +kernel
theorem dX11_endsAsBody_13 : decode (mC mX11_endsAsBody) 13 = .ok (.iconst 0, 1) := by decide +kernel
theorem dX11_endsAsBody_14 : decode (mC mX11_endsAsBody) 14 = .ok (.istore_n 3, 1) := by decide +kernel
theorem dX11_endsAsBody_15 : decode (mC mX11_endsAsBody) 15 = .ok (.iload_n 3, 1) := by decide +kernel
theorem dX11_endsAsBody_16 : decode (mC mX11_endsAsBody) 16 = .ok (.aload_n 0, 1) := by decide +kernel
theorem dX11_endsAsBody_17 : decode (mC mX11_endsAsBody) 17 = .ok (.getfield 37, 3) := by decide +kernel
theorem dX11_endsAsBody_20 : decode (mC mX11_endsAsBody) 20 = .ok (.getfield 351, 3) := by decide +kernel
theorem dX11_endsAsBody_23 : decode (mC mX11_endsAsBody) 23 = .ok (.if_icmp .gt 39, 3) := by decide +kernel
theorem dX11_endsAsBody_26 : decode (mC mX11_endsAsBody) 26 = .ok (.aload_n 0, 1) := by decide +kernel
theorem dX11_endsAsBody_27 : decode (mC mX11_endsAsBody) 27 = .ok (.getfield 47, 3) := by decide +kernel
theorem dX11_endsAsBody_30 : decode (mC mX11_endsAsBody) 30 = .ok (.aload_n 1, 1) := by decide +kernel
theorem dX11_endsAsBody_31 : decode (mC mX11_endsAsBody) 31 = .ok (.iload_n 2, 1) := by decide +kernel
theorem dX11_endsAsBody_32 : decode (mC mX11_endsAsBody) 32 = .ok (.iload_n 3, 1) := by decide +kernel
theorem dX11_endsAsBody_33 : decode (mC mX11_endsAsBody) 33 = .ok (.invokevirtual 196, 3) := by decide +kernel
theorem dX11_endsAsBody_36 : decode (mC mX11_endsAsBody) 36 = .ok (.aload_n 0, 1) := by decide +kernel
theorem dX11_endsAsBody_37 : decode (mC mX11_endsAsBody) 37 = .ok (.getfield 89, 3) := by decide +kernel
theorem dX11_endsAsBody_40 : decode (mC mX11_endsAsBody) 40 = .ok (.bipush 16, 2) := by decide +kernel
theorem dX11_endsAsBody_42 : decode (mC mX11_endsAsBody) 42 = .ok (.iload_n 2, 1) := by decide +kernel
theorem dX11_endsAsBody_43 : decode (mC mX11_endsAsBody) 43 = .ok (.imul, 1) := by decide +kernel
theorem dX11_endsAsBody_44 : decode (mC mX11_endsAsBody) 44 = .ok (.iload_n 3, 1) := by decide +kernel
theorem dX11_endsAsBody_45 : decode (mC mX11_endsAsBody) 45 = .ok (.iadd, 1) := by decide +kernel
theorem dX11_endsAsBody_46 : decode (mC mX11_endsAsBody) 46 = .ok (.sipush 255, 3) := by decide +kernel
theorem dX11_endsAsBody_49 : decode (mC mX11_endsAsBody) 49 = .ok (.iand, 1) := by decide +kernel
theorem dX11_endsAsBody_50 : decode (mC mX11_endsAsBody) 50 = .ok (.iaload, 1) := by decide +kernel
theorem dX11_endsAsBody_51 : decode (mC mX11_endsAsBody) 51 = .ok (.if_icmp .eq 5, 3) := by decide +kernel
theorem dX11_endsAsBody_54 : decode (mC mX11_endsAsBody) 54 = .ok (.iconst 0, 1) := by decide +kernel
theorem dX11_endsAsBody_55 : decode (mC mX11_endsAsBody) 55 = .ok (.ireturn, 1) := by decide +kernel
theorem dX11_endsAsBody_56 : decode (mC mX11_endsAsBody) 56 = .ok (.iinc 3 1, 3) := by decide +kernel
theorem dX11_endsAsBody_59 : decode (mC mX11_endsAsBody) 59 = .ok (.goto (-44), 3) := by decide +kernel
theorem dX11_endsAsBody_62 : decode (mC mX11_endsAsBody) 62 = .ok (.iinc 2 1, 3) := by decide +kernel
theorem dX11_endsAsBody_65 : decode (mC mX11_endsAsBody) 65 = .ok (.goto (-63), 3) := by decide +kernel
theorem dX11_endsAsBody_68 : decode (mC mX11_endsAsBody) 68 = .ok (.iconst 1, 1) := by decide +kernel
theorem dX11_endsAsBody_69 : decode (mC mX11_endsAsBody) 69 = .ok (.ireturn, 1) := by decide +kernel
set_option maxRecDepth 100000 in
theorem bX11_endsAsBody_0 {sc : Nat × (Nat → Int32)} {h : jH} {Q : jQ} {a : Nat} (a_h : jI4 a)
    (v1 : WP mX11_endsAsBody Q 2 [some (.ref 0), some (.ref a), some (.int 0), none] [] (jG0 sc) h (0, 0)) :
    WP mX11_endsAsBody Q 0 [some (.ref 0), some (.ref a), none, none] [] (jG0 sc) h (0, 0) := by
  obtain ⟨a_lt1, a_K0, a_R0_0, a_K1, a_L1⟩ := a_h
  have a_lt0 : a + 0 < jN (jG0 sc) := Nat.lt_of_succ_lt a_lt1
  refine j_iconst (n := 0) 0 (by decide) dX11_endsAsBody_0 ?_
  refine j_istore_n (i := 2) dX11_endsAsBody_1 (Nat.le_of_ble_eq_true rfl) ?_
  exact j_le [some (.ref 0), some (.ref a), some (.int 0), none] (And.intro rfl (And.intro rfl (And.intro rfl True.intro))) v1
set_option maxRecDepth 100000 in
theorem bX11_endsAsBody_2 {sc : Nat × (Nat → Int32)} {h : jH} {Q : jQ} {a : Nat} {l2 : Int32} (a_h : jI4 a)
    (v1 : (h 9 8) < l2 → WP mX11_endsAsBody Q 68 [some (.ref 0), some (.ref a), some (.int l2), none] [] (jG0 sc) h (0, 0))
    (v2 : ¬ (h 9 8) < l2 → WP mX11_endsAsBody Q 13 [some (.ref 0), some (.ref a), some (.int l2), none] [] (jG0 sc) h (0, 0)) :
    WP mX11_endsAsBody Q 2 [some (.ref 0), some (.ref a), some (.int l2), none] [] (jG0 sc) h (0, 0) := by
  obtain ⟨a_lt1, a_K0, a_R0_0, a_K1, a_L1⟩ := a_h
  have a_lt0 : a + 0 < jN (jG0 sc) := Nat.lt_of_succ_lt a_lt1
  refine j_iload_n (i := 2) rfl dX11_endsAsBody_2 ?_
  refine j_aload_n (i := 0) rfl dX11_endsAsBody_3 ?_
  refine j_getR (idx := 37) (ci := 11) (k := 4) (nest := false) (show (11, 37, 11, 4, false) ∈ jFT by decide) rfl (Nat.le_of_ble_eq_true rfl) rfl (a := 9) rfl dX11_endsAsBody_4 ?_
  refine j_getI (idx := 351) (ci := 6) (k := 8) (nest := true) (show (11, 351, 6, 8, true) ∈ jFT by decide) rfl (Nat.le_of_ble_eq_true rfl) rfl dX11_endsAsBody_7 ?_
  refine j_icmp_gt (off := 58) 68 dX11_endsAsBody_10 (by decide) (fun c1 => ?_) (fun c1 => ?_)
  · exact j_le [some (.ref 0), some (.ref a), some (.int l2), none] (And.intro rfl (And.intro rfl (And.intro rfl True.intro))) (v1 c1)
  · exact j_le [some (.ref 0), some (.ref a), some (.int l2), none] (And.intro rfl (And.intro rfl (And.intro rfl True.intro))) (v2 c1)
set_option maxRecDepth 100000 in
theorem bX11_endsAsBody_13 {sc : Nat × (Nat → Int32)} {h : jH} {Q : jQ} {a : Nat} {l2 : Int32} (a_h : jI4 a)
    (v1 : WP mX11_endsAsBody Q 15 [some (.ref 0), some (.ref a), some (.int l2), some (.int 0)] [] (jG0 sc) h (0, 0)) :
    WP mX11_endsAsBody Q 13 [some (.ref 0), some (.ref a), some (.int l2), none] [] (jG0 sc) h (0, 0) := by
  obtain ⟨a_lt1, a_K0, a_R0_0, a_K1, a_L1⟩ := a_h
  have a_lt0 : a + 0 < jN (jG0 sc) := Nat.lt_of_succ_lt a_lt1
  refine j_iconst (n := 0) 0 (by decide) dX11_endsAsBody_13 ?_
  refine j_istore_n (i := 3) dX11_endsAsBody_14 (Nat.le_of_ble_eq_true rfl) ?_
  exact j_le [some (.ref 0), some (.ref a), some (.int l2), some (.int 0)] (And.intro rfl (And.intro rfl (And.intro rfl (And.intro rfl True.intro)))) v1
set_option maxRecDepth 100000 in
theorem bX11_endsAsBody_15 {sc : Nat × (Nat → Int32)} {h : jH} {Q : jQ} {a : Nat} {l2 l3 : Int32} (a_h : jI4 a)
    (v1 : (h 9 8) < l3 → WP mX11_endsAsBody Q 62 [some (.ref 0), some (.ref a), some (.int l2), some (.int l3)] [] (jG0 sc) h (0, 0))
    (v2 : ¬ (h 9 8) < l3 → WP mX11_endsAsBody Q 26 [some (.ref 0), some (.ref a), some (.int l2), some (.int l3)] [] (jG0 sc) h (0, 0)) :
    WP mX11_endsAsBody Q 15 [some (.ref 0), some (.ref a), some (.int l2), some (.int l3)] [] (jG0 sc) h (0, 0) := by
  obtain ⟨a_lt1, a_K0, a_R0_0, a_K1, a_L1⟩ := a_h
  have a_lt0 : a + 0 < jN (jG0 sc) := Nat.lt_of_succ_lt a_lt1
  refine j_iload_n (i := 3) rfl dX11_endsAsBody_15 ?_
  refine j_aload_n (i := 0) rfl dX11_endsAsBody_16 ?_
  refine j_getR (idx := 37) (ci := 11) (k := 4) (nest := false) (show (11, 37, 11, 4, false) ∈ jFT by decide) rfl (Nat.le_of_ble_eq_true rfl) rfl (a := 9) rfl dX11_endsAsBody_17 ?_
  refine j_getI (idx := 351) (ci := 6) (k := 8) (nest := true) (show (11, 351, 6, 8, true) ∈ jFT by decide) rfl (Nat.le_of_ble_eq_true rfl) rfl dX11_endsAsBody_20 ?_
  refine j_icmp_gt (off := 39) 62 dX11_endsAsBody_23 (by decide) (fun c1 => ?_) (fun c1 => ?_)
  · exact j_le [some (.ref 0), some (.ref a), some (.int l2), some (.int l3)] (And.intro rfl (And.intro rfl (And.intro rfl (And.intro rfl True.intro)))) (v1 c1)
  · exact j_le [some (.ref 0), some (.ref a), some (.int l2), some (.int l3)] (And.intro rfl (And.intro rfl (And.intro rfl (And.intro rfl True.intro)))) (v2 c1)
set_option maxRecDepth 100000 in
theorem bX11_endsAsBody_26 {sc : Nat × (Nat → Int32)} {h : jH} {Q : jQ} {a : Nat} {l2 l3 : Int32} {P1 : Int32 → jH → Prop} (a_h : jI4 a)
    (k1 : JM mX10_through [.ref 69, .ref a, .int l2, .int l3] (jG0 sc) h (jint sc P1))
    (o1 : ∀ (x1 : Int32) (h1 : jH), P1 x1 h1 → vp_in (((16 * l2) + l3) &&& 255) 256)
    (v1 : ∀ (x1 : Int32) (h1 : jH), P1 x1 h1 → x1 = (h1 96 ((((16 * l2) + l3) &&& 255).toNatClampNeg)) → WP mX11_endsAsBody Q 56 [some (.ref 0), some (.ref a), some (.int l2), some (.int l3)] [] (jG0 sc) h1 (0, 0))
    (v2 : ∀ (x1 : Int32) (h1 : jH), P1 x1 h1 → ¬ x1 = (h1 96 ((((16 * l2) + l3) &&& 255).toNatClampNeg)) → WP mX11_endsAsBody Q 54 [some (.ref 0), some (.ref a), some (.int l2), some (.int l3)] [] (jG0 sc) h1 (0, 0)) :
    WP mX11_endsAsBody Q 26 [some (.ref 0), some (.ref a), some (.int l2), some (.int l3)] [] (jG0 sc) h (0, 0) := by
  obtain ⟨a_lt1, a_K0, a_R0_0, a_K1, a_L1⟩ := a_h
  have a_lt0 : a + 0 < jN (jG0 sc) := Nat.lt_of_succ_lt a_lt1
  refine j_aload_n (i := 0) rfl dX11_endsAsBody_26 ?_
  refine j_getR (idx := 47) (ci := 11) (k := 7) (nest := false) (show (11, 47, 11, 7, false) ∈ jFT by decide) rfl (Nat.le_of_ble_eq_true rfl) rfl (a := 69) rfl dX11_endsAsBody_27 ?_
  refine j_aload_n (i := 1) rfl dX11_endsAsBody_30 ?_
  refine j_iload_n (i := 2) rfl dX11_endsAsBody_31 ?_
  refine j_iload_n (i := 3) rfl dX11_endsAsBody_32 ?_
  refine j_callVN (idx := 196) (As := [.ref a, .int l2, .int l3]) (ci := 10) (n := 3) k1 jint_nt (jTbl (jtb3 9 rfl)) sX10_through kX10_through rfl ⟨rfl, by decide +kernel, by decide +kernel, by decide +kernel⟩ rfl ⟨by decide, by decide⟩ (Nat.le_of_ble_eq_true rfl) rfl (Nat.le_of_ble_eq_true rfl) (Nat.le_of_ble_eq_true rfl) ⟨Nat.zero_le _, Nat.zero_le _⟩ dX11_endsAsBody_33 (fun r Γ' h1 q => ?_)
  obtain ⟨x1, q0, rfl, p1⟩ := q; cases q0
  refine j_eqst [.int x1] (by rfl) ?_
  refine j_aload_n (i := 0) rfl dX11_endsAsBody_36 ?_
  refine j_getR (idx := 89) (ci := 11) (k := 16) (nest := false) (show (11, 89, 11, 16, false) ∈ jFT by decide) rfl (Nat.le_of_ble_eq_true rfl) rfl (a := 96) rfl dX11_endsAsBody_37 ?_
  refine j_bipush (n := 16) 16 (by decide) dX11_endsAsBody_40 ?_
  refine j_iload_n (i := 2) rfl dX11_endsAsBody_42 ?_
  refine j_imul dX11_endsAsBody_43 ?_
  refine j_iload_n (i := 3) rfl dX11_endsAsBody_44 ?_
  refine j_iadd dX11_endsAsBody_45 ?_
  refine j_sipush (n := 255) 255 (by decide) dX11_endsAsBody_46 ?_
  refine j_iand dX11_endsAsBody_49 ?_
  refine j_iald (Nat.le_of_ble_eq_true rfl) rfl (o1 x1 h1 p1) dX11_endsAsBody_50 ?_
  refine j_icmp_eq (off := 5) 56 dX11_endsAsBody_51 (by decide) (fun c1 => ?_) (fun c1 => ?_)
  · exact j_le [some (.ref 0), some (.ref a), some (.int l2), some (.int l3)] (And.intro rfl (And.intro rfl (And.intro rfl (And.intro rfl True.intro)))) (v1 x1 h1 p1 c1)
  · exact j_le [some (.ref 0), some (.ref a), some (.int l2), some (.int l3)] (And.intro rfl (And.intro rfl (And.intro rfl (And.intro rfl True.intro)))) (v2 x1 h1 p1 c1)
set_option maxRecDepth 100000 in
theorem bX11_endsAsBody_54 {sc : Nat × (Nat → Int32)} {h : jH} {Q : jQ} {a : Nat} {l2 l3 : Int32} (a_h : jI4 a)
    (v1 : Q (.inl (some (.int 0))) (jG0 sc) h) :
    WP mX11_endsAsBody Q 54 [some (.ref 0), some (.ref a), some (.int l2), some (.int l3)] [] (jG0 sc) h (0, 0) := by
  obtain ⟨a_lt1, a_K0, a_R0_0, a_K1, a_L1⟩ := a_h
  have a_lt0 : a + 0 < jN (jG0 sc) := Nat.lt_of_succ_lt a_lt1
  refine j_iconst (n := 0) 0 (by decide) dX11_endsAsBody_54 ?_
  exact j_iret rfl rfl (Nat.zero_le _) (Nat.zero_le _) dX11_endsAsBody_55 v1
set_option maxRecDepth 100000 in
theorem bX11_endsAsBody_56 {sc : Nat × (Nat → Int32)} {h : jH} {Q : jQ} {a : Nat} {l2 l3 : Int32} (a_h : jI4 a)
    (v1 : WP mX11_endsAsBody Q 15 [some (.ref 0), some (.ref a), some (.int l2), some (.int (l3 + 1))] [] (jG0 sc) h (0, 0)) :
    WP mX11_endsAsBody Q 56 [some (.ref 0), some (.ref a), some (.int l2), some (.int l3)] [] (jG0 sc) h (0, 0) := by
  obtain ⟨a_lt1, a_K0, a_R0_0, a_K1, a_L1⟩ := a_h
  have a_lt0 : a + 0 < jN (jG0 sc) := Nat.lt_of_succ_lt a_lt1
  refine j_iinc (i := 3) (n := 1) rfl dX11_endsAsBody_56 (Nat.le_of_ble_eq_true rfl) ?_
  refine j_eqlv [some (.ref 0), some (.ref a), some (.int l2), some (.int (l3 + 1))] rfl ?_
  refine j_goto (off := -44) 15 dX11_endsAsBody_59 (by decide) ?_
  exact j_le [some (.ref 0), some (.ref a), some (.int l2), some (.int (l3 + 1))] (And.intro rfl (And.intro rfl (And.intro rfl (And.intro rfl True.intro)))) v1
set_option maxRecDepth 100000 in
theorem bX11_endsAsBody_62 {sc : Nat × (Nat → Int32)} {h : jH} {Q : jQ} {a : Nat} {l2 l3 : Int32} (a_h : jI4 a)
    (v1 : WP mX11_endsAsBody Q 2 [some (.ref 0), some (.ref a), some (.int (l2 + 1)), none] [] (jG0 sc) h (0, 0)) :
    WP mX11_endsAsBody Q 62 [some (.ref 0), some (.ref a), some (.int l2), some (.int l3)] [] (jG0 sc) h (0, 0) := by
  obtain ⟨a_lt1, a_K0, a_R0_0, a_K1, a_L1⟩ := a_h
  have a_lt0 : a + 0 < jN (jG0 sc) := Nat.lt_of_succ_lt a_lt1
  refine j_iinc (i := 2) (n := 1) rfl dX11_endsAsBody_62 (Nat.le_of_ble_eq_true rfl) ?_
  refine j_eqlv [some (.ref 0), some (.ref a), some (.int (l2 + 1)), some (.int l3)] rfl ?_
  refine j_goto (off := -63) 2 dX11_endsAsBody_65 (by decide) ?_
  exact j_le [some (.ref 0), some (.ref a), some (.int (l2 + 1)), none] (And.intro rfl (And.intro rfl (And.intro rfl True.intro))) v1
set_option maxRecDepth 100000 in
theorem bX11_endsAsBody_68 {sc : Nat × (Nat → Int32)} {h : jH} {Q : jQ} {a : Nat} {l2 : Int32} (a_h : jI4 a)
    (v1 : Q (.inl (some (.int 1))) (jG0 sc) h) :
    WP mX11_endsAsBody Q 68 [some (.ref 0), some (.ref a), some (.int l2), none] [] (jG0 sc) h (0, 0) := by
  obtain ⟨a_lt1, a_K0, a_R0_0, a_K1, a_L1⟩ := a_h
  have a_lt0 : a + 0 < jN (jG0 sc) := Nat.lt_of_succ_lt a_lt1
  refine j_iconst (n := 1) 1 (by decide) dX11_endsAsBody_68 ?_
  exact j_iret rfl rfl (Nat.zero_le _) (Nat.zero_le _) dX11_endsAsBody_69 v1
set_option maxRecDepth 100000 in
theorem rX11_endsAsBody_0 {sc : Nat × (Nat → Int32)} {h : jH} {Q : jQ} {a : Nat} (a_h : jI4 a)
    (v1 : WP mX11_endsAsBody Q 2 [some (.ref 0), some (.ref a), some (.int 0), none] [] (jG0 sc) h (0, 0)) :
    WP mX11_endsAsBody Q 0 [some (.ref 0), some (.ref a), none, none] [] (jG0 sc) h (0, 0) := by
  exact (bX11_endsAsBody_0 a_h v1)
set_option maxRecDepth 100000 in
theorem rX11_endsAsBody_2 {sc : Nat × (Nat → Int32)} {h : jH} {Q : jQ} {a : Nat} {l2 : Int32} (a_h : jI4 a)
    (v1 : (h 9 8) < l2 → Q (.inl (some (.int 1))) (jG0 sc) h)
    (v2 : ¬ (h 9 8) < l2 → WP mX11_endsAsBody Q 15 [some (.ref 0), some (.ref a), some (.int l2), some (.int 0)] [] (jG0 sc) h (0, 0)) :
    WP mX11_endsAsBody Q 2 [some (.ref 0), some (.ref a), some (.int l2), none] [] (jG0 sc) h (0, 0) := by
  exact (bX11_endsAsBody_2 a_h (fun c1 => (bX11_endsAsBody_68 a_h (v1 c1))) (fun c1 => (bX11_endsAsBody_13 a_h (v2 c1))))
set_option maxRecDepth 100000 in
theorem rX11_endsAsBody_15 {sc : Nat × (Nat → Int32)} {h : jH} {Q : jQ} {a : Nat} {l2 l3 : Int32} {P1 : Int32 → jH → Prop} (a_h : jI4 a)
    (v1 : (h 9 8) < l3 → WP mX11_endsAsBody Q 2 [some (.ref 0), some (.ref a), some (.int (l2 + 1)), none] [] (jG0 sc) h (0, 0))
    (k1 : ¬ (h 9 8) < l3 → JM mX10_through [.ref 69, .ref a, .int l2, .int l3] (jG0 sc) h (jint sc P1))
    (o1 : ¬ (h 9 8) < l3 → ∀ (x1 : Int32) (h1 : jH), P1 x1 h1 → vp_in (((16 * l2) + l3) &&& 255) 256)
    (v2 : ¬ (h 9 8) < l3 → ∀ (x1 : Int32) (h1 : jH), P1 x1 h1 → x1 = (h1 96 ((((16 * l2) + l3) &&& 255).toNatClampNeg)) → WP mX11_endsAsBody Q 15 [some (.ref 0), some (.ref a), some (.int l2), some (.int (l3 + 1))] [] (jG0 sc) h1 (0, 0))
    (v3 : ¬ (h 9 8) < l3 → ∀ (x1 : Int32) (h1 : jH), P1 x1 h1 → ¬ x1 = (h1 96 ((((16 * l2) + l3) &&& 255).toNatClampNeg)) → Q (.inl (some (.int 0))) (jG0 sc) h1) :
    WP mX11_endsAsBody Q 15 [some (.ref 0), some (.ref a), some (.int l2), some (.int l3)] [] (jG0 sc) h (0, 0) := by
  exact (bX11_endsAsBody_15 a_h (fun c1 => (bX11_endsAsBody_62 a_h (v1 c1))) (fun c1 => (bX11_endsAsBody_26 a_h (k1 c1) (fun x1 h1 p1 => (o1 c1 x1 h1 p1)) (fun x1 h1 p1 c2 => (bX11_endsAsBody_56 a_h (v2 c1 x1 h1 p1 c2))) (fun x1 h1 p1 c2 => (bX11_endsAsBody_54 a_h (v3 c1 x1 h1 p1 c2))))))
theorem dX11_isNumber_0 : decode (mC mX11_isNumber) 0 = .ok (.iload_n 0, 1) := by decide +kernel
theorem dX11_isNumber_1 : decode (mC mX11_isNumber) 1 = .ok (.ldc 166, 2) := by decide +kernel
theorem dX11_isNumber_3 : decode (mC mX11_isNumber) 3 = .ok (.if_icmp .gt 7, 3) := by decide +kernel
theorem dX11_isNumber_6 : decode (mC mX11_isNumber) 6 = .ok (.iconst 1, 1) := by decide +kernel
theorem dX11_isNumber_7 : decode (mC mX11_isNumber) 7 = .ok (.goto 4, 3) := by decide +kernel
theorem dX11_isNumber_10 : decode (mC mX11_isNumber) 10 = .ok (.iconst 0, 1) := by decide +kernel
theorem dX11_isNumber_11 : decode (mC mX11_isNumber) 11 = .ok (.ireturn, 1) := by decide +kernel
set_option maxRecDepth 100000 in
theorem bX11_isNumber_0 {sc : Nat × (Nat → Int32)} {h : jH} {Q : jQ} {l0 : Int32}
    (v1 : 999999 < l0 → WP mX11_isNumber Q 10 [some (.int l0)] [] (jG0 sc) h (0, 0))
    (v2 : ¬ 999999 < l0 → WP mX11_isNumber Q 6 [some (.int l0)] [] (jG0 sc) h (0, 0)) :
    WP mX11_isNumber Q 0 [some (.int l0)] [] (jG0 sc) h (0, 0) := by
  refine j_iload_n (i := 0) rfl dX11_isNumber_0 ?_
  refine j_ldc (idx := 166) 999999 (show (jCn 11, 166, 999999) ∈ jCT by decide) dX11_isNumber_1 ?_
  refine j_icmp_gt (off := 7) 10 dX11_isNumber_3 (by decide) (fun c1 => ?_) (fun c1 => ?_)
  · exact j_le [some (.int l0)] (And.intro rfl True.intro) (v1 c1)
  · exact j_le [some (.int l0)] (And.intro rfl True.intro) (v2 c1)
set_option maxRecDepth 100000 in
theorem bX11_isNumber_6 {sc : Nat × (Nat → Int32)} {h : jH} {Q : jQ} {l0 : Int32}
    (v1 : WP mX11_isNumber Q 11 [some (.int l0)] [.int 1] (jG0 sc) h (0, 0)) :
    WP mX11_isNumber Q 6 [some (.int l0)] [] (jG0 sc) h (0, 0) := by
  refine j_iconst (n := 1) 1 (by decide) dX11_isNumber_6 ?_
  refine j_goto (off := 4) 11 dX11_isNumber_7 (by decide) ?_
  exact j_le [some (.int l0)] (And.intro rfl True.intro) v1
set_option maxRecDepth 100000 in
theorem bX11_isNumber_10 {sc : Nat × (Nat → Int32)} {h : jH} {Q : jQ} {l0 : Int32}
    (v1 : WP mX11_isNumber Q 11 [some (.int l0)] [.int 0] (jG0 sc) h (0, 0)) :
    WP mX11_isNumber Q 10 [some (.int l0)] [] (jG0 sc) h (0, 0) := by
  refine j_iconst (n := 0) 0 (by decide) dX11_isNumber_10 ?_
  exact j_le [some (.int l0)] (And.intro rfl True.intro) v1
set_option maxRecDepth 100000 in
theorem bX11_isNumber_11 {sc : Nat × (Nat → Int32)} {h : jH} {Q : jQ} {l0 s0 : Int32}
    (o1 : s0 = 0 ∨ s0 = 1)
    (v1 : Q (.inl (some (.int s0))) (jG0 sc) h) :
    WP mX11_isNumber Q 11 [some (.int l0)] [.int s0] (jG0 sc) h (0, 0) := by
  exact j_iret rfl (jbn o1) (Nat.zero_le _) (Nat.zero_le _) dX11_isNumber_11 v1
set_option maxRecDepth 100000 in
theorem rX11_isNumber_0 {sc : Nat × (Nat → Int32)} {h : jH} {Q : jQ} {l0 : Int32}
    (v1 : 999999 < l0 → Q (.inl (some (.int 0))) (jG0 sc) h)
    (v2 : ¬ 999999 < l0 → Q (.inl (some (.int 1))) (jG0 sc) h) :
    WP mX11_isNumber Q 0 [some (.int l0)] [] (jG0 sc) h (0, 0) := by
  exact (bX11_isNumber_0 (fun c1 => (bX11_isNumber_10 (bX11_isNumber_11 (by decide) (v1 c1)))) (fun c1 => (bX11_isNumber_6 (bX11_isNumber_11 (by decide) (v2 c1)))))
theorem dX11_make_0 : decode (mC mX11_make) 0 = .ok (.aload_n 0, 1) := by decide +kernel
theorem dX11_make_1 : decode (mC mX11_make) 1 = .ok (.iload_n 1, 1) := by decide +kernel
theorem dX11_make_2 : decode (mC mX11_make) 2 = .ok (.invokevirtual 326, 3) := by decide +kernel
theorem dX11_make_5 : decode (mC mX11_make) 5 = .ok (.istore_n 2, 1) := by decide +kernel
theorem dX11_make_6 : decode (mC mX11_make) 6 = .ok (.iload_n 2, 1) := by decide +kernel
theorem dX11_make_7 : decode (mC mX11_make) 7 = .ok (.iconst (-1), 1) := by decide +kernel
theorem dX11_make_8 : decode (mC mX11_make) 8 = .ok (.if_icmp .ne 14, 3) := by decide +kernel
theorem dX11_make_11 : decode (mC mX11_make) 11 = .ok (.new 208, 3) := by decide +kernel
theorem dX11_make_14 : decode (mC mX11_make) 14 = .ok (.dup, 1) := by decide +kernel
theorem dX11_make_15 : decode (mC mX11_make) 15 = .ok (.ldc_w 329, 3) := by decide +kernel
theorem dX11_make_18 : decode (mC mX11_make) 18 = .ok (.invokespecial 212, 3) := by decide +kernel
theorem dX11_make_21 : decode (mC mX11_make) 21 = .ok (.athrow, 1) := by decide +kernel
theorem dX11_make_22 : decode (mC mX11_make) 22 = .ok (.aload_n 0, 1) := by decide +kernel
theorem dX11_make_23 : decode (mC mX11_make) 23 = .ok (.getfield 61, 3) := by decide +kernel
theorem dX11_make_26 : decode (mC mX11_make) 26 = .ok (.aload_n 0, 1) := by decide +kernel
theorem dX11_make_27 : decode (mC mX11_make) 27 = .ok (.getfield 37, 3) := by decide +kernel
theorem dX11_make_30 : decode (mC mX11_make) 30 = .ok (.getfield 127, 3) := by decide +kernel
theorem dX11_make_33 : decode (mC mX11_make) 33 = .ok (.iload_n 2, 1) := by decide +kernel
theorem dX11_make_34 : decode (mC mX11_make) 34 = .ok (.aload_n 0, 1) := by decide +kernel
theorem dX11_make_35 : decode (mC mX11_make) 35 = .ok (.getfield 71, 3) := by decide +kernel
theorem dX11_make_38 : decode (mC mX11_make) 38 = .ok (.invokevirtual 192, 3) := by decide +kernel
theorem dX11_make_41 : decode (mC mX11_make) 41 = .ok (.pop, 1) := by decide +kernel
theorem dX11_make_42 : decode (mC mX11_make) 42 = .ok (.aload_n 0, 1) := by decide +kernel
theorem dX11_make_43 : decode (mC mX11_make) 43 = .ok (.getfield 37, 3) := by decide +kernel
theorem dX11_make_46 : decode (mC mX11_make) 46 = .ok (.invokevirtual 422, 3) := by decide +kernel
theorem dX11_make_49 : decode (mC mX11_make) 49 = .ok (.aload_n 0, 1) := by decide +kernel
theorem dX11_make_50 : decode (mC mX11_make) 50 = .ok (.getfield 37, 3) := by decide +kernel
theorem dX11_make_53 : decode (mC mX11_make) 53 = .ok (.getfield 127, 3) := by decide +kernel
theorem dX11_make_56 : decode (mC mX11_make) 56 = .ok (.aload_n 0, 1) := by decide +kernel
theorem dX11_make_57 : decode (mC mX11_make) 57 = .ok (.getfield 71, 3) := by decide +kernel
theorem dX11_make_60 : decode (mC mX11_make) 60 = .ok (.invokevirtual 123, 3) := by decide +kernel
theorem dX11_make_63 : decode (mC mX11_make) 63 = .ok (.aload_n 0, 1) := by decide +kernel
theorem dX11_make_64 : decode (mC mX11_make) 64 = .ok (.invokevirtual 133, 3) := by decide +kernel
theorem dX11_make_67 : decode (mC mX11_make) 67 = .ok (.aload_n 0, 1) := by decide +kernel
theorem dX11_make_68 : decode (mC mX11_make) 68 = .ok (.getfield 37, 3) := by decide +kernel
theorem dX11_make_71 : decode (mC mX11_make) 71 = .ok (.getfield 130, 3) := by decide +kernel
theorem dX11_make_74 : decode (mC mX11_make) 74 = .ok (.ireturn, 1) := by decide +kernel
set_option maxRecDepth 100000 in
theorem bX11_make_0 {sc : Nat × (Nat → Int32)} {h : jH} {Q : jQ} {l1 : Int32} {P1 : Int32 → jH → Prop}
    (k1 : JM mX11_keptNumber [.ref 0, .int l1] (jG0 sc) h (jint sc P1))
    (v1 : ∀ (x1 : Int32) (h1 : jH), P1 x1 h1 → ¬ x1 = (-1) → WP mX11_make Q 22 [some (.ref 0), some (.int l1), some (.int x1)] [] (jG0 sc) h1 (0, 0))
    (v2 : ∀ (x1 : Int32) (h1 : jH), P1 x1 h1 → x1 = (-1) → WP mX11_make Q 11 [some (.ref 0), some (.int l1), some (.int x1)] [] (jG0 sc) h1 (0, 0)) :
    WP mX11_make Q 0 [some (.ref 0), some (.int l1), none] [] (jG0 sc) h (0, 0) := by
  refine j_aload_n (i := 0) rfl dX11_make_0 ?_
  refine j_iload_n (i := 1) rfl dX11_make_1 ?_
  refine j_callV (idx := 326) (As := [.int l1]) (ci := 11) (n := 1) k1 jint_nt (jlkT (jtb2 195 rfl) rfl) sX11_keptNumber kX11_keptNumber rfl ⟨rfl, by decide +kernel, by decide +kernel, by decide +kernel⟩ rfl ⟨by decide, by decide⟩ (Nat.le_of_ble_eq_true rfl) rfl (Nat.le_of_ble_eq_true rfl) (Nat.le_of_ble_eq_true rfl) ⟨Nat.zero_le _, Nat.zero_le _⟩ dX11_make_2 (fun r Γ' h1 q => ?_)
  obtain ⟨x1, q0, rfl, p1⟩ := q; cases q0
  refine j_eqst [.int x1] (by rfl) ?_
  refine j_istore_n (i := 2) dX11_make_5 (Nat.le_of_ble_eq_true rfl) ?_
  refine j_iload_n (i := 2) rfl dX11_make_6 ?_
  refine j_iconst (n := (-1)) (-1) (by decide) dX11_make_7 ?_
  refine j_icmp_ne (off := 14) 22 dX11_make_8 (by decide) (fun c1 => ?_) (fun c1 => ?_)
  · exact j_le [some (.ref 0), some (.int l1), some (.int x1)] (And.intro rfl (And.intro rfl (And.intro rfl True.intro))) (v1 x1 h1 p1 c1)
  · exact j_le [some (.ref 0), some (.int l1), some (.int x1)] (And.intro rfl (And.intro rfl (And.intro rfl True.intro))) (v2 x1 h1 p1 c1)
set_option maxRecDepth 100000 in
theorem bX11_make_11 {sc : Nat × (Nat → Int32)} {h : jH} {Q : jQ} {l1 l2 : Int32}
    (v1 : Q (.inr "java/lang/IndexOutOfBoundsException") (jG0 sc) h) :
    WP mX11_make Q 11 [some (.ref 0), some (.int l1), some (.int l2)] [] (jG0 sc) h (0, 0) := by
  exact j_thrW_IOB (is := 329) "no such kept ALIVE one" 35 (by decide +kernel) rfl rfl (by decide) (by decide) (Nat.le_of_ble_eq_true rfl) dX11_make_11 dX11_make_14 dX11_make_15 dX11_make_18 dX11_make_21 v1
set_option maxRecDepth 100000 in
theorem bX11_make_22 {sc : Nat × (Nat → Int32)} {h : jH} {Q : jQ} {l1 l2 : Int32} {P1 : Int32 → jH → Prop} {P2 : jH → Prop}
    (k1 : JM mX3_shape [.ref 75, .ref 10, .int l2, .ref 89] (jG0 sc) h (jint sc P1))
    (k2 : ∀ (x1 : Int32) (h1 : jH), P1 x1 h1 → JM mX6_pushBody [.ref 9] (jG0 sc) h1 (jvoid sc P2))
    (v1 : ∀ (x1 : Int32) (h1 : jH), P1 x1 h1 → ∀ h2 : jH, P2 h2 → WP mX11_make Q 57 [some (.ref 0), some (.int l1), some (.int l2)] [.ref 0, .ref 10] (jG0 sc) h2 (0, 0)) :
    WP mX11_make Q 22 [some (.ref 0), some (.int l1), some (.int l2)] [] (jG0 sc) h (0, 0) := by
  refine j_aload_n (i := 0) rfl dX11_make_22 ?_
  refine j_getR (idx := 61) (ci := 11) (k := 9) (nest := false) (show (11, 61, 11, 9, false) ∈ jFT by decide) rfl (Nat.le_of_ble_eq_true rfl) rfl (a := 75) rfl dX11_make_23 ?_
  refine j_aload_n (i := 0) rfl dX11_make_26 ?_
  refine j_getR (idx := 37) (ci := 11) (k := 4) (nest := false) (show (11, 37, 11, 4, false) ∈ jFT by decide) rfl (Nat.le_of_ble_eq_true rfl) rfl (a := 9) rfl dX11_make_27 ?_
  refine j_getR (idx := 127) (ci := 6) (k := 0) (nest := true) (show (11, 127, 6, 0, true) ∈ jFT by decide) rfl (Nat.le_of_ble_eq_true rfl) rfl (a := 10) rfl dX11_make_30 ?_
  refine j_iload_n (i := 2) rfl dX11_make_33 ?_
  refine j_aload_n (i := 0) rfl dX11_make_34 ?_
  refine j_getR (idx := 71) (ci := 11) (k := 11) (nest := false) (show (11, 71, 11, 11, false) ∈ jFT by decide) rfl (Nat.le_of_ble_eq_true rfl) rfl (a := 89) rfl dX11_make_35 ?_
  refine j_callVN (idx := 192) (As := [.ref 10, .int l2, .ref 89]) (ci := 3) (n := 3) k1 jint_nt (jTbl (jtb2 199 rfl)) sX3_shape kX3_shape rfl ⟨rfl, by decide +kernel, by decide +kernel, by decide +kernel⟩ rfl ⟨by decide, by decide⟩ (Nat.le_of_ble_eq_true rfl) rfl (Nat.le_of_ble_eq_true rfl) (Nat.le_of_ble_eq_true rfl) ⟨Nat.zero_le _, Nat.zero_le _⟩ dX11_make_38 (fun r Γ' h1 q => ?_)
  obtain ⟨x1, q0, rfl, p1⟩ := q; cases q0
  refine j_eqst [.int x1] (by rfl) ?_
  refine j_pop rfl dX11_make_41 ?_
  refine j_aload_n (i := 0) rfl dX11_make_42 ?_
  refine j_getR (idx := 37) (ci := 11) (k := 4) (nest := false) (show (11, 37, 11, 4, false) ∈ jFT by decide) rfl (Nat.le_of_ble_eq_true rfl) rfl (a := 9) rfl dX11_make_43 ?_
  refine j_callVN (idx := 422) (As := []) (ci := 6) (n := 0) (k2 x1 h1 p1) jvoid_nt (jTbl (jtb6 42 rfl)) sX6_pushBody kX6_pushBody rfl ⟨rfl, by decide +kernel, by decide +kernel, by decide +kernel⟩ rfl ⟨by decide, by decide⟩ (Nat.le_of_ble_eq_true rfl) rfl (Nat.le_of_ble_eq_true rfl) (Nat.le_of_ble_eq_true rfl) ⟨Nat.zero_le _, Nat.zero_le _⟩ dX11_make_46 (fun r Γ' h2 q => ?_)
  obtain ⟨q0, rfl, p2⟩ := q; cases q0
  refine j_eqst [] (by rfl) ?_
  refine j_aload_n (i := 0) rfl dX11_make_49 ?_
  refine j_getR (idx := 37) (ci := 11) (k := 4) (nest := false) (show (11, 37, 11, 4, false) ∈ jFT by decide) rfl (Nat.le_of_ble_eq_true rfl) rfl (a := 9) rfl dX11_make_50 ?_
  refine j_getR (idx := 127) (ci := 6) (k := 0) (nest := true) (show (11, 127, 6, 0, true) ∈ jFT by decide) rfl (Nat.le_of_ble_eq_true rfl) rfl (a := 10) rfl dX11_make_53 ?_
  refine j_aload_n (i := 0) rfl dX11_make_56 ?_
  exact j_le [some (.ref 0), some (.int l1), some (.int l2)] (And.intro rfl (And.intro rfl (And.intro rfl True.intro))) (v1 x1 h1 p1 h2 p2)
set_option maxRecDepth 100000 in
theorem bX11_make_57 {sc : Nat × (Nat → Int32)} {h : jH} {Q : jQ} {l1 l2 : Int32} {P1 : jH → Prop} {P2 : jH → Prop}
    (k1 : JM mX4_copyOf [.ref 10, .ref 89] (jG0 sc) h (jvoid sc P1))
    (k2 : ∀ h1 : jH, P1 h1 → JM mX11_beginAnew [.ref 0] (jG0 sc) h1 (jvoid sc P2))
    (v1 : ∀ h1 : jH, P1 h1 → ∀ h2 : jH, P2 h2 → Q (.inl (some (.int (h2 9 7)))) (jG0 sc) h2) :
    WP mX11_make Q 57 [some (.ref 0), some (.int l1), some (.int l2)] [.ref 0, .ref 10] (jG0 sc) h (0, 0) := by
  refine j_getR (idx := 71) (ci := 11) (k := 11) (nest := false) (show (11, 71, 11, 11, false) ∈ jFT by decide) rfl (Nat.le_of_ble_eq_true rfl) rfl (a := 89) rfl dX11_make_57 ?_
  refine j_callVN (idx := 123) (As := [.ref 89]) (ci := 4) (n := 1) k1 jvoid_nt (jTbl (jtb4 150 rfl)) sX4_copyOf kX4_copyOf rfl ⟨rfl, by decide +kernel, by decide +kernel, by decide +kernel⟩ rfl ⟨by decide, by decide⟩ (Nat.le_of_ble_eq_true rfl) rfl (Nat.le_of_ble_eq_true rfl) (Nat.le_of_ble_eq_true rfl) ⟨Nat.zero_le _, Nat.zero_le _⟩ dX11_make_60 (fun r Γ' h1 q => ?_)
  obtain ⟨q0, rfl, p1⟩ := q; cases q0
  refine j_eqst [] (by rfl) ?_
  refine j_aload_n (i := 0) rfl dX11_make_63 ?_
  refine j_callV (idx := 133) (As := []) (ci := 11) (n := 0) (k2 h1 p1) jvoid_nt (jlkT (jtb3 89 rfl) rfl) sX11_beginAnew kX11_beginAnew rfl ⟨rfl, by decide +kernel, by decide +kernel, by decide +kernel⟩ rfl ⟨by decide, by decide⟩ (Nat.le_of_ble_eq_true rfl) rfl (Nat.le_of_ble_eq_true rfl) (Nat.le_of_ble_eq_true rfl) ⟨Nat.zero_le _, Nat.zero_le _⟩ dX11_make_64 (fun r Γ' h2 q => ?_)
  obtain ⟨q0, rfl, p2⟩ := q; cases q0
  refine j_eqst [] (by rfl) ?_
  refine j_aload_n (i := 0) rfl dX11_make_67 ?_
  refine j_getR (idx := 37) (ci := 11) (k := 4) (nest := false) (show (11, 37, 11, 4, false) ∈ jFT by decide) rfl (Nat.le_of_ble_eq_true rfl) rfl (a := 9) rfl dX11_make_68 ?_
  refine j_getI (idx := 130) (ci := 6) (k := 7) (nest := true) (show (11, 130, 6, 7, true) ∈ jFT by decide) rfl (Nat.le_of_ble_eq_true rfl) rfl dX11_make_71 ?_
  exact j_iret rfl rfl (Nat.zero_le _) (Nat.zero_le _) dX11_make_74 (v1 h1 p1 h2 p2)
set_option maxRecDepth 100000 in
theorem rX11_make_0 {sc : Nat × (Nat → Int32)} {h : jH} {Q : jQ} {l1 : Int32} {P1 : Int32 → jH → Prop} {P2 : Int32 → jH → Prop} {P3 : jH → Prop} {P4 : jH → Prop} {P5 : jH → Prop}
    (k1 : JM mX11_keptNumber [.ref 0, .int l1] (jG0 sc) h (jint sc P1))
    (k2 : ∀ (x1 : Int32) (h1 : jH), P1 x1 h1 → ¬ x1 = (-1) → JM mX3_shape [.ref 75, .ref 10, .int x1, .ref 89] (jG0 sc) h1 (jint sc P2))
    (k3 : ∀ (x1 : Int32) (h1 : jH), P1 x1 h1 → ¬ x1 = (-1) → ∀ (x2 : Int32) (h2 : jH), P2 x2 h2 → JM mX6_pushBody [.ref 9] (jG0 sc) h2 (jvoid sc P3))
    (k4 : ∀ (x1 : Int32) (h1 : jH), P1 x1 h1 → ¬ x1 = (-1) → ∀ (x2 : Int32) (h2 : jH), P2 x2 h2 → ∀ h3 : jH, P3 h3 → JM mX4_copyOf [.ref 10, .ref 89] (jG0 sc) h3 (jvoid sc P4))
    (k5 : ∀ (x1 : Int32) (h1 : jH), P1 x1 h1 → ¬ x1 = (-1) → ∀ (x2 : Int32) (h2 : jH), P2 x2 h2 → ∀ h3 : jH, P3 h3 → ∀ h4 : jH, P4 h4 → JM mX11_beginAnew [.ref 0] (jG0 sc) h4 (jvoid sc P5))
    (v1 : ∀ (x1 : Int32) (h1 : jH), P1 x1 h1 → ¬ x1 = (-1) → ∀ (x2 : Int32) (h2 : jH), P2 x2 h2 → ∀ h3 : jH, P3 h3 → ∀ h4 : jH, P4 h4 → ∀ h5 : jH, P5 h5 → Q (.inl (some (.int (h5 9 7)))) (jG0 sc) h5)
    (v2 : ∀ (x1 : Int32) (h1 : jH), P1 x1 h1 → x1 = (-1) → Q (.inr "java/lang/IndexOutOfBoundsException") (jG0 sc) h1) :
    WP mX11_make Q 0 [some (.ref 0), some (.int l1), none] [] (jG0 sc) h (0, 0) := by
  exact (bX11_make_0 k1 (fun x1 h1 p1 c1 => (bX11_make_22 (k2 x1 h1 p1 c1) (fun x2 h2 p2 => (k3 x1 h1 p1 c1 x2 h2 p2)) (fun x2 h2 p2 h3 p3 => (bX11_make_57 (k4 x1 h1 p1 c1 x2 h2 p2 h3 p3) (fun h4 p4 => (k5 x1 h1 p1 c1 x2 h2 p2 h3 p3 h4 p4)) (fun h4 p4 h5 p5 => (v1 x1 h1 p1 c1 x2 h2 p2 h3 p3 h4 p4 h5 p5)))))) (fun x1 h1 p1 c1 => (bX11_make_11 (v2 x1 h1 p1 c1))))
theorem dX11_takeBack_0 : decode (mC mX11_takeBack) 0 = .ok (.aload_n 0, 1) := by decide +kernel
theorem dX11_takeBack_1 : decode (mC mX11_takeBack) 1 = .ok (.getfield 37, 3) := by decide +kernel
theorem dX11_takeBack_4 : decode (mC mX11_takeBack) 4 = .ok (.invokevirtual 425, 3) := by decide +kernel
theorem dX11_takeBack_7 : decode (mC mX11_takeBack) 7 = .ok (.ifCond .ne 5, 3) := by decide +kernel
theorem dX11_takeBack_10 : decode (mC mX11_takeBack) 10 = .ok (.iconst 0, 1) := by decide +kernel
theorem dX11_takeBack_11 : decode (mC mX11_takeBack) 11 = .ok (.ireturn, 1) := by decide +kernel
theorem dX11_takeBack_12 : decode (mC mX11_takeBack) 12 = .ok (.aload_n 0, 1) := by decide +kernel
theorem dX11_takeBack_13 : decode (mC mX11_takeBack) 13 = .ok (.invokevirtual 133, 3) := by decide +kernel
theorem dX11_takeBack_16 : decode (mC mX11_takeBack) 16 = .ok (.iconst 1, 1) := by decide +kernel
theorem dX11_takeBack_17 : decode (mC mX11_takeBack) 17 = .ok (.ireturn, 1) := by decide +kernel
set_option maxRecDepth 100000 in
theorem bX11_takeBack_0 {sc : Nat × (Nat → Int32)} {h : jH} {Q : jQ} {P1 : Int32 → jH → Prop}
    (k1 : JM mX6_popBody [.ref 9] (jG0 sc) h (jint sc P1))
    (v1 : ∀ (x1 : Int32) (h1 : jH), P1 x1 h1 → ¬ x1 = 0 → WP mX11_takeBack Q 12 [some (.ref 0)] [] (jG0 sc) h1 (0, 0))
    (v2 : ∀ (x1 : Int32) (h1 : jH), P1 x1 h1 → x1 = 0 → WP mX11_takeBack Q 10 [some (.ref 0)] [] (jG0 sc) h1 (0, 0)) :
    WP mX11_takeBack Q 0 [some (.ref 0)] [] (jG0 sc) h (0, 0) := by
  refine j_aload_n (i := 0) rfl dX11_takeBack_0 ?_
  refine j_getR (idx := 37) (ci := 11) (k := 4) (nest := false) (show (11, 37, 11, 4, false) ∈ jFT by decide) rfl (Nat.le_of_ble_eq_true rfl) rfl (a := 9) rfl dX11_takeBack_1 ?_
  refine j_callVN (idx := 425) (As := []) (ci := 6) (n := 0) k1 jint_nt (jTbl (jtb3 84 rfl)) sX6_popBody kX6_popBody rfl ⟨rfl, by decide +kernel, by decide +kernel, by decide +kernel⟩ rfl ⟨by decide, by decide⟩ (Nat.le_of_ble_eq_true rfl) rfl (Nat.le_of_ble_eq_true rfl) (Nat.le_of_ble_eq_true rfl) ⟨Nat.zero_le _, Nat.zero_le _⟩ dX11_takeBack_4 (fun r Γ' h1 q => ?_)
  obtain ⟨x1, q0, rfl, p1⟩ := q; cases q0
  refine j_eqst [.int x1] (by rfl) ?_
  refine j_if_ne (off := 5) 12 dX11_takeBack_7 (by decide) (fun c1 => ?_) (fun c1 => ?_)
  · exact j_le [some (.ref 0)] (And.intro rfl True.intro) (v1 x1 h1 p1 c1)
  · exact j_le [some (.ref 0)] (And.intro rfl True.intro) (v2 x1 h1 p1 c1)
set_option maxRecDepth 100000 in
theorem bX11_takeBack_10 {sc : Nat × (Nat → Int32)} {h : jH} {Q : jQ}
    (v1 : Q (.inl (some (.int 0))) (jG0 sc) h) :
    WP mX11_takeBack Q 10 [some (.ref 0)] [] (jG0 sc) h (0, 0) := by
  refine j_iconst (n := 0) 0 (by decide) dX11_takeBack_10 ?_
  exact j_iret rfl rfl (Nat.zero_le _) (Nat.zero_le _) dX11_takeBack_11 v1
set_option maxRecDepth 100000 in
theorem bX11_takeBack_12 {sc : Nat × (Nat → Int32)} {h : jH} {Q : jQ} {P1 : jH → Prop}
    (k1 : JM mX11_beginAnew [.ref 0] (jG0 sc) h (jvoid sc P1))
    (v1 : ∀ h1 : jH, P1 h1 → Q (.inl (some (.int 1))) (jG0 sc) h1) :
    WP mX11_takeBack Q 12 [some (.ref 0)] [] (jG0 sc) h (0, 0) := by
  refine j_aload_n (i := 0) rfl dX11_takeBack_12 ?_
  refine j_callV (idx := 133) (As := []) (ci := 11) (n := 0) k1 jvoid_nt (jlkT (jtb3 89 rfl) rfl) sX11_beginAnew kX11_beginAnew rfl ⟨rfl, by decide +kernel, by decide +kernel, by decide +kernel⟩ rfl ⟨by decide, by decide⟩ (Nat.le_of_ble_eq_true rfl) rfl (Nat.le_of_ble_eq_true rfl) (Nat.le_of_ble_eq_true rfl) ⟨Nat.zero_le _, Nat.zero_le _⟩ dX11_takeBack_13 (fun r Γ' h1 q => ?_)
  obtain ⟨q0, rfl, p1⟩ := q; cases q0
  refine j_eqst [] (by rfl) ?_
  refine j_iconst (n := 1) 1 (by decide) dX11_takeBack_16 ?_
  exact j_iret rfl rfl (Nat.zero_le _) (Nat.zero_le _) dX11_takeBack_17 (v1 h1 p1)
set_option maxRecDepth 100000 in
theorem rX11_takeBack_0 {sc : Nat × (Nat → Int32)} {h : jH} {Q : jQ} {P1 : Int32 → jH → Prop} {P2 : jH → Prop}
    (k1 : JM mX6_popBody [.ref 9] (jG0 sc) h (jint sc P1))
    (k2 : ∀ (x1 : Int32) (h1 : jH), P1 x1 h1 → ¬ x1 = 0 → JM mX11_beginAnew [.ref 0] (jG0 sc) h1 (jvoid sc P2))
    (v1 : ∀ (x1 : Int32) (h1 : jH), P1 x1 h1 → ¬ x1 = 0 → ∀ h2 : jH, P2 h2 → Q (.inl (some (.int 1))) (jG0 sc) h2)
    (v2 : ∀ (x1 : Int32) (h1 : jH), P1 x1 h1 → x1 = 0 → Q (.inl (some (.int 0))) (jG0 sc) h1) :
    WP mX11_takeBack Q 0 [some (.ref 0)] [] (jG0 sc) h (0, 0) := by
  exact (bX11_takeBack_0 k1 (fun x1 h1 p1 c1 => (bX11_takeBack_12 (k2 x1 h1 p1 c1) (fun h2 p2 => (v1 x1 h1 p1 c1 h2 p2)))) (fun x1 h1 p1 c1 => (bX11_takeBack_10 (v2 x1 h1 p1 c1))))
theorem dX11_row_0 : decode (mC mX11_row) 0 = .ok (.aload_n 0, 1) := by decide +kernel
theorem dX11_row_1 : decode (mC mX11_row) 1 = .ok (.getfield 37, 3) := by decide +kernel
theorem dX11_row_4 : decode (mC mX11_row) 4 = .ok (.getfield 151, 3) := by decide +kernel
theorem dX11_row_7 : decode (mC mX11_row) 7 = .ok (.astore_n 3, 1) := by decide +kernel
theorem dX11_row_8 : decode (mC mX11_row) 8 = .ok (.iload_n 1, 1) := by decide +kernel
theorem dX11_row_9 : decode (mC mX11_row) 9 = .ok (.ifCond .lt 26, 3) := by decide +kernel
theorem dX11_row_12 : decode (mC mX11_row) 12 = .ok (.iload_n 1, 1) := by decide +kernel
theorem dX11_row_13 : decode (mC mX11_row) 13 = .ok (.aload_n 3, 1) := by decide +kernel
theorem dX11_row_14 : decode (mC mX11_row) 14 = .ok (.getfield 428, 3) := by decide +kernel
theorem dX11_row_17 : decode (mC mX11_row) 17 = .ok (.if_icmp .ge 18, 3) := by decide +kernel
theorem dX11_row_20 : decode (mC mX11_row) 20 = .ok (.iload_n 1, 1) := by decide +kernel
theorem dX11_row_21 : decode (mC mX11_row) 21 = .ok (.bipush 8, 2) := by decide +kernel
theorem dX11_row_23 : decode (mC mX11_row) 23 = .ok (.if_icmp .ge 12, 3) := by decide +kernel
theorem dX11_row_26 : decode (mC mX11_row) 26 = .ok (.iload_n 2, 1) := by decide +kernel
theorem dX11_row_27 : decode (mC mX11_row) 27 = .ok (.ifCond .lt 8, 3) := by decide +kernel
theorem dX11_row_30 : decode (mC mX11_row) 30 = .ok (.iload_n 2, 1) := by decide +kernel
theorem dX11_row_31 : decode (mC mX11_row) 31 = .ok (.iconst 1, 1) := by decide +kernel
theorem dX11_row_32 : decode (mC mX11_row) 32 = .ok (.if_icmp .le 14, 3) := by decide +kernel
theorem dX11_row_35 : decode (mC mX11_row) 35 = .ok (.new 234, 3) := by decide +kernel
theorem dX11_row_38 : decode (mC mX11_row) 38 = .ok (.dup, 1) := by decide +kernel
theorem dX11_row_39 : decode (mC mX11_row) 39 = .ok (.ldc_w 431, 3) := by decide +kernel
theorem dX11_row_42 : decode (mC mX11_row) 42 = .ok (.invokespecial 238, 3) := by decide +kernel
theorem dX11_row_45 : decode (mC mX11_row) 45 = .ok (.athrow, 1) := by decide +kernel
theorem dX11_row_46 : decode (mC mX11_row) 46 = .ok (.iload_n 2, 1) := by decide +kernel
theorem dX11_row_47 : decode (mC mX11_row) 47 = .ok (.ifCond .ne 12, 3) := by decide +kernel
theorem dX11_row_50 : decode (mC mX11_row) 50 = .ok (.aload_n 3, 1) := by decide +kernel
theorem dX11_row_51 : decode (mC mX11_row) 51 = .ok (.getfield 433, 3) := by decide +kernel
theorem dX11_row_54 : decode (mC mX11_row) 54 = .ok (.iload_n 1, 1) := by decide +kernel
theorem dX11_row_55 : decode (mC mX11_row) 55 = .ok (.iaload, 1) := by decide +kernel
theorem dX11_row_56 : decode (mC mX11_row) 56 = .ok (.goto 9, 3) := by decide +kernel
theorem dX11_row_59 : decode (mC mX11_row) 59 = .ok (.aload_n 3, 1) := by decide +kernel
theorem dX11_row_60 : decode (mC mX11_row) 60 = .ok (.getfield 436, 3) := by decide +kernel
theorem dX11_row_63 : decode (mC mX11_row) 63 = .ok (.iload_n 1, 1) := by decide +kernel
theorem dX11_row_64 : decode (mC mX11_row) 64 = .ok (.iaload, 1) := by decide +kernel
theorem dX11_row_65 : decode (mC mX11_row) 65 = .ok (.ireturn, 1) := by decide +kernel
set_option maxRecDepth 100000 in
theorem bX11_row_0 {sc : Nat × (Nat → Int32)} {h : jH} {Q : jQ} {l1 l2 : Int32}
    (v1 : l1 < 0 → WP mX11_row Q 35 [some (.ref 0), some (.int l1), some (.int l2), some (.ref 20)] [] (jG0 sc) h (0, 0))
    (v2 : ¬ l1 < 0 → WP mX11_row Q 12 [some (.ref 0), some (.int l1), some (.int l2), some (.ref 20)] [] (jG0 sc) h (0, 0)) :
    WP mX11_row Q 0 [some (.ref 0), some (.int l1), some (.int l2), none] [] (jG0 sc) h (0, 0) := by
  refine j_aload_n (i := 0) rfl dX11_row_0 ?_
  refine j_getR (idx := 37) (ci := 11) (k := 4) (nest := false) (show (11, 37, 11, 4, false) ∈ jFT by decide) rfl (Nat.le_of_ble_eq_true rfl) rfl (a := 9) rfl dX11_row_1 ?_
  refine j_getR (idx := 151) (ci := 6) (k := 4) (nest := true) (show (11, 151, 6, 4, true) ∈ jFT by decide) rfl (Nat.le_of_ble_eq_true rfl) rfl (a := 20) rfl dX11_row_4 ?_
  refine j_astore_n (i := 3) dX11_row_7 (Nat.le_of_ble_eq_true rfl) ?_
  refine j_iload_n (i := 1) rfl dX11_row_8 ?_
  refine j_if_lt (off := 26) 35 dX11_row_9 (by decide) (fun c1 => ?_) (fun c1 => ?_)
  · exact j_le [some (.ref 0), some (.int l1), some (.int l2), some (.ref 20)] (And.intro rfl (And.intro rfl (And.intro rfl (And.intro rfl True.intro)))) (v1 c1)
  · exact j_le [some (.ref 0), some (.int l1), some (.int l2), some (.ref 20)] (And.intro rfl (And.intro rfl (And.intro rfl (And.intro rfl True.intro)))) (v2 c1)
set_option maxRecDepth 100000 in
theorem bX11_row_12 {sc : Nat × (Nat → Int32)} {h : jH} {Q : jQ} {l1 l2 : Int32}
    (v1 : (h 20 9) ≤ l1 → WP mX11_row Q 35 [some (.ref 0), some (.int l1), some (.int l2), some (.ref 20)] [] (jG0 sc) h (0, 0))
    (v2 : ¬ (h 20 9) ≤ l1 → WP mX11_row Q 20 [some (.ref 0), some (.int l1), some (.int l2), some (.ref 20)] [] (jG0 sc) h (0, 0)) :
    WP mX11_row Q 12 [some (.ref 0), some (.int l1), some (.int l2), some (.ref 20)] [] (jG0 sc) h (0, 0) := by
  refine j_iload_n (i := 1) rfl dX11_row_12 ?_
  refine j_aload_n (i := 3) rfl dX11_row_13 ?_
  refine j_getI (idx := 428) (ci := 9) (k := 9) (nest := true) (show (11, 428, 9, 9, true) ∈ jFT by decide) rfl (Nat.le_of_ble_eq_true rfl) rfl dX11_row_14 ?_
  refine j_icmp_ge (off := 18) 35 dX11_row_17 (by decide) (fun c1 => ?_) (fun c1 => ?_)
  · exact j_le [some (.ref 0), some (.int l1), some (.int l2), some (.ref 20)] (And.intro rfl (And.intro rfl (And.intro rfl (And.intro rfl True.intro)))) (v1 c1)
  · exact j_le [some (.ref 0), some (.int l1), some (.int l2), some (.ref 20)] (And.intro rfl (And.intro rfl (And.intro rfl (And.intro rfl True.intro)))) (v2 c1)
set_option maxRecDepth 100000 in
theorem bX11_row_20 {sc : Nat × (Nat → Int32)} {h : jH} {Q : jQ} {l1 l2 : Int32}
    (v1 : 8 ≤ l1 → WP mX11_row Q 35 [some (.ref 0), some (.int l1), some (.int l2), some (.ref 20)] [] (jG0 sc) h (0, 0))
    (v2 : ¬ 8 ≤ l1 → WP mX11_row Q 26 [some (.ref 0), some (.int l1), some (.int l2), some (.ref 20)] [] (jG0 sc) h (0, 0)) :
    WP mX11_row Q 20 [some (.ref 0), some (.int l1), some (.int l2), some (.ref 20)] [] (jG0 sc) h (0, 0) := by
  refine j_iload_n (i := 1) rfl dX11_row_20 ?_
  refine j_bipush (n := 8) 8 (by decide) dX11_row_21 ?_
  refine j_icmp_ge (off := 12) 35 dX11_row_23 (by decide) (fun c1 => ?_) (fun c1 => ?_)
  · exact j_le [some (.ref 0), some (.int l1), some (.int l2), some (.ref 20)] (And.intro rfl (And.intro rfl (And.intro rfl (And.intro rfl True.intro)))) (v1 c1)
  · exact j_le [some (.ref 0), some (.int l1), some (.int l2), some (.ref 20)] (And.intro rfl (And.intro rfl (And.intro rfl (And.intro rfl True.intro)))) (v2 c1)
set_option maxRecDepth 100000 in
theorem bX11_row_26 {sc : Nat × (Nat → Int32)} {h : jH} {Q : jQ} {l1 l2 : Int32}
    (v1 : l2 < 0 → WP mX11_row Q 35 [some (.ref 0), some (.int l1), some (.int l2), some (.ref 20)] [] (jG0 sc) h (0, 0))
    (v2 : ¬ l2 < 0 → WP mX11_row Q 30 [some (.ref 0), some (.int l1), some (.int l2), some (.ref 20)] [] (jG0 sc) h (0, 0)) :
    WP mX11_row Q 26 [some (.ref 0), some (.int l1), some (.int l2), some (.ref 20)] [] (jG0 sc) h (0, 0) := by
  refine j_iload_n (i := 2) rfl dX11_row_26 ?_
  refine j_if_lt (off := 8) 35 dX11_row_27 (by decide) (fun c1 => ?_) (fun c1 => ?_)
  · exact j_le [some (.ref 0), some (.int l1), some (.int l2), some (.ref 20)] (And.intro rfl (And.intro rfl (And.intro rfl (And.intro rfl True.intro)))) (v1 c1)
  · exact j_le [some (.ref 0), some (.int l1), some (.int l2), some (.ref 20)] (And.intro rfl (And.intro rfl (And.intro rfl (And.intro rfl True.intro)))) (v2 c1)
set_option maxRecDepth 100000 in
theorem bX11_row_30 {sc : Nat × (Nat → Int32)} {h : jH} {Q : jQ} {l1 l2 : Int32}
    (v1 : l2 ≤ 1 → WP mX11_row Q 46 [some (.ref 0), some (.int l1), some (.int l2), some (.ref 20)] [] (jG0 sc) h (0, 0))
    (v2 : ¬ l2 ≤ 1 → WP mX11_row Q 35 [some (.ref 0), some (.int l1), some (.int l2), some (.ref 20)] [] (jG0 sc) h (0, 0)) :
    WP mX11_row Q 30 [some (.ref 0), some (.int l1), some (.int l2), some (.ref 20)] [] (jG0 sc) h (0, 0) := by
  refine j_iload_n (i := 2) rfl dX11_row_30 ?_
  refine j_iconst (n := 1) 1 (by decide) dX11_row_31 ?_
  refine j_icmp_le (off := 14) 46 dX11_row_32 (by decide) (fun c1 => ?_) (fun c1 => ?_)
  · exact j_le [some (.ref 0), some (.int l1), some (.int l2), some (.ref 20)] (And.intro rfl (And.intro rfl (And.intro rfl (And.intro rfl True.intro)))) (v1 c1)
  · exact j_le [some (.ref 0), some (.int l1), some (.int l2), some (.ref 20)] (And.intro rfl (And.intro rfl (And.intro rfl (And.intro rfl True.intro)))) (v2 c1)
set_option maxRecDepth 100000 in
theorem bX11_row_35 {sc : Nat × (Nat → Int32)} {h : jH} {Q : jQ} {l1 l2 : Int32}
    (v1 : Q (.inr "java/util/NoSuchElementException") (jG0 sc) h) :
    WP mX11_row Q 35 [some (.ref 0), some (.int l1), some (.int l2), some (.ref 20)] [] (jG0 sc) h (0, 0) := by
  exact j_thrW_NSE (is := 431) "no such ROW" 40 (by decide +kernel) rfl rfl (by decide) (by decide) (Nat.le_of_ble_eq_true rfl) dX11_row_35 dX11_row_38 dX11_row_39 dX11_row_42 dX11_row_45 v1
set_option maxRecDepth 100000 in
theorem bX11_row_46 {sc : Nat × (Nat → Int32)} {h : jH} {Q : jQ} {l1 l2 : Int32}
    (v1 : ¬ l2 = 0 → WP mX11_row Q 59 [some (.ref 0), some (.int l1), some (.int l2), some (.ref 20)] [] (jG0 sc) h (0, 0))
    (v2 : l2 = 0 → WP mX11_row Q 50 [some (.ref 0), some (.int l1), some (.int l2), some (.ref 20)] [] (jG0 sc) h (0, 0)) :
    WP mX11_row Q 46 [some (.ref 0), some (.int l1), some (.int l2), some (.ref 20)] [] (jG0 sc) h (0, 0) := by
  refine j_iload_n (i := 2) rfl dX11_row_46 ?_
  refine j_if_ne (off := 12) 59 dX11_row_47 (by decide) (fun c1 => ?_) (fun c1 => ?_)
  · exact j_le [some (.ref 0), some (.int l1), some (.int l2), some (.ref 20)] (And.intro rfl (And.intro rfl (And.intro rfl (And.intro rfl True.intro)))) (v1 c1)
  · exact j_le [some (.ref 0), some (.int l1), some (.int l2), some (.ref 20)] (And.intro rfl (And.intro rfl (And.intro rfl (And.intro rfl True.intro)))) (v2 c1)
set_option maxRecDepth 100000 in
theorem bX11_row_50 {sc : Nat × (Nat → Int32)} {h : jH} {Q : jQ} {l1 l2 : Int32}
    (o1 : vp_in l1 8)
    (v1 : WP mX11_row Q 65 [some (.ref 0), some (.int l1), some (.int l2), some (.ref 20)] [.int (h 22 l1.toNatClampNeg)] (jG0 sc) h (0, 0)) :
    WP mX11_row Q 50 [some (.ref 0), some (.int l1), some (.int l2), some (.ref 20)] [] (jG0 sc) h (0, 0) := by
  refine j_aload_n (i := 3) rfl dX11_row_50 ?_
  refine j_getR (idx := 433) (ci := 9) (k := 6) (nest := true) (show (11, 433, 9, 6, true) ∈ jFT by decide) rfl (Nat.le_of_ble_eq_true rfl) rfl (a := 22) rfl dX11_row_51 ?_
  refine j_iload_n (i := 1) rfl dX11_row_54 ?_
  refine j_iald (Nat.le_of_ble_eq_true rfl) rfl o1 dX11_row_55 ?_
  refine j_goto (off := 9) 65 dX11_row_56 (by decide) ?_
  exact j_le [some (.ref 0), some (.int l1), some (.int l2), some (.ref 20)] (And.intro rfl (And.intro rfl (And.intro rfl (And.intro rfl True.intro)))) v1
set_option maxRecDepth 100000 in
theorem bX11_row_59 {sc : Nat × (Nat → Int32)} {h : jH} {Q : jQ} {l1 l2 : Int32}
    (o1 : vp_in l1 8)
    (v1 : WP mX11_row Q 65 [some (.ref 0), some (.int l1), some (.int l2), some (.ref 20)] [.int (h 23 l1.toNatClampNeg)] (jG0 sc) h (0, 0)) :
    WP mX11_row Q 59 [some (.ref 0), some (.int l1), some (.int l2), some (.ref 20)] [] (jG0 sc) h (0, 0) := by
  refine j_aload_n (i := 3) rfl dX11_row_59 ?_
  refine j_getR (idx := 436) (ci := 9) (k := 7) (nest := true) (show (11, 436, 9, 7, true) ∈ jFT by decide) rfl (Nat.le_of_ble_eq_true rfl) rfl (a := 23) rfl dX11_row_60 ?_
  refine j_iload_n (i := 1) rfl dX11_row_63 ?_
  refine j_iald (Nat.le_of_ble_eq_true rfl) rfl o1 dX11_row_64 ?_
  exact j_le [some (.ref 0), some (.int l1), some (.int l2), some (.ref 20)] (And.intro rfl (And.intro rfl (And.intro rfl (And.intro rfl True.intro)))) v1
set_option maxRecDepth 100000 in
theorem bX11_row_65 {sc : Nat × (Nat → Int32)} {h : jH} {Q : jQ} {l1 l2 s0 : Int32}
    (v1 : Q (.inl (some (.int s0))) (jG0 sc) h) :
    WP mX11_row Q 65 [some (.ref 0), some (.int l1), some (.int l2), some (.ref 20)] [.int s0] (jG0 sc) h (0, 0) := by
  exact j_iret rfl rfl (Nat.zero_le _) (Nat.zero_le _) dX11_row_65 v1
set_option maxRecDepth 100000 in
theorem rX11_row_0 {sc : Nat × (Nat → Int32)} {h : jH} {Q : jQ} {l1 l2 : Int32}
    (v1 : l1 < 0 → Q (.inr "java/util/NoSuchElementException") (jG0 sc) h)
    (v2 : ¬ l1 < 0 → (h 20 9) ≤ l1 → Q (.inr "java/util/NoSuchElementException") (jG0 sc) h)
    (v3 : ¬ l1 < 0 → ¬ (h 20 9) ≤ l1 → 8 ≤ l1 → Q (.inr "java/util/NoSuchElementException") (jG0 sc) h)
    (v4 : ¬ l1 < 0 → ¬ (h 20 9) ≤ l1 → ¬ 8 ≤ l1 → l2 < 0 → Q (.inr "java/util/NoSuchElementException") (jG0 sc) h)
    (o1 : ¬ l1 < 0 → ¬ (h 20 9) ≤ l1 → ¬ 8 ≤ l1 → ¬ l2 < 0 → l2 ≤ 1 → ¬ l2 = 0 → vp_in l1 8)
    (v5 : ¬ l1 < 0 → ¬ (h 20 9) ≤ l1 → ¬ 8 ≤ l1 → ¬ l2 < 0 → l2 ≤ 1 → ¬ l2 = 0 → Q (.inl (some (.int (h 23 l1.toNatClampNeg)))) (jG0 sc) h)
    (o2 : ¬ l1 < 0 → ¬ (h 20 9) ≤ l1 → ¬ 8 ≤ l1 → ¬ l2 < 0 → l2 ≤ 1 → l2 = 0 → vp_in l1 8)
    (v6 : ¬ l1 < 0 → ¬ (h 20 9) ≤ l1 → ¬ 8 ≤ l1 → ¬ l2 < 0 → l2 ≤ 1 → l2 = 0 → Q (.inl (some (.int (h 22 l1.toNatClampNeg)))) (jG0 sc) h)
    (v7 : ¬ l1 < 0 → ¬ (h 20 9) ≤ l1 → ¬ 8 ≤ l1 → ¬ l2 < 0 → ¬ l2 ≤ 1 → Q (.inr "java/util/NoSuchElementException") (jG0 sc) h) :
    WP mX11_row Q 0 [some (.ref 0), some (.int l1), some (.int l2), none] [] (jG0 sc) h (0, 0) := by
  exact (bX11_row_0 (fun c1 => (bX11_row_35 (v1 c1))) (fun c1 => (bX11_row_12 (fun c2 => (bX11_row_35 (v2 c1 c2))) (fun c2 => (bX11_row_20 (fun c3 => (bX11_row_35 (v3 c1 c2 c3))) (fun c3 => (bX11_row_26 (fun c4 => (bX11_row_35 (v4 c1 c2 c3 c4))) (fun c4 => (bX11_row_30 (fun c5 => (bX11_row_46 (fun c6 => (bX11_row_59 (o1 c1 c2 c3 c4 c5 c6) (bX11_row_65 (v5 c1 c2 c3 c4 c5 c6)))) (fun c6 => (bX11_row_50 (o2 c1 c2 c3 c4 c5 c6) (bX11_row_65 (v6 c1 c2 c3 c4 c5 c6)))))) (fun c5 => (bX11_row_35 (v7 c1 c2 c3 c4 c5))))))))))))
theorem dX11_tear_0 : decode (mC mX11_tear) 0 = .ok (.aload_n 0, 1) := by decide +kernel
theorem dX11_tear_1 : decode (mC mX11_tear) 1 = .ok (.getfield 37, 3) := by decide +kernel
theorem dX11_tear_4 : decode (mC mX11_tear) 4 = .ok (.getfield 151, 3) := by decide +kernel
theorem dX11_tear_7 : decode (mC mX11_tear) 7 = .ok (.astore_n 3, 1) := by decide +kernel
theorem dX11_tear_8 : decode (mC mX11_tear) 8 = .ok (.iload_n 1, 1) := by decide +kernel
theorem dX11_tear_9 : decode (mC mX11_tear) 9 = .ok (.ifCond .lt 17, 3) := by decide +kernel
theorem dX11_tear_12 : decode (mC mX11_tear) 12 = .ok (.iload_n 1, 1) := by decide +kernel
theorem dX11_tear_13 : decode (mC mX11_tear) 13 = .ok (.aload_n 3, 1) := by decide +kernel
theorem dX11_tear_14 : decode (mC mX11_tear) 14 = .ok (.getfield 428, 3) := by decide +kernel
theorem dX11_tear_17 : decode (mC mX11_tear) 17 = .ok (.if_icmp .ge 9, 3) := by decide +kernel
theorem dX11_tear_20 : decode (mC mX11_tear) 20 = .ok (.iload_n 1, 1) := by decide +kernel
theorem dX11_tear_21 : decode (mC mX11_tear) 21 = .ok (.bipush 8, 2) := by decide +kernel
theorem dX11_tear_23 : decode (mC mX11_tear) 23 = .ok (.if_icmp .lt 14, 3) := by decide +kernel
theorem dX11_tear_26 : decode (mC mX11_tear) 26 = .ok (.new 234, 3) := by decide +kernel
theorem dX11_tear_29 : decode (mC mX11_tear) 29 = .ok (.dup, 1) := by decide +kernel
theorem dX11_tear_30 : decode (mC mX11_tear) 30 = .ok (.ldc_w 431, 3) := by decide +kernel
theorem dX11_tear_33 : decode (mC mX11_tear) 33 = .ok (.invokespecial 238, 3) := by decide +kernel
theorem dX11_tear_36 : decode (mC mX11_tear) 36 = .ok (.athrow, 1) := by decide +kernel
theorem dX11_tear_37 : decode (mC mX11_tear) 37 = .ok (.aload_n 3, 1) := by decide +kernel
theorem dX11_tear_38 : decode (mC mX11_tear) 38 = .ok (.getfield 436, 3) := by decide +kernel
theorem dX11_tear_41 : decode (mC mX11_tear) 41 = .ok (.iload_n 1, 1) := by decide +kernel
theorem dX11_tear_42 : decode (mC mX11_tear) 42 = .ok (.dup2, 1) := by decide +kernel
theorem dX11_tear_43 : decode (mC mX11_tear) 43 = .ok (.iaload, 1) := by decide +kernel
theorem dX11_tear_44 : decode (mC mX11_tear) 44 = .ok (.iload_n 2, 1) := by decide +kernel
theorem dX11_tear_45 : decode (mC mX11_tear) 45 = .ok (.ixor, 1) := by decide +kernel
theorem dX11_tear_46 : decode (mC mX11_tear) 46 = .ok (.iastore, 1) := by decide +kernel
theorem dX11_tear_47 : decode (mC mX11_tear) 47 = .ok (.aload_n 3, 1) := by decide +kernel
theorem dX11_tear_48 : decode (mC mX11_tear) 48 = .ok (.getfield 436, 3) := by decide +kernel
theorem dX11_tear_51 : decode (mC mX11_tear) 51 = .ok (.iload_n 1, 1) := by decide +kernel
theorem dX11_tear_52 : decode (mC mX11_tear) 52 = .ok (.iaload, 1) := by decide +kernel
theorem dX11_tear_53 : decode (mC mX11_tear) 53 = .ok (.ireturn, 1) := by decide +kernel
set_option maxRecDepth 100000 in
theorem bX11_tear_0 {sc : Nat × (Nat → Int32)} {h : jH} {Q : jQ} {l1 l2 : Int32}
    (v1 : l1 < 0 → WP mX11_tear Q 26 [some (.ref 0), some (.int l1), some (.int l2), some (.ref 20)] [] (jG0 sc) h (0, 0))
    (v2 : ¬ l1 < 0 → WP mX11_tear Q 12 [some (.ref 0), some (.int l1), some (.int l2), some (.ref 20)] [] (jG0 sc) h (0, 0)) :
    WP mX11_tear Q 0 [some (.ref 0), some (.int l1), some (.int l2), none] [] (jG0 sc) h (0, 0) := by
  refine j_aload_n (i := 0) rfl dX11_tear_0 ?_
  refine j_getR (idx := 37) (ci := 11) (k := 4) (nest := false) (show (11, 37, 11, 4, false) ∈ jFT by decide) rfl (Nat.le_of_ble_eq_true rfl) rfl (a := 9) rfl dX11_tear_1 ?_
  refine j_getR (idx := 151) (ci := 6) (k := 4) (nest := true) (show (11, 151, 6, 4, true) ∈ jFT by decide) rfl (Nat.le_of_ble_eq_true rfl) rfl (a := 20) rfl dX11_tear_4 ?_
  refine j_astore_n (i := 3) dX11_tear_7 (Nat.le_of_ble_eq_true rfl) ?_
  refine j_iload_n (i := 1) rfl dX11_tear_8 ?_
  refine j_if_lt (off := 17) 26 dX11_tear_9 (by decide) (fun c1 => ?_) (fun c1 => ?_)
  · exact j_le [some (.ref 0), some (.int l1), some (.int l2), some (.ref 20)] (And.intro rfl (And.intro rfl (And.intro rfl (And.intro rfl True.intro)))) (v1 c1)
  · exact j_le [some (.ref 0), some (.int l1), some (.int l2), some (.ref 20)] (And.intro rfl (And.intro rfl (And.intro rfl (And.intro rfl True.intro)))) (v2 c1)
set_option maxRecDepth 100000 in
theorem bX11_tear_12 {sc : Nat × (Nat → Int32)} {h : jH} {Q : jQ} {l1 l2 : Int32}
    (v1 : (h 20 9) ≤ l1 → WP mX11_tear Q 26 [some (.ref 0), some (.int l1), some (.int l2), some (.ref 20)] [] (jG0 sc) h (0, 0))
    (v2 : ¬ (h 20 9) ≤ l1 → WP mX11_tear Q 20 [some (.ref 0), some (.int l1), some (.int l2), some (.ref 20)] [] (jG0 sc) h (0, 0)) :
    WP mX11_tear Q 12 [some (.ref 0), some (.int l1), some (.int l2), some (.ref 20)] [] (jG0 sc) h (0, 0) := by
  refine j_iload_n (i := 1) rfl dX11_tear_12 ?_
  refine j_aload_n (i := 3) rfl dX11_tear_13 ?_
  refine j_getI (idx := 428) (ci := 9) (k := 9) (nest := true) (show (11, 428, 9, 9, true) ∈ jFT by decide) rfl (Nat.le_of_ble_eq_true rfl) rfl dX11_tear_14 ?_
  refine j_icmp_ge (off := 9) 26 dX11_tear_17 (by decide) (fun c1 => ?_) (fun c1 => ?_)
  · exact j_le [some (.ref 0), some (.int l1), some (.int l2), some (.ref 20)] (And.intro rfl (And.intro rfl (And.intro rfl (And.intro rfl True.intro)))) (v1 c1)
  · exact j_le [some (.ref 0), some (.int l1), some (.int l2), some (.ref 20)] (And.intro rfl (And.intro rfl (And.intro rfl (And.intro rfl True.intro)))) (v2 c1)
set_option maxRecDepth 100000 in
theorem bX11_tear_20 {sc : Nat × (Nat → Int32)} {h : jH} {Q : jQ} {l1 l2 : Int32}
    (v1 : l1 < 8 → WP mX11_tear Q 37 [some (.ref 0), some (.int l1), some (.int l2), some (.ref 20)] [] (jG0 sc) h (0, 0))
    (v2 : ¬ l1 < 8 → WP mX11_tear Q 26 [some (.ref 0), some (.int l1), some (.int l2), some (.ref 20)] [] (jG0 sc) h (0, 0)) :
    WP mX11_tear Q 20 [some (.ref 0), some (.int l1), some (.int l2), some (.ref 20)] [] (jG0 sc) h (0, 0) := by
  refine j_iload_n (i := 1) rfl dX11_tear_20 ?_
  refine j_bipush (n := 8) 8 (by decide) dX11_tear_21 ?_
  refine j_icmp_lt (off := 14) 37 dX11_tear_23 (by decide) (fun c1 => ?_) (fun c1 => ?_)
  · exact j_le [some (.ref 0), some (.int l1), some (.int l2), some (.ref 20)] (And.intro rfl (And.intro rfl (And.intro rfl (And.intro rfl True.intro)))) (v1 c1)
  · exact j_le [some (.ref 0), some (.int l1), some (.int l2), some (.ref 20)] (And.intro rfl (And.intro rfl (And.intro rfl (And.intro rfl True.intro)))) (v2 c1)
set_option maxRecDepth 100000 in
theorem bX11_tear_26 {sc : Nat × (Nat → Int32)} {h : jH} {Q : jQ} {l1 l2 : Int32}
    (v1 : Q (.inr "java/util/NoSuchElementException") (jG0 sc) h) :
    WP mX11_tear Q 26 [some (.ref 0), some (.int l1), some (.int l2), some (.ref 20)] [] (jG0 sc) h (0, 0) := by
  exact j_thrW_NSE (is := 431) "no such ROW" 40 (by decide +kernel) rfl rfl (by decide) (by decide) (Nat.le_of_ble_eq_true rfl) dX11_tear_26 dX11_tear_29 dX11_tear_30 dX11_tear_33 dX11_tear_36 v1
set_option maxRecDepth 100000 in
theorem bX11_tear_37 {sc : Nat × (Nat → Int32)} {h : jH} {Q : jQ} {l1 l2 : Int32}
    (o1 : vp_in l1 8)
    (o2 : vp_in l1 8)
    (o3 : vp_in l1 8)
    (v1 : Q (.inl (some (.int ((jput h 23 l1.toNatClampNeg ((h 23 l1.toNatClampNeg) ^^^ l2)) 23 l1.toNatClampNeg)))) (jG0 sc) (jput h 23 l1.toNatClampNeg ((h 23 l1.toNatClampNeg) ^^^ l2))) :
    WP mX11_tear Q 37 [some (.ref 0), some (.int l1), some (.int l2), some (.ref 20)] [] (jG0 sc) h (0, 0) := by
  refine j_aload_n (i := 3) rfl dX11_tear_37 ?_
  refine j_getR (idx := 436) (ci := 9) (k := 7) (nest := true) (show (11, 436, 9, 7, true) ∈ jFT by decide) rfl (Nat.le_of_ble_eq_true rfl) rfl (a := 23) rfl dX11_tear_38 ?_
  refine j_iload_n (i := 1) rfl dX11_tear_41 ?_
  refine j_dup2 rfl rfl dX11_tear_42 ?_
  refine j_iald (Nat.le_of_ble_eq_true rfl) rfl o1 dX11_tear_43 ?_
  refine j_iload_n (i := 2) rfl dX11_tear_44 ?_
  refine j_ixor dX11_tear_45 ?_
  refine j_iast (Nat.le_of_ble_eq_true rfl) rfl o2 dX11_tear_46 ?_
  refine j_aload_n (i := 3) rfl dX11_tear_47 ?_
  refine j_getR (idx := 436) (ci := 9) (k := 7) (nest := true) (show (11, 436, 9, 7, true) ∈ jFT by decide) rfl (Nat.le_of_ble_eq_true rfl) rfl (a := 23) rfl dX11_tear_48 ?_
  refine j_iload_n (i := 1) rfl dX11_tear_51 ?_
  refine j_iald (Nat.le_of_ble_eq_true rfl) rfl o3 dX11_tear_52 ?_
  exact j_iret rfl rfl (Nat.zero_le _) (Nat.zero_le _) dX11_tear_53 v1
set_option maxRecDepth 100000 in
theorem rX11_tear_0 {sc : Nat × (Nat → Int32)} {h : jH} {Q : jQ} {l1 l2 : Int32}
    (v1 : l1 < 0 → Q (.inr "java/util/NoSuchElementException") (jG0 sc) h)
    (v2 : ¬ l1 < 0 → (h 20 9) ≤ l1 → Q (.inr "java/util/NoSuchElementException") (jG0 sc) h)
    (o1 : ¬ l1 < 0 → ¬ (h 20 9) ≤ l1 → l1 < 8 → vp_in l1 8)
    (v3 : ¬ l1 < 0 → ¬ (h 20 9) ≤ l1 → l1 < 8 → Q (.inl (some (.int ((jput h 23 l1.toNatClampNeg ((h 23 l1.toNatClampNeg) ^^^ l2)) 23 l1.toNatClampNeg)))) (jG0 sc) (jput h 23 l1.toNatClampNeg ((h 23 l1.toNatClampNeg) ^^^ l2)))
    (v4 : ¬ l1 < 0 → ¬ (h 20 9) ≤ l1 → ¬ l1 < 8 → Q (.inr "java/util/NoSuchElementException") (jG0 sc) h) :
    WP mX11_tear Q 0 [some (.ref 0), some (.int l1), some (.int l2), none] [] (jG0 sc) h (0, 0) := by
  exact (bX11_tear_0 (fun c1 => (bX11_tear_26 (v1 c1))) (fun c1 => (bX11_tear_12 (fun c2 => (bX11_tear_26 (v2 c1 c2))) (fun c2 => (bX11_tear_20 (fun c3 => (bX11_tear_37 (o1 c1 c2 c3) (o1 c1 c2 c3) (o1 c1 c2 c3) (v3 c1 c2 c3))) (fun c3 => (bX11_tear_26 (v4 c1 c2 c3))))))))
theorem dX11_check_0 : decode (mC mX11_check) 0 = .ok (.aload_n 0, 1) := by decide +kernel
theorem dX11_check_1 : decode (mC mX11_check) 1 = .ok (.getfield 37, 3) := by decide +kernel
theorem dX11_check_4 : decode (mC mX11_check) 4 = .ok (.getfield 151, 3) := by decide +kernel
theorem dX11_check_7 : decode (mC mX11_check) 7 = .ok (.astore_n 1, 1) := by decide +kernel
theorem dX11_check_8 : decode (mC mX11_check) 8 = .ok (.iconst 0, 1) := by decide +kernel
theorem dX11_check_9 : decode (mC mX11_check) 9 = .ok (.istore_n 2, 1) := by decide +kernel
theorem dX11_check_10 : decode (mC mX11_check) 10 = .ok (.iload_n 2, 1) := by decide +kernel
theorem dX11_check_11 : decode (mC mX11_check) 11 = .ok (.aload_n 1, 1) := by decide +kernel
theorem dX11_check_12 : decode (mC mX11_check) 12 = .ok (.getfield 428, 3) := by decide +kernel
theorem dX11_check_15 : decode (mC mX11_check) 15 = .ok (.if_icmp .ge 32, 3) := by decide +kernel
theorem dX11_check_18 : decode (mC mX11_check) 18 = .ok (.iload_n 2, 1) := by decide +kernel
theorem dX11_check_19 : decode (mC mX11_check) 19 = .ok (.bipush 8, 2) := by decide +kernel
theorem dX11_check_21 : decode (mC mX11_check) 21 = .ok (.if_icmp .ge 26, 3) := by decide +kernel
theorem dX11_check_24 : decode (mC mX11_check) 24 = .ok (.aload_n 1, 1) := by decide +kernel
theorem dX11_check_25 : decode (mC mX11_check) 25 = .ok (.getfield 436, 3) := by decide +kernel
theorem dX11_check_28 : decode (mC mX11_check) 28 = .ok (.iload_n 2, 1) := by decide +kernel
theorem dX11_check_29 : decode (mC mX11_check) 29 = .ok (.iaload, 1) := by decide +kernel
theorem dX11_check_30 : decode (mC mX11_check) 30 = .ok (.aload_n 1, 1) := by decide +kernel
theorem dX11_check_31 : decode (mC mX11_check) 31 = .ok (.getfield 439, 3) := by decide +kernel
theorem dX11_check_34 : decode (mC mX11_check) 34 = .ok (.iload_n 2, 1) := by decide +kernel
theorem dX11_check_35 : decode (mC mX11_check) 35 = .ok (.iaload, 1) := by decide +kernel
theorem dX11_check_36 : decode (mC mX11_check) 36 = .ok (.if_icmp .eq 5, 3) := by decide +kernel
theorem dX11_check_39 : decode (mC mX11_check) 39 = .ok (.iload_n 2, 1) := by decide +kernel
theorem dX11_check_40 : decode (mC mX11_check) 40 = .ok (.ireturn, 1) := by decide +kernel
theorem dX11_check_41 : decode (mC mX11_check) 41 = .ok (.iinc 2 1, 3) := by decide +kernel
theorem dX11_check_44 : decode (mC mX11_check) 44 = .ok (.goto (-34), 3) := by decide +kernel
theorem dX11_check_47 : decode (mC mX11_check) 47 = .ok (.iconst (-1), 1) := by decide +kernel
theorem dX11_check_48 : decode (mC mX11_check) 48 = .ok (.ireturn, 1) := by decide +kernel
set_option maxRecDepth 100000 in
theorem bX11_check_0 {sc : Nat × (Nat → Int32)} {h : jH} {Q : jQ}
    (v1 : WP mX11_check Q 10 [some (.ref 0), some (.ref 20), some (.int 0)] [] (jG0 sc) h (0, 0)) :
    WP mX11_check Q 0 [some (.ref 0), none, none] [] (jG0 sc) h (0, 0) := by
  refine j_aload_n (i := 0) rfl dX11_check_0 ?_
  refine j_getR (idx := 37) (ci := 11) (k := 4) (nest := false) (show (11, 37, 11, 4, false) ∈ jFT by decide) rfl (Nat.le_of_ble_eq_true rfl) rfl (a := 9) rfl dX11_check_1 ?_
  refine j_getR (idx := 151) (ci := 6) (k := 4) (nest := true) (show (11, 151, 6, 4, true) ∈ jFT by decide) rfl (Nat.le_of_ble_eq_true rfl) rfl (a := 20) rfl dX11_check_4 ?_
  refine j_astore_n (i := 1) dX11_check_7 (Nat.le_of_ble_eq_true rfl) ?_
  refine j_iconst (n := 0) 0 (by decide) dX11_check_8 ?_
  refine j_istore_n (i := 2) dX11_check_9 (Nat.le_of_ble_eq_true rfl) ?_
  exact j_le [some (.ref 0), some (.ref 20), some (.int 0)] (And.intro rfl (And.intro rfl (And.intro rfl True.intro))) v1
set_option maxRecDepth 100000 in
theorem bX11_check_10 {sc : Nat × (Nat → Int32)} {h : jH} {Q : jQ} {l2 : Int32}
    (v1 : (h 20 9) ≤ l2 → WP mX11_check Q 47 [some (.ref 0), some (.ref 20), some (.int l2)] [] (jG0 sc) h (0, 0))
    (v2 : ¬ (h 20 9) ≤ l2 → WP mX11_check Q 18 [some (.ref 0), some (.ref 20), some (.int l2)] [] (jG0 sc) h (0, 0)) :
    WP mX11_check Q 10 [some (.ref 0), some (.ref 20), some (.int l2)] [] (jG0 sc) h (0, 0) := by
  refine j_iload_n (i := 2) rfl dX11_check_10 ?_
  refine j_aload_n (i := 1) rfl dX11_check_11 ?_
  refine j_getI (idx := 428) (ci := 9) (k := 9) (nest := true) (show (11, 428, 9, 9, true) ∈ jFT by decide) rfl (Nat.le_of_ble_eq_true rfl) rfl dX11_check_12 ?_
  refine j_icmp_ge (off := 32) 47 dX11_check_15 (by decide) (fun c1 => ?_) (fun c1 => ?_)
  · exact j_le [some (.ref 0), some (.ref 20), some (.int l2)] (And.intro rfl (And.intro rfl (And.intro rfl True.intro))) (v1 c1)
  · exact j_le [some (.ref 0), some (.ref 20), some (.int l2)] (And.intro rfl (And.intro rfl (And.intro rfl True.intro))) (v2 c1)
set_option maxRecDepth 100000 in
theorem bX11_check_18 {sc : Nat × (Nat → Int32)} {h : jH} {Q : jQ} {l2 : Int32}
    (v1 : 8 ≤ l2 → WP mX11_check Q 47 [some (.ref 0), some (.ref 20), some (.int l2)] [] (jG0 sc) h (0, 0))
    (v2 : ¬ 8 ≤ l2 → WP mX11_check Q 24 [some (.ref 0), some (.ref 20), some (.int l2)] [] (jG0 sc) h (0, 0)) :
    WP mX11_check Q 18 [some (.ref 0), some (.ref 20), some (.int l2)] [] (jG0 sc) h (0, 0) := by
  refine j_iload_n (i := 2) rfl dX11_check_18 ?_
  refine j_bipush (n := 8) 8 (by decide) dX11_check_19 ?_
  refine j_icmp_ge (off := 26) 47 dX11_check_21 (by decide) (fun c1 => ?_) (fun c1 => ?_)
  · exact j_le [some (.ref 0), some (.ref 20), some (.int l2)] (And.intro rfl (And.intro rfl (And.intro rfl True.intro))) (v1 c1)
  · exact j_le [some (.ref 0), some (.ref 20), some (.int l2)] (And.intro rfl (And.intro rfl (And.intro rfl True.intro))) (v2 c1)
set_option maxRecDepth 100000 in
theorem bX11_check_24 {sc : Nat × (Nat → Int32)} {h : jH} {Q : jQ} {l2 : Int32}
    (o1 : vp_in l2 8)
    (o2 : vp_in l2 8)
    (v1 : (h 23 l2.toNatClampNeg) = (h 24 l2.toNatClampNeg) → WP mX11_check Q 41 [some (.ref 0), some (.ref 20), some (.int l2)] [] (jG0 sc) h (0, 0))
    (v2 : ¬ (h 23 l2.toNatClampNeg) = (h 24 l2.toNatClampNeg) → WP mX11_check Q 39 [some (.ref 0), some (.ref 20), some (.int l2)] [] (jG0 sc) h (0, 0)) :
    WP mX11_check Q 24 [some (.ref 0), some (.ref 20), some (.int l2)] [] (jG0 sc) h (0, 0) := by
  refine j_aload_n (i := 1) rfl dX11_check_24 ?_
  refine j_getR (idx := 436) (ci := 9) (k := 7) (nest := true) (show (11, 436, 9, 7, true) ∈ jFT by decide) rfl (Nat.le_of_ble_eq_true rfl) rfl (a := 23) rfl dX11_check_25 ?_
  refine j_iload_n (i := 2) rfl dX11_check_28 ?_
  refine j_iald (Nat.le_of_ble_eq_true rfl) rfl o1 dX11_check_29 ?_
  refine j_aload_n (i := 1) rfl dX11_check_30 ?_
  refine j_getR (idx := 439) (ci := 9) (k := 8) (nest := true) (show (11, 439, 9, 8, true) ∈ jFT by decide) rfl (Nat.le_of_ble_eq_true rfl) rfl (a := 24) rfl dX11_check_31 ?_
  refine j_iload_n (i := 2) rfl dX11_check_34 ?_
  refine j_iald (Nat.le_of_ble_eq_true rfl) rfl o2 dX11_check_35 ?_
  refine j_icmp_eq (off := 5) 41 dX11_check_36 (by decide) (fun c1 => ?_) (fun c1 => ?_)
  · exact j_le [some (.ref 0), some (.ref 20), some (.int l2)] (And.intro rfl (And.intro rfl (And.intro rfl True.intro))) (v1 c1)
  · exact j_le [some (.ref 0), some (.ref 20), some (.int l2)] (And.intro rfl (And.intro rfl (And.intro rfl True.intro))) (v2 c1)
set_option maxRecDepth 100000 in
theorem bX11_check_39 {sc : Nat × (Nat → Int32)} {h : jH} {Q : jQ} {l2 : Int32}
    (v1 : Q (.inl (some (.int l2))) (jG0 sc) h) :
    WP mX11_check Q 39 [some (.ref 0), some (.ref 20), some (.int l2)] [] (jG0 sc) h (0, 0) := by
  refine j_iload_n (i := 2) rfl dX11_check_39 ?_
  exact j_iret rfl rfl (Nat.zero_le _) (Nat.zero_le _) dX11_check_40 v1
set_option maxRecDepth 100000 in
theorem bX11_check_41 {sc : Nat × (Nat → Int32)} {h : jH} {Q : jQ} {l2 : Int32}
    (v1 : WP mX11_check Q 10 [some (.ref 0), some (.ref 20), some (.int (l2 + 1))] [] (jG0 sc) h (0, 0)) :
    WP mX11_check Q 41 [some (.ref 0), some (.ref 20), some (.int l2)] [] (jG0 sc) h (0, 0) := by
  refine j_iinc (i := 2) (n := 1) rfl dX11_check_41 (Nat.le_of_ble_eq_true rfl) ?_
  refine j_eqlv [some (.ref 0), some (.ref 20), some (.int (l2 + 1))] rfl ?_
  refine j_goto (off := -34) 10 dX11_check_44 (by decide) ?_
  exact j_le [some (.ref 0), some (.ref 20), some (.int (l2 + 1))] (And.intro rfl (And.intro rfl (And.intro rfl True.intro))) v1
set_option maxRecDepth 100000 in
theorem bX11_check_47 {sc : Nat × (Nat → Int32)} {h : jH} {Q : jQ} {l2 : Int32}
    (v1 : Q (.inl (some (.int (-1)))) (jG0 sc) h) :
    WP mX11_check Q 47 [some (.ref 0), some (.ref 20), some (.int l2)] [] (jG0 sc) h (0, 0) := by
  refine j_iconst (n := (-1)) (-1) (by decide) dX11_check_47 ?_
  exact j_iret rfl rfl (Nat.zero_le _) (Nat.zero_le _) dX11_check_48 v1
set_option maxRecDepth 100000 in
theorem rX11_check_0 {sc : Nat × (Nat → Int32)} {h : jH} {Q : jQ}
    (v1 : WP mX11_check Q 10 [some (.ref 0), some (.ref 20), some (.int 0)] [] (jG0 sc) h (0, 0)) :
    WP mX11_check Q 0 [some (.ref 0), none, none] [] (jG0 sc) h (0, 0) := by
  exact (bX11_check_0 v1)
set_option maxRecDepth 100000 in
theorem rX11_check_10 {sc : Nat × (Nat → Int32)} {h : jH} {Q : jQ} {l2 : Int32}
    (v1 : (h 20 9) ≤ l2 → Q (.inl (some (.int (-1)))) (jG0 sc) h)
    (v2 : ¬ (h 20 9) ≤ l2 → 8 ≤ l2 → Q (.inl (some (.int (-1)))) (jG0 sc) h)
    (o1 : ¬ (h 20 9) ≤ l2 → ¬ 8 ≤ l2 → vp_in l2 8)
    (v3 : ¬ (h 20 9) ≤ l2 → ¬ 8 ≤ l2 → (h 23 l2.toNatClampNeg) = (h 24 l2.toNatClampNeg) → WP mX11_check Q 10 [some (.ref 0), some (.ref 20), some (.int (l2 + 1))] [] (jG0 sc) h (0, 0))
    (v4 : ¬ (h 20 9) ≤ l2 → ¬ 8 ≤ l2 → ¬ (h 23 l2.toNatClampNeg) = (h 24 l2.toNatClampNeg) → Q (.inl (some (.int l2))) (jG0 sc) h) :
    WP mX11_check Q 10 [some (.ref 0), some (.ref 20), some (.int l2)] [] (jG0 sc) h (0, 0) := by
  exact (bX11_check_10 (fun c1 => (bX11_check_47 (v1 c1))) (fun c1 => (bX11_check_18 (fun c2 => (bX11_check_47 (v2 c1 c2))) (fun c2 => (bX11_check_24 (o1 c1 c2) (o1 c1 c2) (fun c3 => (bX11_check_41 (v3 c1 c2 c3))) (fun c3 => (bX11_check_39 (v4 c1 c2 c3))))))))
theorem dX11_image_0 : decode (mC mX11_image) 0 = .ok (.aload_n 0, 1) := by decide +kernel
theorem dX11_image_1 : decode (mC mX11_image) 1 = .ok (.getfield 41, 3) := by decide +kernel
theorem dX11_image_4 : decode (mC mX11_image) 4 = .ok (.aload_n 0, 1) := by decide +kernel
theorem dX11_image_5 : decode (mC mX11_image) 5 = .ok (.getfield 37, 3) := by decide +kernel
theorem dX11_image_8 : decode (mC mX11_image) 8 = .ok (.invokevirtual 442, 3) := by decide +kernel
theorem dX11_image_11 : decode (mC mX11_image) 11 = .ok (.aload_n 0, 1) := by decide +kernel
theorem dX11_image_12 : decode (mC mX11_image) 12 = .ok (.iconst 1, 1) := by decide +kernel
theorem dX11_image_13 : decode (mC mX11_image) 13 = .ok (.putfield 445, 3) := by decide +kernel
theorem dX11_image_16 : decode (mC mX11_image) 16 = .ok (.return_, 1) := by decide +kernel
set_option maxRecDepth 100000 in
theorem bX11_image_0 {sc : Nat × (Nat → Int32)} {h : jH} {Q : jQ} {P1 : jH → Prop}
    (k1 : JM mX6_copyOf [.ref 39, .ref 9] (jG0 sc) h (jvoid sc P1))
    (v1 : ∀ h1 : jH, P1 h1 → Q (.inl none) (jG0 sc) (jput h1 0 6 1)) :
    WP mX11_image Q 0 [some (.ref 0)] [] (jG0 sc) h (0, 0) := by
  refine j_aload_n (i := 0) rfl dX11_image_0 ?_
  refine j_getR (idx := 41) (ci := 11) (k := 5) (nest := false) (show (11, 41, 11, 5, false) ∈ jFT by decide) rfl (Nat.le_of_ble_eq_true rfl) rfl (a := 39) rfl dX11_image_1 ?_
  refine j_aload_n (i := 0) rfl dX11_image_4 ?_
  refine j_getR (idx := 37) (ci := 11) (k := 4) (nest := false) (show (11, 37, 11, 4, false) ∈ jFT by decide) rfl (Nat.le_of_ble_eq_true rfl) rfl (a := 9) rfl dX11_image_5 ?_
  refine j_callVN (idx := 442) (As := [.ref 9]) (ci := 6) (n := 1) k1 jvoid_nt (jTbl (jtb3 156 rfl)) sX6_copyOf kX6_copyOf rfl ⟨rfl, by decide +kernel, by decide +kernel, by decide +kernel⟩ rfl ⟨by decide, by decide⟩ (Nat.le_of_ble_eq_true rfl) rfl (Nat.le_of_ble_eq_true rfl) (Nat.le_of_ble_eq_true rfl) ⟨Nat.zero_le _, Nat.zero_le _⟩ dX11_image_8 (fun r Γ' h1 q => ?_)
  obtain ⟨q0, rfl, p1⟩ := q; cases q0
  refine j_eqst [] (by rfl) ?_
  refine j_aload_n (i := 0) rfl dX11_image_11 ?_
  refine j_iconst (n := 1) 1 (by decide) dX11_image_12 ?_
  refine j_putI (idx := 445) (ci := 11) (k := 6) (nest := false) (show (11, 445, 11, 6, false) ∈ jFT by decide) rfl rfl rfl rfl (Nat.le_of_ble_eq_true rfl) rfl dX11_image_13 ?_
  exact j_vret rfl (Nat.zero_le _) (Nat.zero_le _) dX11_image_16 (v1 h1 p1)
set_option maxRecDepth 100000 in
theorem rX11_image_0 {sc : Nat × (Nat → Int32)} {h : jH} {Q : jQ} {P1 : jH → Prop}
    (k1 : JM mX6_copyOf [.ref 39, .ref 9] (jG0 sc) h (jvoid sc P1))
    (v1 : ∀ h1 : jH, P1 h1 → Q (.inl none) (jG0 sc) (jput h1 0 6 1)) :
    WP mX11_image Q 0 [some (.ref 0)] [] (jG0 sc) h (0, 0) := by
  exact (bX11_image_0 k1 (fun h1 p1 => (v1 h1 p1)))
theorem dX11_back_0 : decode (mC mX11_back) 0 = .ok (.aload_n 0, 1) := by decide +kernel
theorem dX11_back_1 : decode (mC mX11_back) 1 = .ok (.getfield 445, 3) := by decide +kernel
theorem dX11_back_4 : decode (mC mX11_back) 4 = .ok (.ifCond .ne 5, 3) := by decide +kernel
theorem dX11_back_7 : decode (mC mX11_back) 7 = .ok (.iconst 0, 1) := by decide +kernel
theorem dX11_back_8 : decode (mC mX11_back) 8 = .ok (.ireturn, 1) := by decide +kernel
theorem dX11_back_9 : decode (mC mX11_back) 9 = .ok (.aload_n 0, 1) := by decide +kernel
theorem dX11_back_10 : decode (mC mX11_back) 10 = .ok (.getfield 37, 3) := by decide +kernel
theorem dX11_back_13 : decode (mC mX11_back) 13 = .ok (.aload_n 0, 1) := by decide +kernel
theorem dX11_back_14 : decode (mC mX11_back) 14 = .ok (.getfield 41, 3) := by decide +kernel
theorem dX11_back_17 : decode (mC mX11_back) 17 = .ok (.invokevirtual 442, 3) := by decide +kernel
theorem dX11_back_20 : decode (mC mX11_back) 20 = .ok (.aload_n 0, 1) := by decide +kernel
theorem dX11_back_21 : decode (mC mX11_back) 21 = .ok (.getfield 61, 3) := by decide +kernel
theorem dX11_back_24 : decode (mC mX11_back) 24 = .ok (.aload_n 0, 1) := by decide +kernel
theorem dX11_back_25 : decode (mC mX11_back) 25 = .ok (.getfield 37, 3) := by decide +kernel
theorem dX11_back_28 : decode (mC mX11_back) 28 = .ok (.getfield 127, 3) := by decide +kernel
theorem dX11_back_31 : decode (mC mX11_back) 31 = .ok (.invokevirtual 160, 3) := by decide +kernel
theorem dX11_back_34 : decode (mC mX11_back) 34 = .ok (.iconst 1, 1) := by decide +kernel
theorem dX11_back_35 : decode (mC mX11_back) 35 = .ok (.ireturn, 1) := by decide +kernel
set_option maxRecDepth 100000 in
theorem bX11_back_0 {sc : Nat × (Nat → Int32)} {h : jH} {Q : jQ}
    (v1 : ¬ (h 0 6) = 0 → WP mX11_back Q 9 [some (.ref 0)] [] (jG0 sc) h (0, 0))
    (v2 : (h 0 6) = 0 → WP mX11_back Q 7 [some (.ref 0)] [] (jG0 sc) h (0, 0)) :
    WP mX11_back Q 0 [some (.ref 0)] [] (jG0 sc) h (0, 0) := by
  refine j_aload_n (i := 0) rfl dX11_back_0 ?_
  refine j_getI (idx := 445) (ci := 11) (k := 6) (nest := false) (show (11, 445, 11, 6, false) ∈ jFT by decide) rfl (Nat.le_of_ble_eq_true rfl) rfl dX11_back_1 ?_
  refine j_if_ne (off := 5) 9 dX11_back_4 (by decide) (fun c1 => ?_) (fun c1 => ?_)
  · exact j_le [some (.ref 0)] (And.intro rfl True.intro) (v1 c1)
  · exact j_le [some (.ref 0)] (And.intro rfl True.intro) (v2 c1)
set_option maxRecDepth 100000 in
theorem bX11_back_7 {sc : Nat × (Nat → Int32)} {h : jH} {Q : jQ}
    (v1 : Q (.inl (some (.int 0))) (jG0 sc) h) :
    WP mX11_back Q 7 [some (.ref 0)] [] (jG0 sc) h (0, 0) := by
  refine j_iconst (n := 0) 0 (by decide) dX11_back_7 ?_
  exact j_iret rfl rfl (Nat.zero_le _) (Nat.zero_le _) dX11_back_8 v1
set_option maxRecDepth 100000 in
theorem bX11_back_9 {sc : Nat × (Nat → Int32)} {h : jH} {Q : jQ} {P1 : jH → Prop} {P2 : jH → Prop}
    (k1 : JM mX6_copyOf [.ref 9, .ref 39] (jG0 sc) h (jvoid sc P1))
    (k2 : ∀ h1 : jH, P1 h1 → JM mX3_of [.ref 75, .ref 10] (jG0 sc) h1 (jvoid sc P2))
    (v1 : ∀ h1 : jH, P1 h1 → ∀ h2 : jH, P2 h2 → Q (.inl (some (.int 1))) (jG0 sc) h2) :
    WP mX11_back Q 9 [some (.ref 0)] [] (jG0 sc) h (0, 0) := by
  refine j_aload_n (i := 0) rfl dX11_back_9 ?_
  refine j_getR (idx := 37) (ci := 11) (k := 4) (nest := false) (show (11, 37, 11, 4, false) ∈ jFT by decide) rfl (Nat.le_of_ble_eq_true rfl) rfl (a := 9) rfl dX11_back_10 ?_
  refine j_aload_n (i := 0) rfl dX11_back_13 ?_
  refine j_getR (idx := 41) (ci := 11) (k := 5) (nest := false) (show (11, 41, 11, 5, false) ∈ jFT by decide) rfl (Nat.le_of_ble_eq_true rfl) rfl (a := 39) rfl dX11_back_14 ?_
  refine j_callVN (idx := 442) (As := [.ref 39]) (ci := 6) (n := 1) k1 jvoid_nt (jTbl (jtb3 156 rfl)) sX6_copyOf kX6_copyOf rfl ⟨rfl, by decide +kernel, by decide +kernel, by decide +kernel⟩ rfl ⟨by decide, by decide⟩ (Nat.le_of_ble_eq_true rfl) rfl (Nat.le_of_ble_eq_true rfl) (Nat.le_of_ble_eq_true rfl) ⟨Nat.zero_le _, Nat.zero_le _⟩ dX11_back_17 (fun r Γ' h1 q => ?_)
  obtain ⟨q0, rfl, p1⟩ := q; cases q0
  refine j_eqst [] (by rfl) ?_
  refine j_aload_n (i := 0) rfl dX11_back_20 ?_
  refine j_getR (idx := 61) (ci := 11) (k := 9) (nest := false) (show (11, 61, 11, 9, false) ∈ jFT by decide) rfl (Nat.le_of_ble_eq_true rfl) rfl (a := 75) rfl dX11_back_21 ?_
  refine j_aload_n (i := 0) rfl dX11_back_24 ?_
  refine j_getR (idx := 37) (ci := 11) (k := 4) (nest := false) (show (11, 37, 11, 4, false) ∈ jFT by decide) rfl (Nat.le_of_ble_eq_true rfl) rfl (a := 9) rfl dX11_back_25 ?_
  refine j_getR (idx := 127) (ci := 6) (k := 0) (nest := true) (show (11, 127, 6, 0, true) ∈ jFT by decide) rfl (Nat.le_of_ble_eq_true rfl) rfl (a := 10) rfl dX11_back_28 ?_
  refine j_callVN (idx := 160) (As := [.ref 10]) (ci := 3) (n := 1) (k2 h1 p1) jvoid_nt (jTbl (jtb3 97 rfl)) sX3_of kX3_of rfl ⟨rfl, by decide +kernel, by decide +kernel, by decide +kernel⟩ rfl ⟨by decide, by decide⟩ (Nat.le_of_ble_eq_true rfl) rfl (Nat.le_of_ble_eq_true rfl) (Nat.le_of_ble_eq_true rfl) ⟨Nat.zero_le _, Nat.zero_le _⟩ dX11_back_31 (fun r Γ' h2 q => ?_)
  obtain ⟨q0, rfl, p2⟩ := q; cases q0
  refine j_eqst [] (by rfl) ?_
  refine j_iconst (n := 1) 1 (by decide) dX11_back_34 ?_
  exact j_iret rfl rfl (Nat.zero_le _) (Nat.zero_le _) dX11_back_35 (v1 h1 p1 h2 p2)
set_option maxRecDepth 100000 in
theorem rX11_back_0 {sc : Nat × (Nat → Int32)} {h : jH} {Q : jQ} {P1 : jH → Prop} {P2 : jH → Prop}
    (k1 : ¬ (h 0 6) = 0 → JM mX6_copyOf [.ref 9, .ref 39] (jG0 sc) h (jvoid sc P1))
    (k2 : ¬ (h 0 6) = 0 → ∀ h1 : jH, P1 h1 → JM mX3_of [.ref 75, .ref 10] (jG0 sc) h1 (jvoid sc P2))
    (v1 : ¬ (h 0 6) = 0 → ∀ h1 : jH, P1 h1 → ∀ h2 : jH, P2 h2 → Q (.inl (some (.int 1))) (jG0 sc) h2)
    (v2 : (h 0 6) = 0 → Q (.inl (some (.int 0))) (jG0 sc) h) :
    WP mX11_back Q 0 [some (.ref 0)] [] (jG0 sc) h (0, 0) := by
  exact (bX11_back_0 (fun c1 => (bX11_back_9 (k1 c1) (fun h1 p1 => (k2 c1 h1 p1)) (fun h1 p1 h2 p2 => (v1 c1 h1 p1 h2 p2)))) (fun c1 => (bX11_back_7 (v2 c1))))
theorem dX11_count_0 : decode (mC mX11_count) 0 = .ok (.aload_n 0, 1) := by decide +kernel
theorem dX11_count_1 : decode (mC mX11_count) 1 = .ok (.getfield 37, 3) := by decide +kernel
theorem dX11_count_4 : decode (mC mX11_count) 4 = .ok (.getfield 151, 3) := by decide +kernel
theorem dX11_count_7 : decode (mC mX11_count) 7 = .ok (.astore_n 2, 1) := by decide +kernel
theorem dX11_count_8 : decode (mC mX11_count) 8 = .ok (.iload_n 1, 1) := by decide +kernel
theorem dX11_count_9 : decode (mC mX11_count) 9 = .ok (.tableswitch 194 0 12 #[67, 78, 89, 126, 134, 142, 147, 152, 157, 162, 167, 175, 186], 67) := by decide +kernel
theorem dX11_count_76 : decode (mC mX11_count) 76 = .ok (.aload_n 0, 1) := by decide +kernel
theorem dX11_count_77 : decode (mC mX11_count) 77 = .ok (.getfield 37, 3) := by decide +kernel
theorem dX11_count_80 : decode (mC mX11_count) 80 = .ok (.getfield 127, 3) := by decide +kernel
theorem dX11_count_83 : decode (mC mX11_count) 83 = .ok (.getfield 136, 3) := by decide +kernel
theorem dX11_count_86 : decode (mC mX11_count) 86 = .ok (.ireturn, 1) := by decide +kernel
theorem dX11_count_87 : decode (mC mX11_count) 87 = .ok (.aload_n 0, 1) := by decide +kernel
theorem dX11_count_88 : decode (mC mX11_count) 88 = .ok (.getfield 37, 3) := by decide +kernel
theorem dX11_count_91 : decode (mC mX11_count) 91 = .ok (.getfield 169, 3) := by decide +kernel
theorem dX11_count_94 : decode (mC mX11_count) 94 = .ok (.getfield 173, 3) := by decide +kernel
theorem dX11_count_97 : decode (mC mX11_count) 97 = .ok (.ireturn, 1) := by decide +kernel
theorem dX11_count_98 : decode (mC mX11_count) 98 = .ok (.aload_n 0, 1) := by decide +kernel
theorem dX11_count_99 : decode (mC mX11_count) 99 = .ok (.invokevirtual 213, 3) := by decide +kernel
theorem dX11_count_102 : decode (mC mX11_count) 102 = .ok (.ifCond .eq 31, 3) := by decide +kernel
theorem dX11_count_105 : decode (mC mX11_count) 105 = .ok (.aload_n 0, 1) := by decide +kernel
theorem dX11_count_106 : decode (mC mX11_count) 106 = .ok (.getfield 37, 3) := by decide +kernel
theorem dX11_count_109 : decode (mC mX11_count) 109 = .ok (.getfield 169, 3) := by decide +kernel
theorem dX11_count_112 : decode (mC mX11_count) 112 = .ok (.getfield 173, 3) := by decide +kernel
theorem dX11_count_115 : decode (mC mX11_count) 115 = .ok (.aload_n 0, 1) := by decide +kernel
theorem dX11_count_116 : decode (mC mX11_count) 116 = .ok (.aload_n 0, 1) := by decide +kernel
theorem dX11_count_117 : decode (mC mX11_count) 117 = .ok (.getfield 37, 3) := by decide +kernel
theorem dX11_count_120 : decode (mC mX11_count) 120 = .ok (.getfield 127, 3) := by decide +kernel
theorem dX11_count_123 : decode (mC mX11_count) 123 = .ok (.invokevirtual 293, 3) := by decide +kernel
theorem dX11_count_126 : decode (mC mX11_count) 126 = .ok (.invokestatic 297, 3) := by decide +kernel
theorem dX11_count_129 : decode (mC mX11_count) 129 = .ok (.isub, 1) := by decide +kernel
theorem dX11_count_130 : decode (mC mX11_count) 130 = .ok (.goto 4, 3) := by decide +kernel
theorem dX11_count_133 : decode (mC mX11_count) 133 = .ok (.iconst 0, 1) := by decide +kernel
theorem dX11_count_134 : decode (mC mX11_count) 134 = .ok (.ireturn, 1) := by decide +kernel
theorem dX11_count_135 : decode (mC mX11_count) 135 = .ok (.aload_n 0, 1) := by decide +kernel
theorem dX11_count_136 : decode (mC mX11_count) 136 = .ok (.getfield 61, 3) := by decide +kernel
theorem dX11_count_139 : decode (mC mX11_count) 139 = .ok (.getfield 284, 3) := by decide +kernel
theorem dX11_count_142 : decode (mC mX11_count) 142 = .ok (.ireturn, 1) := by decide +kernel
theorem dX11_count_143 : decode (mC mX11_count) 143 = .ok (.aload_n 0, 1) := by decide +kernel
theorem dX11_count_144 : decode (mC mX11_count) 144 = .ok (.getfield 61, 3) := by decide +kernel
theorem dX11_count_147 : decode (mC mX11_count) 147 = .ok (.invokevirtual 449, 3) := by decide +kernel
theorem dX11_count_150 : decode (mC mX11_count) 150 = .ok (.ireturn, 1) := by decide +kernel
theorem dX11_count_151 : decode (mC mX11_count) 151 = .ok (.aload_n 2, 1) := by decide +kernel
theorem dX11_count_152 : decode (mC mX11_count) 152 = .ok (.getfield 319, 3) := by decide +kernel
theorem dX11_count_155 : decode (mC mX11_count) 155 = .ok (.ireturn, 1) := by decide +kernel
theorem dX11_count_156 : decode (mC mX11_count) 156 = .ok (.aload_n 2, 1) := by decide +kernel
theorem dX11_count_157 : decode (mC mX11_count) 157 = .ok (.getfield 187, 3) := by decide +kernel
theorem dX11_count_160 : decode (mC mX11_count) 160 = .ok (.ireturn, 1) := by decide +kernel
theorem dX11_count_161 : decode (mC mX11_count) 161 = .ok (.aload_n 2, 1) := by decide +kernel
theorem dX11_count_162 : decode (mC mX11_count) 162 = .ok (.getfield 452, 3) := by decide +kernel
theorem dX11_count_165 : decode (mC mX11_count) 165 = .ok (.ireturn, 1) := by decide +kernel
theorem dX11_count_166 : decode (mC mX11_count) 166 = .ok (.aload_n 2, 1) := by decide +kernel
theorem dX11_count_167 : decode (mC mX11_count) 167 = .ok (.getfield 200, 3) := by decide +kernel
theorem dX11_count_170 : decode (mC mX11_count) 170 = .ok (.ireturn, 1) := by decide +kernel
theorem dX11_count_171 : decode (mC mX11_count) 171 = .ok (.aload_n 2, 1) := by decide +kernel
theorem dX11_count_172 : decode (mC mX11_count) 172 = .ok (.getfield 394, 3) := by decide +kernel
theorem dX11_count_175 : decode (mC mX11_count) 175 = .ok (.ireturn, 1) := by decide +kernel
theorem dX11_count_176 : decode (mC mX11_count) 176 = .ok (.aload_n 0, 1) := by decide +kernel
theorem dX11_count_177 : decode (mC mX11_count) 177 = .ok (.getfield 37, 3) := by decide +kernel
theorem dX11_count_180 : decode (mC mX11_count) 180 = .ok (.getfield 130, 3) := by decide +kernel
theorem dX11_count_183 : decode (mC mX11_count) 183 = .ok (.ireturn, 1) := by decide +kernel
theorem dX11_count_184 : decode (mC mX11_count) 184 = .ok (.aload_n 0, 1) := by decide +kernel
theorem dX11_count_185 : decode (mC mX11_count) 185 = .ok (.getfield 37, 3) := by decide +kernel
theorem dX11_count_188 : decode (mC mX11_count) 188 = .ok (.getfield 117, 3) := by decide +kernel
theorem dX11_count_191 : decode (mC mX11_count) 191 = .ok (.getfield 136, 3) := by decide +kernel
theorem dX11_count_194 : decode (mC mX11_count) 194 = .ok (.ireturn, 1) := by decide +kernel
theorem dX11_count_195 : decode (mC mX11_count) 195 = .ok (.aload_n 0, 1) := by decide +kernel
theorem dX11_count_196 : decode (mC mX11_count) 196 = .ok (.getfield 37, 3) := by decide +kernel
theorem dX11_count_199 : decode (mC mX11_count) 199 = .ok (.getfield 351, 3) := by decide +kernel
theorem dX11_count_202 : decode (mC mX11_count) 202 = .ok (.ireturn, 1) := by decide +kernel
theorem dX11_count_203 : decode (mC mX11_count) 203 = .ok (.iconst (-1), 1) := by decide +kernel
theorem dX11_count_204 : decode (mC mX11_count) 204 = .ok (.ireturn, 1) := by decide +kernel
set_option maxRecDepth 100000 in
theorem bX11_count_0 {sc : Nat × (Nat → Int32)} {h : jH} {Q : jQ} {l1 : Int32}
    (v1 : ((l1 : Int32).toInt < 0 ∨ 12 < (l1 : Int32).toInt) → WP mX11_count Q 203 [some (.ref 0), some (.int l1), some (.ref 20)] [] (jG0 sc) h (0, 0))
    (v2 : (l1 : Int32).toInt = 0 → WP mX11_count Q 76 [some (.ref 0), some (.int l1), some (.ref 20)] [] (jG0 sc) h (0, 0))
    (v3 : (l1 : Int32).toInt = 1 → WP mX11_count Q 87 [some (.ref 0), some (.int l1), some (.ref 20)] [] (jG0 sc) h (0, 0))
    (v4 : (l1 : Int32).toInt = 2 → WP mX11_count Q 98 [some (.ref 0), some (.int l1), some (.ref 20)] [] (jG0 sc) h (0, 0))
    (v5 : (l1 : Int32).toInt = 3 → WP mX11_count Q 135 [some (.ref 0), some (.int l1), some (.ref 20)] [] (jG0 sc) h (0, 0))
    (v6 : (l1 : Int32).toInt = 4 → WP mX11_count Q 143 [some (.ref 0), some (.int l1), some (.ref 20)] [] (jG0 sc) h (0, 0))
    (v7 : (l1 : Int32).toInt = 5 → WP mX11_count Q 151 [some (.ref 0), some (.int l1), some (.ref 20)] [] (jG0 sc) h (0, 0))
    (v8 : (l1 : Int32).toInt = 6 → WP mX11_count Q 156 [some (.ref 0), some (.int l1), some (.ref 20)] [] (jG0 sc) h (0, 0))
    (v9 : (l1 : Int32).toInt = 7 → WP mX11_count Q 161 [some (.ref 0), some (.int l1), some (.ref 20)] [] (jG0 sc) h (0, 0))
    (v10 : (l1 : Int32).toInt = 8 → WP mX11_count Q 166 [some (.ref 0), some (.int l1), some (.ref 20)] [] (jG0 sc) h (0, 0))
    (v11 : (l1 : Int32).toInt = 9 → WP mX11_count Q 171 [some (.ref 0), some (.int l1), some (.ref 20)] [] (jG0 sc) h (0, 0))
    (v12 : (l1 : Int32).toInt = 10 → WP mX11_count Q 176 [some (.ref 0), some (.int l1), some (.ref 20)] [] (jG0 sc) h (0, 0))
    (v13 : (l1 : Int32).toInt = 11 → WP mX11_count Q 184 [some (.ref 0), some (.int l1), some (.ref 20)] [] (jG0 sc) h (0, 0))
    (v14 : (l1 : Int32).toInt = 12 → WP mX11_count Q 195 [some (.ref 0), some (.int l1), some (.ref 20)] [] (jG0 sc) h (0, 0)) :
    WP mX11_count Q 0 [some (.ref 0), some (.int l1), none] [] (jG0 sc) h (0, 0) := by
  refine j_aload_n (i := 0) rfl dX11_count_0 ?_
  refine j_getR (idx := 37) (ci := 11) (k := 4) (nest := false) (show (11, 37, 11, 4, false) ∈ jFT by decide) rfl (Nat.le_of_ble_eq_true rfl) rfl (a := 9) rfl dX11_count_1 ?_
  refine j_getR (idx := 151) (ci := 6) (k := 4) (nest := true) (show (11, 151, 6, 4, true) ∈ jFT by decide) rfl (Nat.le_of_ble_eq_true rfl) rfl (a := 20) rfl dX11_count_4 ?_
  refine j_astore_n (i := 2) dX11_count_7 (Nat.le_of_ble_eq_true rfl) ?_
  refine j_iload_n (i := 1) rfl dX11_count_8 ?_
  refine j_switch (dflt := 194) (lo := 0) (hi := 12) (offs := #[67, 78, 89, 126, 134, 142, 147, 152, 157, 162, 167, 175, 186]) (len := 67) [76, 87, 98, 135, 143, 151, 156, 161, 166, 171, 176, 184, 195] 203 dX11_count_9 (by decide) (by decide) (by decide) (fun c1 => ?_) ?_
  · exact j_le [some (.ref 0), some (.int l1), some (.ref 20)] (And.intro rfl (And.intro rfl (And.intro rfl True.intro))) (v1 c1)
  · refine ⟨fun q0 => ?_, fun q1 => ?_, fun q2 => ?_, fun q3 => ?_, fun q4 => ?_, fun q5 => ?_, fun q6 => ?_, fun q7 => ?_, fun q8 => ?_, fun q9 => ?_, fun q10 => ?_, fun q11 => ?_, fun q12 => ?_, True.intro⟩
    · exact j_le [some (.ref 0), some (.int l1), some (.ref 20)] (And.intro rfl (And.intro rfl (And.intro rfl True.intro))) (v2 q0)
    · exact j_le [some (.ref 0), some (.int l1), some (.ref 20)] (And.intro rfl (And.intro rfl (And.intro rfl True.intro))) (v3 q1)
    · exact j_le [some (.ref 0), some (.int l1), some (.ref 20)] (And.intro rfl (And.intro rfl (And.intro rfl True.intro))) (v4 q2)
    · exact j_le [some (.ref 0), some (.int l1), some (.ref 20)] (And.intro rfl (And.intro rfl (And.intro rfl True.intro))) (v5 q3)
    · exact j_le [some (.ref 0), some (.int l1), some (.ref 20)] (And.intro rfl (And.intro rfl (And.intro rfl True.intro))) (v6 q4)
    · exact j_le [some (.ref 0), some (.int l1), some (.ref 20)] (And.intro rfl (And.intro rfl (And.intro rfl True.intro))) (v7 q5)
    · exact j_le [some (.ref 0), some (.int l1), some (.ref 20)] (And.intro rfl (And.intro rfl (And.intro rfl True.intro))) (v8 q6)
    · exact j_le [some (.ref 0), some (.int l1), some (.ref 20)] (And.intro rfl (And.intro rfl (And.intro rfl True.intro))) (v9 q7)
    · exact j_le [some (.ref 0), some (.int l1), some (.ref 20)] (And.intro rfl (And.intro rfl (And.intro rfl True.intro))) (v10 q8)
    · exact j_le [some (.ref 0), some (.int l1), some (.ref 20)] (And.intro rfl (And.intro rfl (And.intro rfl True.intro))) (v11 q9)
    · exact j_le [some (.ref 0), some (.int l1), some (.ref 20)] (And.intro rfl (And.intro rfl (And.intro rfl True.intro))) (v12 q10)
    · exact j_le [some (.ref 0), some (.int l1), some (.ref 20)] (And.intro rfl (And.intro rfl (And.intro rfl True.intro))) (v13 q11)
    · exact j_le [some (.ref 0), some (.int l1), some (.ref 20)] (And.intro rfl (And.intro rfl (And.intro rfl True.intro))) (v14 q12)
set_option maxRecDepth 100000 in
theorem bX11_count_76 {sc : Nat × (Nat → Int32)} {h : jH} {Q : jQ} {l1 : Int32}
    (v1 : Q (.inl (some (.int (h 10 1)))) (jG0 sc) h) :
    WP mX11_count Q 76 [some (.ref 0), some (.int l1), some (.ref 20)] [] (jG0 sc) h (0, 0) := by
  refine j_aload_n (i := 0) rfl dX11_count_76 ?_
  refine j_getR (idx := 37) (ci := 11) (k := 4) (nest := false) (show (11, 37, 11, 4, false) ∈ jFT by decide) rfl (Nat.le_of_ble_eq_true rfl) rfl (a := 9) rfl dX11_count_77 ?_
  refine j_getR (idx := 127) (ci := 6) (k := 0) (nest := true) (show (11, 127, 6, 0, true) ∈ jFT by decide) rfl (Nat.le_of_ble_eq_true rfl) rfl (a := 10) rfl dX11_count_80 ?_
  refine j_getI (idx := 136) (ci := 4) (k := 1) (nest := true) (show (11, 136, 4, 1, true) ∈ jFT by decide) rfl (Nat.le_of_ble_eq_true rfl) rfl dX11_count_83 ?_
  exact j_iret rfl rfl (Nat.zero_le _) (Nat.zero_le _) dX11_count_86 v1
set_option maxRecDepth 100000 in
theorem bX11_count_87 {sc : Nat × (Nat → Int32)} {h : jH} {Q : jQ} {l1 : Int32}
    (v1 : Q (.inl (some (.int (h 14 3)))) (jG0 sc) h) :
    WP mX11_count Q 87 [some (.ref 0), some (.int l1), some (.ref 20)] [] (jG0 sc) h (0, 0) := by
  refine j_aload_n (i := 0) rfl dX11_count_87 ?_
  refine j_getR (idx := 37) (ci := 11) (k := 4) (nest := false) (show (11, 37, 11, 4, false) ∈ jFT by decide) rfl (Nat.le_of_ble_eq_true rfl) rfl (a := 9) rfl dX11_count_88 ?_
  refine j_getR (idx := 169) (ci := 6) (k := 2) (nest := true) (show (11, 169, 6, 2, true) ∈ jFT by decide) rfl (Nat.le_of_ble_eq_true rfl) rfl (a := 14) rfl dX11_count_91 ?_
  refine j_getI (idx := 173) (ci := 5) (k := 3) (nest := true) (show (11, 173, 5, 3, true) ∈ jFT by decide) rfl (Nat.le_of_ble_eq_true rfl) rfl dX11_count_94 ?_
  exact j_iret rfl rfl (Nat.zero_le _) (Nat.zero_le _) dX11_count_97 v1
set_option maxRecDepth 100000 in
theorem bX11_count_98 {sc : Nat × (Nat → Int32)} {h : jH} {Q : jQ} {l1 : Int32} {P1 : Int32 → jH → Prop}
    (k1 : JM mX11_hasBody [.ref 0] (jG0 sc) h (jint sc P1))
    (v1 : ∀ (x1 : Int32) (h1 : jH), P1 x1 h1 → x1 = 0 → WP mX11_count Q 133 [some (.ref 0), some (.int l1), some (.ref 20)] [] (jG0 sc) h1 (0, 0))
    (v2 : ∀ (x1 : Int32) (h1 : jH), P1 x1 h1 → ¬ x1 = 0 → WP mX11_count Q 105 [some (.ref 0), some (.int l1), some (.ref 20)] [] (jG0 sc) h1 (0, 0)) :
    WP mX11_count Q 98 [some (.ref 0), some (.int l1), some (.ref 20)] [] (jG0 sc) h (0, 0) := by
  refine j_aload_n (i := 0) rfl dX11_count_98 ?_
  refine j_callV (idx := 213) (As := []) (ci := 11) (n := 0) k1 jint_nt (jlkT (jtb3 180 rfl) rfl) sX11_hasBody kX11_hasBody rfl ⟨rfl, by decide +kernel, by decide +kernel, by decide +kernel⟩ rfl ⟨by decide, by decide⟩ (Nat.le_of_ble_eq_true rfl) rfl (Nat.le_of_ble_eq_true rfl) (Nat.le_of_ble_eq_true rfl) ⟨Nat.zero_le _, Nat.zero_le _⟩ dX11_count_99 (fun r Γ' h1 q => ?_)
  obtain ⟨x1, q0, rfl, p1⟩ := q; cases q0
  refine j_eqst [.int x1] (by rfl) ?_
  refine j_if_eq (off := 31) 133 dX11_count_102 (by decide) (fun c1 => ?_) (fun c1 => ?_)
  · exact j_le [some (.ref 0), some (.int l1), some (.ref 20)] (And.intro rfl (And.intro rfl (And.intro rfl True.intro))) (v1 x1 h1 p1 c1)
  · exact j_le [some (.ref 0), some (.int l1), some (.ref 20)] (And.intro rfl (And.intro rfl (And.intro rfl True.intro))) (v2 x1 h1 p1 c1)
set_option maxRecDepth 100000 in
theorem bX11_count_105 {sc : Nat × (Nat → Int32)} {h : jH} {Q : jQ} {l1 : Int32} {P1 : Int32 → jH → Prop} {P2 : Int32 → jH → Prop}
    (k1 : JM mX11_rightBits [.ref 0, .ref 10] (jG0 sc) h (jint sc P1))
    (k2 : ∀ (x1 : Int32) (h1 : jH), P1 x1 h1 → JM mJbitCount [.int x1] (jG0 sc) h1 (jint sc P2))
    (v1 : ∀ (x1 : Int32) (h1 : jH), P1 x1 h1 → ∀ (x2 : Int32) (h2 : jH), P2 x2 h2 → WP mX11_count Q 134 [some (.ref 0), some (.int l1), some (.ref 20)] [.int ((h 14 3) - x2)] (jG0 sc) h2 (0, 0)) :
    WP mX11_count Q 105 [some (.ref 0), some (.int l1), some (.ref 20)] [] (jG0 sc) h (0, 0) := by
  refine j_aload_n (i := 0) rfl dX11_count_105 ?_
  refine j_getR (idx := 37) (ci := 11) (k := 4) (nest := false) (show (11, 37, 11, 4, false) ∈ jFT by decide) rfl (Nat.le_of_ble_eq_true rfl) rfl (a := 9) rfl dX11_count_106 ?_
  refine j_getR (idx := 169) (ci := 6) (k := 2) (nest := true) (show (11, 169, 6, 2, true) ∈ jFT by decide) rfl (Nat.le_of_ble_eq_true rfl) rfl (a := 14) rfl dX11_count_109 ?_
  refine j_getI (idx := 173) (ci := 5) (k := 3) (nest := true) (show (11, 173, 5, 3, true) ∈ jFT by decide) rfl (Nat.le_of_ble_eq_true rfl) rfl dX11_count_112 ?_
  refine j_aload_n (i := 0) rfl dX11_count_115 ?_
  refine j_aload_n (i := 0) rfl dX11_count_116 ?_
  refine j_getR (idx := 37) (ci := 11) (k := 4) (nest := false) (show (11, 37, 11, 4, false) ∈ jFT by decide) rfl (Nat.le_of_ble_eq_true rfl) rfl (a := 9) rfl dX11_count_117 ?_
  refine j_getR (idx := 127) (ci := 6) (k := 0) (nest := true) (show (11, 127, 6, 0, true) ∈ jFT by decide) rfl (Nat.le_of_ble_eq_true rfl) rfl (a := 10) rfl dX11_count_120 ?_
  refine j_callV (idx := 293) (As := [.ref 10]) (ci := 11) (n := 1) k1 jint_nt (jlkT (jtb3 184 rfl) rfl) sX11_rightBits kX11_rightBits rfl ⟨rfl, by decide +kernel, by decide +kernel, by decide +kernel⟩ rfl ⟨by decide, by decide⟩ (Nat.le_of_ble_eq_true rfl) rfl (Nat.le_of_ble_eq_true rfl) (Nat.le_of_ble_eq_true rfl) ⟨Nat.zero_le _, Nat.zero_le _⟩ dX11_count_123 (fun r Γ' h1 q => ?_)
  obtain ⟨x1, q0, rfl, p1⟩ := q; cases q0
  refine j_eqst [.int x1, .int (h 14 3)] (by rfl) ?_
  refine j_callS (idx := 297) (As := [.int x1]) (n := 1) (k2 x1 h1 p1) jint_nt (jlkT (jtb3 188 rfl) rfl) sJbitCount kJbitCount rfl ⟨by decide +kernel, by decide +kernel, by decide +kernel⟩ rfl ⟨by decide, by decide⟩ (Nat.le_of_ble_eq_true rfl) ⟨Nat.zero_le _, Nat.zero_le _⟩ dX11_count_126 (fun r Γ' h2 q => ?_)
  obtain ⟨x2, q0, rfl, p2⟩ := q; cases q0
  refine j_eqst [.int x2, .int (h 14 3)] (by rfl) ?_
  refine j_isub dX11_count_129 ?_
  refine j_goto (off := 4) 134 dX11_count_130 (by decide) ?_
  exact j_le [some (.ref 0), some (.int l1), some (.ref 20)] (And.intro rfl (And.intro rfl (And.intro rfl True.intro))) (v1 x1 h1 p1 x2 h2 p2)
set_option maxRecDepth 100000 in
theorem bX11_count_133 {sc : Nat × (Nat → Int32)} {h : jH} {Q : jQ} {l1 : Int32}
    (v1 : WP mX11_count Q 134 [some (.ref 0), some (.int l1), some (.ref 20)] [.int 0] (jG0 sc) h (0, 0)) :
    WP mX11_count Q 133 [some (.ref 0), some (.int l1), some (.ref 20)] [] (jG0 sc) h (0, 0) := by
  refine j_iconst (n := 0) 0 (by decide) dX11_count_133 ?_
  exact j_le [some (.ref 0), some (.int l1), some (.ref 20)] (And.intro rfl (And.intro rfl (And.intro rfl True.intro))) v1
set_option maxRecDepth 100000 in
theorem bX11_count_134 {sc : Nat × (Nat → Int32)} {h : jH} {Q : jQ} {l1 s0 : Int32}
    (v1 : Q (.inl (some (.int s0))) (jG0 sc) h) :
    WP mX11_count Q 134 [some (.ref 0), some (.int l1), some (.ref 20)] [.int s0] (jG0 sc) h (0, 0) := by
  exact j_iret rfl rfl (Nat.zero_le _) (Nat.zero_le _) dX11_count_134 v1
set_option maxRecDepth 100000 in
theorem bX11_count_135 {sc : Nat × (Nat → Int32)} {h : jH} {Q : jQ} {l1 : Int32}
    (v1 : Q (.inl (some (.int (h 75 6)))) (jG0 sc) h) :
    WP mX11_count Q 135 [some (.ref 0), some (.int l1), some (.ref 20)] [] (jG0 sc) h (0, 0) := by
  refine j_aload_n (i := 0) rfl dX11_count_135 ?_
  refine j_getR (idx := 61) (ci := 11) (k := 9) (nest := false) (show (11, 61, 11, 9, false) ∈ jFT by decide) rfl (Nat.le_of_ble_eq_true rfl) rfl (a := 75) rfl dX11_count_136 ?_
  refine j_getI (idx := 284) (ci := 3) (k := 6) (nest := true) (show (11, 284, 3, 6, true) ∈ jFT by decide) rfl (Nat.le_of_ble_eq_true rfl) rfl dX11_count_139 ?_
  exact j_iret rfl rfl (Nat.zero_le _) (Nat.zero_le _) dX11_count_142 v1
set_option maxRecDepth 100000 in
theorem bX11_count_143 {sc : Nat × (Nat → Int32)} {h : jH} {Q : jQ} {l1 : Int32} {P1 : Int32 → jH → Prop}
    (k1 : JM mX3_pairs [.ref 75] (jG0 sc) h (jint sc P1))
    (v1 : ∀ (x1 : Int32) (h1 : jH), P1 x1 h1 → Q (.inl (some (.int x1))) (jG0 sc) h1) :
    WP mX11_count Q 143 [some (.ref 0), some (.int l1), some (.ref 20)] [] (jG0 sc) h (0, 0) := by
  refine j_aload_n (i := 0) rfl dX11_count_143 ?_
  refine j_getR (idx := 61) (ci := 11) (k := 9) (nest := false) (show (11, 61, 11, 9, false) ∈ jFT by decide) rfl (Nat.le_of_ble_eq_true rfl) rfl (a := 75) rfl dX11_count_144 ?_
  refine j_callVN (idx := 449) (As := []) (ci := 3) (n := 0) k1 jint_nt (jTbl (jtb3 194 rfl)) sX3_pairs kX3_pairs rfl ⟨rfl, by decide +kernel, by decide +kernel, by decide +kernel⟩ rfl ⟨by decide, by decide⟩ (Nat.le_of_ble_eq_true rfl) rfl (Nat.le_of_ble_eq_true rfl) (Nat.le_of_ble_eq_true rfl) ⟨Nat.zero_le _, Nat.zero_le _⟩ dX11_count_147 (fun r Γ' h1 q => ?_)
  obtain ⟨x1, q0, rfl, p1⟩ := q; cases q0
  refine j_eqst [.int x1] (by rfl) ?_
  exact j_iret rfl rfl (Nat.zero_le _) (Nat.zero_le _) dX11_count_150 (v1 x1 h1 p1)
set_option maxRecDepth 100000 in
theorem bX11_count_151 {sc : Nat × (Nat → Int32)} {h : jH} {Q : jQ} {l1 : Int32}
    (v1 : Q (.inl (some (.int (h 20 2)))) (jG0 sc) h) :
    WP mX11_count Q 151 [some (.ref 0), some (.int l1), some (.ref 20)] [] (jG0 sc) h (0, 0) := by
  refine j_aload_n (i := 2) rfl dX11_count_151 ?_
  refine j_getI (idx := 319) (ci := 9) (k := 2) (nest := true) (show (11, 319, 9, 2, true) ∈ jFT by decide) rfl (Nat.le_of_ble_eq_true rfl) rfl dX11_count_152 ?_
  exact j_iret rfl rfl (Nat.zero_le _) (Nat.zero_le _) dX11_count_155 v1
set_option maxRecDepth 100000 in
theorem bX11_count_156 {sc : Nat × (Nat → Int32)} {h : jH} {Q : jQ} {l1 : Int32}
    (v1 : Q (.inl (some (.int (h 20 1)))) (jG0 sc) h) :
    WP mX11_count Q 156 [some (.ref 0), some (.int l1), some (.ref 20)] [] (jG0 sc) h (0, 0) := by
  refine j_aload_n (i := 2) rfl dX11_count_156 ?_
  refine j_getI (idx := 187) (ci := 9) (k := 1) (nest := true) (show (11, 187, 9, 1, true) ∈ jFT by decide) rfl (Nat.le_of_ble_eq_true rfl) rfl dX11_count_157 ?_
  exact j_iret rfl rfl (Nat.zero_le _) (Nat.zero_le _) dX11_count_160 v1
set_option maxRecDepth 100000 in
theorem bX11_count_161 {sc : Nat × (Nat → Int32)} {h : jH} {Q : jQ} {l1 : Int32}
    (v1 : Q (.inl (some (.int (h 20 3)))) (jG0 sc) h) :
    WP mX11_count Q 161 [some (.ref 0), some (.int l1), some (.ref 20)] [] (jG0 sc) h (0, 0) := by
  refine j_aload_n (i := 2) rfl dX11_count_161 ?_
  refine j_getI (idx := 452) (ci := 9) (k := 3) (nest := true) (show (11, 452, 9, 3, true) ∈ jFT by decide) rfl (Nat.le_of_ble_eq_true rfl) rfl dX11_count_162 ?_
  exact j_iret rfl rfl (Nat.zero_le _) (Nat.zero_le _) dX11_count_165 v1
set_option maxRecDepth 100000 in
theorem bX11_count_166 {sc : Nat × (Nat → Int32)} {h : jH} {Q : jQ} {l1 : Int32}
    (v1 : Q (.inl (some (.int (h 20 4)))) (jG0 sc) h) :
    WP mX11_count Q 166 [some (.ref 0), some (.int l1), some (.ref 20)] [] (jG0 sc) h (0, 0) := by
  refine j_aload_n (i := 2) rfl dX11_count_166 ?_
  refine j_getI (idx := 200) (ci := 9) (k := 4) (nest := true) (show (11, 200, 9, 4, true) ∈ jFT by decide) rfl (Nat.le_of_ble_eq_true rfl) rfl dX11_count_167 ?_
  exact j_iret rfl rfl (Nat.zero_le _) (Nat.zero_le _) dX11_count_170 v1
set_option maxRecDepth 100000 in
theorem bX11_count_171 {sc : Nat × (Nat → Int32)} {h : jH} {Q : jQ} {l1 : Int32}
    (v1 : Q (.inl (some (.int (h 20 5)))) (jG0 sc) h) :
    WP mX11_count Q 171 [some (.ref 0), some (.int l1), some (.ref 20)] [] (jG0 sc) h (0, 0) := by
  refine j_aload_n (i := 2) rfl dX11_count_171 ?_
  refine j_getI (idx := 394) (ci := 9) (k := 5) (nest := true) (show (11, 394, 9, 5, true) ∈ jFT by decide) rfl (Nat.le_of_ble_eq_true rfl) rfl dX11_count_172 ?_
  exact j_iret rfl rfl (Nat.zero_le _) (Nat.zero_le _) dX11_count_175 v1
set_option maxRecDepth 100000 in
theorem bX11_count_176 {sc : Nat × (Nat → Int32)} {h : jH} {Q : jQ} {l1 : Int32}
    (v1 : Q (.inl (some (.int (h 9 7)))) (jG0 sc) h) :
    WP mX11_count Q 176 [some (.ref 0), some (.int l1), some (.ref 20)] [] (jG0 sc) h (0, 0) := by
  refine j_aload_n (i := 0) rfl dX11_count_176 ?_
  refine j_getR (idx := 37) (ci := 11) (k := 4) (nest := false) (show (11, 37, 11, 4, false) ∈ jFT by decide) rfl (Nat.le_of_ble_eq_true rfl) rfl (a := 9) rfl dX11_count_177 ?_
  refine j_getI (idx := 130) (ci := 6) (k := 7) (nest := true) (show (11, 130, 6, 7, true) ∈ jFT by decide) rfl (Nat.le_of_ble_eq_true rfl) rfl dX11_count_180 ?_
  exact j_iret rfl rfl (Nat.zero_le _) (Nat.zero_le _) dX11_count_183 v1
set_option maxRecDepth 100000 in
theorem bX11_count_184 {sc : Nat × (Nat → Int32)} {h : jH} {Q : jQ} {l1 : Int32}
    (v1 : Q (.inl (some (.int (h 12 1)))) (jG0 sc) h) :
    WP mX11_count Q 184 [some (.ref 0), some (.int l1), some (.ref 20)] [] (jG0 sc) h (0, 0) := by
  refine j_aload_n (i := 0) rfl dX11_count_184 ?_
  refine j_getR (idx := 37) (ci := 11) (k := 4) (nest := false) (show (11, 37, 11, 4, false) ∈ jFT by decide) rfl (Nat.le_of_ble_eq_true rfl) rfl (a := 9) rfl dX11_count_185 ?_
  refine j_getR (idx := 117) (ci := 6) (k := 1) (nest := true) (show (11, 117, 6, 1, true) ∈ jFT by decide) rfl (Nat.le_of_ble_eq_true rfl) rfl (a := 12) rfl dX11_count_188 ?_
  refine j_getI (idx := 136) (ci := 4) (k := 1) (nest := true) (show (11, 136, 4, 1, true) ∈ jFT by decide) rfl (Nat.le_of_ble_eq_true rfl) rfl dX11_count_191 ?_
  exact j_iret rfl rfl (Nat.zero_le _) (Nat.zero_le _) dX11_count_194 v1
set_option maxRecDepth 100000 in
theorem bX11_count_195 {sc : Nat × (Nat → Int32)} {h : jH} {Q : jQ} {l1 : Int32}
    (v1 : Q (.inl (some (.int (h 9 8)))) (jG0 sc) h) :
    WP mX11_count Q 195 [some (.ref 0), some (.int l1), some (.ref 20)] [] (jG0 sc) h (0, 0) := by
  refine j_aload_n (i := 0) rfl dX11_count_195 ?_
  refine j_getR (idx := 37) (ci := 11) (k := 4) (nest := false) (show (11, 37, 11, 4, false) ∈ jFT by decide) rfl (Nat.le_of_ble_eq_true rfl) rfl (a := 9) rfl dX11_count_196 ?_
  refine j_getI (idx := 351) (ci := 6) (k := 8) (nest := true) (show (11, 351, 6, 8, true) ∈ jFT by decide) rfl (Nat.le_of_ble_eq_true rfl) rfl dX11_count_199 ?_
  exact j_iret rfl rfl (Nat.zero_le _) (Nat.zero_le _) dX11_count_202 v1
set_option maxRecDepth 100000 in
theorem bX11_count_203 {sc : Nat × (Nat → Int32)} {h : jH} {Q : jQ} {l1 : Int32}
    (v1 : Q (.inl (some (.int (-1)))) (jG0 sc) h) :
    WP mX11_count Q 203 [some (.ref 0), some (.int l1), some (.ref 20)] [] (jG0 sc) h (0, 0) := by
  refine j_iconst (n := (-1)) (-1) (by decide) dX11_count_203 ?_
  exact j_iret rfl rfl (Nat.zero_le _) (Nat.zero_le _) dX11_count_204 v1
set_option maxRecDepth 100000 in
theorem rX11_count_0 {sc : Nat × (Nat → Int32)} {h : jH} {Q : jQ} {l1 : Int32} {P1 : Int32 → jH → Prop} {P2 : Int32 → jH → Prop} {P3 : Int32 → jH → Prop} {P4 : Int32 → jH → Prop}
    (v1 : ((l1 : Int32).toInt < 0 ∨ 12 < (l1 : Int32).toInt) → Q (.inl (some (.int (-1)))) (jG0 sc) h)
    (v2 : (l1 : Int32).toInt = 0 → Q (.inl (some (.int (h 10 1)))) (jG0 sc) h)
    (v3 : (l1 : Int32).toInt = 1 → Q (.inl (some (.int (h 14 3)))) (jG0 sc) h)
    (k1 : (l1 : Int32).toInt = 2 → JM mX11_hasBody [.ref 0] (jG0 sc) h (jint sc P1))
    (v4 : (l1 : Int32).toInt = 2 → ∀ (x1 : Int32) (h1 : jH), P1 x1 h1 → x1 = 0 → Q (.inl (some (.int 0))) (jG0 sc) h1)
    (k2 : (l1 : Int32).toInt = 2 → ∀ (x1 : Int32) (h1 : jH), P1 x1 h1 → ¬ x1 = 0 → JM mX11_rightBits [.ref 0, .ref 10] (jG0 sc) h1 (jint sc P2))
    (k3 : (l1 : Int32).toInt = 2 → ∀ (x1 : Int32) (h1 : jH), P1 x1 h1 → ¬ x1 = 0 → ∀ (x2 : Int32) (h2 : jH), P2 x2 h2 → JM mJbitCount [.int x2] (jG0 sc) h2 (jint sc P3))
    (v5 : (l1 : Int32).toInt = 2 → ∀ (x1 : Int32) (h1 : jH), P1 x1 h1 → ¬ x1 = 0 → ∀ (x2 : Int32) (h2 : jH), P2 x2 h2 → ∀ (x3 : Int32) (h3 : jH), P3 x3 h3 → Q (.inl (some (.int ((h1 14 3) - x3)))) (jG0 sc) h3)
    (v6 : (l1 : Int32).toInt = 3 → Q (.inl (some (.int (h 75 6)))) (jG0 sc) h)
    (k4 : (l1 : Int32).toInt = 4 → JM mX3_pairs [.ref 75] (jG0 sc) h (jint sc P4))
    (v7 : (l1 : Int32).toInt = 4 → ∀ (x4 : Int32) (h4 : jH), P4 x4 h4 → Q (.inl (some (.int x4))) (jG0 sc) h4)
    (v8 : (l1 : Int32).toInt = 5 → Q (.inl (some (.int (h 20 2)))) (jG0 sc) h)
    (v9 : (l1 : Int32).toInt = 6 → Q (.inl (some (.int (h 20 1)))) (jG0 sc) h)
    (v10 : (l1 : Int32).toInt = 7 → Q (.inl (some (.int (h 20 3)))) (jG0 sc) h)
    (v11 : (l1 : Int32).toInt = 8 → Q (.inl (some (.int (h 20 4)))) (jG0 sc) h)
    (v12 : (l1 : Int32).toInt = 9 → Q (.inl (some (.int (h 20 5)))) (jG0 sc) h)
    (v13 : (l1 : Int32).toInt = 10 → Q (.inl (some (.int (h 9 7)))) (jG0 sc) h)
    (v14 : (l1 : Int32).toInt = 11 → Q (.inl (some (.int (h 12 1)))) (jG0 sc) h)
    (v15 : (l1 : Int32).toInt = 12 → Q (.inl (some (.int (h 9 8)))) (jG0 sc) h) :
    WP mX11_count Q 0 [some (.ref 0), some (.int l1), none] [] (jG0 sc) h (0, 0) := by
  exact (bX11_count_0 (fun c1 => (bX11_count_203 (v1 c1))) (fun q0 => (bX11_count_76 (v2 q0))) (fun q1 => (bX11_count_87 (v3 q1))) (fun q2 => (bX11_count_98 (k1 q2) (fun x1 h1 p1 c2 => (bX11_count_133 (bX11_count_134 (v4 q2 x1 h1 p1 c2)))) (fun x1 h1 p1 c2 => (bX11_count_105 (k2 q2 x1 h1 p1 c2) (fun x2 h2 p2 => (k3 q2 x1 h1 p1 c2 x2 h2 p2)) (fun x2 h2 p2 x3 h3 p3 => (bX11_count_134 (v5 q2 x1 h1 p1 c2 x2 h2 p2 x3 h3 p3))))))) (fun q3 => (bX11_count_135 (v6 q3))) (fun q4 => (bX11_count_143 (k4 q4) (fun x4 h4 p4 => (v7 q4 x4 h4 p4)))) (fun q5 => (bX11_count_151 (v8 q5))) (fun q6 => (bX11_count_156 (v9 q6))) (fun q7 => (bX11_count_161 (v10 q7))) (fun q8 => (bX11_count_166 (v11 q8))) (fun q9 => (bX11_count_171 (v12 q9))) (fun q10 => (bX11_count_176 (v13 q10))) (fun q11 => (bX11_count_184 (v14 q11))) (fun q12 => (bX11_count_195 (v15 q12))))
theorem dX11_packed_0 : decode (mC mX11_packed) 0 = .ok (.iload_n 0, 1) := by decide +kernel
theorem dX11_packed_1 : decode (mC mX11_packed) 1 = .ok (.iload_n 1, 1) := by decide +kernel
theorem dX11_packed_2 : decode (mC mX11_packed) 2 = .ok (.iconst 1, 1) := by decide +kernel
theorem dX11_packed_3 : decode (mC mX11_packed) 3 = .ok (.iadd, 1) := by decide +kernel
theorem dX11_packed_4 : decode (mC mX11_packed) 4 = .ok (.iconst 3, 1) := by decide +kernel
theorem dX11_packed_5 : decode (mC mX11_packed) 5 = .ok (.ishl, 1) := by decide +kernel
theorem dX11_packed_6 : decode (mC mX11_packed) 6 = .ok (.ior, 1) := by decide +kernel
theorem dX11_packed_7 : decode (mC mX11_packed) 7 = .ok (.iload_n 2, 1) := by decide +kernel
theorem dX11_packed_8 : decode (mC mX11_packed) 8 = .ok (.iconst 1, 1) := by decide +kernel
theorem dX11_packed_9 : decode (mC mX11_packed) 9 = .ok (.iadd, 1) := by decide +kernel
theorem dX11_packed_10 : decode (mC mX11_packed) 10 = .ok (.bipush 6, 2) := by decide +kernel
theorem dX11_packed_12 : decode (mC mX11_packed) 12 = .ok (.ishl, 1) := by decide +kernel
theorem dX11_packed_13 : decode (mC mX11_packed) 13 = .ok (.ior, 1) := by decide +kernel
theorem dX11_packed_14 : decode (mC mX11_packed) 14 = .ok (.iload_n 3, 1) := by decide +kernel
theorem dX11_packed_15 : decode (mC mX11_packed) 15 = .ok (.bipush 13, 2) := by decide +kernel
theorem dX11_packed_17 : decode (mC mX11_packed) 17 = .ok (.ishl, 1) := by decide +kernel
theorem dX11_packed_18 : decode (mC mX11_packed) 18 = .ok (.ior, 1) := by decide +kernel
theorem dX11_packed_19 : decode (mC mX11_packed) 19 = .ok (.iload 4, 2) := by decide +kernel
theorem dX11_packed_21 : decode (mC mX11_packed) 21 = .ok (.iconst 1, 1) := by decide +kernel
theorem dX11_packed_22 : decode (mC mX11_packed) 22 = .ok (.iadd, 1) := by decide +kernel
theorem dX11_packed_23 : decode (mC mX11_packed) 23 = .ok (.bipush 17, 2) := by decide +kernel
theorem dX11_packed_25 : decode (mC mX11_packed) 25 = .ok (.ishl, 1) := by decide +kernel
theorem dX11_packed_26 : decode (mC mX11_packed) 26 = .ok (.ior, 1) := by decide +kernel
theorem dX11_packed_27 : decode (mC mX11_packed) 27 = .ok (.iload 5, 2) := by decide +kernel
theorem dX11_packed_29 : decode (mC mX11_packed) 29 = .ok (.bipush 24, 2) := by decide +kernel
theorem dX11_packed_31 : decode (mC mX11_packed) 31 = .ok (.ishl, 1) := by decide +kernel
theorem dX11_packed_32 : decode (mC mX11_packed) 32 = .ok (.ior, 1) := by decide +kernel
theorem dX11_packed_33 : decode (mC mX11_packed) 33 = .ok (.ireturn, 1) := by decide +kernel
set_option maxRecDepth 100000 in
theorem bX11_packed_0 {sc : Nat × (Nat → Int32)} {h : jH} {Q : jQ} {l0 l1 l2 l3 l4 l5 : Int32}
    (v1 : WP mX11_packed Q 27 [some (.int l0), some (.int l1), some (.int l2), some (.int l3), some (.int l4), some (.int l5)] [.int ((((l0 ||| ((l1 + 1) <<< 3)) ||| ((l2 + 1) <<< 6)) ||| (l3 <<< 13)) ||| ((l4 + 1) <<< 17))] (jG0 sc) h (0, 0)) :
    WP mX11_packed Q 0 [some (.int l0), some (.int l1), some (.int l2), some (.int l3), some (.int l4), some (.int l5)] [] (jG0 sc) h (0, 0) := by
  refine j_iload_n (i := 0) rfl dX11_packed_0 ?_
  refine j_iload_n (i := 1) rfl dX11_packed_1 ?_
  refine j_iconst (n := 1) 1 (by decide) dX11_packed_2 ?_
  refine j_iadd dX11_packed_3 ?_
  refine j_iconst (n := 3) 3 (by decide) dX11_packed_4 ?_
  refine j_ishl dX11_packed_5 ?_
  refine j_eqst [.int ((l1 + 1) <<< 3), .int l0] (by rfl) ?_
  refine j_ior dX11_packed_6 ?_
  refine j_iload_n (i := 2) rfl dX11_packed_7 ?_
  refine j_iconst (n := 1) 1 (by decide) dX11_packed_8 ?_
  refine j_iadd dX11_packed_9 ?_
  refine j_bipush (n := 6) 6 (by decide) dX11_packed_10 ?_
  refine j_ishl dX11_packed_12 ?_
  refine j_eqst [.int ((l2 + 1) <<< 6), .int (l0 ||| ((l1 + 1) <<< 3))] (by rfl) ?_
  refine j_ior dX11_packed_13 ?_
  refine j_iload_n (i := 3) rfl dX11_packed_14 ?_
  refine j_bipush (n := 13) 13 (by decide) dX11_packed_15 ?_
  refine j_ishl dX11_packed_17 ?_
  refine j_eqst [.int (l3 <<< 13), .int ((l0 ||| ((l1 + 1) <<< 3)) ||| ((l2 + 1) <<< 6))] (by rfl) ?_
  refine j_ior dX11_packed_18 ?_
  refine j_iload (i := 4) rfl dX11_packed_19 ?_
  refine j_iconst (n := 1) 1 (by decide) dX11_packed_21 ?_
  refine j_iadd dX11_packed_22 ?_
  refine j_bipush (n := 17) 17 (by decide) dX11_packed_23 ?_
  refine j_ishl dX11_packed_25 ?_
  refine j_eqst [.int ((l4 + 1) <<< 17), .int (((l0 ||| ((l1 + 1) <<< 3)) ||| ((l2 + 1) <<< 6)) ||| (l3 <<< 13))] (by rfl) ?_
  refine j_ior dX11_packed_26 ?_
  exact j_le [some (.int l0), some (.int l1), some (.int l2), some (.int l3), some (.int l4), some (.int l5)] (And.intro rfl (And.intro rfl (And.intro rfl (And.intro rfl (And.intro rfl (And.intro rfl True.intro)))))) v1
set_option maxRecDepth 100000 in
theorem bX11_packed_27 {sc : Nat × (Nat → Int32)} {h : jH} {Q : jQ} {l0 l1 l2 l3 l4 l5 s0 : Int32}
    (v1 : Q (.inl (some (.int (s0 ||| (l5 <<< 24))))) (jG0 sc) h) :
    WP mX11_packed Q 27 [some (.int l0), some (.int l1), some (.int l2), some (.int l3), some (.int l4), some (.int l5)] [.int s0] (jG0 sc) h (0, 0) := by
  refine j_iload (i := 5) rfl dX11_packed_27 ?_
  refine j_bipush (n := 24) 24 (by decide) dX11_packed_29 ?_
  refine j_ishl dX11_packed_31 ?_
  refine j_eqst [.int (l5 <<< 24), .int s0] (by rfl) ?_
  refine j_ior dX11_packed_32 ?_
  exact j_iret rfl rfl (Nat.zero_le _) (Nat.zero_le _) dX11_packed_33 v1
set_option maxRecDepth 100000 in
theorem rX11_packed_0 {sc : Nat × (Nat → Int32)} {h : jH} {Q : jQ} {l0 l1 l2 l3 l4 l5 : Int32}
    (v1 : Q (.inl (some (.int (((((l0 ||| ((l1 + 1) <<< 3)) ||| ((l2 + 1) <<< 6)) ||| (l3 <<< 13)) ||| ((l4 + 1) <<< 17)) ||| (l5 <<< 24))))) (jG0 sc) h) :
    WP mX11_packed Q 0 [some (.int l0), some (.int l1), some (.int l2), some (.int l3), some (.int l4), some (.int l5)] [] (jG0 sc) h (0, 0) := by
  exact (bX11_packed_0 (bX11_packed_27 v1))
theorem dX11_kindOf_0 : decode (mC mX11_kindOf) 0 = .ok (.iload_n 0, 1) := by decide +kernel
theorem dX11_kindOf_1 : decode (mC mX11_kindOf) 1 = .ok (.bipush 7, 2) := by decide +kernel
theorem dX11_kindOf_3 : decode (mC mX11_kindOf) 3 = .ok (.iand, 1) := by decide +kernel
theorem dX11_kindOf_4 : decode (mC mX11_kindOf) 4 = .ok (.ireturn, 1) := by decide +kernel
set_option maxRecDepth 100000 in
theorem bX11_kindOf_0 {sc : Nat × (Nat → Int32)} {h : jH} {Q : jQ} {l0 : Int32}
    (v1 : Q (.inl (some (.int (l0 &&& 7)))) (jG0 sc) h) :
    WP mX11_kindOf Q 0 [some (.int l0)] [] (jG0 sc) h (0, 0) := by
  refine j_iload_n (i := 0) rfl dX11_kindOf_0 ?_
  refine j_bipush (n := 7) 7 (by decide) dX11_kindOf_1 ?_
  refine j_iand dX11_kindOf_3 ?_
  exact j_iret rfl rfl (Nat.zero_le _) (Nat.zero_le _) dX11_kindOf_4 v1
set_option maxRecDepth 100000 in
theorem rX11_kindOf_0 {sc : Nat × (Nat → Int32)} {h : jH} {Q : jQ} {l0 : Int32}
    (v1 : Q (.inl (some (.int (l0 &&& 7)))) (jG0 sc) h) :
    WP mX11_kindOf Q 0 [some (.int l0)] [] (jG0 sc) h (0, 0) := by
  exact (bX11_kindOf_0 v1)
theorem dX11_madeOf_0 : decode (mC mX11_madeOf) 0 = .ok (.iload_n 0, 1) := by decide +kernel
theorem dX11_madeOf_1 : decode (mC mX11_madeOf) 1 = .ok (.iconst 3, 1) := by decide +kernel
theorem dX11_madeOf_2 : decode (mC mX11_madeOf) 2 = .ok (.ishr, 1) := by decide +kernel
theorem dX11_madeOf_3 : decode (mC mX11_madeOf) 3 = .ok (.bipush 7, 2) := by decide +kernel
theorem dX11_madeOf_5 : decode (mC mX11_madeOf) 5 = .ok (.iand, 1) := by decide +kernel
theorem dX11_madeOf_6 : decode (mC mX11_madeOf) 6 = .ok (.iconst 1, 1) := by decide +kernel
theorem dX11_madeOf_7 : decode (mC mX11_madeOf) 7 = .ok (.isub, 1) := by decide +kernel
theorem dX11_madeOf_8 : decode (mC mX11_madeOf) 8 = .ok (.ireturn, 1) := by decide +kernel
set_option maxRecDepth 100000 in
theorem bX11_madeOf_0 {sc : Nat × (Nat → Int32)} {h : jH} {Q : jQ} {l0 : Int32}
    (v1 : Q (.inl (some (.int (((l0 >>> 3) &&& 7) - 1)))) (jG0 sc) h) :
    WP mX11_madeOf Q 0 [some (.int l0)] [] (jG0 sc) h (0, 0) := by
  refine j_iload_n (i := 0) rfl dX11_madeOf_0 ?_
  refine j_iconst (n := 3) 3 (by decide) dX11_madeOf_1 ?_
  refine j_ishr dX11_madeOf_2 ?_
  refine j_eqst [.int (l0 >>> 3)] (by rfl) ?_
  refine j_bipush (n := 7) 7 (by decide) dX11_madeOf_3 ?_
  refine j_iand dX11_madeOf_5 ?_
  refine j_iconst (n := 1) 1 (by decide) dX11_madeOf_6 ?_
  refine j_isub dX11_madeOf_7 ?_
  exact j_iret rfl rfl (Nat.zero_le _) (Nat.zero_le _) dX11_madeOf_8 v1
set_option maxRecDepth 100000 in
theorem rX11_madeOf_0 {sc : Nat × (Nat → Int32)} {h : jH} {Q : jQ} {l0 : Int32}
    (v1 : Q (.inl (some (.int (((l0 >>> 3) &&& 7) - 1)))) (jG0 sc) h) :
    WP mX11_madeOf Q 0 [some (.int l0)] [] (jG0 sc) h (0, 0) := by
  exact (bX11_madeOf_0 v1)
theorem dX11_firstOf_0 : decode (mC mX11_firstOf) 0 = .ok (.iload_n 0, 1) := by decide +kernel
theorem dX11_firstOf_1 : decode (mC mX11_firstOf) 1 = .ok (.bipush 6, 2) := by decide +kernel
theorem dX11_firstOf_3 : decode (mC mX11_firstOf) 3 = .ok (.ishr, 1) := by decide +kernel
theorem dX11_firstOf_4 : decode (mC mX11_firstOf) 4 = .ok (.bipush 127, 2) := by decide +kernel
theorem dX11_firstOf_6 : decode (mC mX11_firstOf) 6 = .ok (.iand, 1) := by decide +kernel
theorem dX11_firstOf_7 : decode (mC mX11_firstOf) 7 = .ok (.iconst 1, 1) := by decide +kernel
theorem dX11_firstOf_8 : decode (mC mX11_firstOf) 8 = .ok (.isub, 1) := by decide +kernel
theorem dX11_firstOf_9 : decode (mC mX11_firstOf) 9 = .ok (.ireturn, 1) := by decide +kernel
set_option maxRecDepth 100000 in
theorem bX11_firstOf_0 {sc : Nat × (Nat → Int32)} {h : jH} {Q : jQ} {l0 : Int32}
    (v1 : Q (.inl (some (.int (((l0 >>> 6) &&& 127) - 1)))) (jG0 sc) h) :
    WP mX11_firstOf Q 0 [some (.int l0)] [] (jG0 sc) h (0, 0) := by
  refine j_iload_n (i := 0) rfl dX11_firstOf_0 ?_
  refine j_bipush (n := 6) 6 (by decide) dX11_firstOf_1 ?_
  refine j_ishr dX11_firstOf_3 ?_
  refine j_eqst [.int (l0 >>> 6)] (by rfl) ?_
  refine j_bipush (n := 127) 127 (by decide) dX11_firstOf_4 ?_
  refine j_iand dX11_firstOf_6 ?_
  refine j_iconst (n := 1) 1 (by decide) dX11_firstOf_7 ?_
  refine j_isub dX11_firstOf_8 ?_
  exact j_iret rfl rfl (Nat.zero_le _) (Nat.zero_le _) dX11_firstOf_9 v1
set_option maxRecDepth 100000 in
theorem rX11_firstOf_0 {sc : Nat × (Nat → Int32)} {h : jH} {Q : jQ} {l0 : Int32}
    (v1 : Q (.inl (some (.int (((l0 >>> 6) &&& 127) - 1)))) (jG0 sc) h) :
    WP mX11_firstOf Q 0 [some (.int l0)] [] (jG0 sc) h (0, 0) := by
  exact (bX11_firstOf_0 v1)
theorem dX11_signOf_0 : decode (mC mX11_signOf) 0 = .ok (.iload_n 0, 1) := by decide +kernel
theorem dX11_signOf_1 : decode (mC mX11_signOf) 1 = .ok (.bipush 13, 2) := by decide +kernel
theorem dX11_signOf_3 : decode (mC mX11_signOf) 3 = .ok (.ishr, 1) := by decide +kernel
theorem dX11_signOf_4 : decode (mC mX11_signOf) 4 = .ok (.bipush 15, 2) := by decide +kernel
theorem dX11_signOf_6 : decode (mC mX11_signOf) 6 = .ok (.iand, 1) := by decide +kernel
theorem dX11_signOf_7 : decode (mC mX11_signOf) 7 = .ok (.ireturn, 1) := by decide +kernel
set_option maxRecDepth 100000 in
theorem bX11_signOf_0 {sc : Nat × (Nat → Int32)} {h : jH} {Q : jQ} {l0 : Int32}
    (v1 : Q (.inl (some (.int ((l0 >>> 13) &&& 15)))) (jG0 sc) h) :
    WP mX11_signOf Q 0 [some (.int l0)] [] (jG0 sc) h (0, 0) := by
  refine j_iload_n (i := 0) rfl dX11_signOf_0 ?_
  refine j_bipush (n := 13) 13 (by decide) dX11_signOf_1 ?_
  refine j_ishr dX11_signOf_3 ?_
  refine j_eqst [.int (l0 >>> 13)] (by rfl) ?_
  refine j_bipush (n := 15) 15 (by decide) dX11_signOf_4 ?_
  refine j_iand dX11_signOf_6 ?_
  exact j_iret rfl rfl (Nat.zero_le _) (Nat.zero_le _) dX11_signOf_7 v1
set_option maxRecDepth 100000 in
theorem rX11_signOf_0 {sc : Nat × (Nat → Int32)} {h : jH} {Q : jQ} {l0 : Int32}
    (v1 : Q (.inl (some (.int ((l0 >>> 13) &&& 15)))) (jG0 sc) h) :
    WP mX11_signOf Q 0 [some (.int l0)] [] (jG0 sc) h (0, 0) := by
  exact (bX11_signOf_0 v1)
theorem dX11_secondOf_0 : decode (mC mX11_secondOf) 0 = .ok (.iload_n 0, 1) := by decide +kernel
theorem dX11_secondOf_1 : decode (mC mX11_secondOf) 1 = .ok (.bipush 17, 2) := by decide +kernel
theorem dX11_secondOf_3 : decode (mC mX11_secondOf) 3 = .ok (.ishr, 1) := by decide +kernel
theorem dX11_secondOf_4 : decode (mC mX11_secondOf) 4 = .ok (.bipush 127, 2) := by decide +kernel
theorem dX11_secondOf_6 : decode (mC mX11_secondOf) 6 = .ok (.iand, 1) := by decide +kernel
theorem dX11_secondOf_7 : decode (mC mX11_secondOf) 7 = .ok (.iconst 1, 1) := by decide +kernel
theorem dX11_secondOf_8 : decode (mC mX11_secondOf) 8 = .ok (.isub, 1) := by decide +kernel
theorem dX11_secondOf_9 : decode (mC mX11_secondOf) 9 = .ok (.ireturn, 1) := by decide +kernel
set_option maxRecDepth 100000 in
theorem bX11_secondOf_0 {sc : Nat × (Nat → Int32)} {h : jH} {Q : jQ} {l0 : Int32}
    (v1 : Q (.inl (some (.int (((l0 >>> 17) &&& 127) - 1)))) (jG0 sc) h) :
    WP mX11_secondOf Q 0 [some (.int l0)] [] (jG0 sc) h (0, 0) := by
  refine j_iload_n (i := 0) rfl dX11_secondOf_0 ?_
  refine j_bipush (n := 17) 17 (by decide) dX11_secondOf_1 ?_
  refine j_ishr dX11_secondOf_3 ?_
  refine j_eqst [.int (l0 >>> 17)] (by rfl) ?_
  refine j_bipush (n := 127) 127 (by decide) dX11_secondOf_4 ?_
  refine j_iand dX11_secondOf_6 ?_
  refine j_iconst (n := 1) 1 (by decide) dX11_secondOf_7 ?_
  refine j_isub dX11_secondOf_8 ?_
  exact j_iret rfl rfl (Nat.zero_le _) (Nat.zero_le _) dX11_secondOf_9 v1
set_option maxRecDepth 100000 in
theorem rX11_secondOf_0 {sc : Nat × (Nat → Int32)} {h : jH} {Q : jQ} {l0 : Int32}
    (v1 : Q (.inl (some (.int (((l0 >>> 17) &&& 127) - 1)))) (jG0 sc) h) :
    WP mX11_secondOf Q 0 [some (.int l0)] [] (jG0 sc) h (0, 0) := by
  exact (bX11_secondOf_0 v1)
theorem dX11_countOf_0 : decode (mC mX11_countOf) 0 = .ok (.iload_n 0, 1) := by decide +kernel
theorem dX11_countOf_1 : decode (mC mX11_countOf) 1 = .ok (.bipush 24, 2) := by decide +kernel
theorem dX11_countOf_3 : decode (mC mX11_countOf) 3 = .ok (.ishr, 1) := by decide +kernel
theorem dX11_countOf_4 : decode (mC mX11_countOf) 4 = .ok (.bipush 15, 2) := by decide +kernel
theorem dX11_countOf_6 : decode (mC mX11_countOf) 6 = .ok (.iand, 1) := by decide +kernel
theorem dX11_countOf_7 : decode (mC mX11_countOf) 7 = .ok (.ireturn, 1) := by decide +kernel
set_option maxRecDepth 100000 in
theorem bX11_countOf_0 {sc : Nat × (Nat → Int32)} {h : jH} {Q : jQ} {l0 : Int32}
    (v1 : Q (.inl (some (.int ((l0 >>> 24) &&& 15)))) (jG0 sc) h) :
    WP mX11_countOf Q 0 [some (.int l0)] [] (jG0 sc) h (0, 0) := by
  refine j_iload_n (i := 0) rfl dX11_countOf_0 ?_
  refine j_bipush (n := 24) 24 (by decide) dX11_countOf_1 ?_
  refine j_ishr dX11_countOf_3 ?_
  refine j_eqst [.int (l0 >>> 24)] (by rfl) ?_
  refine j_bipush (n := 15) 15 (by decide) dX11_countOf_4 ?_
  refine j_iand dX11_countOf_6 ?_
  exact j_iret rfl rfl (Nat.zero_le _) (Nat.zero_le _) dX11_countOf_7 v1
set_option maxRecDepth 100000 in
theorem rX11_countOf_0 {sc : Nat × (Nat → Int32)} {h : jH} {Q : jQ} {l0 : Int32}
    (v1 : Q (.inl (some (.int ((l0 >>> 24) &&& 15)))) (jG0 sc) h) :
    WP mX11_countOf Q 0 [some (.int l0)] [] (jG0 sc) h (0, 0) := by
  exact (bX11_countOf_0 v1)
theorem dX11_withMade_0 : decode (mC mX11_withMade) 0 = .ok (.iload_n 0, 1) := by decide +kernel
theorem dX11_withMade_1 : decode (mC mX11_withMade) 1 = .ok (.bipush (-57), 2) := by decide +kernel
theorem dX11_withMade_3 : decode (mC mX11_withMade) 3 = .ok (.iand, 1) := by decide +kernel
theorem dX11_withMade_4 : decode (mC mX11_withMade) 4 = .ok (.iload_n 1, 1) := by decide +kernel
theorem dX11_withMade_5 : decode (mC mX11_withMade) 5 = .ok (.iconst 1, 1) := by decide +kernel
theorem dX11_withMade_6 : decode (mC mX11_withMade) 6 = .ok (.iadd, 1) := by decide +kernel
theorem dX11_withMade_7 : decode (mC mX11_withMade) 7 = .ok (.iconst 3, 1) := by decide +kernel
theorem dX11_withMade_8 : decode (mC mX11_withMade) 8 = .ok (.ishl, 1) := by decide +kernel
theorem dX11_withMade_9 : decode (mC mX11_withMade) 9 = .ok (.ior, 1) := by decide +kernel
theorem dX11_withMade_10 : decode (mC mX11_withMade) 10 = .ok (.ireturn, 1) := by decide +kernel
set_option maxRecDepth 100000 in
theorem bX11_withMade_0 {sc : Nat × (Nat → Int32)} {h : jH} {Q : jQ} {l0 l1 : Int32}
    (v1 : Q (.inl (some (.int ((l0 &&& ((-57) : Int32)) ||| ((l1 + 1) <<< 3))))) (jG0 sc) h) :
    WP mX11_withMade Q 0 [some (.int l0), some (.int l1)] [] (jG0 sc) h (0, 0) := by
  refine j_iload_n (i := 0) rfl dX11_withMade_0 ?_
  refine j_bipush (n := (-57)) (-57) (by decide) dX11_withMade_1 ?_
  refine j_iand dX11_withMade_3 ?_
  refine j_iload_n (i := 1) rfl dX11_withMade_4 ?_
  refine j_iconst (n := 1) 1 (by decide) dX11_withMade_5 ?_
  refine j_iadd dX11_withMade_6 ?_
  refine j_iconst (n := 3) 3 (by decide) dX11_withMade_7 ?_
  refine j_ishl dX11_withMade_8 ?_
  refine j_eqst [.int ((l1 + 1) <<< 3), .int (l0 &&& ((-57) : Int32))] (by rfl) ?_
  refine j_ior dX11_withMade_9 ?_
  exact j_iret rfl rfl (Nat.zero_le _) (Nat.zero_le _) dX11_withMade_10 v1
set_option maxRecDepth 100000 in
theorem rX11_withMade_0 {sc : Nat × (Nat → Int32)} {h : jH} {Q : jQ} {l0 l1 : Int32}
    (v1 : Q (.inl (some (.int ((l0 &&& ((-57) : Int32)) ||| ((l1 + 1) <<< 3))))) (jG0 sc) h) :
    WP mX11_withMade Q 0 [some (.int l0), some (.int l1)] [] (jG0 sc) h (0, 0) := by
  exact (bX11_withMade_0 v1)
theorem dX11_withFirst_0 : decode (mC mX11_withFirst) 0 = .ok (.iload_n 0, 1) := by decide +kernel
theorem dX11_withFirst_1 : decode (mC mX11_withFirst) 1 = .ok (.sipush (-8129), 3) := by decide +kernel
theorem dX11_withFirst_4 : decode (mC mX11_withFirst) 4 = .ok (.iand, 1) := by decide +kernel
theorem dX11_withFirst_5 : decode (mC mX11_withFirst) 5 = .ok (.iload_n 1, 1) := by decide +kernel
theorem dX11_withFirst_6 : decode (mC mX11_withFirst) 6 = .ok (.iconst 1, 1) := by decide +kernel
theorem dX11_withFirst_7 : decode (mC mX11_withFirst) 7 = .ok (.iadd, 1) := by decide +kernel
theorem dX11_withFirst_8 : decode (mC mX11_withFirst) 8 = .ok (.bipush 6, 2) := by decide +kernel
theorem dX11_withFirst_10 : decode (mC mX11_withFirst) 10 = .ok (.ishl, 1) := by decide +kernel
theorem dX11_withFirst_11 : decode (mC mX11_withFirst) 11 = .ok (.ior, 1) := by decide +kernel
theorem dX11_withFirst_12 : decode (mC mX11_withFirst) 12 = .ok (.ireturn, 1) := by decide +kernel
set_option maxRecDepth 100000 in
theorem bX11_withFirst_0 {sc : Nat × (Nat → Int32)} {h : jH} {Q : jQ} {l0 l1 : Int32}
    (v1 : Q (.inl (some (.int ((l0 &&& ((-8129) : Int32)) ||| ((l1 + 1) <<< 6))))) (jG0 sc) h) :
    WP mX11_withFirst Q 0 [some (.int l0), some (.int l1)] [] (jG0 sc) h (0, 0) := by
  refine j_iload_n (i := 0) rfl dX11_withFirst_0 ?_
  refine j_sipush (n := (-8129)) (-8129) (by decide) dX11_withFirst_1 ?_
  refine j_iand dX11_withFirst_4 ?_
  refine j_iload_n (i := 1) rfl dX11_withFirst_5 ?_
  refine j_iconst (n := 1) 1 (by decide) dX11_withFirst_6 ?_
  refine j_iadd dX11_withFirst_7 ?_
  refine j_bipush (n := 6) 6 (by decide) dX11_withFirst_8 ?_
  refine j_ishl dX11_withFirst_10 ?_
  refine j_eqst [.int ((l1 + 1) <<< 6), .int (l0 &&& ((-8129) : Int32))] (by rfl) ?_
  refine j_ior dX11_withFirst_11 ?_
  exact j_iret rfl rfl (Nat.zero_le _) (Nat.zero_le _) dX11_withFirst_12 v1
set_option maxRecDepth 100000 in
theorem rX11_withFirst_0 {sc : Nat × (Nat → Int32)} {h : jH} {Q : jQ} {l0 l1 : Int32}
    (v1 : Q (.inl (some (.int ((l0 &&& ((-8129) : Int32)) ||| ((l1 + 1) <<< 6))))) (jG0 sc) h) :
    WP mX11_withFirst Q 0 [some (.int l0), some (.int l1)] [] (jG0 sc) h (0, 0) := by
  exact (bX11_withFirst_0 v1)
theorem dX11_withSign_0 : decode (mC mX11_withSign) 0 = .ok (.iload_n 0, 1) := by decide +kernel
theorem dX11_withSign_1 : decode (mC mX11_withSign) 1 = .ok (.ldc_w 455, 3) := by decide +kernel
theorem dX11_withSign_4 : decode (mC mX11_withSign) 4 = .ok (.iand, 1) := by decide +kernel
theorem dX11_withSign_5 : decode (mC mX11_withSign) 5 = .ok (.iload_n 1, 1) := by decide +kernel
theorem dX11_withSign_6 : decode (mC mX11_withSign) 6 = .ok (.bipush 13, 2) := by decide +kernel
theorem dX11_withSign_8 : decode (mC mX11_withSign) 8 = .ok (.ishl, 1) := by decide +kernel
theorem dX11_withSign_9 : decode (mC mX11_withSign) 9 = .ok (.ior, 1) := by decide +kernel
theorem dX11_withSign_10 : decode (mC mX11_withSign) 10 = .ok (.ireturn, 1) := by decide +kernel
set_option maxRecDepth 100000 in
theorem bX11_withSign_0 {sc : Nat × (Nat → Int32)} {h : jH} {Q : jQ} {l0 l1 : Int32}
    (v1 : Q (.inl (some (.int ((l0 &&& ((-122881) : Int32)) ||| (l1 <<< 13))))) (jG0 sc) h) :
    WP mX11_withSign Q 0 [some (.int l0), some (.int l1)] [] (jG0 sc) h (0, 0) := by
  refine j_iload_n (i := 0) rfl dX11_withSign_0 ?_
  refine j_ldcw (idx := 455) (-122881) (show (jCn 11, 455, (-122881)) ∈ jCT by decide) dX11_withSign_1 ?_
  refine j_iand dX11_withSign_4 ?_
  refine j_iload_n (i := 1) rfl dX11_withSign_5 ?_
  refine j_bipush (n := 13) 13 (by decide) dX11_withSign_6 ?_
  refine j_ishl dX11_withSign_8 ?_
  refine j_eqst [.int (l1 <<< 13), .int (l0 &&& ((-122881) : Int32))] (by rfl) ?_
  refine j_ior dX11_withSign_9 ?_
  exact j_iret rfl rfl (Nat.zero_le _) (Nat.zero_le _) dX11_withSign_10 v1
set_option maxRecDepth 100000 in
theorem rX11_withSign_0 {sc : Nat × (Nat → Int32)} {h : jH} {Q : jQ} {l0 l1 : Int32}
    (v1 : Q (.inl (some (.int ((l0 &&& ((-122881) : Int32)) ||| (l1 <<< 13))))) (jG0 sc) h) :
    WP mX11_withSign Q 0 [some (.int l0), some (.int l1)] [] (jG0 sc) h (0, 0) := by
  exact (bX11_withSign_0 v1)
theorem dX11_withSecond_0 : decode (mC mX11_withSecond) 0 = .ok (.iload_n 0, 1) := by decide +kernel
theorem dX11_withSecond_1 : decode (mC mX11_withSecond) 1 = .ok (.ldc_w 456, 3) := by decide +kernel
theorem dX11_withSecond_4 : decode (mC mX11_withSecond) 4 = .ok (.iand, 1) := by decide +kernel
theorem dX11_withSecond_5 : decode (mC mX11_withSecond) 5 = .ok (.iload_n 1, 1) := by decide +kernel
theorem dX11_withSecond_6 : decode (mC mX11_withSecond) 6 = .ok (.iconst 1, 1) := by decide +kernel
theorem dX11_withSecond_7 : decode (mC mX11_withSecond) 7 = .ok (.iadd, 1) := by decide +kernel
theorem dX11_withSecond_8 : decode (mC mX11_withSecond) 8 = .ok (.bipush 17, 2) := by decide +kernel
theorem dX11_withSecond_10 : decode (mC mX11_withSecond) 10 = .ok (.ishl, 1) := by decide +kernel
theorem dX11_withSecond_11 : decode (mC mX11_withSecond) 11 = .ok (.ior, 1) := by decide +kernel
theorem dX11_withSecond_12 : decode (mC mX11_withSecond) 12 = .ok (.ireturn, 1) := by decide +kernel
set_option maxRecDepth 100000 in
theorem bX11_withSecond_0 {sc : Nat × (Nat → Int32)} {h : jH} {Q : jQ} {l0 l1 : Int32}
    (v1 : Q (.inl (some (.int ((l0 &&& ((-16646145) : Int32)) ||| ((l1 + 1) <<< 17))))) (jG0 sc) h) :
    WP mX11_withSecond Q 0 [some (.int l0), some (.int l1)] [] (jG0 sc) h (0, 0) := by
  refine j_iload_n (i := 0) rfl dX11_withSecond_0 ?_
  refine j_ldcw (idx := 456) (-16646145) (show (jCn 11, 456, (-16646145)) ∈ jCT by decide) dX11_withSecond_1 ?_
  refine j_iand dX11_withSecond_4 ?_
  refine j_iload_n (i := 1) rfl dX11_withSecond_5 ?_
  refine j_iconst (n := 1) 1 (by decide) dX11_withSecond_6 ?_
  refine j_iadd dX11_withSecond_7 ?_
  refine j_bipush (n := 17) 17 (by decide) dX11_withSecond_8 ?_
  refine j_ishl dX11_withSecond_10 ?_
  refine j_eqst [.int ((l1 + 1) <<< 17), .int (l0 &&& ((-16646145) : Int32))] (by rfl) ?_
  refine j_ior dX11_withSecond_11 ?_
  exact j_iret rfl rfl (Nat.zero_le _) (Nat.zero_le _) dX11_withSecond_12 v1
set_option maxRecDepth 100000 in
theorem rX11_withSecond_0 {sc : Nat × (Nat → Int32)} {h : jH} {Q : jQ} {l0 l1 : Int32}
    (v1 : Q (.inl (some (.int ((l0 &&& ((-16646145) : Int32)) ||| ((l1 + 1) <<< 17))))) (jG0 sc) h) :
    WP mX11_withSecond Q 0 [some (.int l0), some (.int l1)] [] (jG0 sc) h (0, 0) := by
  exact (bX11_withSecond_0 v1)
theorem dX11_withCount_0 : decode (mC mX11_withCount) 0 = .ok (.iload_n 0, 1) := by decide +kernel
theorem dX11_withCount_1 : decode (mC mX11_withCount) 1 = .ok (.ldc_w 457, 3) := by decide +kernel
theorem dX11_withCount_4 : decode (mC mX11_withCount) 4 = .ok (.iand, 1) := by decide +kernel
theorem dX11_withCount_5 : decode (mC mX11_withCount) 5 = .ok (.iload_n 1, 1) := by decide +kernel
theorem dX11_withCount_6 : decode (mC mX11_withCount) 6 = .ok (.bipush 24, 2) := by decide +kernel
theorem dX11_withCount_8 : decode (mC mX11_withCount) 8 = .ok (.ishl, 1) := by decide +kernel
theorem dX11_withCount_9 : decode (mC mX11_withCount) 9 = .ok (.ior, 1) := by decide +kernel
theorem dX11_withCount_10 : decode (mC mX11_withCount) 10 = .ok (.ireturn, 1) := by decide +kernel
set_option maxRecDepth 100000 in
theorem bX11_withCount_0 {sc : Nat × (Nat → Int32)} {h : jH} {Q : jQ} {l0 l1 : Int32}
    (v1 : Q (.inl (some (.int ((l0 &&& ((-251658241) : Int32)) ||| (l1 <<< 24))))) (jG0 sc) h) :
    WP mX11_withCount Q 0 [some (.int l0), some (.int l1)] [] (jG0 sc) h (0, 0) := by
  refine j_iload_n (i := 0) rfl dX11_withCount_0 ?_
  refine j_ldcw (idx := 457) (-251658241) (show (jCn 11, 457, (-251658241)) ∈ jCT by decide) dX11_withCount_1 ?_
  refine j_iand dX11_withCount_4 ?_
  refine j_iload_n (i := 1) rfl dX11_withCount_5 ?_
  refine j_bipush (n := 24) 24 (by decide) dX11_withCount_6 ?_
  refine j_ishl dX11_withCount_8 ?_
  refine j_eqst [.int (l1 <<< 24), .int (l0 &&& ((-251658241) : Int32))] (by rfl) ?_
  refine j_ior dX11_withCount_9 ?_
  exact j_iret rfl rfl (Nat.zero_le _) (Nat.zero_le _) dX11_withCount_10 v1
set_option maxRecDepth 100000 in
theorem rX11_withCount_0 {sc : Nat × (Nat → Int32)} {h : jH} {Q : jQ} {l0 l1 : Int32}
    (v1 : Q (.inl (some (.int ((l0 &&& ((-251658241) : Int32)) ||| (l1 <<< 24))))) (jG0 sc) h) :
    WP mX11_withCount Q 0 [some (.int l0), some (.int l1)] [] (jG0 sc) h (0, 0) := by
  exact (bX11_withCount_0 v1)
