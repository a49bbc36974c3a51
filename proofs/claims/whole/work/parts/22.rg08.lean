theorem dX0_wrongIn_0 : decode (mC mX0_wrongIn) 0 = .ok (.aload_n 0, 1) := by decide +kernel
theorem dX0_wrongIn_1 : decode (mC mX0_wrongIn) 1 = .ok (.getfield 12, 3) := by decide +kernel
theorem dX0_wrongIn_4 : decode (mC mX0_wrongIn) 4 = .ok (.iconst 0, 1) := by decide +kernel
theorem dX0_wrongIn_5 : decode (mC mX0_wrongIn) 5 = .ok (.putfield 18, 3) := by decide +kernel
theorem dX0_wrongIn_8 : decode (mC mX0_wrongIn) 8 = .ok (.aload_n 1, 1) := by decide +kernel
theorem dX0_wrongIn_9 : decode (mC mX0_wrongIn) 9 = .ok (.invokevirtual 22, 3) := by decide +kernel
theorem dX0_wrongIn_12 : decode (mC mX0_wrongIn) 12 = .ok (.iconst 0, 1) := by decide +kernel
theorem dX0_wrongIn_13 : decode (mC mX0_wrongIn) 13 = .ok (.istore_n 2, 1) := by decide +kernel
theorem dX0_wrongIn_14 : decode (mC mX0_wrongIn) 14 = .ok (.iload_n 2, 1) := by decide +kernel
theorem dX0_wrongIn_15 : decode (mC mX0_wrongIn) 15 = .ok (.bipush 10, 2) := by decide +kernel
theorem dX0_wrongIn_17 : decode (mC mX0_wrongIn) 17 = .ok (.if_icmp .ge 49, 3) := by decide +kernel
theorem dX0_wrongIn_20 : decode (mC mX0_wrongIn) 20 = .ok (.aload_n 0, 1) := by decide +kernel
theorem dX0_wrongIn_21 : decode (mC mX0_wrongIn) 21 = .ok (.aload_n 1, 1) := by decide +kernel
theorem dX0_wrongIn_22 : decode (mC mX0_wrongIn) 22 = .ok (.invokevirtual 27, 3) := by decide +kernel
theorem dX0_wrongIn_25 : decode (mC mX0_wrongIn) 25 = .ok (.ifCond .ne 8, 3) := by decide +kernel
theorem dX0_wrongIn_28 : decode (mC mX0_wrongIn) 28 = .ok (.aload_n 1, 1) := by decide +kernel
theorem dX0_wrongIn_29 : decode (mC mX0_wrongIn) 29 = .ok (.getfield 31, 3) := by decide +kernel
theorem dX0_wrongIn_32 : decode (mC mX0_wrongIn) 32 = .ok (.ireturn, 1) := by decide +kernel
theorem dX0_wrongIn_33 : decode (mC mX0_wrongIn) 33 = .ok (.aload_n 1, 1) := by decide +kernel
theorem dX0_wrongIn_34 : decode (mC mX0_wrongIn) 34 = .ok (.getfield 34, 3) := by decide +kernel
theorem dX0_wrongIn_37 : decode (mC mX0_wrongIn) 37 = .ok (.ifCond .ne 5, 3) := by decide +kernel
theorem dX0_wrongIn_40 : decode (mC mX0_wrongIn) 40 = .ok (.iconst (-1), 1) := by decide +kernel
theorem dX0_wrongIn_41 : decode (mC mX0_wrongIn) 41 = .ok (.ireturn, 1) := by decide +kernel
theorem dX0_wrongIn_42 : decode (mC mX0_wrongIn) 42 = .ok (.aload_n 1, 1) := by decide +kernel
theorem dX0_wrongIn_43 : decode (mC mX0_wrongIn) 43 = .ok (.bipush 59, 2) := by decide +kernel
theorem dX0_wrongIn_45 : decode (mC mX0_wrongIn) 45 = .ok (.invokevirtual 37, 3) := by decide +kernel
theorem dX0_wrongIn_48 : decode (mC mX0_wrongIn) 48 = .ok (.ifCond .ne 8, 3) := by decide +kernel
theorem dX0_wrongIn_51 : decode (mC mX0_wrongIn) 51 = .ok (.aload_n 1, 1) := by decide +kernel
theorem dX0_wrongIn_52 : decode (mC mX0_wrongIn) 52 = .ok (.getfield 31, 3) := by decide +kernel
theorem dX0_wrongIn_55 : decode (mC mX0_wrongIn) 55 = .ok (.ireturn, 1) := by decide +kernel
theorem dX0_wrongIn_56 : decode (mC mX0_wrongIn) 56 = .ok (.aload_n 1, 1) := by decide +kernel
theorem dX0_wrongIn_57 : decode (mC mX0_wrongIn) 57 = .ok (.invokevirtual 41, 3) := by decide +kernel
theorem dX0_wrongIn_60 : decode (mC mX0_wrongIn) 60 = .ok (.iinc 2 1, 3) := by decide +kernel
theorem dX0_wrongIn_63 : decode (mC mX0_wrongIn) 63 = .ok (.goto (-49), 3) := by decide +kernel
theorem dX0_wrongIn_66 : decode (mC mX0_wrongIn) 66 = .ok (.aload_n 1, 1) := by decide +kernel
theorem dX0_wrongIn_67 : decode (mC mX0_wrongIn) 67 = .ok (.getfield 31, 3) := by decide +kernel
theorem dX0_wrongIn_70 : decode (mC mX0_wrongIn) 70 = .ok (.ireturn, 1) := by decide +kernel
set_option maxRecDepth 100000 in
theorem bX0_wrongIn_0 {sc : Nat × (Nat → Int32)} {h : jH} {Q : jQ} {P1 : jH → Prop}
    (k1 : JM mX8_open [.ref 1] (jG0 sc) (jput h 4 1 0) (jvoid sc P1))
    (v1 : ∀ h1 : jH, P1 h1 → WP mX0_wrongIn Q 14 [some (.ref 3), some (.ref 1), some (.int 0)] [] (jG0 sc) h1 (0, 0)) :
    WP mX0_wrongIn Q 0 [some (.ref 3), some (.ref 1), none] [] (jG0 sc) h (0, 0) := by
  refine j_aload_n (i := 0) rfl dX0_wrongIn_0 ?_
  refine j_getR (idx := 12) (ci := 0) (k := 0) (nest := false) (show (0, 12, 0, 0, false) ∈ jFT by decide) rfl (Nat.le_of_ble_eq_true rfl) rfl (a := 4) rfl dX0_wrongIn_1 ?_
  refine j_iconst (n := 0) 0 (by decide) dX0_wrongIn_4 ?_
  refine j_putI (idx := 18) (ci := 4) (k := 1) (nest := true) (show (0, 18, 4, 1, true) ∈ jFT by decide) rfl rfl rfl rfl (Nat.le_of_ble_eq_true rfl) rfl dX0_wrongIn_5 ?_
  refine j_aload_n (i := 1) rfl dX0_wrongIn_8 ?_
  refine j_callVN (idx := 22) (As := []) (ci := 8) (n := 0) k1 jvoid_nt (jTbl (jtb3 210 rfl)) sX8_open kX8_open rfl ⟨rfl, by decide +kernel, by decide +kernel, by decide +kernel⟩ rfl ⟨by decide, by decide⟩ (Nat.le_of_ble_eq_true rfl) rfl (Nat.le_of_ble_eq_true rfl) (Nat.le_of_ble_eq_true rfl) ⟨Nat.zero_le _, Nat.zero_le _⟩ dX0_wrongIn_9 (fun r Γ' h1 q => ?_)
  obtain ⟨q0, rfl, p1⟩ := q; cases q0
  refine j_eqst [] (by rfl) ?_
  refine j_iconst (n := 0) 0 (by decide) dX0_wrongIn_12 ?_
  refine j_istore_n (i := 2) dX0_wrongIn_13 (Nat.le_of_ble_eq_true rfl) ?_
  exact j_le [some (.ref 3), some (.ref 1), some (.int 0)] (And.intro rfl (And.intro rfl (And.intro rfl True.intro))) (v1 h1 p1)
set_option maxRecDepth 100000 in
theorem bX0_wrongIn_14 {sc : Nat × (Nat → Int32)} {h : jH} {Q : jQ} {l2 : Int32}
    (v1 : 10 ≤ l2 → WP mX0_wrongIn Q 66 [some (.ref 3), some (.ref 1), some (.int l2)] [] (jG0 sc) h (0, 0))
    (v2 : ¬ 10 ≤ l2 → WP mX0_wrongIn Q 20 [some (.ref 3), some (.ref 1), some (.int l2)] [] (jG0 sc) h (0, 0)) :
    WP mX0_wrongIn Q 14 [some (.ref 3), some (.ref 1), some (.int l2)] [] (jG0 sc) h (0, 0) := by
  refine j_iload_n (i := 2) rfl dX0_wrongIn_14 ?_
  refine j_bipush (n := 10) 10 (by decide) dX0_wrongIn_15 ?_
  refine j_icmp_ge (off := 49) 66 dX0_wrongIn_17 (by decide) (fun c1 => ?_) (fun c1 => ?_)
  · exact j_le [some (.ref 3), some (.ref 1), some (.int l2)] (And.intro rfl (And.intro rfl (And.intro rfl True.intro))) (v1 c1)
  · exact j_le [some (.ref 3), some (.ref 1), some (.int l2)] (And.intro rfl (And.intro rfl (And.intro rfl True.intro))) (v2 c1)
set_option maxRecDepth 100000 in
theorem bX0_wrongIn_20 {sc : Nat × (Nat → Int32)} {h : jH} {Q : jQ} {l2 : Int32} {P1 : Int32 → jH → Prop}
    (k1 : JM mX0_readLine [.ref 3, .ref 1] (jG0 sc) h (jint sc P1))
    (v1 : ∀ (x1 : Int32) (h1 : jH), P1 x1 h1 → ¬ x1 = 0 → WP mX0_wrongIn Q 33 [some (.ref 3), some (.ref 1), some (.int l2)] [] (jG0 sc) h1 (0, 0))
    (v2 : ∀ (x1 : Int32) (h1 : jH), P1 x1 h1 → x1 = 0 → WP mX0_wrongIn Q 28 [some (.ref 3), some (.ref 1), some (.int l2)] [] (jG0 sc) h1 (0, 0)) :
    WP mX0_wrongIn Q 20 [some (.ref 3), some (.ref 1), some (.int l2)] [] (jG0 sc) h (0, 0) := by
  refine j_aload_n (i := 0) rfl dX0_wrongIn_20 ?_
  refine j_aload_n (i := 1) rfl dX0_wrongIn_21 ?_
  refine j_callV (idx := 27) (As := [.ref 1]) (ci := 0) (n := 1) k1 jint_nt (jlkT (jtb3 218 rfl) rfl) sX0_readLine kX0_readLine rfl ⟨rfl, by decide +kernel, by decide +kernel, by decide +kernel⟩ rfl ⟨by decide, by decide⟩ (Nat.le_of_ble_eq_true rfl) rfl (Nat.le_of_ble_eq_true rfl) (Nat.le_of_ble_eq_true rfl) ⟨Nat.zero_le _, Nat.zero_le _⟩ dX0_wrongIn_22 (fun r Γ' h1 q => ?_)
  obtain ⟨x1, q0, rfl, p1⟩ := q; cases q0
  refine j_eqst [.int x1] (by rfl) ?_
  refine j_if_ne (off := 8) 33 dX0_wrongIn_25 (by decide) (fun c1 => ?_) (fun c1 => ?_)
  · exact j_le [some (.ref 3), some (.ref 1), some (.int l2)] (And.intro rfl (And.intro rfl (And.intro rfl True.intro))) (v1 x1 h1 p1 c1)
  · exact j_le [some (.ref 3), some (.ref 1), some (.int l2)] (And.intro rfl (And.intro rfl (And.intro rfl True.intro))) (v2 x1 h1 p1 c1)
set_option maxRecDepth 100000 in
theorem bX0_wrongIn_28 {sc : Nat × (Nat → Int32)} {h : jH} {Q : jQ} {l2 : Int32}
    (v1 : Q (.inl (some (.int (h 1 3)))) (jG0 sc) h) :
    WP mX0_wrongIn Q 28 [some (.ref 3), some (.ref 1), some (.int l2)] [] (jG0 sc) h (0, 0) := by
  refine j_aload_n (i := 1) rfl dX0_wrongIn_28 ?_
  refine j_getI (idx := 31) (ci := 8) (k := 3) (nest := true) (show (0, 31, 8, 3, true) ∈ jFT by decide) rfl (Nat.le_of_ble_eq_true rfl) rfl dX0_wrongIn_29 ?_
  exact j_iret rfl rfl (Nat.zero_le _) (Nat.zero_le _) dX0_wrongIn_32 v1
set_option maxRecDepth 100000 in
theorem bX0_wrongIn_33 {sc : Nat × (Nat → Int32)} {h : jH} {Q : jQ} {l2 : Int32}
    (v1 : ¬ (h 1 2) = 0 → WP mX0_wrongIn Q 42 [some (.ref 3), some (.ref 1), some (.int l2)] [] (jG0 sc) h (0, 0))
    (v2 : (h 1 2) = 0 → WP mX0_wrongIn Q 40 [some (.ref 3), some (.ref 1), some (.int l2)] [] (jG0 sc) h (0, 0)) :
    WP mX0_wrongIn Q 33 [some (.ref 3), some (.ref 1), some (.int l2)] [] (jG0 sc) h (0, 0) := by
  refine j_aload_n (i := 1) rfl dX0_wrongIn_33 ?_
  refine j_getI (idx := 34) (ci := 8) (k := 2) (nest := true) (show (0, 34, 8, 2, true) ∈ jFT by decide) rfl (Nat.le_of_ble_eq_true rfl) rfl dX0_wrongIn_34 ?_
  refine j_if_ne (off := 5) 42 dX0_wrongIn_37 (by decide) (fun c1 => ?_) (fun c1 => ?_)
  · exact j_le [some (.ref 3), some (.ref 1), some (.int l2)] (And.intro rfl (And.intro rfl (And.intro rfl True.intro))) (v1 c1)
  · exact j_le [some (.ref 3), some (.ref 1), some (.int l2)] (And.intro rfl (And.intro rfl (And.intro rfl True.intro))) (v2 c1)
set_option maxRecDepth 100000 in
theorem bX0_wrongIn_40 {sc : Nat × (Nat → Int32)} {h : jH} {Q : jQ} {l2 : Int32}
    (v1 : Q (.inl (some (.int (-1)))) (jG0 sc) h) :
    WP mX0_wrongIn Q 40 [some (.ref 3), some (.ref 1), some (.int l2)] [] (jG0 sc) h (0, 0) := by
  refine j_iconst (n := (-1)) (-1) (by decide) dX0_wrongIn_40 ?_
  exact j_iret rfl rfl (Nat.zero_le _) (Nat.zero_le _) dX0_wrongIn_41 v1
set_option maxRecDepth 100000 in
theorem bX0_wrongIn_42 {sc : Nat × (Nat → Int32)} {h : jH} {Q : jQ} {l2 : Int32} {P1 : Int32 → jH → Prop}
    (k1 : JM mX8_isMark [.ref 1, .int 59] (jG0 sc) h (jint sc P1))
    (v1 : ∀ (x1 : Int32) (h1 : jH), P1 x1 h1 → ¬ x1 = 0 → WP mX0_wrongIn Q 56 [some (.ref 3), some (.ref 1), some (.int l2)] [] (jG0 sc) h1 (0, 0))
    (v2 : ∀ (x1 : Int32) (h1 : jH), P1 x1 h1 → x1 = 0 → WP mX0_wrongIn Q 51 [some (.ref 3), some (.ref 1), some (.int l2)] [] (jG0 sc) h1 (0, 0)) :
    WP mX0_wrongIn Q 42 [some (.ref 3), some (.ref 1), some (.int l2)] [] (jG0 sc) h (0, 0) := by
  refine j_aload_n (i := 1) rfl dX0_wrongIn_42 ?_
  refine j_bipush (n := 59) 59 (by decide) dX0_wrongIn_43 ?_
  refine j_callVN (idx := 37) (As := [.int 59]) (ci := 8) (n := 1) k1 jint_nt (jTbl (jtb4 45 rfl)) sX8_isMark kX8_isMark rfl ⟨rfl, by decide +kernel, by decide +kernel, by decide +kernel⟩ rfl ⟨by decide, by decide⟩ (Nat.le_of_ble_eq_true rfl) rfl (Nat.le_of_ble_eq_true rfl) (Nat.le_of_ble_eq_true rfl) ⟨Nat.zero_le _, Nat.zero_le _⟩ dX0_wrongIn_45 (fun r Γ' h1 q => ?_)
  obtain ⟨x1, q0, rfl, p1⟩ := q; cases q0
  refine j_eqst [.int x1] (by rfl) ?_
  refine j_if_ne (off := 8) 56 dX0_wrongIn_48 (by decide) (fun c1 => ?_) (fun c1 => ?_)
  · exact j_le [some (.ref 3), some (.ref 1), some (.int l2)] (And.intro rfl (And.intro rfl (And.intro rfl True.intro))) (v1 x1 h1 p1 c1)
  · exact j_le [some (.ref 3), some (.ref 1), some (.int l2)] (And.intro rfl (And.intro rfl (And.intro rfl True.intro))) (v2 x1 h1 p1 c1)
set_option maxRecDepth 100000 in
theorem bX0_wrongIn_51 {sc : Nat × (Nat → Int32)} {h : jH} {Q : jQ} {l2 : Int32}
    (v1 : Q (.inl (some (.int (h 1 3)))) (jG0 sc) h) :
    WP mX0_wrongIn Q 51 [some (.ref 3), some (.ref 1), some (.int l2)] [] (jG0 sc) h (0, 0) := by
  refine j_aload_n (i := 1) rfl dX0_wrongIn_51 ?_
  refine j_getI (idx := 31) (ci := 8) (k := 3) (nest := true) (show (0, 31, 8, 3, true) ∈ jFT by decide) rfl (Nat.le_of_ble_eq_true rfl) rfl dX0_wrongIn_52 ?_
  exact j_iret rfl rfl (Nat.zero_le _) (Nat.zero_le _) dX0_wrongIn_55 v1
set_option maxRecDepth 100000 in
theorem bX0_wrongIn_56 {sc : Nat × (Nat → Int32)} {h : jH} {Q : jQ} {l2 : Int32} {P1 : jH → Prop}
    (k1 : JM mX8_next [.ref 1] (jG0 sc) h (jvoid sc P1))
    (v1 : ∀ h1 : jH, P1 h1 → WP mX0_wrongIn Q 14 [some (.ref 3), some (.ref 1), some (.int (l2 + 1))] [] (jG0 sc) h1 (0, 0)) :
    WP mX0_wrongIn Q 56 [some (.ref 3), some (.ref 1), some (.int l2)] [] (jG0 sc) h (0, 0) := by
  refine j_aload_n (i := 1) rfl dX0_wrongIn_56 ?_
  refine j_callVN (idx := 41) (As := []) (ci := 8) (n := 0) k1 jvoid_nt (jTbl (jtb4 39 rfl)) sX8_next kX8_next rfl ⟨rfl, by decide +kernel, by decide +kernel, by decide +kernel⟩ rfl ⟨by decide, by decide⟩ (Nat.le_of_ble_eq_true rfl) rfl (Nat.le_of_ble_eq_true rfl) (Nat.le_of_ble_eq_true rfl) ⟨Nat.zero_le _, Nat.zero_le _⟩ dX0_wrongIn_57 (fun r Γ' h1 q => ?_)
  obtain ⟨q0, rfl, p1⟩ := q; cases q0
  refine j_eqst [] (by rfl) ?_
  refine j_iinc (i := 2) (n := 1) rfl dX0_wrongIn_60 (Nat.le_of_ble_eq_true rfl) ?_
  refine j_eqlv [some (.ref 3), some (.ref 1), some (.int (l2 + 1))] rfl ?_
  refine j_goto (off := -49) 14 dX0_wrongIn_63 (by decide) ?_
  exact j_le [some (.ref 3), some (.ref 1), some (.int (l2 + 1))] (And.intro rfl (And.intro rfl (And.intro rfl True.intro))) (v1 h1 p1)
set_option maxRecDepth 100000 in
theorem bX0_wrongIn_66 {sc : Nat × (Nat → Int32)} {h : jH} {Q : jQ} {l2 : Int32}
    (v1 : Q (.inl (some (.int (h 1 3)))) (jG0 sc) h) :
    WP mX0_wrongIn Q 66 [some (.ref 3), some (.ref 1), some (.int l2)] [] (jG0 sc) h (0, 0) := by
  refine j_aload_n (i := 1) rfl dX0_wrongIn_66 ?_
  refine j_getI (idx := 31) (ci := 8) (k := 3) (nest := true) (show (0, 31, 8, 3, true) ∈ jFT by decide) rfl (Nat.le_of_ble_eq_true rfl) rfl dX0_wrongIn_67 ?_
  exact j_iret rfl rfl (Nat.zero_le _) (Nat.zero_le _) dX0_wrongIn_70 v1
set_option maxRecDepth 100000 in
theorem rX0_wrongIn_0 {sc : Nat × (Nat → Int32)} {h : jH} {Q : jQ} {P1 : jH → Prop}
    (k1 : JM mX8_open [.ref 1] (jG0 sc) (jput h 4 1 0) (jvoid sc P1))
    (v1 : ∀ h1 : jH, P1 h1 → WP mX0_wrongIn Q 14 [some (.ref 3), some (.ref 1), some (.int 0)] [] (jG0 sc) h1 (0, 0)) :
    WP mX0_wrongIn Q 0 [some (.ref 3), some (.ref 1), none] [] (jG0 sc) h (0, 0) := by
  exact (bX0_wrongIn_0 k1 (fun h1 p1 => (v1 h1 p1)))
set_option maxRecDepth 100000 in
theorem rX0_wrongIn_14 {sc : Nat × (Nat → Int32)} {h : jH} {Q : jQ} {l2 : Int32} {P1 : Int32 → jH → Prop} {P2 : Int32 → jH → Prop} {P3 : jH → Prop}
    (v1 : 10 ≤ l2 → Q (.inl (some (.int (h 1 3)))) (jG0 sc) h)
    (k1 : ¬ 10 ≤ l2 → JM mX0_readLine [.ref 3, .ref 1] (jG0 sc) h (jint sc P1))
    (k2 : ¬ 10 ≤ l2 → ∀ (x1 : Int32) (h1 : jH), P1 x1 h1 → ¬ x1 = 0 → ¬ (h1 1 2) = 0 → JM mX8_isMark [.ref 1, .int 59] (jG0 sc) h1 (jint sc P2))
    (k3 : ¬ 10 ≤ l2 → ∀ (x1 : Int32) (h1 : jH), P1 x1 h1 → ¬ x1 = 0 → ¬ (h1 1 2) = 0 → ∀ (x2 : Int32) (h2 : jH), P2 x2 h2 → ¬ x2 = 0 → JM mX8_next [.ref 1] (jG0 sc) h2 (jvoid sc P3))
    (v2 : ¬ 10 ≤ l2 → ∀ (x1 : Int32) (h1 : jH), P1 x1 h1 → ¬ x1 = 0 → ¬ (h1 1 2) = 0 → ∀ (x2 : Int32) (h2 : jH), P2 x2 h2 → ¬ x2 = 0 → ∀ h3 : jH, P3 h3 → WP mX0_wrongIn Q 14 [some (.ref 3), some (.ref 1), some (.int (l2 + 1))] [] (jG0 sc) h3 (0, 0))
    (v3 : ¬ 10 ≤ l2 → ∀ (x1 : Int32) (h1 : jH), P1 x1 h1 → ¬ x1 = 0 → ¬ (h1 1 2) = 0 → ∀ (x2 : Int32) (h2 : jH), P2 x2 h2 → x2 = 0 → Q (.inl (some (.int (h2 1 3)))) (jG0 sc) h2)
    (v4 : ¬ 10 ≤ l2 → ∀ (x1 : Int32) (h1 : jH), P1 x1 h1 → ¬ x1 = 0 → (h1 1 2) = 0 → Q (.inl (some (.int (-1)))) (jG0 sc) h1)
    (v5 : ¬ 10 ≤ l2 → ∀ (x1 : Int32) (h1 : jH), P1 x1 h1 → x1 = 0 → Q (.inl (some (.int (h1 1 3)))) (jG0 sc) h1) :
    WP mX0_wrongIn Q 14 [some (.ref 3), some (.ref 1), some (.int l2)] [] (jG0 sc) h (0, 0) := by
  exact (bX0_wrongIn_14 (fun c1 => (bX0_wrongIn_66 (v1 c1))) (fun c1 => (bX0_wrongIn_20 (k1 c1) (fun x1 h1 p1 c2 => (bX0_wrongIn_33 (fun c3 => (bX0_wrongIn_42 (k2 c1 x1 h1 p1 c2 c3) (fun x2 h2 p2 c4 => (bX0_wrongIn_56 (k3 c1 x1 h1 p1 c2 c3 x2 h2 p2 c4) (fun h3 p3 => (v2 c1 x1 h1 p1 c2 c3 x2 h2 p2 c4 h3 p3)))) (fun x2 h2 p2 c4 => (bX0_wrongIn_51 (v3 c1 x1 h1 p1 c2 c3 x2 h2 p2 c4))))) (fun c3 => (bX0_wrongIn_40 (v4 c1 x1 h1 p1 c2 c3))))) (fun x1 h1 p1 c2 => (bX0_wrongIn_28 (v5 c1 x1 h1 p1 c2))))))
theorem dX0_readLine_0 : decode (mC mX0_readLine) 0 = .ok (.aload_n 1, 1) := by decide +kernel
theorem dX0_readLine_1 : decode (mC mX0_readLine) 1 = .ok (.ldc 44, 2) := by decide +kernel
theorem dX0_readLine_3 : decode (mC mX0_readLine) 3 = .ok (.invokevirtual 46, 3) := by decide +kernel
theorem dX0_readLine_6 : decode (mC mX0_readLine) 6 = .ok (.ifCond .eq 9, 3) := by decide +kernel
theorem dX0_readLine_9 : decode (mC mX0_readLine) 9 = .ok (.aload_n 0, 1) := by decide +kernel
theorem dX0_readLine_10 : decode (mC mX0_readLine) 10 = .ok (.aload_n 1, 1) := by decide +kernel
theorem dX0_readLine_11 : decode (mC mX0_readLine) 11 = .ok (.invokevirtual 50, 3) := by decide +kernel
theorem dX0_readLine_14 : decode (mC mX0_readLine) 14 = .ok (.ireturn, 1) := by decide +kernel
theorem dX0_readLine_15 : decode (mC mX0_readLine) 15 = .ok (.aload_n 1, 1) := by decide +kernel
theorem dX0_readLine_16 : decode (mC mX0_readLine) 16 = .ok (.ldc 53, 2) := by decide +kernel
theorem dX0_readLine_18 : decode (mC mX0_readLine) 18 = .ok (.invokevirtual 46, 3) := by decide +kernel
theorem dX0_readLine_21 : decode (mC mX0_readLine) 21 = .ok (.ifCond .eq 10, 3) := by decide +kernel
theorem dX0_readLine_24 : decode (mC mX0_readLine) 24 = .ok (.aload_n 0, 1) := by decide +kernel
theorem dX0_readLine_25 : decode (mC mX0_readLine) 25 = .ok (.aload_n 1, 1) := by decide +kernel
theorem dX0_readLine_26 : decode (mC mX0_readLine) 26 = .ok (.iconst 1, 1) := by decide +kernel
theorem dX0_readLine_27 : decode (mC mX0_readLine) 27 = .ok (.invokevirtual 55, 3) := by decide +kernel
theorem dX0_readLine_30 : decode (mC mX0_readLine) 30 = .ok (.ireturn, 1) := by decide +kernel
theorem dX0_readLine_31 : decode (mC mX0_readLine) 31 = .ok (.aload_n 1, 1) := by decide +kernel
theorem dX0_readLine_32 : decode (mC mX0_readLine) 32 = .ok (.ldc 59, 2) := by decide +kernel
theorem dX0_readLine_34 : decode (mC mX0_readLine) 34 = .ok (.invokevirtual 46, 3) := by decide +kernel
theorem dX0_readLine_37 : decode (mC mX0_readLine) 37 = .ok (.ifCond .eq 10, 3) := by decide +kernel
theorem dX0_readLine_40 : decode (mC mX0_readLine) 40 = .ok (.aload_n 0, 1) := by decide +kernel
theorem dX0_readLine_41 : decode (mC mX0_readLine) 41 = .ok (.aload_n 1, 1) := by decide +kernel
theorem dX0_readLine_42 : decode (mC mX0_readLine) 42 = .ok (.iconst 2, 1) := by decide +kernel
theorem dX0_readLine_43 : decode (mC mX0_readLine) 43 = .ok (.invokevirtual 55, 3) := by decide +kernel
theorem dX0_readLine_46 : decode (mC mX0_readLine) 46 = .ok (.ireturn, 1) := by decide +kernel
theorem dX0_readLine_47 : decode (mC mX0_readLine) 47 = .ok (.aload_n 1, 1) := by decide +kernel
theorem dX0_readLine_48 : decode (mC mX0_readLine) 48 = .ok (.ldc 61, 2) := by decide +kernel
theorem dX0_readLine_50 : decode (mC mX0_readLine) 50 = .ok (.invokevirtual 46, 3) := by decide +kernel
theorem dX0_readLine_53 : decode (mC mX0_readLine) 53 = .ok (.ifCond .eq 17, 3) := by decide +kernel
theorem dX0_readLine_56 : decode (mC mX0_readLine) 56 = .ok (.aload_n 0, 1) := by decide +kernel
theorem dX0_readLine_57 : decode (mC mX0_readLine) 57 = .ok (.aload_n 1, 1) := by decide +kernel
theorem dX0_readLine_58 : decode (mC mX0_readLine) 58 = .ok (.iconst 3, 1) := by decide +kernel
theorem dX0_readLine_59 : decode (mC mX0_readLine) 59 = .ok (.iconst (-1), 1) := by decide +kernel
theorem dX0_readLine_60 : decode (mC mX0_readLine) 60 = .ok (.invokevirtual 63, 3) := by decide +kernel
theorem dX0_readLine_63 : decode (mC mX0_readLine) 63 = .ok (.ifCond .eq 7, 3) := by decide +kernel
theorem dX0_readLine_66 : decode (mC mX0_readLine) 66 = .ok (.iconst 1, 1) := by decide +kernel
theorem dX0_readLine_67 : decode (mC mX0_readLine) 67 = .ok (.goto 4, 3) := by decide +kernel
theorem dX0_readLine_70 : decode (mC mX0_readLine) 70 = .ok (.iconst 0, 1) := by decide +kernel
theorem dX0_readLine_71 : decode (mC mX0_readLine) 71 = .ok (.ireturn, 1) := by decide +kernel
set_option maxRecDepth 100000 in
theorem bX0_readLine_0 {sc : Nat × (Nat → Int32)} {h : jH} {Q : jQ} {P1 : Int32 → jH → Prop}
    (k1 : JM mX8_isWord [.ref 1, .ref 1001] (jG0 sc) h (jint sc P1))
    (v1 : ∀ (x1 : Int32) (h1 : jH), P1 x1 h1 → x1 = 0 → WP mX0_readLine Q 15 [some (.ref 3), some (.ref 1)] [] (jG0 sc) h1 (0, 0))
    (v2 : ∀ (x1 : Int32) (h1 : jH), P1 x1 h1 → ¬ x1 = 0 → WP mX0_readLine Q 9 [some (.ref 3), some (.ref 1)] [] (jG0 sc) h1 (0, 0)) :
    WP mX0_readLine Q 0 [some (.ref 3), some (.ref 1)] [] (jG0 sc) h (0, 0) := by
  refine j_aload_n (i := 1) rfl dX0_readLine_0 ?_
  refine j_ldcS (idx := 44) "set" 1 (show ("MendBench$BodyReade\x72", 44, "set", 1) ∈ jStr by decide +kernel) dX0_readLine_1 ?_
  refine j_callVN (idx := 46) (As := [.ref 1001]) (ci := 8) (n := 1) k1 jint_nt (jTbl (jtb3 223 rfl)) sX8_isWord kX8_isWord rfl ⟨rfl, by decide +kernel, by decide +kernel, by decide +kernel⟩ rfl ⟨by decide, by decide⟩ (Nat.le_of_ble_eq_true rfl) rfl (Nat.le_of_ble_eq_true rfl) (Nat.le_of_ble_eq_true rfl) ⟨Nat.zero_le _, Nat.zero_le _⟩ dX0_readLine_3 (fun r Γ' h1 q => ?_)
  obtain ⟨x1, q0, rfl, p1⟩ := q; cases q0
  refine j_eqst [.int x1] (by rfl) ?_
  refine j_if_eq (off := 9) 15 dX0_readLine_6 (by decide) (fun c1 => ?_) (fun c1 => ?_)
  · exact j_le [some (.ref 3), some (.ref 1)] (And.intro rfl (And.intro rfl True.intro)) (v1 x1 h1 p1 c1)
  · exact j_le [some (.ref 3), some (.ref 1)] (And.intro rfl (And.intro rfl True.intro)) (v2 x1 h1 p1 c1)
set_option maxRecDepth 100000 in
theorem bX0_readLine_9 {sc : Nat × (Nat → Int32)} {h : jH} {Q : jQ} {P1 : Int32 → jH → Prop}
    (k1 : JM mX0_readSet [.ref 3, .ref 1] (jG0 sc) h (jint sc P1))
    (o1 : ∀ (x1 : Int32) (h1 : jH), P1 x1 h1 → x1 = 0 ∨ x1 = 1)
    (v1 : ∀ (x1 : Int32) (h1 : jH), P1 x1 h1 → Q (.inl (some (.int x1))) (jG0 sc) h1) :
    WP mX0_readLine Q 9 [some (.ref 3), some (.ref 1)] [] (jG0 sc) h (0, 0) := by
  refine j_aload_n (i := 0) rfl dX0_readLine_9 ?_
  refine j_aload_n (i := 1) rfl dX0_readLine_10 ?_
  refine j_callV (idx := 50) (As := [.ref 1]) (ci := 0) (n := 1) k1 jint_nt (jlkT (jtb4 35 rfl) rfl) sX0_readSet kX0_readSet rfl ⟨rfl, by decide +kernel, by decide +kernel, by decide +kernel⟩ rfl ⟨by decide, by decide⟩ (Nat.le_of_ble_eq_true rfl) rfl (Nat.le_of_ble_eq_true rfl) (Nat.le_of_ble_eq_true rfl) ⟨Nat.zero_le _, Nat.zero_le _⟩ dX0_readLine_11 (fun r Γ' h1 q => ?_)
  obtain ⟨x1, q0, rfl, p1⟩ := q; cases q0
  refine j_eqst [.int x1] (by rfl) ?_
  exact j_iret rfl (jbn (o1 x1 h1 p1)) (Nat.zero_le _) (Nat.zero_le _) dX0_readLine_14 (v1 x1 h1 p1)
set_option maxRecDepth 100000 in
theorem bX0_readLine_15 {sc : Nat × (Nat → Int32)} {h : jH} {Q : jQ} {P1 : Int32 → jH → Prop}
    (k1 : JM mX8_isWord [.ref 1, .ref 1004] (jG0 sc) h (jint sc P1))
    (v1 : ∀ (x1 : Int32) (h1 : jH), P1 x1 h1 → x1 = 0 → WP mX0_readLine Q 31 [some (.ref 3), some (.ref 1)] [] (jG0 sc) h1 (0, 0))
    (v2 : ∀ (x1 : Int32) (h1 : jH), P1 x1 h1 → ¬ x1 = 0 → WP mX0_readLine Q 24 [some (.ref 3), some (.ref 1)] [] (jG0 sc) h1 (0, 0)) :
    WP mX0_readLine Q 15 [some (.ref 3), some (.ref 1)] [] (jG0 sc) h (0, 0) := by
  refine j_aload_n (i := 1) rfl dX0_readLine_15 ?_
  refine j_ldcS (idx := 53) "skip" 4 (show ("MendBench$BodyReade\x72", 53, "skip", 4) ∈ jStr by decide +kernel) dX0_readLine_16 ?_
  refine j_callVN (idx := 46) (As := [.ref 1004]) (ci := 8) (n := 1) k1 jint_nt (jTbl (jtb3 223 rfl)) sX8_isWord kX8_isWord rfl ⟨rfl, by decide +kernel, by decide +kernel, by decide +kernel⟩ rfl ⟨by decide, by decide⟩ (Nat.le_of_ble_eq_true rfl) rfl (Nat.le_of_ble_eq_true rfl) (Nat.le_of_ble_eq_true rfl) ⟨Nat.zero_le _, Nat.zero_le _⟩ dX0_readLine_18 (fun r Γ' h1 q => ?_)
  obtain ⟨x1, q0, rfl, p1⟩ := q; cases q0
  refine j_eqst [.int x1] (by rfl) ?_
  refine j_if_eq (off := 10) 31 dX0_readLine_21 (by decide) (fun c1 => ?_) (fun c1 => ?_)
  · exact j_le [some (.ref 3), some (.ref 1)] (And.intro rfl (And.intro rfl True.intro)) (v1 x1 h1 p1 c1)
  · exact j_le [some (.ref 3), some (.ref 1)] (And.intro rfl (And.intro rfl True.intro)) (v2 x1 h1 p1 c1)
set_option maxRecDepth 100000 in
theorem bX0_readLine_24 {sc : Nat × (Nat → Int32)} {h : jH} {Q : jQ} {P1 : Int32 → jH → Prop}
    (k1 : JM mX0_readJump [.ref 3, .ref 1, .int 1] (jG0 sc) h (jint sc P1))
    (o1 : ∀ (x1 : Int32) (h1 : jH), P1 x1 h1 → x1 = 0 ∨ x1 = 1)
    (v1 : ∀ (x1 : Int32) (h1 : jH), P1 x1 h1 → Q (.inl (some (.int x1))) (jG0 sc) h1) :
    WP mX0_readLine Q 24 [some (.ref 3), some (.ref 1)] [] (jG0 sc) h (0, 0) := by
  refine j_aload_n (i := 0) rfl dX0_readLine_24 ?_
  refine j_aload_n (i := 1) rfl dX0_readLine_25 ?_
  refine j_iconst (n := 1) 1 (by decide) dX0_readLine_26 ?_
  refine j_callV (idx := 55) (As := [.ref 1, .int 1]) (ci := 0) (n := 2) k1 jint_nt (jlkT (jtb4 74 rfl) rfl) sX0_readJump kX0_readJump rfl ⟨rfl, by decide +kernel, by decide +kernel, by decide +kernel⟩ rfl ⟨by decide, by decide⟩ (Nat.le_of_ble_eq_true rfl) rfl (Nat.le_of_ble_eq_true rfl) (Nat.le_of_ble_eq_true rfl) ⟨Nat.zero_le _, Nat.zero_le _⟩ dX0_readLine_27 (fun r Γ' h1 q => ?_)
  obtain ⟨x1, q0, rfl, p1⟩ := q; cases q0
  refine j_eqst [.int x1] (by rfl) ?_
  exact j_iret rfl (jbn (o1 x1 h1 p1)) (Nat.zero_le _) (Nat.zero_le _) dX0_readLine_30 (v1 x1 h1 p1)
set_option maxRecDepth 100000 in
theorem bX0_readLine_31 {sc : Nat × (Nat → Int32)} {h : jH} {Q : jQ} {P1 : Int32 → jH → Prop}
    (k1 : JM mX8_isWord [.ref 1, .ref 1006] (jG0 sc) h (jint sc P1))
    (v1 : ∀ (x1 : Int32) (h1 : jH), P1 x1 h1 → x1 = 0 → WP mX0_readLine Q 47 [some (.ref 3), some (.ref 1)] [] (jG0 sc) h1 (0, 0))
    (v2 : ∀ (x1 : Int32) (h1 : jH), P1 x1 h1 → ¬ x1 = 0 → WP mX0_readLine Q 40 [some (.ref 3), some (.ref 1)] [] (jG0 sc) h1 (0, 0)) :
    WP mX0_readLine Q 31 [some (.ref 3), some (.ref 1)] [] (jG0 sc) h (0, 0) := by
  refine j_aload_n (i := 1) rfl dX0_readLine_31 ?_
  refine j_ldcS (idx := 59) "back" 6 (show ("MendBench$BodyReade\x72", 59, "back", 6) ∈ jStr by decide +kernel) dX0_readLine_32 ?_
  refine j_callVN (idx := 46) (As := [.ref 1006]) (ci := 8) (n := 1) k1 jint_nt (jTbl (jtb3 223 rfl)) sX8_isWord kX8_isWord rfl ⟨rfl, by decide +kernel, by decide +kernel, by decide +kernel⟩ rfl ⟨by decide, by decide⟩ (Nat.le_of_ble_eq_true rfl) rfl (Nat.le_of_ble_eq_true rfl) (Nat.le_of_ble_eq_true rfl) ⟨Nat.zero_le _, Nat.zero_le _⟩ dX0_readLine_34 (fun r Γ' h1 q => ?_)
  obtain ⟨x1, q0, rfl, p1⟩ := q; cases q0
  refine j_eqst [.int x1] (by rfl) ?_
  refine j_if_eq (off := 10) 47 dX0_readLine_37 (by decide) (fun c1 => ?_) (fun c1 => ?_)
  · exact j_le [some (.ref 3), some (.ref 1)] (And.intro rfl (And.intro rfl True.intro)) (v1 x1 h1 p1 c1)
  · exact j_le [some (.ref 3), some (.ref 1)] (And.intro rfl (And.intro rfl True.intro)) (v2 x1 h1 p1 c1)
set_option maxRecDepth 100000 in
theorem bX0_readLine_40 {sc : Nat × (Nat → Int32)} {h : jH} {Q : jQ} {P1 : Int32 → jH → Prop}
    (k1 : JM mX0_readJump [.ref 3, .ref 1, .int 2] (jG0 sc) h (jint sc P1))
    (o1 : ∀ (x1 : Int32) (h1 : jH), P1 x1 h1 → x1 = 0 ∨ x1 = 1)
    (v1 : ∀ (x1 : Int32) (h1 : jH), P1 x1 h1 → Q (.inl (some (.int x1))) (jG0 sc) h1) :
    WP mX0_readLine Q 40 [some (.ref 3), some (.ref 1)] [] (jG0 sc) h (0, 0) := by
  refine j_aload_n (i := 0) rfl dX0_readLine_40 ?_
  refine j_aload_n (i := 1) rfl dX0_readLine_41 ?_
  refine j_iconst (n := 2) 2 (by decide) dX0_readLine_42 ?_
  refine j_callV (idx := 55) (As := [.ref 1, .int 2]) (ci := 0) (n := 2) k1 jint_nt (jlkT (jtb4 74 rfl) rfl) sX0_readJump kX0_readJump rfl ⟨rfl, by decide +kernel, by decide +kernel, by decide +kernel⟩ rfl ⟨by decide, by decide⟩ (Nat.le_of_ble_eq_true rfl) rfl (Nat.le_of_ble_eq_true rfl) (Nat.le_of_ble_eq_true rfl) ⟨Nat.zero_le _, Nat.zero_le _⟩ dX0_readLine_43 (fun r Γ' h1 q => ?_)
  obtain ⟨x1, q0, rfl, p1⟩ := q; cases q0
  refine j_eqst [.int x1] (by rfl) ?_
  exact j_iret rfl (jbn (o1 x1 h1 p1)) (Nat.zero_le _) (Nat.zero_le _) dX0_readLine_46 (v1 x1 h1 p1)
set_option maxRecDepth 100000 in
theorem bX0_readLine_47 {sc : Nat × (Nat → Int32)} {h : jH} {Q : jQ} {P1 : Int32 → jH → Prop}
    (k1 : JM mX8_isWord [.ref 1, .ref 1007] (jG0 sc) h (jint sc P1))
    (v1 : ∀ (x1 : Int32) (h1 : jH), P1 x1 h1 → x1 = 0 → WP mX0_readLine Q 70 [some (.ref 3), some (.ref 1)] [] (jG0 sc) h1 (0, 0))
    (v2 : ∀ (x1 : Int32) (h1 : jH), P1 x1 h1 → ¬ x1 = 0 → WP mX0_readLine Q 56 [some (.ref 3), some (.ref 1)] [] (jG0 sc) h1 (0, 0)) :
    WP mX0_readLine Q 47 [some (.ref 3), some (.ref 1)] [] (jG0 sc) h (0, 0) := by
  refine j_aload_n (i := 1) rfl dX0_readLine_47 ?_
  refine j_ldcS (idx := 61) "end" 7 (show ("MendBench$BodyReade\x72", 61, "end", 7) ∈ jStr by decide +kernel) dX0_readLine_48 ?_
  refine j_callVN (idx := 46) (As := [.ref 1007]) (ci := 8) (n := 1) k1 jint_nt (jTbl (jtb3 223 rfl)) sX8_isWord kX8_isWord rfl ⟨rfl, by decide +kernel, by decide +kernel, by decide +kernel⟩ rfl ⟨by decide, by decide⟩ (Nat.le_of_ble_eq_true rfl) rfl (Nat.le_of_ble_eq_true rfl) (Nat.le_of_ble_eq_true rfl) ⟨Nat.zero_le _, Nat.zero_le _⟩ dX0_readLine_50 (fun r Γ' h1 q => ?_)
  obtain ⟨x1, q0, rfl, p1⟩ := q; cases q0
  refine j_eqst [.int x1] (by rfl) ?_
  refine j_if_eq (off := 17) 70 dX0_readLine_53 (by decide) (fun c1 => ?_) (fun c1 => ?_)
  · exact j_le [some (.ref 3), some (.ref 1)] (And.intro rfl (And.intro rfl True.intro)) (v1 x1 h1 p1 c1)
  · exact j_le [some (.ref 3), some (.ref 1)] (And.intro rfl (And.intro rfl True.intro)) (v2 x1 h1 p1 c1)
set_option maxRecDepth 100000 in
theorem bX0_readLine_56 {sc : Nat × (Nat → Int32)} {h : jH} {Q : jQ} {P1 : Int32 → jH → Prop}
    (k1 : JM mX0_readSum [.ref 3, .ref 1, .int 3, .int (-1)] (jG0 sc) h (jint sc P1))
    (v1 : ∀ (x1 : Int32) (h1 : jH), P1 x1 h1 → x1 = 0 → WP mX0_readLine Q 70 [some (.ref 3), some (.ref 1)] [] (jG0 sc) h1 (0, 0))
    (v2 : ∀ (x1 : Int32) (h1 : jH), P1 x1 h1 → ¬ x1 = 0 → WP mX0_readLine Q 66 [some (.ref 3), some (.ref 1)] [] (jG0 sc) h1 (0, 0)) :
    WP mX0_readLine Q 56 [some (.ref 3), some (.ref 1)] [] (jG0 sc) h (0, 0) := by
  refine j_aload_n (i := 0) rfl dX0_readLine_56 ?_
  refine j_aload_n (i := 1) rfl dX0_readLine_57 ?_
  refine j_iconst (n := 3) 3 (by decide) dX0_readLine_58 ?_
  refine j_iconst (n := (-1)) (-1) (by decide) dX0_readLine_59 ?_
  refine j_callV (idx := 63) (As := [.ref 1, .int 3, .int (-1)]) (ci := 0) (n := 3) k1 jint_nt (jlkT (jtb4 49 rfl) rfl) sX0_readSum kX0_readSum rfl ⟨rfl, by decide +kernel, by decide +kernel, by decide +kernel⟩ rfl ⟨by decide, by decide⟩ (Nat.le_of_ble_eq_true rfl) rfl (Nat.le_of_ble_eq_true rfl) (Nat.le_of_ble_eq_true rfl) ⟨Nat.zero_le _, Nat.zero_le _⟩ dX0_readLine_60 (fun r Γ' h1 q => ?_)
  obtain ⟨x1, q0, rfl, p1⟩ := q; cases q0
  refine j_eqst [.int x1] (by rfl) ?_
  refine j_if_eq (off := 7) 70 dX0_readLine_63 (by decide) (fun c1 => ?_) (fun c1 => ?_)
  · exact j_le [some (.ref 3), some (.ref 1)] (And.intro rfl (And.intro rfl True.intro)) (v1 x1 h1 p1 c1)
  · exact j_le [some (.ref 3), some (.ref 1)] (And.intro rfl (And.intro rfl True.intro)) (v2 x1 h1 p1 c1)
set_option maxRecDepth 100000 in
theorem bX0_readLine_66 {sc : Nat × (Nat → Int32)} {h : jH} {Q : jQ}
    (v1 : WP mX0_readLine Q 71 [some (.ref 3), some (.ref 1)] [.int 1] (jG0 sc) h (0, 0)) :
    WP mX0_readLine Q 66 [some (.ref 3), some (.ref 1)] [] (jG0 sc) h (0, 0) := by
  refine j_iconst (n := 1) 1 (by decide) dX0_readLine_66 ?_
  refine j_goto (off := 4) 71 dX0_readLine_67 (by decide) ?_
  exact j_le [some (.ref 3), some (.ref 1)] (And.intro rfl (And.intro rfl True.intro)) v1
set_option maxRecDepth 100000 in
theorem bX0_readLine_70 {sc : Nat × (Nat → Int32)} {h : jH} {Q : jQ}
    (v1 : WP mX0_readLine Q 71 [some (.ref 3), some (.ref 1)] [.int 0] (jG0 sc) h (0, 0)) :
    WP mX0_readLine Q 70 [some (.ref 3), some (.ref 1)] [] (jG0 sc) h (0, 0) := by
  refine j_iconst (n := 0) 0 (by decide) dX0_readLine_70 ?_
  exact j_le [some (.ref 3), some (.ref 1)] (And.intro rfl (And.intro rfl True.intro)) v1
set_option maxRecDepth 100000 in
theorem bX0_readLine_71 {sc : Nat × (Nat → Int32)} {h : jH} {Q : jQ} {s0 : Int32}
    (o1 : s0 = 0 ∨ s0 = 1)
    (v1 : Q (.inl (some (.int s0))) (jG0 sc) h) :
    WP mX0_readLine Q 71 [some (.ref 3), some (.ref 1)] [.int s0] (jG0 sc) h (0, 0) := by
  exact j_iret rfl (jbn o1) (Nat.zero_le _) (Nat.zero_le _) dX0_readLine_71 v1
set_option maxRecDepth 100000 in
theorem rX0_readLine_0 {sc : Nat × (Nat → Int32)} {h : jH} {Q : jQ} {P1 : Int32 → jH → Prop} {P2 : Int32 → jH → Prop} {P3 : Int32 → jH → Prop} {P4 : Int32 → jH → Prop} {P5 : Int32 → jH → Prop} {P6 : Int32 → jH → Prop} {P7 : Int32 → jH → Prop} {P8 : Int32 → jH → Prop}
    (k1 : JM mX8_isWord [.ref 1, .ref 1001] (jG0 sc) h (jint sc P1))
    (k2 : ∀ (x1 : Int32) (h1 : jH), P1 x1 h1 → x1 = 0 → JM mX8_isWord [.ref 1, .ref 1004] (jG0 sc) h1 (jint sc P2))
    (k3 : ∀ (x1 : Int32) (h1 : jH), P1 x1 h1 → x1 = 0 → ∀ (x2 : Int32) (h2 : jH), P2 x2 h2 → x2 = 0 → JM mX8_isWord [.ref 1, .ref 1006] (jG0 sc) h2 (jint sc P3))
    (k4 : ∀ (x1 : Int32) (h1 : jH), P1 x1 h1 → x1 = 0 → ∀ (x2 : Int32) (h2 : jH), P2 x2 h2 → x2 = 0 → ∀ (x3 : Int32) (h3 : jH), P3 x3 h3 → x3 = 0 → JM mX8_isWord [.ref 1, .ref 1007] (jG0 sc) h3 (jint sc P4))
    (v1 : ∀ (x1 : Int32) (h1 : jH), P1 x1 h1 → x1 = 0 → ∀ (x2 : Int32) (h2 : jH), P2 x2 h2 → x2 = 0 → ∀ (x3 : Int32) (h3 : jH), P3 x3 h3 → x3 = 0 → ∀ (x4 : Int32) (h4 : jH), P4 x4 h4 → x4 = 0 → Q (.inl (some (.int 0))) (jG0 sc) h4)
    (k5 : ∀ (x1 : Int32) (h1 : jH), P1 x1 h1 → x1 = 0 → ∀ (x2 : Int32) (h2 : jH), P2 x2 h2 → x2 = 0 → ∀ (x3 : Int32) (h3 : jH), P3 x3 h3 → x3 = 0 → ∀ (x4 : Int32) (h4 : jH), P4 x4 h4 → ¬ x4 = 0 → JM mX0_readSum [.ref 3, .ref 1, .int 3, .int (-1)] (jG0 sc) h4 (jint sc P5))
    (v2 : ∀ (x1 : Int32) (h1 : jH), P1 x1 h1 → x1 = 0 → ∀ (x2 : Int32) (h2 : jH), P2 x2 h2 → x2 = 0 → ∀ (x3 : Int32) (h3 : jH), P3 x3 h3 → x3 = 0 → ∀ (x4 : Int32) (h4 : jH), P4 x4 h4 → ¬ x4 = 0 → ∀ (x5 : Int32) (h5 : jH), P5 x5 h5 → x5 = 0 → Q (.inl (some (.int 0))) (jG0 sc) h5)
    (v3 : ∀ (x1 : Int32) (h1 : jH), P1 x1 h1 → x1 = 0 → ∀ (x2 : Int32) (h2 : jH), P2 x2 h2 → x2 = 0 → ∀ (x3 : Int32) (h3 : jH), P3 x3 h3 → x3 = 0 → ∀ (x4 : Int32) (h4 : jH), P4 x4 h4 → ¬ x4 = 0 → ∀ (x5 : Int32) (h5 : jH), P5 x5 h5 → ¬ x5 = 0 → Q (.inl (some (.int 1))) (jG0 sc) h5)
    (k6 : ∀ (x1 : Int32) (h1 : jH), P1 x1 h1 → x1 = 0 → ∀ (x2 : Int32) (h2 : jH), P2 x2 h2 → x2 = 0 → ∀ (x3 : Int32) (h3 : jH), P3 x3 h3 → ¬ x3 = 0 → JM mX0_readJump [.ref 3, .ref 1, .int 2] (jG0 sc) h3 (jint sc P6))
    (o1 : ∀ (x1 : Int32) (h1 : jH), P1 x1 h1 → x1 = 0 → ∀ (x2 : Int32) (h2 : jH), P2 x2 h2 → x2 = 0 → ∀ (x3 : Int32) (h3 : jH), P3 x3 h3 → ¬ x3 = 0 → ∀ (x6 : Int32) (h6 : jH), P6 x6 h6 → x6 = 0 ∨ x6 = 1)
    (v4 : ∀ (x1 : Int32) (h1 : jH), P1 x1 h1 → x1 = 0 → ∀ (x2 : Int32) (h2 : jH), P2 x2 h2 → x2 = 0 → ∀ (x3 : Int32) (h3 : jH), P3 x3 h3 → ¬ x3 = 0 → ∀ (x6 : Int32) (h6 : jH), P6 x6 h6 → Q (.inl (some (.int x6))) (jG0 sc) h6)
    (k7 : ∀ (x1 : Int32) (h1 : jH), P1 x1 h1 → x1 = 0 → ∀ (x2 : Int32) (h2 : jH), P2 x2 h2 → ¬ x2 = 0 → JM mX0_readJump [.ref 3, .ref 1, .int 1] (jG0 sc) h2 (jint sc P7))
    (o2 : ∀ (x1 : Int32) (h1 : jH), P1 x1 h1 → x1 = 0 → ∀ (x2 : Int32) (h2 : jH), P2 x2 h2 → ¬ x2 = 0 → ∀ (x7 : Int32) (h7 : jH), P7 x7 h7 → x7 = 0 ∨ x7 = 1)
    (v5 : ∀ (x1 : Int32) (h1 : jH), P1 x1 h1 → x1 = 0 → ∀ (x2 : Int32) (h2 : jH), P2 x2 h2 → ¬ x2 = 0 → ∀ (x7 : Int32) (h7 : jH), P7 x7 h7 → Q (.inl (some (.int x7))) (jG0 sc) h7)
    (k8 : ∀ (x1 : Int32) (h1 : jH), P1 x1 h1 → ¬ x1 = 0 → JM mX0_readSet [.ref 3, .ref 1] (jG0 sc) h1 (jint sc P8))
    (o3 : ∀ (x1 : Int32) (h1 : jH), P1 x1 h1 → ¬ x1 = 0 → ∀ (x8 : Int32) (h8 : jH), P8 x8 h8 → x8 = 0 ∨ x8 = 1)
    (v6 : ∀ (x1 : Int32) (h1 : jH), P1 x1 h1 → ¬ x1 = 0 → ∀ (x8 : Int32) (h8 : jH), P8 x8 h8 → Q (.inl (some (.int x8))) (jG0 sc) h8) :
    WP mX0_readLine Q 0 [some (.ref 3), some (.ref 1)] [] (jG0 sc) h (0, 0) := by
  exact (bX0_readLine_0 k1 (fun x1 h1 p1 c1 => (bX0_readLine_15 (k2 x1 h1 p1 c1) (fun x2 h2 p2 c2 => (bX0_readLine_31 (k3 x1 h1 p1 c1 x2 h2 p2 c2) (fun x3 h3 p3 c3 => (bX0_readLine_47 (k4 x1 h1 p1 c1 x2 h2 p2 c2 x3 h3 p3 c3) (fun x4 h4 p4 c4 => (bX0_readLine_70 (bX0_readLine_71 (by decide) (v1 x1 h1 p1 c1 x2 h2 p2 c2 x3 h3 p3 c3 x4 h4 p4 c4)))) (fun x4 h4 p4 c4 => (bX0_readLine_56 (k5 x1 h1 p1 c1 x2 h2 p2 c2 x3 h3 p3 c3 x4 h4 p4 c4) (fun x5 h5 p5 c5 => (bX0_readLine_70 (bX0_readLine_71 (by decide) (v2 x1 h1 p1 c1 x2 h2 p2 c2 x3 h3 p3 c3 x4 h4 p4 c4 x5 h5 p5 c5)))) (fun x5 h5 p5 c5 => (bX0_readLine_66 (bX0_readLine_71 (by decide) (v3 x1 h1 p1 c1 x2 h2 p2 c2 x3 h3 p3 c3 x4 h4 p4 c4 x5 h5 p5 c5)))))))) (fun x3 h3 p3 c3 => (bX0_readLine_40 (k6 x1 h1 p1 c1 x2 h2 p2 c2 x3 h3 p3 c3) (fun x6 h6 p6 => (o1 x1 h1 p1 c1 x2 h2 p2 c2 x3 h3 p3 c3 x6 h6 p6)) (fun x6 h6 p6 => (v4 x1 h1 p1 c1 x2 h2 p2 c2 x3 h3 p3 c3 x6 h6 p6)))))) (fun x2 h2 p2 c2 => (bX0_readLine_24 (k7 x1 h1 p1 c1 x2 h2 p2 c2) (fun x7 h7 p7 => (o2 x1 h1 p1 c1 x2 h2 p2 c2 x7 h7 p7)) (fun x7 h7 p7 => (v5 x1 h1 p1 c1 x2 h2 p2 c2 x7 h7 p7)))))) (fun x1 h1 p1 c1 => (bX0_readLine_9 (k8 x1 h1 p1 c1) (fun x8 h8 p8 => (o3 x1 h1 p1 c1 x8 h8 p8)) (fun x8 h8 p8 => (v6 x1 h1 p1 c1 x8 h8 p8)))))
theorem dX0_readSet_0 : decode (mC mX0_readSet) 0 = .ok (.aload_n 1, 1) := by decide +kernel
theorem dX0_readSet_1 : decode (mC mX0_readSet) 1 = .ok (.invokevirtual 41, 3) := by decide +kernel
theorem dX0_readSet_4 : decode (mC mX0_readSet) 4 = .ok (.aload_n 1, 1) := by decide +kernel
theorem dX0_readSet_5 : decode (mC mX0_readSet) 5 = .ok (.ldc 67, 2) := by decide +kernel
theorem dX0_readSet_7 : decode (mC mX0_readSet) 7 = .ok (.invokevirtual 69, 3) := by decide +kernel
theorem dX0_readSet_10 : decode (mC mX0_readSet) 10 = .ok (.istore_n 2, 1) := by decide +kernel
theorem dX0_readSet_11 : decode (mC mX0_readSet) 11 = .ok (.iload_n 2, 1) := by decide +kernel
theorem dX0_readSet_12 : decode (mC mX0_readSet) 12 = .ok (.iconst (-1), 1) := by decide +kernel
theorem dX0_readSet_13 : decode (mC mX0_readSet) 13 = .ok (.if_icmp .ne 5, 3) := by decide +kernel
theorem dX0_readSet_16 : decode (mC mX0_readSet) 16 = .ok (.iconst 0, 1) := by decide +kernel
theorem dX0_readSet_17 : decode (mC mX0_readSet) 17 = .ok (.ireturn, 1) := by decide +kernel
theorem dX0_readSet_18 : decode (mC mX0_readSet) 18 = .ok (.aload_n 1, 1) := by decide +kernel
theorem dX0_readSet_19 : decode (mC mX0_readSet) 19 = .ok (.invokevirtual 41, 3) := by decide +kernel
theorem dX0_readSet_22 : decode (mC mX0_readSet) 22 = .ok (.aload_n 1, 1) := by decide +kernel
theorem dX0_readSet_23 : decode (mC mX0_readSet) 23 = .ok (.bipush 61, 2) := by decide +kernel
theorem dX0_readSet_25 : decode (mC mX0_readSet) 25 = .ok (.invokevirtual 37, 3) := by decide +kernel
theorem dX0_readSet_28 : decode (mC mX0_readSet) 28 = .ok (.ifCond .eq 17, 3) := by decide +kernel
theorem dX0_readSet_31 : decode (mC mX0_readSet) 31 = .ok (.aload_n 0, 1) := by decide +kernel
theorem dX0_readSet_32 : decode (mC mX0_readSet) 32 = .ok (.aload_n 1, 1) := by decide +kernel
theorem dX0_readSet_33 : decode (mC mX0_readSet) 33 = .ok (.iconst 0, 1) := by decide +kernel
theorem dX0_readSet_34 : decode (mC mX0_readSet) 34 = .ok (.iload_n 2, 1) := by decide +kernel
theorem dX0_readSet_35 : decode (mC mX0_readSet) 35 = .ok (.invokevirtual 63, 3) := by decide +kernel
theorem dX0_readSet_38 : decode (mC mX0_readSet) 38 = .ok (.ifCond .eq 7, 3) := by decide +kernel
theorem dX0_readSet_41 : decode (mC mX0_readSet) 41 = .ok (.iconst 1, 1) := by decide +kernel
theorem dX0_readSet_42 : decode (mC mX0_readSet) 42 = .ok (.goto 4, 3) := by decide +kernel
theorem dX0_readSet_45 : decode (mC mX0_readSet) 45 = .ok (.iconst 0, 1) := by decide +kernel
theorem dX0_readSet_46 : decode (mC mX0_readSet) 46 = .ok (.ireturn, 1) := by decide +kernel
set_option maxRecDepth 100000 in
theorem bX0_readSet_0 {sc : Nat × (Nat → Int32)} {h : jH} {Q : jQ} {P1 : jH → Prop} {P2 : Int32 → jH → Prop}
    (k1 : JM mX8_next [.ref 1] (jG0 sc) h (jvoid sc P1))
    (k2 : ∀ h1 : jH, P1 h1 → JM mX8_letterOf [.ref 1, .ref 1002] (jG0 sc) h1 (jint sc P2))
    (v1 : ∀ h1 : jH, P1 h1 → ∀ (x2 : Int32) (h2 : jH), P2 x2 h2 → ¬ x2 = (-1) → WP mX0_readSet Q 18 [some (.ref 3), some (.ref 1), some (.int x2)] [] (jG0 sc) h2 (0, 0))
    (v2 : ∀ h1 : jH, P1 h1 → ∀ (x2 : Int32) (h2 : jH), P2 x2 h2 → x2 = (-1) → WP mX0_readSet Q 16 [some (.ref 3), some (.ref 1), some (.int x2)] [] (jG0 sc) h2 (0, 0)) :
    WP mX0_readSet Q 0 [some (.ref 3), some (.ref 1), none] [] (jG0 sc) h (0, 0) := by
  refine j_aload_n (i := 1) rfl dX0_readSet_0 ?_
  refine j_callVN (idx := 41) (As := []) (ci := 8) (n := 0) k1 jvoid_nt (jTbl (jtb4 39 rfl)) sX8_next kX8_next rfl ⟨rfl, by decide +kernel, by decide +kernel, by decide +kernel⟩ rfl ⟨by decide, by decide⟩ (Nat.le_of_ble_eq_true rfl) rfl (Nat.le_of_ble_eq_true rfl) (Nat.le_of_ble_eq_true rfl) ⟨Nat.zero_le _, Nat.zero_le _⟩ dX0_readSet_1 (fun r Γ' h1 q => ?_)
  obtain ⟨q0, rfl, p1⟩ := q; cases q0
  refine j_eqst [] (by rfl) ?_
  refine j_aload_n (i := 1) rfl dX0_readSet_4 ?_
  refine j_ldcS (idx := 67) "abcd" 2 (show ("MendBench$BodyReade\x72", 67, "abcd", 2) ∈ jStr by decide +kernel) dX0_readSet_5 ?_
  refine j_callVN (idx := 69) (As := [.ref 1002]) (ci := 8) (n := 1) (k2 h1 p1) jint_nt (jTbl (jtb4 41 rfl)) sX8_letterOf kX8_letterOf rfl ⟨rfl, by decide +kernel, by decide +kernel, by decide +kernel⟩ rfl ⟨by decide, by decide⟩ (Nat.le_of_ble_eq_true rfl) rfl (Nat.le_of_ble_eq_true rfl) (Nat.le_of_ble_eq_true rfl) ⟨Nat.zero_le _, Nat.zero_le _⟩ dX0_readSet_7 (fun r Γ' h2 q => ?_)
  obtain ⟨x2, q0, rfl, p2⟩ := q; cases q0
  refine j_eqst [.int x2] (by rfl) ?_
  refine j_istore_n (i := 2) dX0_readSet_10 (Nat.le_of_ble_eq_true rfl) ?_
  refine j_iload_n (i := 2) rfl dX0_readSet_11 ?_
  refine j_iconst (n := (-1)) (-1) (by decide) dX0_readSet_12 ?_
  refine j_icmp_ne (off := 5) 18 dX0_readSet_13 (by decide) (fun c1 => ?_) (fun c1 => ?_)
  · exact j_le [some (.ref 3), some (.ref 1), some (.int x2)] (And.intro rfl (And.intro rfl (And.intro rfl True.intro))) (v1 h1 p1 x2 h2 p2 c1)
  · exact j_le [some (.ref 3), some (.ref 1), some (.int x2)] (And.intro rfl (And.intro rfl (And.intro rfl True.intro))) (v2 h1 p1 x2 h2 p2 c1)
set_option maxRecDepth 100000 in
theorem bX0_readSet_16 {sc : Nat × (Nat → Int32)} {h : jH} {Q : jQ} {l2 : Int32}
    (v1 : Q (.inl (some (.int 0))) (jG0 sc) h) :
    WP mX0_readSet Q 16 [some (.ref 3), some (.ref 1), some (.int l2)] [] (jG0 sc) h (0, 0) := by
  refine j_iconst (n := 0) 0 (by decide) dX0_readSet_16 ?_
  exact j_iret rfl rfl (Nat.zero_le _) (Nat.zero_le _) dX0_readSet_17 v1
set_option maxRecDepth 100000 in
theorem bX0_readSet_18 {sc : Nat × (Nat → Int32)} {h : jH} {Q : jQ} {l2 : Int32} {P1 : jH → Prop} {P2 : Int32 → jH → Prop}
    (k1 : JM mX8_next [.ref 1] (jG0 sc) h (jvoid sc P1))
    (k2 : ∀ h1 : jH, P1 h1 → JM mX8_isMark [.ref 1, .int 61] (jG0 sc) h1 (jint sc P2))
    (v1 : ∀ h1 : jH, P1 h1 → ∀ (x2 : Int32) (h2 : jH), P2 x2 h2 → x2 = 0 → WP mX0_readSet Q 45 [some (.ref 3), some (.ref 1), some (.int l2)] [] (jG0 sc) h2 (0, 0))
    (v2 : ∀ h1 : jH, P1 h1 → ∀ (x2 : Int32) (h2 : jH), P2 x2 h2 → ¬ x2 = 0 → WP mX0_readSet Q 31 [some (.ref 3), some (.ref 1), some (.int l2)] [] (jG0 sc) h2 (0, 0)) :
    WP mX0_readSet Q 18 [some (.ref 3), some (.ref 1), some (.int l2)] [] (jG0 sc) h (0, 0) := by
  refine j_aload_n (i := 1) rfl dX0_readSet_18 ?_
  refine j_callVN (idx := 41) (As := []) (ci := 8) (n := 0) k1 jvoid_nt (jTbl (jtb4 39 rfl)) sX8_next kX8_next rfl ⟨rfl, by decide +kernel, by decide +kernel, by decide +kernel⟩ rfl ⟨by decide, by decide⟩ (Nat.le_of_ble_eq_true rfl) rfl (Nat.le_of_ble_eq_true rfl) (Nat.le_of_ble_eq_true rfl) ⟨Nat.zero_le _, Nat.zero_le _⟩ dX0_readSet_19 (fun r Γ' h1 q => ?_)
  obtain ⟨q0, rfl, p1⟩ := q; cases q0
  refine j_eqst [] (by rfl) ?_
  refine j_aload_n (i := 1) rfl dX0_readSet_22 ?_
  refine j_bipush (n := 61) 61 (by decide) dX0_readSet_23 ?_
  refine j_callVN (idx := 37) (As := [.int 61]) (ci := 8) (n := 1) (k2 h1 p1) jint_nt (jTbl (jtb4 45 rfl)) sX8_isMark kX8_isMark rfl ⟨rfl, by decide +kernel, by decide +kernel, by decide +kernel⟩ rfl ⟨by decide, by decide⟩ (Nat.le_of_ble_eq_true rfl) rfl (Nat.le_of_ble_eq_true rfl) (Nat.le_of_ble_eq_true rfl) ⟨Nat.zero_le _, Nat.zero_le _⟩ dX0_readSet_25 (fun r Γ' h2 q => ?_)
  obtain ⟨x2, q0, rfl, p2⟩ := q; cases q0
  refine j_eqst [.int x2] (by rfl) ?_
  refine j_if_eq (off := 17) 45 dX0_readSet_28 (by decide) (fun c1 => ?_) (fun c1 => ?_)
  · exact j_le [some (.ref 3), some (.ref 1), some (.int l2)] (And.intro rfl (And.intro rfl (And.intro rfl True.intro))) (v1 h1 p1 x2 h2 p2 c1)
  · exact j_le [some (.ref 3), some (.ref 1), some (.int l2)] (And.intro rfl (And.intro rfl (And.intro rfl True.intro))) (v2 h1 p1 x2 h2 p2 c1)
set_option maxRecDepth 100000 in
theorem bX0_readSet_31 {sc : Nat × (Nat → Int32)} {h : jH} {Q : jQ} {l2 : Int32} {P1 : Int32 → jH → Prop}
    (k1 : JM mX0_readSum [.ref 3, .ref 1, .int 0, .int l2] (jG0 sc) h (jint sc P1))
    (v1 : ∀ (x1 : Int32) (h1 : jH), P1 x1 h1 → x1 = 0 → WP mX0_readSet Q 45 [some (.ref 3), some (.ref 1), some (.int l2)] [] (jG0 sc) h1 (0, 0))
    (v2 : ∀ (x1 : Int32) (h1 : jH), P1 x1 h1 → ¬ x1 = 0 → WP mX0_readSet Q 41 [some (.ref 3), some (.ref 1), some (.int l2)] [] (jG0 sc) h1 (0, 0)) :
    WP mX0_readSet Q 31 [some (.ref 3), some (.ref 1), some (.int l2)] [] (jG0 sc) h (0, 0) := by
  refine j_aload_n (i := 0) rfl dX0_readSet_31 ?_
  refine j_aload_n (i := 1) rfl dX0_readSet_32 ?_
  refine j_iconst (n := 0) 0 (by decide) dX0_readSet_33 ?_
  refine j_iload_n (i := 2) rfl dX0_readSet_34 ?_
  refine j_callV (idx := 63) (As := [.ref 1, .int 0, .int l2]) (ci := 0) (n := 3) k1 jint_nt (jlkT (jtb4 49 rfl) rfl) sX0_readSum kX0_readSum rfl ⟨rfl, by decide +kernel, by decide +kernel, by decide +kernel⟩ rfl ⟨by decide, by decide⟩ (Nat.le_of_ble_eq_true rfl) rfl (Nat.le_of_ble_eq_true rfl) (Nat.le_of_ble_eq_true rfl) ⟨Nat.zero_le _, Nat.zero_le _⟩ dX0_readSet_35 (fun r Γ' h1 q => ?_)
  obtain ⟨x1, q0, rfl, p1⟩ := q; cases q0
  refine j_eqst [.int x1] (by rfl) ?_
  refine j_if_eq (off := 7) 45 dX0_readSet_38 (by decide) (fun c1 => ?_) (fun c1 => ?_)
  · exact j_le [some (.ref 3), some (.ref 1), some (.int l2)] (And.intro rfl (And.intro rfl (And.intro rfl True.intro))) (v1 x1 h1 p1 c1)
  · exact j_le [some (.ref 3), some (.ref 1), some (.int l2)] (And.intro rfl (And.intro rfl (And.intro rfl True.intro))) (v2 x1 h1 p1 c1)
set_option maxRecDepth 100000 in
theorem bX0_readSet_41 {sc : Nat × (Nat → Int32)} {h : jH} {Q : jQ} {l2 : Int32}
    (v1 : WP mX0_readSet Q 46 [some (.ref 3), some (.ref 1), some (.int l2)] [.int 1] (jG0 sc) h (0, 0)) :
    WP mX0_readSet Q 41 [some (.ref 3), some (.ref 1), some (.int l2)] [] (jG0 sc) h (0, 0) := by
  refine j_iconst (n := 1) 1 (by decide) dX0_readSet_41 ?_
  refine j_goto (off := 4) 46 dX0_readSet_42 (by decide) ?_
  exact j_le [some (.ref 3), some (.ref 1), some (.int l2)] (And.intro rfl (And.intro rfl (And.intro rfl True.intro))) v1
set_option maxRecDepth 100000 in
theorem bX0_readSet_45 {sc : Nat × (Nat → Int32)} {h : jH} {Q : jQ} {l2 : Int32}
    (v1 : WP mX0_readSet Q 46 [some (.ref 3), some (.ref 1), some (.int l2)] [.int 0] (jG0 sc) h (0, 0)) :
    WP mX0_readSet Q 45 [some (.ref 3), some (.ref 1), some (.int l2)] [] (jG0 sc) h (0, 0) := by
  refine j_iconst (n := 0) 0 (by decide) dX0_readSet_45 ?_
  exact j_le [some (.ref 3), some (.ref 1), some (.int l2)] (And.intro rfl (And.intro rfl (And.intro rfl True.intro))) v1
set_option maxRecDepth 100000 in
theorem bX0_readSet_46 {sc : Nat × (Nat → Int32)} {h : jH} {Q : jQ} {l2 s0 : Int32}
    (o1 : s0 = 0 ∨ s0 = 1)
    (v1 : Q (.inl (some (.int s0))) (jG0 sc) h) :
    WP mX0_readSet Q 46 [some (.ref 3), some (.ref 1), some (.int l2)] [.int s0] (jG0 sc) h (0, 0) := by
  exact j_iret rfl (jbn o1) (Nat.zero_le _) (Nat.zero_le _) dX0_readSet_46 v1
set_option maxRecDepth 100000 in
theorem rX0_readSet_0 {sc : Nat × (Nat → Int32)} {h : jH} {Q : jQ} {P1 : jH → Prop} {P2 : Int32 → jH → Prop} {P3 : jH → Prop} {P4 : Int32 → jH → Prop} {P5 : Int32 → jH → Prop}
    (k1 : JM mX8_next [.ref 1] (jG0 sc) h (jvoid sc P1))
    (k2 : ∀ h1 : jH, P1 h1 → JM mX8_letterOf [.ref 1, .ref 1002] (jG0 sc) h1 (jint sc P2))
    (k3 : ∀ h1 : jH, P1 h1 → ∀ (x2 : Int32) (h2 : jH), P2 x2 h2 → ¬ x2 = (-1) → JM mX8_next [.ref 1] (jG0 sc) h2 (jvoid sc P3))
    (k4 : ∀ h1 : jH, P1 h1 → ∀ (x2 : Int32) (h2 : jH), P2 x2 h2 → ¬ x2 = (-1) → ∀ h3 : jH, P3 h3 → JM mX8_isMark [.ref 1, .int 61] (jG0 sc) h3 (jint sc P4))
    (v1 : ∀ h1 : jH, P1 h1 → ∀ (x2 : Int32) (h2 : jH), P2 x2 h2 → ¬ x2 = (-1) → ∀ h3 : jH, P3 h3 → ∀ (x4 : Int32) (h4 : jH), P4 x4 h4 → x4 = 0 → Q (.inl (some (.int 0))) (jG0 sc) h4)
    (k5 : ∀ h1 : jH, P1 h1 → ∀ (x2 : Int32) (h2 : jH), P2 x2 h2 → ¬ x2 = (-1) → ∀ h3 : jH, P3 h3 → ∀ (x4 : Int32) (h4 : jH), P4 x4 h4 → ¬ x4 = 0 → JM mX0_readSum [.ref 3, .ref 1, .int 0, .int x2] (jG0 sc) h4 (jint sc P5))
    (v2 : ∀ h1 : jH, P1 h1 → ∀ (x2 : Int32) (h2 : jH), P2 x2 h2 → ¬ x2 = (-1) → ∀ h3 : jH, P3 h3 → ∀ (x4 : Int32) (h4 : jH), P4 x4 h4 → ¬ x4 = 0 → ∀ (x5 : Int32) (h5 : jH), P5 x5 h5 → x5 = 0 → Q (.inl (some (.int 0))) (jG0 sc) h5)
    (v3 : ∀ h1 : jH, P1 h1 → ∀ (x2 : Int32) (h2 : jH), P2 x2 h2 → ¬ x2 = (-1) → ∀ h3 : jH, P3 h3 → ∀ (x4 : Int32) (h4 : jH), P4 x4 h4 → ¬ x4 = 0 → ∀ (x5 : Int32) (h5 : jH), P5 x5 h5 → ¬ x5 = 0 → Q (.inl (some (.int 1))) (jG0 sc) h5)
    (v4 : ∀ h1 : jH, P1 h1 → ∀ (x2 : Int32) (h2 : jH), P2 x2 h2 → x2 = (-1) → Q (.inl (some (.int 0))) (jG0 sc) h2) :
    WP mX0_readSet Q 0 [some (.ref 3), some (.ref 1), none] [] (jG0 sc) h (0, 0) := by
  exact (bX0_readSet_0 k1 (fun h1 p1 => (k2 h1 p1)) (fun h1 p1 x2 h2 p2 c1 => (bX0_readSet_18 (k3 h1 p1 x2 h2 p2 c1) (fun h3 p3 => (k4 h1 p1 x2 h2 p2 c1 h3 p3)) (fun h3 p3 x4 h4 p4 c2 => (bX0_readSet_45 (bX0_readSet_46 (by decide) (v1 h1 p1 x2 h2 p2 c1 h3 p3 x4 h4 p4 c2)))) (fun h3 p3 x4 h4 p4 c2 => (bX0_readSet_31 (k5 h1 p1 x2 h2 p2 c1 h3 p3 x4 h4 p4 c2) (fun x5 h5 p5 c3 => (bX0_readSet_45 (bX0_readSet_46 (by decide) (v2 h1 p1 x2 h2 p2 c1 h3 p3 x4 h4 p4 c2 x5 h5 p5 c3)))) (fun x5 h5 p5 c3 => (bX0_readSet_41 (bX0_readSet_46 (by decide) (v3 h1 p1 x2 h2 p2 c1 h3 p3 x4 h4 p4 c2 x5 h5 p5 c3)))))))) (fun h1 p1 x2 h2 p2 c1 => (bX0_readSet_16 (v4 h1 p1 x2 h2 p2 c1))))
theorem dX0_readSum_0 : decode (mC mX0_readSum) 0 = .ok (.aload_n 1, 1) := by decide +kernel
theorem dX0_readSum_1 : decode (mC mX0_readSum) 1 = .ok (.invokevirtual 41, 3) := by decide +kernel
theorem dX0_readSum_4 : decode (mC mX0_readSum) 4 = .ok (.aload_n 0, 1) := by decide +kernel
theorem dX0_readSum_5 : decode (mC mX0_readSum) 5 = .ok (.aload_n 1, 1) := by decide +kernel
theorem dX0_readSum_6 : decode (mC mX0_readSum) 6 = .ok (.invokevirtual 73, 3) := by decide +kernel
theorem dX0_readSum_9 : decode (mC mX0_readSum) 9 = .ok (.istore 4, 2) := by decide +kernel
theorem dX0_readSum_11 : decode (mC mX0_readSum) 11 = .ok (.iload 4, 2) := by decide +kernel
theorem dX0_readSum_13 : decode (mC mX0_readSum) 13 = .ok (.iconst (-1), 1) := by decide +kernel
theorem dX0_readSum_14 : decode (mC mX0_readSum) 14 = .ok (.if_icmp .ne 5, 3) := by decide +kernel
theorem dX0_readSum_17 : decode (mC mX0_readSum) 17 = .ok (.iconst 0, 1) := by decide +kernel
theorem dX0_readSum_18 : decode (mC mX0_readSum) 18 = .ok (.ireturn, 1) := by decide +kernel
theorem dX0_readSum_19 : decode (mC mX0_readSum) 19 = .ok (.aload_n 1, 1) := by decide +kernel
theorem dX0_readSum_20 : decode (mC mX0_readSum) 20 = .ok (.invokevirtual 41, 3) := by decide +kernel
theorem dX0_readSum_23 : decode (mC mX0_readSum) 23 = .ok (.aload_n 1, 1) := by decide +kernel
theorem dX0_readSum_24 : decode (mC mX0_readSum) 24 = .ok (.invokevirtual 77, 3) := by decide +kernel
theorem dX0_readSum_27 : decode (mC mX0_readSum) 27 = .ok (.istore 5, 2) := by decide +kernel
theorem dX0_readSum_29 : decode (mC mX0_readSum) 29 = .ok (.iload 5, 2) := by decide +kernel
theorem dX0_readSum_31 : decode (mC mX0_readSum) 31 = .ok (.iconst 1, 1) := by decide +kernel
theorem dX0_readSum_32 : decode (mC mX0_readSum) 32 = .ok (.if_icmp .lt 9, 3) := by decide +kernel
theorem dX0_readSum_35 : decode (mC mX0_readSum) 35 = .ok (.iload 5, 2) := by decide +kernel
theorem dX0_readSum_37 : decode (mC mX0_readSum) 37 = .ok (.iconst 5, 1) := by decide +kernel
theorem dX0_readSum_38 : decode (mC mX0_readSum) 38 = .ok (.if_icmp .le 22, 3) := by decide +kernel
theorem dX0_readSum_41 : decode (mC mX0_readSum) 41 = .ok (.aload_n 0, 1) := by decide +kernel
theorem dX0_readSum_42 : decode (mC mX0_readSum) 42 = .ok (.getfield 12, 3) := by decide +kernel
theorem dX0_readSum_45 : decode (mC mX0_readSum) 45 = .ok (.iload_n 2, 1) := by decide +kernel
theorem dX0_readSum_46 : decode (mC mX0_readSum) 46 = .ok (.iload_n 3, 1) := by decide +kernel
theorem dX0_readSum_47 : decode (mC mX0_readSum) 47 = .ok (.iload 4, 2) := by decide +kernel
theorem dX0_readSum_49 : decode (mC mX0_readSum) 49 = .ok (.iconst 0, 1) := by decide +kernel
theorem dX0_readSum_50 : decode (mC mX0_readSum) 50 = .ok (.iconst (-1), 1) := by decide +kernel
theorem dX0_readSum_51 : decode (mC mX0_readSum) 51 = .ok (.iconst 0, 1) := by decide +kernel
theorem dX0_readSum_52 : decode (mC mX0_readSum) 52 = .ok (.invokestatic 81, 3) := by decide +kernel
theorem dX0_readSum_55 : decode (mC mX0_readSum) 55 = .ok (.invokevirtual 85, 3) := by decide +kernel
theorem dX0_readSum_58 : decode (mC mX0_readSum) 58 = .ok (.iconst 1, 1) := by decide +kernel
theorem dX0_readSum_59 : decode (mC mX0_readSum) 59 = .ok (.ireturn, 1) := by decide +kernel
theorem dX0_readSum_60 : decode (mC mX0_readSum) 60 = .ok (.aload_n 1, 1) := by decide +kernel
theorem dX0_readSum_61 : decode (mC mX0_readSum) 61 = .ok (.invokevirtual 41, 3) := by decide +kernel
theorem dX0_readSum_64 : decode (mC mX0_readSum) 64 = .ok (.aload_n 0, 1) := by decide +kernel
theorem dX0_readSum_65 : decode (mC mX0_readSum) 65 = .ok (.aload_n 1, 1) := by decide +kernel
theorem dX0_readSum_66 : decode (mC mX0_readSum) 66 = .ok (.invokevirtual 73, 3) := by decide +kernel
theorem dX0_readSum_69 : decode (mC mX0_readSum) 69 = .ok (.istore 6, 2) := by decide +kernel
theorem dX0_readSum_71 : decode (mC mX0_readSum) 71 = .ok (.iload 6, 2) := by decide +kernel
theorem dX0_readSum_73 : decode (mC mX0_readSum) 73 = .ok (.iconst (-1), 1) := by decide +kernel
theorem dX0_readSum_74 : decode (mC mX0_readSum) 74 = .ok (.if_icmp .ne 5, 3) := by decide +kernel
theorem dX0_readSum_77 : decode (mC mX0_readSum) 77 = .ok (.iconst 0, 1) := by decide +kernel
theorem dX0_readSum_78 : decode (mC mX0_readSum) 78 = .ok (.ireturn, 1) := by decide +kernel
theorem dX0_readSum_79 : decode (mC mX0_readSum) 79 = .ok (.aload_n 1, 1) := by decide +kernel
theorem dX0_readSum_80 : decode (mC mX0_readSum) 80 = .ok (.invokevirtual 41, 3) := by decide +kernel
theorem dX0_readSum_83 : decode (mC mX0_readSum) 83 = .ok (.aload_n 0, 1) := by decide +kernel
theorem dX0_readSum_84 : decode (mC mX0_readSum) 84 = .ok (.getfield 12, 3) := by decide +kernel
theorem dX0_readSum_87 : decode (mC mX0_readSum) 87 = .ok (.iload_n 2, 1) := by decide +kernel
theorem dX0_readSum_88 : decode (mC mX0_readSum) 88 = .ok (.iload_n 3, 1) := by decide +kernel
theorem dX0_readSum_89 : decode (mC mX0_readSum) 89 = .ok (.iload 4, 2) := by decide +kernel
theorem dX0_readSum_91 : decode (mC mX0_readSum) 91 = .ok (.iload 5, 2) := by decide +kernel
theorem dX0_readSum_93 : decode (mC mX0_readSum) 93 = .ok (.iload 6, 2) := by decide +kernel
theorem dX0_readSum_95 : decode (mC mX0_readSum) 95 = .ok (.iconst 0, 1) := by decide +kernel
theorem dX0_readSum_96 : decode (mC mX0_readSum) 96 = .ok (.invokestatic 81, 3) := by decide +kernel
theorem dX0_readSum_99 : decode (mC mX0_readSum) 99 = .ok (.invokevirtual 85, 3) := by decide +kernel
theorem dX0_readSum_102 : decode (mC mX0_readSum) 102 = .ok (.iconst 1, 1) := by decide +kernel
theorem dX0_readSum_103 : decode (mC mX0_readSum) 103 = .ok (.ireturn, 1) := by decide +kernel
set_option maxRecDepth 100000 in
theorem bX0_readSum_0 {sc : Nat × (Nat → Int32)} {h : jH} {Q : jQ} {l2 l3 : Int32} {P1 : jH → Prop} {P2 : Int32 → jH → Prop}
    (k1 : JM mX8_next [.ref 1] (jG0 sc) h (jvoid sc P1))
    (k2 : ∀ h1 : jH, P1 h1 → JM mX0_atom [.ref 3, .ref 1] (jG0 sc) h1 (jint sc P2))
    (v1 : ∀ h1 : jH, P1 h1 → ∀ (x2 : Int32) (h2 : jH), P2 x2 h2 → ¬ x2 = (-1) → WP mX0_readSum Q 19 [some (.ref 3), some (.ref 1), some (.int l2), some (.int l3), some (.int x2), none, none] [] (jG0 sc) h2 (0, 0))
    (v2 : ∀ h1 : jH, P1 h1 → ∀ (x2 : Int32) (h2 : jH), P2 x2 h2 → x2 = (-1) → WP mX0_readSum Q 17 [some (.ref 3), some (.ref 1), some (.int l2), some (.int l3), some (.int x2), none, none] [] (jG0 sc) h2 (0, 0)) :
    WP mX0_readSum Q 0 [some (.ref 3), some (.ref 1), some (.int l2), some (.int l3), none, none, none] [] (jG0 sc) h (0, 0) := by
  refine j_aload_n (i := 1) rfl dX0_readSum_0 ?_
  refine j_callVN (idx := 41) (As := []) (ci := 8) (n := 0) k1 jvoid_nt (jTbl (jtb4 39 rfl)) sX8_next kX8_next rfl ⟨rfl, by decide +kernel, by decide +kernel, by decide +kernel⟩ rfl ⟨by decide, by decide⟩ (Nat.le_of_ble_eq_true rfl) rfl (Nat.le_of_ble_eq_true rfl) (Nat.le_of_ble_eq_true rfl) ⟨Nat.zero_le _, Nat.zero_le _⟩ dX0_readSum_1 (fun r Γ' h1 q => ?_)
  obtain ⟨q0, rfl, p1⟩ := q; cases q0
  refine j_eqst [] (by rfl) ?_
  refine j_aload_n (i := 0) rfl dX0_readSum_4 ?_
  refine j_aload_n (i := 1) rfl dX0_readSum_5 ?_
  refine j_callV (idx := 73) (As := [.ref 1]) (ci := 0) (n := 1) (k2 h1 p1) jint_nt (jlkT (jtb4 53 rfl) rfl) sX0_atom kX0_atom rfl ⟨rfl, by decide +kernel, by decide +kernel, by decide +kernel⟩ rfl ⟨by decide, by decide⟩ (Nat.le_of_ble_eq_true rfl) rfl (Nat.le_of_ble_eq_true rfl) (Nat.le_of_ble_eq_true rfl) ⟨Nat.zero_le _, Nat.zero_le _⟩ dX0_readSum_6 (fun r Γ' h2 q => ?_)
  obtain ⟨x2, q0, rfl, p2⟩ := q; cases q0
  refine j_eqst [.int x2] (by rfl) ?_
  refine j_istore (i := 4) dX0_readSum_9 (Nat.le_of_ble_eq_true rfl) ?_
  refine j_iload (i := 4) rfl dX0_readSum_11 ?_
  refine j_iconst (n := (-1)) (-1) (by decide) dX0_readSum_13 ?_
  refine j_icmp_ne (off := 5) 19 dX0_readSum_14 (by decide) (fun c1 => ?_) (fun c1 => ?_)
  · exact j_le [some (.ref 3), some (.ref 1), some (.int l2), some (.int l3), some (.int x2), none, none] (And.intro rfl (And.intro rfl (And.intro rfl (And.intro rfl (And.intro rfl True.intro))))) (v1 h1 p1 x2 h2 p2 c1)
  · exact j_le [some (.ref 3), some (.ref 1), some (.int l2), some (.int l3), some (.int x2), none, none] (And.intro rfl (And.intro rfl (And.intro rfl (And.intro rfl (And.intro rfl True.intro))))) (v2 h1 p1 x2 h2 p2 c1)
set_option maxRecDepth 100000 in
theorem bX0_readSum_17 {sc : Nat × (Nat → Int32)} {h : jH} {Q : jQ} {l2 l3 l4 : Int32}
    (v1 : Q (.inl (some (.int 0))) (jG0 sc) h) :
    WP mX0_readSum Q 17 [some (.ref 3), some (.ref 1), some (.int l2), some (.int l3), some (.int l4), none, none] [] (jG0 sc) h (0, 0) := by
  refine j_iconst (n := 0) 0 (by decide) dX0_readSum_17 ?_
  exact j_iret rfl rfl (Nat.zero_le _) (Nat.zero_le _) dX0_readSum_18 v1
set_option maxRecDepth 100000 in
theorem bX0_readSum_19 {sc : Nat × (Nat → Int32)} {h : jH} {Q : jQ} {l2 l3 l4 : Int32} {P1 : jH → Prop} {P2 : Int32 → jH → Prop}
    (k1 : JM mX8_next [.ref 1] (jG0 sc) h (jvoid sc P1))
    (k2 : ∀ h1 : jH, P1 h1 → JM mX8_sign [.ref 1] (jG0 sc) h1 (jint sc P2))
    (v1 : ∀ h1 : jH, P1 h1 → ∀ (x2 : Int32) (h2 : jH), P2 x2 h2 → x2 < 1 → WP mX0_readSum Q 41 [some (.ref 3), some (.ref 1), some (.int l2), some (.int l3), some (.int l4), some (.int x2), none] [] (jG0 sc) h2 (0, 0))
    (v2 : ∀ h1 : jH, P1 h1 → ∀ (x2 : Int32) (h2 : jH), P2 x2 h2 → ¬ x2 < 1 → WP mX0_readSum Q 35 [some (.ref 3), some (.ref 1), some (.int l2), some (.int l3), some (.int l4), some (.int x2), none] [] (jG0 sc) h2 (0, 0)) :
    WP mX0_readSum Q 19 [some (.ref 3), some (.ref 1), some (.int l2), some (.int l3), some (.int l4), none, none] [] (jG0 sc) h (0, 0) := by
  refine j_aload_n (i := 1) rfl dX0_readSum_19 ?_
  refine j_callVN (idx := 41) (As := []) (ci := 8) (n := 0) k1 jvoid_nt (jTbl (jtb4 39 rfl)) sX8_next kX8_next rfl ⟨rfl, by decide +kernel, by decide +kernel, by decide +kernel⟩ rfl ⟨by decide, by decide⟩ (Nat.le_of_ble_eq_true rfl) rfl (Nat.le_of_ble_eq_true rfl) (Nat.le_of_ble_eq_true rfl) ⟨Nat.zero_le _, Nat.zero_le _⟩ dX0_readSum_20 (fun r Γ' h1 q => ?_)
  obtain ⟨q0, rfl, p1⟩ := q; cases q0
  refine j_eqst [] (by rfl) ?_
  refine j_aload_n (i := 1) rfl dX0_readSum_23 ?_
  refine j_callVN (idx := 77) (As := []) (ci := 8) (n := 0) (k2 h1 p1) jint_nt (jTbl (jtb4 62 rfl)) sX8_sign kX8_sign rfl ⟨rfl, by decide +kernel, by decide +kernel, by decide +kernel⟩ rfl ⟨by decide, by decide⟩ (Nat.le_of_ble_eq_true rfl) rfl (Nat.le_of_ble_eq_true rfl) (Nat.le_of_ble_eq_true rfl) ⟨Nat.zero_le _, Nat.zero_le _⟩ dX0_readSum_24 (fun r Γ' h2 q => ?_)
  obtain ⟨x2, q0, rfl, p2⟩ := q; cases q0
  refine j_eqst [.int x2] (by rfl) ?_
  refine j_istore (i := 5) dX0_readSum_27 (Nat.le_of_ble_eq_true rfl) ?_
  refine j_iload (i := 5) rfl dX0_readSum_29 ?_
  refine j_iconst (n := 1) 1 (by decide) dX0_readSum_31 ?_
  refine j_icmp_lt (off := 9) 41 dX0_readSum_32 (by decide) (fun c1 => ?_) (fun c1 => ?_)
  · exact j_le [some (.ref 3), some (.ref 1), some (.int l2), some (.int l3), some (.int l4), some (.int x2), none] (And.intro rfl (And.intro rfl (And.intro rfl (And.intro rfl (And.intro rfl (And.intro rfl True.intro)))))) (v1 h1 p1 x2 h2 p2 c1)
  · exact j_le [some (.ref 3), some (.ref 1), some (.int l2), some (.int l3), some (.int l4), some (.int x2), none] (And.intro rfl (And.intro rfl (And.intro rfl (And.intro rfl (And.intro rfl (And.intro rfl True.intro)))))) (v2 h1 p1 x2 h2 p2 c1)
set_option maxRecDepth 100000 in
theorem bX0_readSum_35 {sc : Nat × (Nat → Int32)} {h : jH} {Q : jQ} {l2 l3 l4 l5 : Int32}
    (v1 : l5 ≤ 5 → WP mX0_readSum Q 60 [some (.ref 3), some (.ref 1), some (.int l2), some (.int l3), some (.int l4), some (.int l5), none] [] (jG0 sc) h (0, 0))
    (v2 : ¬ l5 ≤ 5 → WP mX0_readSum Q 41 [some (.ref 3), some (.ref 1), some (.int l2), some (.int l3), some (.int l4), some (.int l5), none] [] (jG0 sc) h (0, 0)) :
    WP mX0_readSum Q 35 [some (.ref 3), some (.ref 1), some (.int l2), some (.int l3), some (.int l4), some (.int l5), none] [] (jG0 sc) h (0, 0) := by
  refine j_iload (i := 5) rfl dX0_readSum_35 ?_
  refine j_iconst (n := 5) 5 (by decide) dX0_readSum_37 ?_
  refine j_icmp_le (off := 22) 60 dX0_readSum_38 (by decide) (fun c1 => ?_) (fun c1 => ?_)
  · exact j_le [some (.ref 3), some (.ref 1), some (.int l2), some (.int l3), some (.int l4), some (.int l5), none] (And.intro rfl (And.intro rfl (And.intro rfl (And.intro rfl (And.intro rfl (And.intro rfl True.intro)))))) (v1 c1)
  · exact j_le [some (.ref 3), some (.ref 1), some (.int l2), some (.int l3), some (.int l4), some (.int l5), none] (And.intro rfl (And.intro rfl (And.intro rfl (And.intro rfl (And.intro rfl (And.intro rfl True.intro)))))) (v2 c1)
set_option maxRecDepth 100000 in
theorem bX0_readSum_41 {sc : Nat × (Nat → Int32)} {h : jH} {Q : jQ} {l2 l3 l4 l5 : Int32} {P1 : Int32 → jH → Prop} {P2 : jH → Prop}
    (k1 : JM mX11_packed [.int l2, .int l3, .int l4, .int 0, .int (-1), .int 0] (jG0 sc) h (jint sc P1))
    (k2 : ∀ (x1 : Int32) (h1 : jH), P1 x1 h1 → JM mX4_add [.ref 4, .int x1] (jG0 sc) h1 (jvoid sc P2))
    (v1 : ∀ (x1 : Int32) (h1 : jH), P1 x1 h1 → ∀ h2 : jH, P2 h2 → Q (.inl (some (.int 1))) (jG0 sc) h2) :
    WP mX0_readSum Q 41 [some (.ref 3), some (.ref 1), some (.int l2), some (.int l3), some (.int l4), some (.int l5), none] [] (jG0 sc) h (0, 0) := by
  refine j_aload_n (i := 0) rfl dX0_readSum_41 ?_
  refine j_getR (idx := 12) (ci := 0) (k := 0) (nest := false) (show (0, 12, 0, 0, false) ∈ jFT by decide) rfl (Nat.le_of_ble_eq_true rfl) rfl (a := 4) rfl dX0_readSum_42 ?_
  refine j_iload_n (i := 2) rfl dX0_readSum_45 ?_
  refine j_iload_n (i := 3) rfl dX0_readSum_46 ?_
  refine j_iload (i := 4) rfl dX0_readSum_47 ?_
  refine j_iconst (n := 0) 0 (by decide) dX0_readSum_49 ?_
  refine j_iconst (n := (-1)) (-1) (by decide) dX0_readSum_50 ?_
  refine j_iconst (n := 0) 0 (by decide) dX0_readSum_51 ?_
  refine j_callSN (idx := 81) (As := [.int l2, .int l3, .int l4, .int 0, .int (-1), .int 0]) (n := 6) k1 jint_nt (jTbl (jtb4 66 rfl)) sX11_packed kX11_packed rfl ⟨by decide +kernel, by decide +kernel, by decide +kernel⟩ rfl ⟨by decide, by decide⟩ (Nat.le_of_ble_eq_true rfl) ⟨Nat.zero_le _, Nat.zero_le _⟩ dX0_readSum_52 (fun r Γ' h1 q => ?_)
  obtain ⟨x1, q0, rfl, p1⟩ := q; cases q0
  refine j_eqst [.int x1, .ref 4] (by rfl) ?_
  refine j_callVN (idx := 85) (As := [.int x1]) (ci := 4) (n := 1) (k2 x1 h1 p1) jvoid_nt (jTbl (jtb4 69 rfl)) sX4_add kX4_add rfl ⟨rfl, by decide +kernel, by decide +kernel, by decide +kernel⟩ rfl ⟨by decide, by decide⟩ (Nat.le_of_ble_eq_true rfl) rfl (Nat.le_of_ble_eq_true rfl) (Nat.le_of_ble_eq_true rfl) ⟨Nat.zero_le _, Nat.zero_le _⟩ dX0_readSum_55 (fun r Γ' h2 q => ?_)
  obtain ⟨q0, rfl, p2⟩ := q; cases q0
  refine j_eqst [] (by rfl) ?_
  refine j_iconst (n := 1) 1 (by decide) dX0_readSum_58 ?_
  exact j_iret rfl rfl (Nat.zero_le _) (Nat.zero_le _) dX0_readSum_59 (v1 x1 h1 p1 h2 p2)
set_option maxRecDepth 100000 in
theorem bX0_readSum_60 {sc : Nat × (Nat → Int32)} {h : jH} {Q : jQ} {l2 l3 l4 l5 : Int32} {P1 : jH → Prop} {P2 : Int32 → jH → Prop}
    (k1 : JM mX8_next [.ref 1] (jG0 sc) h (jvoid sc P1))
    (k2 : ∀ h1 : jH, P1 h1 → JM mX0_atom [.ref 3, .ref 1] (jG0 sc) h1 (jint sc P2))
    (v1 : ∀ h1 : jH, P1 h1 → ∀ (x2 : Int32) (h2 : jH), P2 x2 h2 → ¬ x2 = (-1) → WP mX0_readSum Q 79 [some (.ref 3), some (.ref 1), some (.int l2), some (.int l3), some (.int l4), some (.int l5), some (.int x2)] [] (jG0 sc) h2 (0, 0))
    (v2 : ∀ h1 : jH, P1 h1 → ∀ (x2 : Int32) (h2 : jH), P2 x2 h2 → x2 = (-1) → WP mX0_readSum Q 77 [some (.ref 3), some (.ref 1), some (.int l2), some (.int l3), some (.int l4), some (.int l5), some (.int x2)] [] (jG0 sc) h2 (0, 0)) :
    WP mX0_readSum Q 60 [some (.ref 3), some (.ref 1), some (.int l2), some (.int l3), some (.int l4), some (.int l5), none] [] (jG0 sc) h (0, 0) := by
  refine j_aload_n (i := 1) rfl dX0_readSum_60 ?_
  refine j_callVN (idx := 41) (As := []) (ci := 8) (n := 0) k1 jvoid_nt (jTbl (jtb4 39 rfl)) sX8_next kX8_next rfl ⟨rfl, by decide +kernel, by decide +kernel, by decide +kernel⟩ rfl ⟨by decide, by decide⟩ (Nat.le_of_ble_eq_true rfl) rfl (Nat.le_of_ble_eq_true rfl) (Nat.le_of_ble_eq_true rfl) ⟨Nat.zero_le _, Nat.zero_le _⟩ dX0_readSum_61 (fun r Γ' h1 q => ?_)
  obtain ⟨q0, rfl, p1⟩ := q; cases q0
  refine j_eqst [] (by rfl) ?_
  refine j_aload_n (i := 0) rfl dX0_readSum_64 ?_
  refine j_aload_n (i := 1) rfl dX0_readSum_65 ?_
  refine j_callV (idx := 73) (As := [.ref 1]) (ci := 0) (n := 1) (k2 h1 p1) jint_nt (jlkT (jtb4 53 rfl) rfl) sX0_atom kX0_atom rfl ⟨rfl, by decide +kernel, by decide +kernel, by decide +kernel⟩ rfl ⟨by decide, by decide⟩ (Nat.le_of_ble_eq_true rfl) rfl (Nat.le_of_ble_eq_true rfl) (Nat.le_of_ble_eq_true rfl) ⟨Nat.zero_le _, Nat.zero_le _⟩ dX0_readSum_66 (fun r Γ' h2 q => ?_)
  obtain ⟨x2, q0, rfl, p2⟩ := q; cases q0
  refine j_eqst [.int x2] (by rfl) ?_
  refine j_istore (i := 6) dX0_readSum_69 (Nat.le_of_ble_eq_true rfl) ?_
  refine j_iload (i := 6) rfl dX0_readSum_71 ?_
  refine j_iconst (n := (-1)) (-1) (by decide) dX0_readSum_73 ?_
  refine j_icmp_ne (off := 5) 79 dX0_readSum_74 (by decide) (fun c1 => ?_) (fun c1 => ?_)
  · exact j_le [some (.ref 3), some (.ref 1), some (.int l2), some (.int l3), some (.int l4), some (.int l5), some (.int x2)] (And.intro rfl (And.intro rfl (And.intro rfl (And.intro rfl (And.intro rfl (And.intro rfl (And.intro rfl True.intro))))))) (v1 h1 p1 x2 h2 p2 c1)
  · exact j_le [some (.ref 3), some (.ref 1), some (.int l2), some (.int l3), some (.int l4), some (.int l5), some (.int x2)] (And.intro rfl (And.intro rfl (And.intro rfl (And.intro rfl (And.intro rfl (And.intro rfl (And.intro rfl True.intro))))))) (v2 h1 p1 x2 h2 p2 c1)
set_option maxRecDepth 100000 in
theorem bX0_readSum_77 {sc : Nat × (Nat → Int32)} {h : jH} {Q : jQ} {l2 l3 l4 l5 l6 : Int32}
    (v1 : Q (.inl (some (.int 0))) (jG0 sc) h) :
    WP mX0_readSum Q 77 [some (.ref 3), some (.ref 1), some (.int l2), some (.int l3), some (.int l4), some (.int l5), some (.int l6)] [] (jG0 sc) h (0, 0) := by
  refine j_iconst (n := 0) 0 (by decide) dX0_readSum_77 ?_
  exact j_iret rfl rfl (Nat.zero_le _) (Nat.zero_le _) dX0_readSum_78 v1
set_option maxRecDepth 100000 in
theorem bX0_readSum_79 {sc : Nat × (Nat → Int32)} {h : jH} {Q : jQ} {l2 l3 l4 l5 l6 : Int32} {P1 : jH → Prop} {P2 : Int32 → jH → Prop} {P3 : jH → Prop}
    (k1 : JM mX8_next [.ref 1] (jG0 sc) h (jvoid sc P1))
    (k2 : ∀ h1 : jH, P1 h1 → JM mX11_packed [.int l2, .int l3, .int l4, .int l5, .int l6, .int 0] (jG0 sc) h1 (jint sc P2))
    (k3 : ∀ h1 : jH, P1 h1 → ∀ (x2 : Int32) (h2 : jH), P2 x2 h2 → JM mX4_add [.ref 4, .int x2] (jG0 sc) h2 (jvoid sc P3))
    (v1 : ∀ h1 : jH, P1 h1 → ∀ (x2 : Int32) (h2 : jH), P2 x2 h2 → ∀ h3 : jH, P3 h3 → Q (.inl (some (.int 1))) (jG0 sc) h3) :
    WP mX0_readSum Q 79 [some (.ref 3), some (.ref 1), some (.int l2), some (.int l3), some (.int l4), some (.int l5), some (.int l6)] [] (jG0 sc) h (0, 0) := by
  refine j_aload_n (i := 1) rfl dX0_readSum_79 ?_
  refine j_callVN (idx := 41) (As := []) (ci := 8) (n := 0) k1 jvoid_nt (jTbl (jtb4 39 rfl)) sX8_next kX8_next rfl ⟨rfl, by decide +kernel, by decide +kernel, by decide +kernel⟩ rfl ⟨by decide, by decide⟩ (Nat.le_of_ble_eq_true rfl) rfl (Nat.le_of_ble_eq_true rfl) (Nat.le_of_ble_eq_true rfl) ⟨Nat.zero_le _, Nat.zero_le _⟩ dX0_readSum_80 (fun r Γ' h1 q => ?_)
  obtain ⟨q0, rfl, p1⟩ := q; cases q0
  refine j_eqst [] (by rfl) ?_
  refine j_aload_n (i := 0) rfl dX0_readSum_83 ?_
  refine j_getR (idx := 12) (ci := 0) (k := 0) (nest := false) (show (0, 12, 0, 0, false) ∈ jFT by decide) rfl (Nat.le_of_ble_eq_true rfl) rfl (a := 4) rfl dX0_readSum_84 ?_
  refine j_iload_n (i := 2) rfl dX0_readSum_87 ?_
  refine j_iload_n (i := 3) rfl dX0_readSum_88 ?_
  refine j_iload (i := 4) rfl dX0_readSum_89 ?_
  refine j_iload (i := 5) rfl dX0_readSum_91 ?_
  refine j_iload (i := 6) rfl dX0_readSum_93 ?_
  refine j_iconst (n := 0) 0 (by decide) dX0_readSum_95 ?_
  refine j_callSN (idx := 81) (As := [.int l2, .int l3, .int l4, .int l5, .int l6, .int 0]) (n := 6) (k2 h1 p1) jint_nt (jTbl (jtb4 66 rfl)) sX11_packed kX11_packed rfl ⟨by decide +kernel, by decide +kernel, by decide +kernel⟩ rfl ⟨by decide, by decide⟩ (Nat.le_of_ble_eq_true rfl) ⟨Nat.zero_le _, Nat.zero_le _⟩ dX0_readSum_96 (fun r Γ' h2 q => ?_)
  obtain ⟨x2, q0, rfl, p2⟩ := q; cases q0
  refine j_eqst [.int x2, .ref 4] (by rfl) ?_
  refine j_callVN (idx := 85) (As := [.int x2]) (ci := 4) (n := 1) (k3 h1 p1 x2 h2 p2) jvoid_nt (jTbl (jtb4 69 rfl)) sX4_add kX4_add rfl ⟨rfl, by decide +kernel, by decide +kernel, by decide +kernel⟩ rfl ⟨by decide, by decide⟩ (Nat.le_of_ble_eq_true rfl) rfl (Nat.le_of_ble_eq_true rfl) (Nat.le_of_ble_eq_true rfl) ⟨Nat.zero_le _, Nat.zero_le _⟩ dX0_readSum_99 (fun r Γ' h3 q => ?_)
  obtain ⟨q0, rfl, p3⟩ := q; cases q0
  refine j_eqst [] (by rfl) ?_
  refine j_iconst (n := 1) 1 (by decide) dX0_readSum_102 ?_
  exact j_iret rfl rfl (Nat.zero_le _) (Nat.zero_le _) dX0_readSum_103 (v1 h1 p1 x2 h2 p2 h3 p3)
set_option maxRecDepth 100000 in
theorem rX0_readSum_0 {sc : Nat × (Nat → Int32)} {h : jH} {Q : jQ} {l2 l3 : Int32} {P1 : jH → Prop} {P2 : Int32 → jH → Prop} {P3 : jH → Prop} {P4 : Int32 → jH → Prop} {P5 : Int32 → jH → Prop} {P6 : jH → Prop} {P7 : jH → Prop} {P8 : Int32 → jH → Prop} {P9 : jH → Prop} {P10 : Int32 → jH → Prop} {P11 : jH → Prop} {P12 : Int32 → jH → Prop} {P13 : jH → Prop}
    (k1 : JM mX8_next [.ref 1] (jG0 sc) h (jvoid sc P1))
    (k2 : ∀ h1 : jH, P1 h1 → JM mX0_atom [.ref 3, .ref 1] (jG0 sc) h1 (jint sc P2))
    (k3 : ∀ h1 : jH, P1 h1 → ∀ (x2 : Int32) (h2 : jH), P2 x2 h2 → ¬ x2 = (-1) → JM mX8_next [.ref 1] (jG0 sc) h2 (jvoid sc P3))
    (k4 : ∀ h1 : jH, P1 h1 → ∀ (x2 : Int32) (h2 : jH), P2 x2 h2 → ¬ x2 = (-1) → ∀ h3 : jH, P3 h3 → JM mX8_sign [.ref 1] (jG0 sc) h3 (jint sc P4))
    (k5 : ∀ h1 : jH, P1 h1 → ∀ (x2 : Int32) (h2 : jH), P2 x2 h2 → ¬ x2 = (-1) → ∀ h3 : jH, P3 h3 → ∀ (x4 : Int32) (h4 : jH), P4 x4 h4 → x4 < 1 → JM mX11_packed [.int l2, .int l3, .int x2, .int 0, .int (-1), .int 0] (jG0 sc) h4 (jint sc P5))
    (k6 : ∀ h1 : jH, P1 h1 → ∀ (x2 : Int32) (h2 : jH), P2 x2 h2 → ¬ x2 = (-1) → ∀ h3 : jH, P3 h3 → ∀ (x4 : Int32) (h4 : jH), P4 x4 h4 → x4 < 1 → ∀ (x5 : Int32) (h5 : jH), P5 x5 h5 → JM mX4_add [.ref 4, .int x5] (jG0 sc) h5 (jvoid sc P6))
    (v1 : ∀ h1 : jH, P1 h1 → ∀ (x2 : Int32) (h2 : jH), P2 x2 h2 → ¬ x2 = (-1) → ∀ h3 : jH, P3 h3 → ∀ (x4 : Int32) (h4 : jH), P4 x4 h4 → x4 < 1 → ∀ (x5 : Int32) (h5 : jH), P5 x5 h5 → ∀ h6 : jH, P6 h6 → Q (.inl (some (.int 1))) (jG0 sc) h6)
    (k7 : ∀ h1 : jH, P1 h1 → ∀ (x2 : Int32) (h2 : jH), P2 x2 h2 → ¬ x2 = (-1) → ∀ h3 : jH, P3 h3 → ∀ (x4 : Int32) (h4 : jH), P4 x4 h4 → ¬ x4 < 1 → x4 ≤ 5 → JM mX8_next [.ref 1] (jG0 sc) h4 (jvoid sc P7))
    (k8 : ∀ h1 : jH, P1 h1 → ∀ (x2 : Int32) (h2 : jH), P2 x2 h2 → ¬ x2 = (-1) → ∀ h3 : jH, P3 h3 → ∀ (x4 : Int32) (h4 : jH), P4 x4 h4 → ¬ x4 < 1 → x4 ≤ 5 → ∀ h7 : jH, P7 h7 → JM mX0_atom [.ref 3, .ref 1] (jG0 sc) h7 (jint sc P8))
    (k9 : ∀ h1 : jH, P1 h1 → ∀ (x2 : Int32) (h2 : jH), P2 x2 h2 → ¬ x2 = (-1) → ∀ h3 : jH, P3 h3 → ∀ (x4 : Int32) (h4 : jH), P4 x4 h4 → ¬ x4 < 1 → x4 ≤ 5 → ∀ h7 : jH, P7 h7 → ∀ (x8 : Int32) (h8 : jH), P8 x8 h8 → ¬ x8 = (-1) → JM mX8_next [.ref 1] (jG0 sc) h8 (jvoid sc P9))
    (k10 : ∀ h1 : jH, P1 h1 → ∀ (x2 : Int32) (h2 : jH), P2 x2 h2 → ¬ x2 = (-1) → ∀ h3 : jH, P3 h3 → ∀ (x4 : Int32) (h4 : jH), P4 x4 h4 → ¬ x4 < 1 → x4 ≤ 5 → ∀ h7 : jH, P7 h7 → ∀ (x8 : Int32) (h8 : jH), P8 x8 h8 → ¬ x8 = (-1) → ∀ h9 : jH, P9 h9 → JM mX11_packed [.int l2, .int l3, .int x2, .int x4, .int x8, .int 0] (jG0 sc) h9 (jint sc P10))
    (k11 : ∀ h1 : jH, P1 h1 → ∀ (x2 : Int32) (h2 : jH), P2 x2 h2 → ¬ x2 = (-1) → ∀ h3 : jH, P3 h3 → ∀ (x4 : Int32) (h4 : jH), P4 x4 h4 → ¬ x4 < 1 → x4 ≤ 5 → ∀ h7 : jH, P7 h7 → ∀ (x8 : Int32) (h8 : jH), P8 x8 h8 → ¬ x8 = (-1) → ∀ h9 : jH, P9 h9 → ∀ (x10 : Int32) (h10 : jH), P10 x10 h10 → JM mX4_add [.ref 4, .int x10] (jG0 sc) h10 (jvoid sc P11))
    (v2 : ∀ h1 : jH, P1 h1 → ∀ (x2 : Int32) (h2 : jH), P2 x2 h2 → ¬ x2 = (-1) → ∀ h3 : jH, P3 h3 → ∀ (x4 : Int32) (h4 : jH), P4 x4 h4 → ¬ x4 < 1 → x4 ≤ 5 → ∀ h7 : jH, P7 h7 → ∀ (x8 : Int32) (h8 : jH), P8 x8 h8 → ¬ x8 = (-1) → ∀ h9 : jH, P9 h9 → ∀ (x10 : Int32) (h10 : jH), P10 x10 h10 → ∀ h11 : jH, P11 h11 → Q (.inl (some (.int 1))) (jG0 sc) h11)
    (v3 : ∀ h1 : jH, P1 h1 → ∀ (x2 : Int32) (h2 : jH), P2 x2 h2 → ¬ x2 = (-1) → ∀ h3 : jH, P3 h3 → ∀ (x4 : Int32) (h4 : jH), P4 x4 h4 → ¬ x4 < 1 → x4 ≤ 5 → ∀ h7 : jH, P7 h7 → ∀ (x8 : Int32) (h8 : jH), P8 x8 h8 → x8 = (-1) → Q (.inl (some (.int 0))) (jG0 sc) h8)
    (k12 : ∀ h1 : jH, P1 h1 → ∀ (x2 : Int32) (h2 : jH), P2 x2 h2 → ¬ x2 = (-1) → ∀ h3 : jH, P3 h3 → ∀ (x4 : Int32) (h4 : jH), P4 x4 h4 → ¬ x4 < 1 → ¬ x4 ≤ 5 → JM mX11_packed [.int l2, .int l3, .int x2, .int 0, .int (-1), .int 0] (jG0 sc) h4 (jint sc P12))
    (k13 : ∀ h1 : jH, P1 h1 → ∀ (x2 : Int32) (h2 : jH), P2 x2 h2 → ¬ x2 = (-1) → ∀ h3 : jH, P3 h3 → ∀ (x4 : Int32) (h4 : jH), P4 x4 h4 → ¬ x4 < 1 → ¬ x4 ≤ 5 → ∀ (x12 : Int32) (h12 : jH), P12 x12 h12 → JM mX4_add [.ref 4, .int x12] (jG0 sc) h12 (jvoid sc P13))
    (v4 : ∀ h1 : jH, P1 h1 → ∀ (x2 : Int32) (h2 : jH), P2 x2 h2 → ¬ x2 = (-1) → ∀ h3 : jH, P3 h3 → ∀ (x4 : Int32) (h4 : jH), P4 x4 h4 → ¬ x4 < 1 → ¬ x4 ≤ 5 → ∀ (x12 : Int32) (h12 : jH), P12 x12 h12 → ∀ h13 : jH, P13 h13 → Q (.inl (some (.int 1))) (jG0 sc) h13)
    (v5 : ∀ h1 : jH, P1 h1 → ∀ (x2 : Int32) (h2 : jH), P2 x2 h2 → x2 = (-1) → Q (.inl (some (.int 0))) (jG0 sc) h2) :
    WP mX0_readSum Q 0 [some (.ref 3), some (.ref 1), some (.int l2), some (.int l3), none, none, none] [] (jG0 sc) h (0, 0) := by
  exact (bX0_readSum_0 k1 (fun h1 p1 => (k2 h1 p1)) (fun h1 p1 x2 h2 p2 c1 => (bX0_readSum_19 (k3 h1 p1 x2 h2 p2 c1) (fun h3 p3 => (k4 h1 p1 x2 h2 p2 c1 h3 p3)) (fun h3 p3 x4 h4 p4 c2 => (bX0_readSum_41 (k5 h1 p1 x2 h2 p2 c1 h3 p3 x4 h4 p4 c2) (fun x5 h5 p5 => (k6 h1 p1 x2 h2 p2 c1 h3 p3 x4 h4 p4 c2 x5 h5 p5)) (fun x5 h5 p5 h6 p6 => (v1 h1 p1 x2 h2 p2 c1 h3 p3 x4 h4 p4 c2 x5 h5 p5 h6 p6)))) (fun h3 p3 x4 h4 p4 c2 => (bX0_readSum_35 (fun c3 => (bX0_readSum_60 (k7 h1 p1 x2 h2 p2 c1 h3 p3 x4 h4 p4 c2 c3) (fun h7 p7 => (k8 h1 p1 x2 h2 p2 c1 h3 p3 x4 h4 p4 c2 c3 h7 p7)) (fun h7 p7 x8 h8 p8 c4 => (bX0_readSum_79 (k9 h1 p1 x2 h2 p2 c1 h3 p3 x4 h4 p4 c2 c3 h7 p7 x8 h8 p8 c4) (fun h9 p9 => (k10 h1 p1 x2 h2 p2 c1 h3 p3 x4 h4 p4 c2 c3 h7 p7 x8 h8 p8 c4 h9 p9)) (fun h9 p9 x10 h10 p10 => (k11 h1 p1 x2 h2 p2 c1 h3 p3 x4 h4 p4 c2 c3 h7 p7 x8 h8 p8 c4 h9 p9 x10 h10 p10)) (fun h9 p9 x10 h10 p10 h11 p11 => (v2 h1 p1 x2 h2 p2 c1 h3 p3 x4 h4 p4 c2 c3 h7 p7 x8 h8 p8 c4 h9 p9 x10 h10 p10 h11 p11)))) (fun h7 p7 x8 h8 p8 c4 => (bX0_readSum_77 (v3 h1 p1 x2 h2 p2 c1 h3 p3 x4 h4 p4 c2 c3 h7 p7 x8 h8 p8 c4))))) (fun c3 => (bX0_readSum_41 (k12 h1 p1 x2 h2 p2 c1 h3 p3 x4 h4 p4 c2 c3) (fun x12 h12 p12 => (k13 h1 p1 x2 h2 p2 c1 h3 p3 x4 h4 p4 c2 c3 x12 h12 p12)) (fun x12 h12 p12 h13 p13 => (v4 h1 p1 x2 h2 p2 c1 h3 p3 x4 h4 p4 c2 c3 x12 h12 p12 h13 p13)))))))) (fun h1 p1 x2 h2 p2 c1 => (bX0_readSum_17 (v5 h1 p1 x2 h2 p2 c1))))
theorem dX0_readJump_0 : decode (mC mX0_readJump) 0 = .ok (.aload_n 1, 1) := by decide +kernel
theorem dX0_readJump_1 : decode (mC mX0_readJump) 1 = .ok (.invokevirtual 41, 3) := by decide +kernel
theorem dX0_readJump_4 : decode (mC mX0_readJump) 4 = .ok (.aload_n 1, 1) := by decide +kernel
theorem dX0_readJump_5 : decode (mC mX0_readJump) 5 = .ok (.getfield 89, 3) := by decide +kernel
theorem dX0_readJump_8 : decode (mC mX0_readJump) 8 = .ok (.istore_n 3, 1) := by decide +kernel
theorem dX0_readJump_9 : decode (mC mX0_readJump) 9 = .ok (.aload_n 1, 1) := by decide +kernel
theorem dX0_readJump_10 : decode (mC mX0_readJump) 10 = .ok (.iconst 1, 1) := by decide +kernel
theorem dX0_readJump_11 : decode (mC mX0_readJump) 11 = .ok (.invokevirtual 92, 3) := by decide +kernel
theorem dX0_readJump_14 : decode (mC mX0_readJump) 14 = .ok (.ifCond .eq 7, 3) := by decide +kernel
theorem dX0_readJump_17 : decode (mC mX0_readJump) 17 = .ok (.iload_n 3, 1) := by decide +kernel
theorem dX0_readJump_18 : decode (mC mX0_readJump) 18 = .ok (.ifCond .ne 5, 3) := by decide +kernel
theorem dX0_readJump_21 : decode (mC mX0_readJump) 21 = .ok (.iconst 0, 1) := by decide +kernel
theorem dX0_readJump_22 : decode (mC mX0_readJump) 22 = .ok (.ireturn, 1) := by decide +kernel
theorem dX0_readJump_23 : decode (mC mX0_readJump) 23 = .ok (.aload_n 1, 1) := by decide +kernel
theorem dX0_readJump_24 : decode (mC mX0_readJump) 24 = .ok (.invokevirtual 41, 3) := by decide +kernel
theorem dX0_readJump_27 : decode (mC mX0_readJump) 27 = .ok (.aload_n 1, 1) := by decide +kernel
theorem dX0_readJump_28 : decode (mC mX0_readJump) 28 = .ok (.ldc 96, 2) := by decide +kernel
theorem dX0_readJump_30 : decode (mC mX0_readJump) 30 = .ok (.invokevirtual 46, 3) := by decide +kernel
theorem dX0_readJump_33 : decode (mC mX0_readJump) 33 = .ok (.ifCond .ne 5, 3) := by decide +kernel
theorem dX0_readJump_36 : decode (mC mX0_readJump) 36 = .ok (.iconst 0, 1) := by decide +kernel
theorem dX0_readJump_37 : decode (mC mX0_readJump) 37 = .ok (.ireturn, 1) := by decide +kernel
theorem dX0_readJump_38 : decode (mC mX0_readJump) 38 = .ok (.aload_n 1, 1) := by decide +kernel
theorem dX0_readJump_39 : decode (mC mX0_readJump) 39 = .ok (.invokevirtual 41, 3) := by decide +kernel
theorem dX0_readJump_42 : decode (mC mX0_readJump) 42 = .ok (.aload_n 0, 1) := by decide +kernel
theorem dX0_readJump_43 : decode (mC mX0_readJump) 43 = .ok (.aload_n 1, 1) := by decide +kernel
theorem dX0_readJump_44 : decode (mC mX0_readJump) 44 = .ok (.invokevirtual 73, 3) := by decide +kernel
theorem dX0_readJump_47 : decode (mC mX0_readJump) 47 = .ok (.istore 4, 2) := by decide +kernel
theorem dX0_readJump_49 : decode (mC mX0_readJump) 49 = .ok (.iload 4, 2) := by decide +kernel
theorem dX0_readJump_51 : decode (mC mX0_readJump) 51 = .ok (.iconst (-1), 1) := by decide +kernel
theorem dX0_readJump_52 : decode (mC mX0_readJump) 52 = .ok (.if_icmp .ne 5, 3) := by decide +kernel
theorem dX0_readJump_55 : decode (mC mX0_readJump) 55 = .ok (.iconst 0, 1) := by decide +kernel
theorem dX0_readJump_56 : decode (mC mX0_readJump) 56 = .ok (.ireturn, 1) := by decide +kernel
theorem dX0_readJump_57 : decode (mC mX0_readJump) 57 = .ok (.aload_n 1, 1) := by decide +kernel
theorem dX0_readJump_58 : decode (mC mX0_readJump) 58 = .ok (.invokevirtual 41, 3) := by decide +kernel
theorem dX0_readJump_61 : decode (mC mX0_readJump) 61 = .ok (.aload_n 1, 1) := by decide +kernel
theorem dX0_readJump_62 : decode (mC mX0_readJump) 62 = .ok (.invokevirtual 77, 3) := by decide +kernel
theorem dX0_readJump_65 : decode (mC mX0_readJump) 65 = .ok (.istore 5, 2) := by decide +kernel
theorem dX0_readJump_67 : decode (mC mX0_readJump) 67 = .ok (.iload 5, 2) := by decide +kernel
theorem dX0_readJump_69 : decode (mC mX0_readJump) 69 = .ok (.bipush 6, 2) := by decide +kernel
theorem dX0_readJump_71 : decode (mC mX0_readJump) 71 = .ok (.if_icmp .lt 10, 3) := by decide +kernel
theorem dX0_readJump_74 : decode (mC mX0_readJump) 74 = .ok (.iload 5, 2) := by decide +kernel
theorem dX0_readJump_76 : decode (mC mX0_readJump) 76 = .ok (.bipush 8, 2) := by decide +kernel
theorem dX0_readJump_78 : decode (mC mX0_readJump) 78 = .ok (.if_icmp .le 5, 3) := by decide +kernel
theorem dX0_readJump_81 : decode (mC mX0_readJump) 81 = .ok (.iconst 0, 1) := by decide +kernel
theorem dX0_readJump_82 : decode (mC mX0_readJump) 82 = .ok (.ireturn, 1) := by decide +kernel
theorem dX0_readJump_83 : decode (mC mX0_readJump) 83 = .ok (.aload_n 1, 1) := by decide +kernel
theorem dX0_readJump_84 : decode (mC mX0_readJump) 84 = .ok (.invokevirtual 41, 3) := by decide +kernel
theorem dX0_readJump_87 : decode (mC mX0_readJump) 87 = .ok (.aload_n 0, 1) := by decide +kernel
theorem dX0_readJump_88 : decode (mC mX0_readJump) 88 = .ok (.aload_n 1, 1) := by decide +kernel
theorem dX0_readJump_89 : decode (mC mX0_readJump) 89 = .ok (.invokevirtual 73, 3) := by decide +kernel
theorem dX0_readJump_92 : decode (mC mX0_readJump) 92 = .ok (.istore 6, 2) := by decide +kernel
theorem dX0_readJump_94 : decode (mC mX0_readJump) 94 = .ok (.iload 6, 2) := by decide +kernel
theorem dX0_readJump_96 : decode (mC mX0_readJump) 96 = .ok (.iconst (-1), 1) := by decide +kernel
theorem dX0_readJump_97 : decode (mC mX0_readJump) 97 = .ok (.if_icmp .ne 5, 3) := by decide +kernel
theorem dX0_readJump_100 : decode (mC mX0_readJump) 100 = .ok (.iconst 0, 1) := by decide +kernel
theorem dX0_readJump_101 : decode (mC mX0_readJump) 101 = .ok (.ireturn, 1) := by decide +kernel
theorem dX0_readJump_102 : decode (mC mX0_readJump) 102 = .ok (.aload_n 1, 1) := by decide +kernel
theorem dX0_readJump_103 : decode (mC mX0_readJump) 103 = .ok (.invokevirtual 41, 3) := by decide +kernel
theorem dX0_readJump_106 : decode (mC mX0_readJump) 106 = .ok (.aload_n 0, 1) := by decide +kernel
theorem dX0_readJump_107 : decode (mC mX0_readJump) 107 = .ok (.getfield 12, 3) := by decide +kernel
theorem dX0_readJump_110 : decode (mC mX0_readJump) 110 = .ok (.iload_n 2, 1) := by decide +kernel
theorem dX0_readJump_111 : decode (mC mX0_readJump) 111 = .ok (.iconst (-1), 1) := by decide +kernel
theorem dX0_readJump_112 : decode (mC mX0_readJump) 112 = .ok (.iload 4, 2) := by decide +kernel
theorem dX0_readJump_114 : decode (mC mX0_readJump) 114 = .ok (.iload 5, 2) := by decide +kernel
theorem dX0_readJump_116 : decode (mC mX0_readJump) 116 = .ok (.iload 6, 2) := by decide +kernel
theorem dX0_readJump_118 : decode (mC mX0_readJump) 118 = .ok (.iload_n 3, 1) := by decide +kernel
theorem dX0_readJump_119 : decode (mC mX0_readJump) 119 = .ok (.invokestatic 81, 3) := by decide +kernel
theorem dX0_readJump_122 : decode (mC mX0_readJump) 122 = .ok (.invokevirtual 85, 3) := by decide +kernel
theorem dX0_readJump_125 : decode (mC mX0_readJump) 125 = .ok (.iconst 1, 1) := by decide +kernel
theorem dX0_readJump_126 : decode (mC mX0_readJump) 126 = .ok (.ireturn, 1) := by decide +kernel
set_option maxRecDepth 100000 in
theorem bX0_readJump_0 {sc : Nat × (Nat → Int32)} {h : jH} {Q : jQ} {l2 : Int32} {P1 : jH → Prop} {P2 : Int32 → jH → Prop}
    (k1 : JM mX8_next [.ref 1] (jG0 sc) h (jvoid sc P1))
    (k2 : ∀ h1 : jH, P1 h1 → JM mX8_isNumber [.ref 1, .int 1] (jG0 sc) h1 (jint sc P2))
    (v1 : ∀ h1 : jH, P1 h1 → ∀ (x2 : Int32) (h2 : jH), P2 x2 h2 → x2 = 0 → WP mX0_readJump Q 21 [some (.ref 3), some (.ref 1), some (.int l2), some (.int (h1 1 5)), none, none, none] [] (jG0 sc) h2 (0, 0))
    (v2 : ∀ h1 : jH, P1 h1 → ∀ (x2 : Int32) (h2 : jH), P2 x2 h2 → ¬ x2 = 0 → WP mX0_readJump Q 17 [some (.ref 3), some (.ref 1), some (.int l2), some (.int (h1 1 5)), none, none, none] [] (jG0 sc) h2 (0, 0)) :
    WP mX0_readJump Q 0 [some (.ref 3), some (.ref 1), some (.int l2), none, none, none, none] [] (jG0 sc) h (0, 0) := by
  refine j_aload_n (i := 1) rfl dX0_readJump_0 ?_
  refine j_callVN (idx := 41) (As := []) (ci := 8) (n := 0) k1 jvoid_nt (jTbl (jtb4 39 rfl)) sX8_next kX8_next rfl ⟨rfl, by decide +kernel, by decide +kernel, by decide +kernel⟩ rfl ⟨by decide, by decide⟩ (Nat.le_of_ble_eq_true rfl) rfl (Nat.le_of_ble_eq_true rfl) (Nat.le_of_ble_eq_true rfl) ⟨Nat.zero_le _, Nat.zero_le _⟩ dX0_readJump_1 (fun r Γ' h1 q => ?_)
  obtain ⟨q0, rfl, p1⟩ := q; cases q0
  refine j_eqst [] (by rfl) ?_
  refine j_aload_n (i := 1) rfl dX0_readJump_4 ?_
  refine j_getI (idx := 89) (ci := 8) (k := 5) (nest := true) (show (0, 89, 8, 5, true) ∈ jFT by decide) rfl (Nat.le_of_ble_eq_true rfl) rfl dX0_readJump_5 ?_
  refine j_istore_n (i := 3) dX0_readJump_8 (Nat.le_of_ble_eq_true rfl) ?_
  refine j_aload_n (i := 1) rfl dX0_readJump_9 ?_
  refine j_iconst (n := 1) 1 (by decide) dX0_readJump_10 ?_
  refine j_callVN (idx := 92) (As := [.int 1]) (ci := 8) (n := 1) (k2 h1 p1) jint_nt (jTbl (jtb4 57 rfl)) sX8_isNumber kX8_isNumber rfl ⟨rfl, by decide +kernel, by decide +kernel, by decide +kernel⟩ rfl ⟨by decide, by decide⟩ (Nat.le_of_ble_eq_true rfl) rfl (Nat.le_of_ble_eq_true rfl) (Nat.le_of_ble_eq_true rfl) ⟨Nat.zero_le _, Nat.zero_le _⟩ dX0_readJump_11 (fun r Γ' h2 q => ?_)
  obtain ⟨x2, q0, rfl, p2⟩ := q; cases q0
  refine j_eqst [.int x2] (by rfl) ?_
  refine j_if_eq (off := 7) 21 dX0_readJump_14 (by decide) (fun c1 => ?_) (fun c1 => ?_)
  · exact j_le [some (.ref 3), some (.ref 1), some (.int l2), some (.int (h1 1 5)), none, none, none] (And.intro rfl (And.intro rfl (And.intro rfl (And.intro rfl True.intro)))) (v1 h1 p1 x2 h2 p2 c1)
  · exact j_le [some (.ref 3), some (.ref 1), some (.int l2), some (.int (h1 1 5)), none, none, none] (And.intro rfl (And.intro rfl (And.intro rfl (And.intro rfl True.intro)))) (v2 h1 p1 x2 h2 p2 c1)
set_option maxRecDepth 100000 in
theorem bX0_readJump_17 {sc : Nat × (Nat → Int32)} {h : jH} {Q : jQ} {l2 l3 : Int32}
    (v1 : ¬ l3 = 0 → WP mX0_readJump Q 23 [some (.ref 3), some (.ref 1), some (.int l2), some (.int l3), none, none, none] [] (jG0 sc) h (0, 0))
    (v2 : l3 = 0 → WP mX0_readJump Q 21 [some (.ref 3), some (.ref 1), some (.int l2), some (.int l3), none, none, none] [] (jG0 sc) h (0, 0)) :
    WP mX0_readJump Q 17 [some (.ref 3), some (.ref 1), some (.int l2), some (.int l3), none, none, none] [] (jG0 sc) h (0, 0) := by
  refine j_iload_n (i := 3) rfl dX0_readJump_17 ?_
  refine j_if_ne (off := 5) 23 dX0_readJump_18 (by decide) (fun c1 => ?_) (fun c1 => ?_)
  · exact j_le [some (.ref 3), some (.ref 1), some (.int l2), some (.int l3), none, none, none] (And.intro rfl (And.intro rfl (And.intro rfl (And.intro rfl True.intro)))) (v1 c1)
  · exact j_le [some (.ref 3), some (.ref 1), some (.int l2), some (.int l3), none, none, none] (And.intro rfl (And.intro rfl (And.intro rfl (And.intro rfl True.intro)))) (v2 c1)
set_option maxRecDepth 100000 in
theorem bX0_readJump_21 {sc : Nat × (Nat → Int32)} {h : jH} {Q : jQ} {l2 l3 : Int32}
    (v1 : Q (.inl (some (.int 0))) (jG0 sc) h) :
    WP mX0_readJump Q 21 [some (.ref 3), some (.ref 1), some (.int l2), some (.int l3), none, none, none] [] (jG0 sc) h (0, 0) := by
  refine j_iconst (n := 0) 0 (by decide) dX0_readJump_21 ?_
  exact j_iret rfl rfl (Nat.zero_le _) (Nat.zero_le _) dX0_readJump_22 v1
set_option maxRecDepth 100000 in
theorem bX0_readJump_23 {sc : Nat × (Nat → Int32)} {h : jH} {Q : jQ} {l2 l3 : Int32} {P1 : jH → Prop} {P2 : Int32 → jH → Prop}
    (k1 : JM mX8_next [.ref 1] (jG0 sc) h (jvoid sc P1))
    (k2 : ∀ h1 : jH, P1 h1 → JM mX8_isWord [.ref 1, .ref 1005] (jG0 sc) h1 (jint sc P2))
    (v1 : ∀ h1 : jH, P1 h1 → ∀ (x2 : Int32) (h2 : jH), P2 x2 h2 → ¬ x2 = 0 → WP mX0_readJump Q 38 [some (.ref 3), some (.ref 1), some (.int l2), some (.int l3), none, none, none] [] (jG0 sc) h2 (0, 0))
    (v2 : ∀ h1 : jH, P1 h1 → ∀ (x2 : Int32) (h2 : jH), P2 x2 h2 → x2 = 0 → WP mX0_readJump Q 36 [some (.ref 3), some (.ref 1), some (.int l2), some (.int l3), none, none, none] [] (jG0 sc) h2 (0, 0)) :
    WP mX0_readJump Q 23 [some (.ref 3), some (.ref 1), some (.int l2), some (.int l3), none, none, none] [] (jG0 sc) h (0, 0) := by
  refine j_aload_n (i := 1) rfl dX0_readJump_23 ?_
  refine j_callVN (idx := 41) (As := []) (ci := 8) (n := 0) k1 jvoid_nt (jTbl (jtb4 39 rfl)) sX8_next kX8_next rfl ⟨rfl, by decide +kernel, by decide +kernel, by decide +kernel⟩ rfl ⟨by decide, by decide⟩ (Nat.le_of_ble_eq_true rfl) rfl (Nat.le_of_ble_eq_true rfl) (Nat.le_of_ble_eq_true rfl) ⟨Nat.zero_le _, Nat.zero_le _⟩ dX0_readJump_24 (fun r Γ' h1 q => ?_)
  obtain ⟨q0, rfl, p1⟩ := q; cases q0
  refine j_eqst [] (by rfl) ?_
  refine j_aload_n (i := 1) rfl dX0_readJump_27 ?_
  refine j_ldcS (idx := 96) "if" 5 (show ("MendBench$BodyReade\x72", 96, "if", 5) ∈ jStr by decide +kernel) dX0_readJump_28 ?_
  refine j_callVN (idx := 46) (As := [.ref 1005]) (ci := 8) (n := 1) (k2 h1 p1) jint_nt (jTbl (jtb3 223 rfl)) sX8_isWord kX8_isWord rfl ⟨rfl, by decide +kernel, by decide +kernel, by decide +kernel⟩ rfl ⟨by decide, by decide⟩ (Nat.le_of_ble_eq_true rfl) rfl (Nat.le_of_ble_eq_true rfl) (Nat.le_of_ble_eq_true rfl) ⟨Nat.zero_le _, Nat.zero_le _⟩ dX0_readJump_30 (fun r Γ' h2 q => ?_)
  obtain ⟨x2, q0, rfl, p2⟩ := q; cases q0
  refine j_eqst [.int x2] (by rfl) ?_
  refine j_if_ne (off := 5) 38 dX0_readJump_33 (by decide) (fun c1 => ?_) (fun c1 => ?_)
  · exact j_le [some (.ref 3), some (.ref 1), some (.int l2), some (.int l3), none, none, none] (And.intro rfl (And.intro rfl (And.intro rfl (And.intro rfl True.intro)))) (v1 h1 p1 x2 h2 p2 c1)
  · exact j_le [some (.ref 3), some (.ref 1), some (.int l2), some (.int l3), none, none, none] (And.intro rfl (And.intro rfl (And.intro rfl (And.intro rfl True.intro)))) (v2 h1 p1 x2 h2 p2 c1)
set_option maxRecDepth 100000 in
theorem bX0_readJump_36 {sc : Nat × (Nat → Int32)} {h : jH} {Q : jQ} {l2 l3 : Int32}
    (v1 : Q (.inl (some (.int 0))) (jG0 sc) h) :
    WP mX0_readJump Q 36 [some (.ref 3), some (.ref 1), some (.int l2), some (.int l3), none, none, none] [] (jG0 sc) h (0, 0) := by
  refine j_iconst (n := 0) 0 (by decide) dX0_readJump_36 ?_
  exact j_iret rfl rfl (Nat.zero_le _) (Nat.zero_le _) dX0_readJump_37 v1
set_option maxRecDepth 100000 in
theorem bX0_readJump_38 {sc : Nat × (Nat → Int32)} {h : jH} {Q : jQ} {l2 l3 : Int32} {P1 : jH → Prop} {P2 : Int32 → jH → Prop}
    (k1 : JM mX8_next [.ref 1] (jG0 sc) h (jvoid sc P1))
    (k2 : ∀ h1 : jH, P1 h1 → JM mX0_atom [.ref 3, .ref 1] (jG0 sc) h1 (jint sc P2))
    (v1 : ∀ h1 : jH, P1 h1 → ∀ (x2 : Int32) (h2 : jH), P2 x2 h2 → ¬ x2 = (-1) → WP mX0_readJump Q 57 [some (.ref 3), some (.ref 1), some (.int l2), some (.int l3), some (.int x2), none, none] [] (jG0 sc) h2 (0, 0))
    (v2 : ∀ h1 : jH, P1 h1 → ∀ (x2 : Int32) (h2 : jH), P2 x2 h2 → x2 = (-1) → WP mX0_readJump Q 55 [some (.ref 3), some (.ref 1), some (.int l2), some (.int l3), some (.int x2), none, none] [] (jG0 sc) h2 (0, 0)) :
    WP mX0_readJump Q 38 [some (.ref 3), some (.ref 1), some (.int l2), some (.int l3), none, none, none] [] (jG0 sc) h (0, 0) := by
  refine j_aload_n (i := 1) rfl dX0_readJump_38 ?_
  refine j_callVN (idx := 41) (As := []) (ci := 8) (n := 0) k1 jvoid_nt (jTbl (jtb4 39 rfl)) sX8_next kX8_next rfl ⟨rfl, by decide +kernel, by decide +kernel, by decide +kernel⟩ rfl ⟨by decide, by decide⟩ (Nat.le_of_ble_eq_true rfl) rfl (Nat.le_of_ble_eq_true rfl) (Nat.le_of_ble_eq_true rfl) ⟨Nat.zero_le _, Nat.zero_le _⟩ dX0_readJump_39 (fun r Γ' h1 q => ?_)
  obtain ⟨q0, rfl, p1⟩ := q; cases q0
  refine j_eqst [] (by rfl) ?_
  refine j_aload_n (i := 0) rfl dX0_readJump_42 ?_
  refine j_aload_n (i := 1) rfl dX0_readJump_43 ?_
  refine j_callV (idx := 73) (As := [.ref 1]) (ci := 0) (n := 1) (k2 h1 p1) jint_nt (jlkT (jtb4 53 rfl) rfl) sX0_atom kX0_atom rfl ⟨rfl, by decide +kernel, by decide +kernel, by decide +kernel⟩ rfl ⟨by decide, by decide⟩ (Nat.le_of_ble_eq_true rfl) rfl (Nat.le_of_ble_eq_true rfl) (Nat.le_of_ble_eq_true rfl) ⟨Nat.zero_le _, Nat.zero_le _⟩ dX0_readJump_44 (fun r Γ' h2 q => ?_)
  obtain ⟨x2, q0, rfl, p2⟩ := q; cases q0
  refine j_eqst [.int x2] (by rfl) ?_
  refine j_istore (i := 4) dX0_readJump_47 (Nat.le_of_ble_eq_true rfl) ?_
  refine j_iload (i := 4) rfl dX0_readJump_49 ?_
  refine j_iconst (n := (-1)) (-1) (by decide) dX0_readJump_51 ?_
  refine j_icmp_ne (off := 5) 57 dX0_readJump_52 (by decide) (fun c1 => ?_) (fun c1 => ?_)
  · exact j_le [some (.ref 3), some (.ref 1), some (.int l2), some (.int l3), some (.int x2), none, none] (And.intro rfl (And.intro rfl (And.intro rfl (And.intro rfl (And.intro rfl True.intro))))) (v1 h1 p1 x2 h2 p2 c1)
  · exact j_le [some (.ref 3), some (.ref 1), some (.int l2), some (.int l3), some (.int x2), none, none] (And.intro rfl (And.intro rfl (And.intro rfl (And.intro rfl (And.intro rfl True.intro))))) (v2 h1 p1 x2 h2 p2 c1)
set_option maxRecDepth 100000 in
theorem bX0_readJump_55 {sc : Nat × (Nat → Int32)} {h : jH} {Q : jQ} {l2 l3 l4 : Int32}
    (v1 : Q (.inl (some (.int 0))) (jG0 sc) h) :
    WP mX0_readJump Q 55 [some (.ref 3), some (.ref 1), some (.int l2), some (.int l3), some (.int l4), none, none] [] (jG0 sc) h (0, 0) := by
  refine j_iconst (n := 0) 0 (by decide) dX0_readJump_55 ?_
  exact j_iret rfl rfl (Nat.zero_le _) (Nat.zero_le _) dX0_readJump_56 v1
set_option maxRecDepth 100000 in
theorem bX0_readJump_57 {sc : Nat × (Nat → Int32)} {h : jH} {Q : jQ} {l2 l3 l4 : Int32} {P1 : jH → Prop} {P2 : Int32 → jH → Prop}
    (k1 : JM mX8_next [.ref 1] (jG0 sc) h (jvoid sc P1))
    (k2 : ∀ h1 : jH, P1 h1 → JM mX8_sign [.ref 1] (jG0 sc) h1 (jint sc P2))
    (v1 : ∀ h1 : jH, P1 h1 → ∀ (x2 : Int32) (h2 : jH), P2 x2 h2 → x2 < 6 → WP mX0_readJump Q 81 [some (.ref 3), some (.ref 1), some (.int l2), some (.int l3), some (.int l4), some (.int x2), none] [] (jG0 sc) h2 (0, 0))
    (v2 : ∀ h1 : jH, P1 h1 → ∀ (x2 : Int32) (h2 : jH), P2 x2 h2 → ¬ x2 < 6 → WP mX0_readJump Q 74 [some (.ref 3), some (.ref 1), some (.int l2), some (.int l3), some (.int l4), some (.int x2), none] [] (jG0 sc) h2 (0, 0)) :
    WP mX0_readJump Q 57 [some (.ref 3), some (.ref 1), some (.int l2), some (.int l3), some (.int l4), none, none] [] (jG0 sc) h (0, 0) := by
  refine j_aload_n (i := 1) rfl dX0_readJump_57 ?_
  refine j_callVN (idx := 41) (As := []) (ci := 8) (n := 0) k1 jvoid_nt (jTbl (jtb4 39 rfl)) sX8_next kX8_next rfl ⟨rfl, by decide +kernel, by decide +kernel, by decide +kernel⟩ rfl ⟨by decide, by decide⟩ (Nat.le_of_ble_eq_true rfl) rfl (Nat.le_of_ble_eq_true rfl) (Nat.le_of_ble_eq_true rfl) ⟨Nat.zero_le _, Nat.zero_le _⟩ dX0_readJump_58 (fun r Γ' h1 q => ?_)
  obtain ⟨q0, rfl, p1⟩ := q; cases q0
  refine j_eqst [] (by rfl) ?_
  refine j_aload_n (i := 1) rfl dX0_readJump_61 ?_
  refine j_callVN (idx := 77) (As := []) (ci := 8) (n := 0) (k2 h1 p1) jint_nt (jTbl (jtb4 62 rfl)) sX8_sign kX8_sign rfl ⟨rfl, by decide +kernel, by decide +kernel, by decide +kernel⟩ rfl ⟨by decide, by decide⟩ (Nat.le_of_ble_eq_true rfl) rfl (Nat.le_of_ble_eq_true rfl) (Nat.le_of_ble_eq_true rfl) ⟨Nat.zero_le _, Nat.zero_le _⟩ dX0_readJump_62 (fun r Γ' h2 q => ?_)
  obtain ⟨x2, q0, rfl, p2⟩ := q; cases q0
  refine j_eqst [.int x2] (by rfl) ?_
  refine j_istore (i := 5) dX0_readJump_65 (Nat.le_of_ble_eq_true rfl) ?_
  refine j_iload (i := 5) rfl dX0_readJump_67 ?_
  refine j_bipush (n := 6) 6 (by decide) dX0_readJump_69 ?_
  refine j_icmp_lt (off := 10) 81 dX0_readJump_71 (by decide) (fun c1 => ?_) (fun c1 => ?_)
  · exact j_le [some (.ref 3), some (.ref 1), some (.int l2), some (.int l3), some (.int l4), some (.int x2), none] (And.intro rfl (And.intro rfl (And.intro rfl (And.intro rfl (And.intro rfl (And.intro rfl True.intro)))))) (v1 h1 p1 x2 h2 p2 c1)
  · exact j_le [some (.ref 3), some (.ref 1), some (.int l2), some (.int l3), some (.int l4), some (.int x2), none] (And.intro rfl (And.intro rfl (And.intro rfl (And.intro rfl (And.intro rfl (And.intro rfl True.intro)))))) (v2 h1 p1 x2 h2 p2 c1)
set_option maxRecDepth 100000 in
theorem bX0_readJump_74 {sc : Nat × (Nat → Int32)} {h : jH} {Q : jQ} {l2 l3 l4 l5 : Int32}
    (v1 : l5 ≤ 8 → WP mX0_readJump Q 83 [some (.ref 3), some (.ref 1), some (.int l2), some (.int l3), some (.int l4), some (.int l5), none] [] (jG0 sc) h (0, 0))
    (v2 : ¬ l5 ≤ 8 → WP mX0_readJump Q 81 [some (.ref 3), some (.ref 1), some (.int l2), some (.int l3), some (.int l4), some (.int l5), none] [] (jG0 sc) h (0, 0)) :
    WP mX0_readJump Q 74 [some (.ref 3), some (.ref 1), some (.int l2), some (.int l3), some (.int l4), some (.int l5), none] [] (jG0 sc) h (0, 0) := by
  refine j_iload (i := 5) rfl dX0_readJump_74 ?_
  refine j_bipush (n := 8) 8 (by decide) dX0_readJump_76 ?_
  refine j_icmp_le (off := 5) 83 dX0_readJump_78 (by decide) (fun c1 => ?_) (fun c1 => ?_)
  · exact j_le [some (.ref 3), some (.ref 1), some (.int l2), some (.int l3), some (.int l4), some (.int l5), none] (And.intro rfl (And.intro rfl (And.intro rfl (And.intro rfl (And.intro rfl (And.intro rfl True.intro)))))) (v1 c1)
  · exact j_le [some (.ref 3), some (.ref 1), some (.int l2), some (.int l3), some (.int l4), some (.int l5), none] (And.intro rfl (And.intro rfl (And.intro rfl (And.intro rfl (And.intro rfl (And.intro rfl True.intro)))))) (v2 c1)
set_option maxRecDepth 100000 in
theorem bX0_readJump_81 {sc : Nat × (Nat → Int32)} {h : jH} {Q : jQ} {l2 l3 l4 l5 : Int32}
    (v1 : Q (.inl (some (.int 0))) (jG0 sc) h) :
    WP mX0_readJump Q 81 [some (.ref 3), some (.ref 1), some (.int l2), some (.int l3), some (.int l4), some (.int l5), none] [] (jG0 sc) h (0, 0) := by
  refine j_iconst (n := 0) 0 (by decide) dX0_readJump_81 ?_
  exact j_iret rfl rfl (Nat.zero_le _) (Nat.zero_le _) dX0_readJump_82 v1
set_option maxRecDepth 100000 in
theorem bX0_readJump_83 {sc : Nat × (Nat → Int32)} {h : jH} {Q : jQ} {l2 l3 l4 l5 : Int32} {P1 : jH → Prop} {P2 : Int32 → jH → Prop}
    (k1 : JM mX8_next [.ref 1] (jG0 sc) h (jvoid sc P1))
    (k2 : ∀ h1 : jH, P1 h1 → JM mX0_atom [.ref 3, .ref 1] (jG0 sc) h1 (jint sc P2))
    (v1 : ∀ h1 : jH, P1 h1 → ∀ (x2 : Int32) (h2 : jH), P2 x2 h2 → ¬ x2 = (-1) → WP mX0_readJump Q 102 [some (.ref 3), some (.ref 1), some (.int l2), some (.int l3), some (.int l4), some (.int l5), some (.int x2)] [] (jG0 sc) h2 (0, 0))
    (v2 : ∀ h1 : jH, P1 h1 → ∀ (x2 : Int32) (h2 : jH), P2 x2 h2 → x2 = (-1) → WP mX0_readJump Q 100 [some (.ref 3), some (.ref 1), some (.int l2), some (.int l3), some (.int l4), some (.int l5), some (.int x2)] [] (jG0 sc) h2 (0, 0)) :
    WP mX0_readJump Q 83 [some (.ref 3), some (.ref 1), some (.int l2), some (.int l3), some (.int l4), some (.int l5), none] [] (jG0 sc) h (0, 0) := by
  refine j_aload_n (i := 1) rfl dX0_readJump_83 ?_
  refine j_callVN (idx := 41) (As := []) (ci := 8) (n := 0) k1 jvoid_nt (jTbl (jtb4 39 rfl)) sX8_next kX8_next rfl ⟨rfl, by decide +kernel, by decide +kernel, by decide +kernel⟩ rfl ⟨by decide, by decide⟩ (Nat.le_of_ble_eq_true rfl) rfl (Nat.le_of_ble_eq_true rfl) (Nat.le_of_ble_eq_true rfl) ⟨Nat.zero_le _, Nat.zero_le _⟩ dX0_readJump_84 (fun r Γ' h1 q => ?_)
  obtain ⟨q0, rfl, p1⟩ := q; cases q0
  refine j_eqst [] (by rfl) ?_
  refine j_aload_n (i := 0) rfl dX0_readJump_87 ?_
  refine j_aload_n (i := 1) rfl dX0_readJump_88 ?_
  refine j_callV (idx := 73) (As := [.ref 1]) (ci := 0) (n := 1) (k2 h1 p1) jint_nt (jlkT (jtb4 53 rfl) rfl) sX0_atom kX0_atom rfl ⟨rfl, by decide +kernel, by decide +kernel, by decide +kernel⟩ rfl ⟨by decide, by decide⟩ (Nat.le_of_ble_eq_true rfl) rfl (Nat.le_of_ble_eq_true rfl) (Nat.le_of_ble_eq_true rfl) ⟨Nat.zero_le _, Nat.zero_le _⟩ dX0_readJump_89 (fun r Γ' h2 q => ?_)
  obtain ⟨x2, q0, rfl, p2⟩ := q; cases q0
  refine j_eqst [.int x2] (by rfl) ?_
  refine j_istore (i := 6) dX0_readJump_92 (Nat.le_of_ble_eq_true rfl) ?_
  refine j_iload (i := 6) rfl dX0_readJump_94 ?_
  refine j_iconst (n := (-1)) (-1) (by decide) dX0_readJump_96 ?_
  refine j_icmp_ne (off := 5) 102 dX0_readJump_97 (by decide) (fun c1 => ?_) (fun c1 => ?_)
  · exact j_le [some (.ref 3), some (.ref 1), some (.int l2), some (.int l3), some (.int l4), some (.int l5), some (.int x2)] (And.intro rfl (And.intro rfl (And.intro rfl (And.intro rfl (And.intro rfl (And.intro rfl (And.intro rfl True.intro))))))) (v1 h1 p1 x2 h2 p2 c1)
  · exact j_le [some (.ref 3), some (.ref 1), some (.int l2), some (.int l3), some (.int l4), some (.int l5), some (.int x2)] (And.intro rfl (And.intro rfl (And.intro rfl (And.intro rfl (And.intro rfl (And.intro rfl (And.intro rfl True.intro))))))) (v2 h1 p1 x2 h2 p2 c1)
set_option maxRecDepth 100000 in
theorem bX0_readJump_100 {sc : Nat × (Nat → Int32)} {h : jH} {Q : jQ} {l2 l3 l4 l5 l6 : Int32}
    (v1 : Q (.inl (some (.int 0))) (jG0 sc) h) :
    WP mX0_readJump Q 100 [some (.ref 3), some (.ref 1), some (.int l2), some (.int l3), some (.int l4), some (.int l5), some (.int l6)] [] (jG0 sc) h (0, 0) := by
  refine j_iconst (n := 0) 0 (by decide) dX0_readJump_100 ?_
  exact j_iret rfl rfl (Nat.zero_le _) (Nat.zero_le _) dX0_readJump_101 v1
set_option maxRecDepth 100000 in
theorem bX0_readJump_102 {sc : Nat × (Nat → Int32)} {h : jH} {Q : jQ} {l2 l3 l4 l5 l6 : Int32} {P1 : jH → Prop} {P2 : Int32 → jH → Prop} {P3 : jH → Prop}
    (k1 : JM mX8_next [.ref 1] (jG0 sc) h (jvoid sc P1))
    (k2 : ∀ h1 : jH, P1 h1 → JM mX11_packed [.int l2, .int (-1), .int l4, .int l5, .int l6, .int l3] (jG0 sc) h1 (jint sc P2))
    (k3 : ∀ h1 : jH, P1 h1 → ∀ (x2 : Int32) (h2 : jH), P2 x2 h2 → JM mX4_add [.ref 4, .int x2] (jG0 sc) h2 (jvoid sc P3))
    (v1 : ∀ h1 : jH, P1 h1 → ∀ (x2 : Int32) (h2 : jH), P2 x2 h2 → ∀ h3 : jH, P3 h3 → Q (.inl (some (.int 1))) (jG0 sc) h3) :
    WP mX0_readJump Q 102 [some (.ref 3), some (.ref 1), some (.int l2), some (.int l3), some (.int l4), some (.int l5), some (.int l6)] [] (jG0 sc) h (0, 0) := by
  refine j_aload_n (i := 1) rfl dX0_readJump_102 ?_
  refine j_callVN (idx := 41) (As := []) (ci := 8) (n := 0) k1 jvoid_nt (jTbl (jtb4 39 rfl)) sX8_next kX8_next rfl ⟨rfl, by decide +kernel, by decide +kernel, by decide +kernel⟩ rfl ⟨by decide, by decide⟩ (Nat.le_of_ble_eq_true rfl) rfl (Nat.le_of_ble_eq_true rfl) (Nat.le_of_ble_eq_true rfl) ⟨Nat.zero_le _, Nat.zero_le _⟩ dX0_readJump_103 (fun r Γ' h1 q => ?_)
  obtain ⟨q0, rfl, p1⟩ := q; cases q0
  refine j_eqst [] (by rfl) ?_
  refine j_aload_n (i := 0) rfl dX0_readJump_106 ?_
  refine j_getR (idx := 12) (ci := 0) (k := 0) (nest := false) (show (0, 12, 0, 0, false) ∈ jFT by decide) rfl (Nat.le_of_ble_eq_true rfl) rfl (a := 4) rfl dX0_readJump_107 ?_
  refine j_iload_n (i := 2) rfl dX0_readJump_110 ?_
  refine j_iconst (n := (-1)) (-1) (by decide) dX0_readJump_111 ?_
  refine j_iload (i := 4) rfl dX0_readJump_112 ?_
  refine j_iload (i := 5) rfl dX0_readJump_114 ?_
  refine j_iload (i := 6) rfl dX0_readJump_116 ?_
  refine j_iload_n (i := 3) rfl dX0_readJump_118 ?_
  refine j_callSN (idx := 81) (As := [.int l2, .int (-1), .int l4, .int l5, .int l6, .int l3]) (n := 6) (k2 h1 p1) jint_nt (jTbl (jtb4 66 rfl)) sX11_packed kX11_packed rfl ⟨by decide +kernel, by decide +kernel, by decide +kernel⟩ rfl ⟨by decide, by decide⟩ (Nat.le_of_ble_eq_true rfl) ⟨Nat.zero_le _, Nat.zero_le _⟩ dX0_readJump_119 (fun r Γ' h2 q => ?_)
  obtain ⟨x2, q0, rfl, p2⟩ := q; cases q0
  refine j_eqst [.int x2, .ref 4] (by rfl) ?_
  refine j_callVN (idx := 85) (As := [.int x2]) (ci := 4) (n := 1) (k3 h1 p1 x2 h2 p2) jvoid_nt (jTbl (jtb4 69 rfl)) sX4_add kX4_add rfl ⟨rfl, by decide +kernel, by decide +kernel, by decide +kernel⟩ rfl ⟨by decide, by decide⟩ (Nat.le_of_ble_eq_true rfl) rfl (Nat.le_of_ble_eq_true rfl) (Nat.le_of_ble_eq_true rfl) ⟨Nat.zero_le _, Nat.zero_le _⟩ dX0_readJump_122 (fun r Γ' h3 q => ?_)
  obtain ⟨q0, rfl, p3⟩ := q; cases q0
  refine j_eqst [] (by rfl) ?_
  refine j_iconst (n := 1) 1 (by decide) dX0_readJump_125 ?_
  exact j_iret rfl rfl (Nat.zero_le _) (Nat.zero_le _) dX0_readJump_126 (v1 h1 p1 x2 h2 p2 h3 p3)
set_option maxRecDepth 100000 in
theorem rX0_readJump_0 {sc : Nat × (Nat → Int32)} {h : jH} {Q : jQ} {l2 : Int32} {P1 : jH → Prop} {P2 : Int32 → jH → Prop} {P3 : jH → Prop} {P4 : Int32 → jH → Prop} {P5 : jH → Prop} {P6 : Int32 → jH → Prop} {P7 : jH → Prop} {P8 : Int32 → jH → Prop} {P9 : jH → Prop} {P10 : Int32 → jH → Prop} {P11 : jH → Prop} {P12 : Int32 → jH → Prop} {P13 : jH → Prop}
    (k1 : JM mX8_next [.ref 1] (jG0 sc) h (jvoid sc P1))
    (k2 : ∀ h1 : jH, P1 h1 → JM mX8_isNumber [.ref 1, .int 1] (jG0 sc) h1 (jint sc P2))
    (v1 : ∀ h1 : jH, P1 h1 → ∀ (x2 : Int32) (h2 : jH), P2 x2 h2 → x2 = 0 → Q (.inl (some (.int 0))) (jG0 sc) h2)
    (k3 : ∀ h1 : jH, P1 h1 → ∀ (x2 : Int32) (h2 : jH), P2 x2 h2 → ¬ x2 = 0 → ¬ (h1 1 5) = 0 → JM mX8_next [.ref 1] (jG0 sc) h2 (jvoid sc P3))
    (k4 : ∀ h1 : jH, P1 h1 → ∀ (x2 : Int32) (h2 : jH), P2 x2 h2 → ¬ x2 = 0 → ¬ (h1 1 5) = 0 → ∀ h3 : jH, P3 h3 → JM mX8_isWord [.ref 1, .ref 1005] (jG0 sc) h3 (jint sc P4))
    (k5 : ∀ h1 : jH, P1 h1 → ∀ (x2 : Int32) (h2 : jH), P2 x2 h2 → ¬ x2 = 0 → ¬ (h1 1 5) = 0 → ∀ h3 : jH, P3 h3 → ∀ (x4 : Int32) (h4 : jH), P4 x4 h4 → ¬ x4 = 0 → JM mX8_next [.ref 1] (jG0 sc) h4 (jvoid sc P5))
    (k6 : ∀ h1 : jH, P1 h1 → ∀ (x2 : Int32) (h2 : jH), P2 x2 h2 → ¬ x2 = 0 → ¬ (h1 1 5) = 0 → ∀ h3 : jH, P3 h3 → ∀ (x4 : Int32) (h4 : jH), P4 x4 h4 → ¬ x4 = 0 → ∀ h5 : jH, P5 h5 → JM mX0_atom [.ref 3, .ref 1] (jG0 sc) h5 (jint sc P6))
    (k7 : ∀ h1 : jH, P1 h1 → ∀ (x2 : Int32) (h2 : jH), P2 x2 h2 → ¬ x2 = 0 → ¬ (h1 1 5) = 0 → ∀ h3 : jH, P3 h3 → ∀ (x4 : Int32) (h4 : jH), P4 x4 h4 → ¬ x4 = 0 → ∀ h5 : jH, P5 h5 → ∀ (x6 : Int32) (h6 : jH), P6 x6 h6 → ¬ x6 = (-1) → JM mX8_next [.ref 1] (jG0 sc) h6 (jvoid sc P7))
    (k8 : ∀ h1 : jH, P1 h1 → ∀ (x2 : Int32) (h2 : jH), P2 x2 h2 → ¬ x2 = 0 → ¬ (h1 1 5) = 0 → ∀ h3 : jH, P3 h3 → ∀ (x4 : Int32) (h4 : jH), P4 x4 h4 → ¬ x4 = 0 → ∀ h5 : jH, P5 h5 → ∀ (x6 : Int32) (h6 : jH), P6 x6 h6 → ¬ x6 = (-1) → ∀ h7 : jH, P7 h7 → JM mX8_sign [.ref 1] (jG0 sc) h7 (jint sc P8))
    (v2 : ∀ h1 : jH, P1 h1 → ∀ (x2 : Int32) (h2 : jH), P2 x2 h2 → ¬ x2 = 0 → ¬ (h1 1 5) = 0 → ∀ h3 : jH, P3 h3 → ∀ (x4 : Int32) (h4 : jH), P4 x4 h4 → ¬ x4 = 0 → ∀ h5 : jH, P5 h5 → ∀ (x6 : Int32) (h6 : jH), P6 x6 h6 → ¬ x6 = (-1) → ∀ h7 : jH, P7 h7 → ∀ (x8 : Int32) (h8 : jH), P8 x8 h8 → x8 < 6 → Q (.inl (some (.int 0))) (jG0 sc) h8)
    (k9 : ∀ h1 : jH, P1 h1 → ∀ (x2 : Int32) (h2 : jH), P2 x2 h2 → ¬ x2 = 0 → ¬ (h1 1 5) = 0 → ∀ h3 : jH, P3 h3 → ∀ (x4 : Int32) (h4 : jH), P4 x4 h4 → ¬ x4 = 0 → ∀ h5 : jH, P5 h5 → ∀ (x6 : Int32) (h6 : jH), P6 x6 h6 → ¬ x6 = (-1) → ∀ h7 : jH, P7 h7 → ∀ (x8 : Int32) (h8 : jH), P8 x8 h8 → ¬ x8 < 6 → x8 ≤ 8 → JM mX8_next [.ref 1] (jG0 sc) h8 (jvoid sc P9))
    (k10 : ∀ h1 : jH, P1 h1 → ∀ (x2 : Int32) (h2 : jH), P2 x2 h2 → ¬ x2 = 0 → ¬ (h1 1 5) = 0 → ∀ h3 : jH, P3 h3 → ∀ (x4 : Int32) (h4 : jH), P4 x4 h4 → ¬ x4 = 0 → ∀ h5 : jH, P5 h5 → ∀ (x6 : Int32) (h6 : jH), P6 x6 h6 → ¬ x6 = (-1) → ∀ h7 : jH, P7 h7 → ∀ (x8 : Int32) (h8 : jH), P8 x8 h8 → ¬ x8 < 6 → x8 ≤ 8 → ∀ h9 : jH, P9 h9 → JM mX0_atom [.ref 3, .ref 1] (jG0 sc) h9 (jint sc P10))
    (k11 : ∀ h1 : jH, P1 h1 → ∀ (x2 : Int32) (h2 : jH), P2 x2 h2 → ¬ x2 = 0 → ¬ (h1 1 5) = 0 → ∀ h3 : jH, P3 h3 → ∀ (x4 : Int32) (h4 : jH), P4 x4 h4 → ¬ x4 = 0 → ∀ h5 : jH, P5 h5 → ∀ (x6 : Int32) (h6 : jH), P6 x6 h6 → ¬ x6 = (-1) → ∀ h7 : jH, P7 h7 → ∀ (x8 : Int32) (h8 : jH), P8 x8 h8 → ¬ x8 < 6 → x8 ≤ 8 → ∀ h9 : jH, P9 h9 → ∀ (x10 : Int32) (h10 : jH), P10 x10 h10 → ¬ x10 = (-1) → JM mX8_next [.ref 1] (jG0 sc) h10 (jvoid sc P11))
    (k12 : ∀ h1 : jH, P1 h1 → ∀ (x2 : Int32) (h2 : jH), P2 x2 h2 → ¬ x2 = 0 → ¬ (h1 1 5) = 0 → ∀ h3 : jH, P3 h3 → ∀ (x4 : Int32) (h4 : jH), P4 x4 h4 → ¬ x4 = 0 → ∀ h5 : jH, P5 h5 → ∀ (x6 : Int32) (h6 : jH), P6 x6 h6 → ¬ x6 = (-1) → ∀ h7 : jH, P7 h7 → ∀ (x8 : Int32) (h8 : jH), P8 x8 h8 → ¬ x8 < 6 → x8 ≤ 8 → ∀ h9 : jH, P9 h9 → ∀ (x10 : Int32) (h10 : jH), P10 x10 h10 → ¬ x10 = (-1) → ∀ h11 : jH, P11 h11 → JM mX11_packed [.int l2, .int (-1), .int x6, .int x8, .int x10, .int (h1 1 5)] (jG0 sc) h11 (jint sc P12))
    (k13 : ∀ h1 : jH, P1 h1 → ∀ (x2 : Int32) (h2 : jH), P2 x2 h2 → ¬ x2 = 0 → ¬ (h1 1 5) = 0 → ∀ h3 : jH, P3 h3 → ∀ (x4 : Int32) (h4 : jH), P4 x4 h4 → ¬ x4 = 0 → ∀ h5 : jH, P5 h5 → ∀ (x6 : Int32) (h6 : jH), P6 x6 h6 → ¬ x6 = (-1) → ∀ h7 : jH, P7 h7 → ∀ (x8 : Int32) (h8 : jH), P8 x8 h8 → ¬ x8 < 6 → x8 ≤ 8 → ∀ h9 : jH, P9 h9 → ∀ (x10 : Int32) (h10 : jH), P10 x10 h10 → ¬ x10 = (-1) → ∀ h11 : jH, P11 h11 → ∀ (x12 : Int32) (h12 : jH), P12 x12 h12 → JM mX4_add [.ref 4, .int x12] (jG0 sc) h12 (jvoid sc P13))
    (v3 : ∀ h1 : jH, P1 h1 → ∀ (x2 : Int32) (h2 : jH), P2 x2 h2 → ¬ x2 = 0 → ¬ (h1 1 5) = 0 → ∀ h3 : jH, P3 h3 → ∀ (x4 : Int32) (h4 : jH), P4 x4 h4 → ¬ x4 = 0 → ∀ h5 : jH, P5 h5 → ∀ (x6 : Int32) (h6 : jH), P6 x6 h6 → ¬ x6 = (-1) → ∀ h7 : jH, P7 h7 → ∀ (x8 : Int32) (h8 : jH), P8 x8 h8 → ¬ x8 < 6 → x8 ≤ 8 → ∀ h9 : jH, P9 h9 → ∀ (x10 : Int32) (h10 : jH), P10 x10 h10 → ¬ x10 = (-1) → ∀ h11 : jH, P11 h11 → ∀ (x12 : Int32) (h12 : jH), P12 x12 h12 → ∀ h13 : jH, P13 h13 → Q (.inl (some (.int 1))) (jG0 sc) h13)
    (v4 : ∀ h1 : jH, P1 h1 → ∀ (x2 : Int32) (h2 : jH), P2 x2 h2 → ¬ x2 = 0 → ¬ (h1 1 5) = 0 → ∀ h3 : jH, P3 h3 → ∀ (x4 : Int32) (h4 : jH), P4 x4 h4 → ¬ x4 = 0 → ∀ h5 : jH, P5 h5 → ∀ (x6 : Int32) (h6 : jH), P6 x6 h6 → ¬ x6 = (-1) → ∀ h7 : jH, P7 h7 → ∀ (x8 : Int32) (h8 : jH), P8 x8 h8 → ¬ x8 < 6 → x8 ≤ 8 → ∀ h9 : jH, P9 h9 → ∀ (x10 : Int32) (h10 : jH), P10 x10 h10 → x10 = (-1) → Q (.inl (some (.int 0))) (jG0 sc) h10)
    (v5 : ∀ h1 : jH, P1 h1 → ∀ (x2 : Int32) (h2 : jH), P2 x2 h2 → ¬ x2 = 0 → ¬ (h1 1 5) = 0 → ∀ h3 : jH, P3 h3 → ∀ (x4 : Int32) (h4 : jH), P4 x4 h4 → ¬ x4 = 0 → ∀ h5 : jH, P5 h5 → ∀ (x6 : Int32) (h6 : jH), P6 x6 h6 → ¬ x6 = (-1) → ∀ h7 : jH, P7 h7 → ∀ (x8 : Int32) (h8 : jH), P8 x8 h8 → ¬ x8 < 6 → ¬ x8 ≤ 8 → Q (.inl (some (.int 0))) (jG0 sc) h8)
    (v6 : ∀ h1 : jH, P1 h1 → ∀ (x2 : Int32) (h2 : jH), P2 x2 h2 → ¬ x2 = 0 → ¬ (h1 1 5) = 0 → ∀ h3 : jH, P3 h3 → ∀ (x4 : Int32) (h4 : jH), P4 x4 h4 → ¬ x4 = 0 → ∀ h5 : jH, P5 h5 → ∀ (x6 : Int32) (h6 : jH), P6 x6 h6 → x6 = (-1) → Q (.inl (some (.int 0))) (jG0 sc) h6)
    (v7 : ∀ h1 : jH, P1 h1 → ∀ (x2 : Int32) (h2 : jH), P2 x2 h2 → ¬ x2 = 0 → ¬ (h1 1 5) = 0 → ∀ h3 : jH, P3 h3 → ∀ (x4 : Int32) (h4 : jH), P4 x4 h4 → x4 = 0 → Q (.inl (some (.int 0))) (jG0 sc) h4)
    (v8 : ∀ h1 : jH, P1 h1 → ∀ (x2 : Int32) (h2 : jH), P2 x2 h2 → ¬ x2 = 0 → (h1 1 5) = 0 → Q (.inl (some (.int 0))) (jG0 sc) h2) :
    WP mX0_readJump Q 0 [some (.ref 3), some (.ref 1), some (.int l2), none, none, none, none] [] (jG0 sc) h (0, 0) := by
  exact (bX0_readJump_0 k1 (fun h1 p1 => (k2 h1 p1)) (fun h1 p1 x2 h2 p2 c1 => (bX0_readJump_21 (v1 h1 p1 x2 h2 p2 c1))) (fun h1 p1 x2 h2 p2 c1 => (bX0_readJump_17 (fun c2 => (bX0_readJump_23 (k3 h1 p1 x2 h2 p2 c1 c2) (fun h3 p3 => (k4 h1 p1 x2 h2 p2 c1 c2 h3 p3)) (fun h3 p3 x4 h4 p4 c3 => (bX0_readJump_38 (k5 h1 p1 x2 h2 p2 c1 c2 h3 p3 x4 h4 p4 c3) (fun h5 p5 => (k6 h1 p1 x2 h2 p2 c1 c2 h3 p3 x4 h4 p4 c3 h5 p5)) (fun h5 p5 x6 h6 p6 c4 => (bX0_readJump_57 (k7 h1 p1 x2 h2 p2 c1 c2 h3 p3 x4 h4 p4 c3 h5 p5 x6 h6 p6 c4) (fun h7 p7 => (k8 h1 p1 x2 h2 p2 c1 c2 h3 p3 x4 h4 p4 c3 h5 p5 x6 h6 p6 c4 h7 p7)) (fun h7 p7 x8 h8 p8 c5 => (bX0_readJump_81 (v2 h1 p1 x2 h2 p2 c1 c2 h3 p3 x4 h4 p4 c3 h5 p5 x6 h6 p6 c4 h7 p7 x8 h8 p8 c5))) (fun h7 p7 x8 h8 p8 c5 => (bX0_readJump_74 (fun c6 => (bX0_readJump_83 (k9 h1 p1 x2 h2 p2 c1 c2 h3 p3 x4 h4 p4 c3 h5 p5 x6 h6 p6 c4 h7 p7 x8 h8 p8 c5 c6) (fun h9 p9 => (k10 h1 p1 x2 h2 p2 c1 c2 h3 p3 x4 h4 p4 c3 h5 p5 x6 h6 p6 c4 h7 p7 x8 h8 p8 c5 c6 h9 p9)) (fun h9 p9 x10 h10 p10 c7 => (bX0_readJump_102 (k11 h1 p1 x2 h2 p2 c1 c2 h3 p3 x4 h4 p4 c3 h5 p5 x6 h6 p6 c4 h7 p7 x8 h8 p8 c5 c6 h9 p9 x10 h10 p10 c7) (fun h11 p11 => (k12 h1 p1 x2 h2 p2 c1 c2 h3 p3 x4 h4 p4 c3 h5 p5 x6 h6 p6 c4 h7 p7 x8 h8 p8 c5 c6 h9 p9 x10 h10 p10 c7 h11 p11)) (fun h11 p11 x12 h12 p12 => (k13 h1 p1 x2 h2 p2 c1 c2 h3 p3 x4 h4 p4 c3 h5 p5 x6 h6 p6 c4 h7 p7 x8 h8 p8 c5 c6 h9 p9 x10 h10 p10 c7 h11 p11 x12 h12 p12)) (fun h11 p11 x12 h12 p12 h13 p13 => (v3 h1 p1 x2 h2 p2 c1 c2 h3 p3 x4 h4 p4 c3 h5 p5 x6 h6 p6 c4 h7 p7 x8 h8 p8 c5 c6 h9 p9 x10 h10 p10 c7 h11 p11 x12 h12 p12 h13 p13)))) (fun h9 p9 x10 h10 p10 c7 => (bX0_readJump_100 (v4 h1 p1 x2 h2 p2 c1 c2 h3 p3 x4 h4 p4 c3 h5 p5 x6 h6 p6 c4 h7 p7 x8 h8 p8 c5 c6 h9 p9 x10 h10 p10 c7))))) (fun c6 => (bX0_readJump_81 (v5 h1 p1 x2 h2 p2 c1 c2 h3 p3 x4 h4 p4 c3 h5 p5 x6 h6 p6 c4 h7 p7 x8 h8 p8 c5 c6))))))) (fun h5 p5 x6 h6 p6 c4 => (bX0_readJump_55 (v6 h1 p1 x2 h2 p2 c1 c2 h3 p3 x4 h4 p4 c3 h5 p5 x6 h6 p6 c4))))) (fun h3 p3 x4 h4 p4 c3 => (bX0_readJump_36 (v7 h1 p1 x2 h2 p2 c1 c2 h3 p3 x4 h4 p4 c3))))) (fun c2 => (bX0_readJump_21 (v8 h1 p1 x2 h2 p2 c1 c2))))))
theorem dX0_atom_0 : decode (mC mX0_atom) 0 = .ok (.aload_n 1, 1) := by decide +kernel
theorem dX0_atom_1 : decode (mC mX0_atom) 1 = .ok (.iconst 2, 1) := by decide +kernel
theorem dX0_atom_2 : decode (mC mX0_atom) 2 = .ok (.invokevirtual 92, 3) := by decide +kernel
theorem dX0_atom_5 : decode (mC mX0_atom) 5 = .ok (.ifCond .eq 13, 3) := by decide +kernel
theorem dX0_atom_8 : decode (mC mX0_atom) 8 = .ok (.aload_n 1, 1) := by decide +kernel
theorem dX0_atom_9 : decode (mC mX0_atom) 9 = .ok (.getfield 89, 3) := by decide +kernel
theorem dX0_atom_12 : decode (mC mX0_atom) 12 = .ok (.bipush 10, 2) := by decide +kernel
theorem dX0_atom_14 : decode (mC mX0_atom) 14 = .ok (.iadd, 1) := by decide +kernel
theorem dX0_atom_15 : decode (mC mX0_atom) 15 = .ok (.goto 9, 3) := by decide +kernel
theorem dX0_atom_18 : decode (mC mX0_atom) 18 = .ok (.aload_n 1, 1) := by decide +kernel
theorem dX0_atom_19 : decode (mC mX0_atom) 19 = .ok (.ldc 98, 2) := by decide +kernel
theorem dX0_atom_21 : decode (mC mX0_atom) 21 = .ok (.invokevirtual 69, 3) := by decide +kernel
theorem dX0_atom_24 : decode (mC mX0_atom) 24 = .ok (.ireturn, 1) := by decide +kernel
set_option maxRecDepth 100000 in
theorem bX0_atom_0 {sc : Nat × (Nat → Int32)} {h : jH} {Q : jQ} {P1 : Int32 → jH → Prop}
    (k1 : JM mX8_isNumber [.ref 1, .int 2] (jG0 sc) h (jint sc P1))
    (v1 : ∀ (x1 : Int32) (h1 : jH), P1 x1 h1 → x1 = 0 → WP mX0_atom Q 18 [some (.ref 3), some (.ref 1)] [] (jG0 sc) h1 (0, 0))
    (v2 : ∀ (x1 : Int32) (h1 : jH), P1 x1 h1 → ¬ x1 = 0 → WP mX0_atom Q 8 [some (.ref 3), some (.ref 1)] [] (jG0 sc) h1 (0, 0)) :
    WP mX0_atom Q 0 [some (.ref 3), some (.ref 1)] [] (jG0 sc) h (0, 0) := by
  refine j_aload_n (i := 1) rfl dX0_atom_0 ?_
  refine j_iconst (n := 2) 2 (by decide) dX0_atom_1 ?_
  refine j_callVN (idx := 92) (As := [.int 2]) (ci := 8) (n := 1) k1 jint_nt (jTbl (jtb4 57 rfl)) sX8_isNumber kX8_isNumber rfl ⟨rfl, by decide +kernel, by decide +kernel, by decide +kernel⟩ rfl ⟨by decide, by decide⟩ (Nat.le_of_ble_eq_true rfl) rfl (Nat.le_of_ble_eq_true rfl) (Nat.le_of_ble_eq_true rfl) ⟨Nat.zero_le _, Nat.zero_le _⟩ dX0_atom_2 (fun r Γ' h1 q => ?_)
  obtain ⟨x1, q0, rfl, p1⟩ := q; cases q0
  refine j_eqst [.int x1] (by rfl) ?_
  refine j_if_eq (off := 13) 18 dX0_atom_5 (by decide) (fun c1 => ?_) (fun c1 => ?_)
  · exact j_le [some (.ref 3), some (.ref 1)] (And.intro rfl (And.intro rfl True.intro)) (v1 x1 h1 p1 c1)
  · exact j_le [some (.ref 3), some (.ref 1)] (And.intro rfl (And.intro rfl True.intro)) (v2 x1 h1 p1 c1)
set_option maxRecDepth 100000 in
theorem bX0_atom_8 {sc : Nat × (Nat → Int32)} {h : jH} {Q : jQ}
    (v1 : WP mX0_atom Q 24 [some (.ref 3), some (.ref 1)] [.int ((h 1 5) + 10)] (jG0 sc) h (0, 0)) :
    WP mX0_atom Q 8 [some (.ref 3), some (.ref 1)] [] (jG0 sc) h (0, 0) := by
  refine j_aload_n (i := 1) rfl dX0_atom_8 ?_
  refine j_getI (idx := 89) (ci := 8) (k := 5) (nest := true) (show (0, 89, 8, 5, true) ∈ jFT by decide) rfl (Nat.le_of_ble_eq_true rfl) rfl dX0_atom_9 ?_
  refine j_bipush (n := 10) 10 (by decide) dX0_atom_12 ?_
  refine j_iadd dX0_atom_14 ?_
  refine j_goto (off := 9) 24 dX0_atom_15 (by decide) ?_
  exact j_le [some (.ref 3), some (.ref 1)] (And.intro rfl (And.intro rfl True.intro)) v1
set_option maxRecDepth 100000 in
theorem bX0_atom_18 {sc : Nat × (Nat → Int32)} {h : jH} {Q : jQ} {P1 : Int32 → jH → Prop}
    (k1 : JM mX8_letterOf [.ref 1, .ref 1003] (jG0 sc) h (jint sc P1))
    (v1 : ∀ (x1 : Int32) (h1 : jH), P1 x1 h1 → WP mX0_atom Q 24 [some (.ref 3), some (.ref 1)] [.int x1] (jG0 sc) h1 (0, 0)) :
    WP mX0_atom Q 18 [some (.ref 3), some (.ref 1)] [] (jG0 sc) h (0, 0) := by
  refine j_aload_n (i := 1) rfl dX0_atom_18 ?_
  refine j_ldcS (idx := 98) "abcdxy" 3 (show ("MendBench$BodyReade\x72", 98, "abcdxy", 3) ∈ jStr by decide +kernel) dX0_atom_19 ?_
  refine j_callVN (idx := 69) (As := [.ref 1003]) (ci := 8) (n := 1) k1 jint_nt (jTbl (jtb4 41 rfl)) sX8_letterOf kX8_letterOf rfl ⟨rfl, by decide +kernel, by decide +kernel, by decide +kernel⟩ rfl ⟨by decide, by decide⟩ (Nat.le_of_ble_eq_true rfl) rfl (Nat.le_of_ble_eq_true rfl) (Nat.le_of_ble_eq_true rfl) ⟨Nat.zero_le _, Nat.zero_le _⟩ dX0_atom_21 (fun r Γ' h1 q => ?_)
  obtain ⟨x1, q0, rfl, p1⟩ := q; cases q0
  refine j_eqst [.int x1] (by rfl) ?_
  exact j_le [some (.ref 3), some (.ref 1)] (And.intro rfl (And.intro rfl True.intro)) (v1 x1 h1 p1)
set_option maxRecDepth 100000 in
theorem bX0_atom_24 {sc : Nat × (Nat → Int32)} {h : jH} {Q : jQ} {s0 : Int32}
    (v1 : Q (.inl (some (.int s0))) (jG0 sc) h) :
    WP mX0_atom Q 24 [some (.ref 3), some (.ref 1)] [.int s0] (jG0 sc) h (0, 0) := by
  exact j_iret rfl rfl (Nat.zero_le _) (Nat.zero_le _) dX0_atom_24 v1
set_option maxRecDepth 100000 in
theorem rX0_atom_0 {sc : Nat × (Nat → Int32)} {h : jH} {Q : jQ} {P1 : Int32 → jH → Prop} {P2 : Int32 → jH → Prop}
    (k1 : JM mX8_isNumber [.ref 1, .int 2] (jG0 sc) h (jint sc P1))
    (k2 : ∀ (x1 : Int32) (h1 : jH), P1 x1 h1 → x1 = 0 → JM mX8_letterOf [.ref 1, .ref 1003] (jG0 sc) h1 (jint sc P2))
    (v1 : ∀ (x1 : Int32) (h1 : jH), P1 x1 h1 → x1 = 0 → ∀ (x2 : Int32) (h2 : jH), P2 x2 h2 → Q (.inl (some (.int x2))) (jG0 sc) h2)
    (v2 : ∀ (x1 : Int32) (h1 : jH), P1 x1 h1 → ¬ x1 = 0 → Q (.inl (some (.int ((h1 1 5) + 10)))) (jG0 sc) h1) :
    WP mX0_atom Q 0 [some (.ref 3), some (.ref 1)] [] (jG0 sc) h (0, 0) := by
  exact (bX0_atom_0 k1 (fun x1 h1 p1 c1 => (bX0_atom_18 (k2 x1 h1 p1 c1) (fun x2 h2 p2 => (bX0_atom_24 (v1 x1 h1 p1 c1 x2 h2 p2))))) (fun x1 h1 p1 c1 => (bX0_atom_8 (bX0_atom_24 (v2 x1 h1 p1 c1)))))
theorem dX2_wrongIn_0 : decode (mC mX2_wrongIn) 0 = .ok (.aload_n 0, 1) := by decide +kernel
theorem dX2_wrongIn_1 : decode (mC mX2_wrongIn) 1 = .ok (.getfield 12, 3) := by decide +kernel
theorem dX2_wrongIn_4 : decode (mC mX2_wrongIn) 4 = .ok (.iconst 0, 1) := by decide +kernel
theorem dX2_wrongIn_5 : decode (mC mX2_wrongIn) 5 = .ok (.putfield 18, 3) := by decide +kernel
theorem dX2_wrongIn_8 : decode (mC mX2_wrongIn) 8 = .ok (.aload_n 1, 1) := by decide +kernel
theorem dX2_wrongIn_9 : decode (mC mX2_wrongIn) 9 = .ok (.invokevirtual 22, 3) := by decide +kernel
theorem dX2_wrongIn_12 : decode (mC mX2_wrongIn) 12 = .ok (.aload_n 0, 1) := by decide +kernel
theorem dX2_wrongIn_13 : decode (mC mX2_wrongIn) 13 = .ok (.aload_n 1, 1) := by decide +kernel
theorem dX2_wrongIn_14 : decode (mC mX2_wrongIn) 14 = .ok (.iconst 0, 1) := by decide +kernel
theorem dX2_wrongIn_15 : decode (mC mX2_wrongIn) 15 = .ok (.invokevirtual 27, 3) := by decide +kernel
theorem dX2_wrongIn_18 : decode (mC mX2_wrongIn) 18 = .ok (.ifCond .eq 14, 3) := by decide +kernel
theorem dX2_wrongIn_21 : decode (mC mX2_wrongIn) 21 = .ok (.aload_n 1, 1) := by decide +kernel
theorem dX2_wrongIn_22 : decode (mC mX2_wrongIn) 22 = .ok (.getfield 31, 3) := by decide +kernel
theorem dX2_wrongIn_25 : decode (mC mX2_wrongIn) 25 = .ok (.ifCond .ne 7, 3) := by decide +kernel
theorem dX2_wrongIn_28 : decode (mC mX2_wrongIn) 28 = .ok (.iconst (-1), 1) := by decide +kernel
theorem dX2_wrongIn_29 : decode (mC mX2_wrongIn) 29 = .ok (.goto 7, 3) := by decide +kernel
theorem dX2_wrongIn_32 : decode (mC mX2_wrongIn) 32 = .ok (.aload_n 1, 1) := by decide +kernel
theorem dX2_wrongIn_33 : decode (mC mX2_wrongIn) 33 = .ok (.getfield 34, 3) := by decide +kernel
theorem dX2_wrongIn_36 : decode (mC mX2_wrongIn) 36 = .ok (.ireturn, 1) := by decide +kernel
set_option maxRecDepth 100000 in
theorem bX2_wrongIn_0 {sc : Nat × (Nat → Int32)} {h : jH} {Q : jQ} {P1 : jH → Prop} {P2 : Int32 → jH → Prop}
    (k1 : JM mX8_open [.ref 1] (jG0 sc) (jput h 7 1 0) (jvoid sc P1))
    (k2 : ∀ h1 : jH, P1 h1 → JM (mX2_readCondition 59) [.ref 6, .ref 1, .int 0] (jG0 sc) h1 (jint sc P2))
    (v1 : ∀ h1 : jH, P1 h1 → ∀ (x2 : Int32) (h2 : jH), P2 x2 h2 → x2 = 0 → WP mX2_wrongIn Q 32 [some (.ref 6), some (.ref 1)] [] (jG0 sc) h2 (0, 0))
    (v2 : ∀ h1 : jH, P1 h1 → ∀ (x2 : Int32) (h2 : jH), P2 x2 h2 → ¬ x2 = 0 → WP mX2_wrongIn Q 21 [some (.ref 6), some (.ref 1)] [] (jG0 sc) h2 (0, 0)) :
    WP mX2_wrongIn Q 0 [some (.ref 6), some (.ref 1)] [] (jG0 sc) h (0, 0) := by
  refine j_aload_n (i := 0) rfl dX2_wrongIn_0 ?_
  refine j_getR (idx := 12) (ci := 2) (k := 0) (nest := false) (show (2, 12, 2, 0, false) ∈ jFT by decide) rfl (Nat.le_of_ble_eq_true rfl) rfl (a := 7) rfl dX2_wrongIn_1 ?_
  refine j_iconst (n := 0) 0 (by decide) dX2_wrongIn_4 ?_
  refine j_putI (idx := 18) (ci := 1) (k := 1) (nest := true) (show (2, 18, 1, 1, true) ∈ jFT by decide) rfl rfl rfl rfl (Nat.le_of_ble_eq_true rfl) rfl dX2_wrongIn_5 ?_
  refine j_aload_n (i := 1) rfl dX2_wrongIn_8 ?_
  refine j_callVN (idx := 22) (As := []) (ci := 8) (n := 0) k1 jvoid_nt (jTbl (jtb4 162 rfl)) sX8_open kX8_open rfl ⟨rfl, by decide +kernel, by decide +kernel, by decide +kernel⟩ rfl ⟨by decide, by decide⟩ (Nat.le_of_ble_eq_true rfl) rfl (Nat.le_of_ble_eq_true rfl) (Nat.le_of_ble_eq_true rfl) ⟨Nat.zero_le _, Nat.zero_le _⟩ dX2_wrongIn_9 (fun r Γ' h1 q => ?_)
  obtain ⟨q0, rfl, p1⟩ := q; cases q0
  refine j_eqst [] (by rfl) ?_
  refine j_aload_n (i := 0) rfl dX2_wrongIn_12 ?_
  refine j_aload_n (i := 1) rfl dX2_wrongIn_13 ?_
  refine j_iconst (n := 0) 0 (by decide) dX2_wrongIn_14 ?_
  refine j_callV (idx := 27) (As := [.ref 1, .int 0]) (ci := 2) (n := 2) (k2 h1 p1) jint_nt (jlkT (jtb4 163 rfl) rfl) sX2_readCondition kX2_readCondition rfl ⟨rfl, (show yX2_readCondition.cls ≠ "java/lang/invoke/MethodHandle" by decide +kernel), (show yX2_readCondition.cls ≠ "java/lang/invoke/VarHandle" by decide +kernel), (show (parseMethodDescriptor yX2_readCondition.desc).map (fun d => d.parameters.length) = some 2 by decide +kernel)⟩ rfl ⟨Nat.le_of_ble_eq_true rfl, Nat.le_of_ble_eq_true rfl⟩ (Nat.le_of_ble_eq_true rfl) rfl (Nat.le_of_ble_eq_true rfl) (Nat.le_of_ble_eq_true rfl) ⟨Nat.zero_le _, Nat.zero_le _⟩ dX2_wrongIn_15 (fun r Γ' h2 q => ?_)
  obtain ⟨x2, q0, rfl, p2⟩ := q; cases q0
  refine j_eqst [.int x2] (by rfl) ?_
  refine j_if_eq (off := 14) 32 dX2_wrongIn_18 (by decide) (fun c1 => ?_) (fun c1 => ?_)
  · exact j_le [some (.ref 6), some (.ref 1)] (And.intro rfl (And.intro rfl True.intro)) (v1 h1 p1 x2 h2 p2 c1)
  · exact j_le [some (.ref 6), some (.ref 1)] (And.intro rfl (And.intro rfl True.intro)) (v2 h1 p1 x2 h2 p2 c1)
set_option maxRecDepth 100000 in
theorem bX2_wrongIn_21 {sc : Nat × (Nat → Int32)} {h : jH} {Q : jQ}
    (v1 : ¬ (h 1 2) = 0 → WP mX2_wrongIn Q 32 [some (.ref 6), some (.ref 1)] [] (jG0 sc) h (0, 0))
    (v2 : (h 1 2) = 0 → WP mX2_wrongIn Q 28 [some (.ref 6), some (.ref 1)] [] (jG0 sc) h (0, 0)) :
    WP mX2_wrongIn Q 21 [some (.ref 6), some (.ref 1)] [] (jG0 sc) h (0, 0) := by
  refine j_aload_n (i := 1) rfl dX2_wrongIn_21 ?_
  refine j_getI (idx := 31) (ci := 8) (k := 2) (nest := true) (show (2, 31, 8, 2, true) ∈ jFT by decide) rfl (Nat.le_of_ble_eq_true rfl) rfl dX2_wrongIn_22 ?_
  refine j_if_ne (off := 7) 32 dX2_wrongIn_25 (by decide) (fun c1 => ?_) (fun c1 => ?_)
  · exact j_le [some (.ref 6), some (.ref 1)] (And.intro rfl (And.intro rfl True.intro)) (v1 c1)
  · exact j_le [some (.ref 6), some (.ref 1)] (And.intro rfl (And.intro rfl True.intro)) (v2 c1)
set_option maxRecDepth 100000 in
theorem bX2_wrongIn_28 {sc : Nat × (Nat → Int32)} {h : jH} {Q : jQ}
    (v1 : WP mX2_wrongIn Q 36 [some (.ref 6), some (.ref 1)] [.int (-1)] (jG0 sc) h (0, 0)) :
    WP mX2_wrongIn Q 28 [some (.ref 6), some (.ref 1)] [] (jG0 sc) h (0, 0) := by
  refine j_iconst (n := (-1)) (-1) (by decide) dX2_wrongIn_28 ?_
  refine j_goto (off := 7) 36 dX2_wrongIn_29 (by decide) ?_
  exact j_le [some (.ref 6), some (.ref 1)] (And.intro rfl (And.intro rfl True.intro)) v1
set_option maxRecDepth 100000 in
theorem bX2_wrongIn_32 {sc : Nat × (Nat → Int32)} {h : jH} {Q : jQ}
    (v1 : WP mX2_wrongIn Q 36 [some (.ref 6), some (.ref 1)] [.int (h 1 3)] (jG0 sc) h (0, 0)) :
    WP mX2_wrongIn Q 32 [some (.ref 6), some (.ref 1)] [] (jG0 sc) h (0, 0) := by
  refine j_aload_n (i := 1) rfl dX2_wrongIn_32 ?_
  refine j_getI (idx := 34) (ci := 8) (k := 3) (nest := true) (show (2, 34, 8, 3, true) ∈ jFT by decide) rfl (Nat.le_of_ble_eq_true rfl) rfl dX2_wrongIn_33 ?_
  exact j_le [some (.ref 6), some (.ref 1)] (And.intro rfl (And.intro rfl True.intro)) v1
set_option maxRecDepth 100000 in
theorem bX2_wrongIn_36 {sc : Nat × (Nat → Int32)} {h : jH} {Q : jQ} {s0 : Int32}
    (v1 : Q (.inl (some (.int s0))) (jG0 sc) h) :
    WP mX2_wrongIn Q 36 [some (.ref 6), some (.ref 1)] [.int s0] (jG0 sc) h (0, 0) := by
  exact j_iret rfl rfl (Nat.zero_le _) (Nat.zero_le _) dX2_wrongIn_36 v1
set_option maxRecDepth 100000 in
theorem rX2_wrongIn_0 {sc : Nat × (Nat → Int32)} {h : jH} {Q : jQ} {P1 : jH → Prop} {P2 : Int32 → jH → Prop}
    (k1 : JM mX8_open [.ref 1] (jG0 sc) (jput h 7 1 0) (jvoid sc P1))
    (k2 : ∀ h1 : jH, P1 h1 → JM (mX2_readCondition 59) [.ref 6, .ref 1, .int 0] (jG0 sc) h1 (jint sc P2))
    (v1 : ∀ h1 : jH, P1 h1 → ∀ (x2 : Int32) (h2 : jH), P2 x2 h2 → x2 = 0 → Q (.inl (some (.int (h2 1 3)))) (jG0 sc) h2)
    (v2 : ∀ h1 : jH, P1 h1 → ∀ (x2 : Int32) (h2 : jH), P2 x2 h2 → ¬ x2 = 0 → ¬ (h2 1 2) = 0 → Q (.inl (some (.int (h2 1 3)))) (jG0 sc) h2)
    (v3 : ∀ h1 : jH, P1 h1 → ∀ (x2 : Int32) (h2 : jH), P2 x2 h2 → ¬ x2 = 0 → (h2 1 2) = 0 → Q (.inl (some (.int (-1)))) (jG0 sc) h2) :
    WP mX2_wrongIn Q 0 [some (.ref 6), some (.ref 1)] [] (jG0 sc) h (0, 0) := by
  exact (bX2_wrongIn_0 k1 (fun h1 p1 => (k2 h1 p1)) (fun h1 p1 x2 h2 p2 c1 => (bX2_wrongIn_32 (bX2_wrongIn_36 (v1 h1 p1 x2 h2 p2 c1)))) (fun h1 p1 x2 h2 p2 c1 => (bX2_wrongIn_21 (fun c2 => (bX2_wrongIn_32 (bX2_wrongIn_36 (v2 h1 p1 x2 h2 p2 c1 c2)))) (fun c2 => (bX2_wrongIn_28 (bX2_wrongIn_36 (v3 h1 p1 x2 h2 p2 c1 c2)))))))
theorem dX2_readCondition_0 : decode cX2_readCondition 0 = .ok (.aload_n 0, 1) := by decide +kernel
theorem dX2_readCondition_1 : decode cX2_readCondition 1 = .ok (.aload_n 1, 1) := by decide +kernel
theorem dX2_readCondition_2 : decode cX2_readCondition 2 = .ok (.iload_n 2, 1) := by decide +kernel
theorem dX2_readCondition_3 : decode cX2_readCondition 3 = .ok (.invokevirtual 37, 3) := by decide +kernel
theorem dX2_readCondition_6 : decode cX2_readCondition 6 = .ok (.ifCond .ne 5, 3) := by decide +kernel
theorem dX2_readCondition_9 : decode cX2_readCondition 9 = .ok (.iconst 0, 1) := by decide +kernel
theorem dX2_readCondition_10 : decode cX2_readCondition 10 = .ok (.ireturn, 1) := by decide +kernel
theorem dX2_readCondition_11 : decode cX2_readCondition 11 = .ok (.iconst 0, 1) := by decide +kernel
theorem dX2_readCondition_12 : decode cX2_readCondition 12 = .ok (.istore_n 3, 1) := by decide +kernel
theorem dX2_readCondition_13 : decode cX2_readCondition 13 = .ok (.iload_n 3, 1) := by decide +kernel
theorem dX2_readCondition_14 : decode cX2_readCondition 14 = .ok (.sipush 400, 3) := by decide +kernel
theorem dX2_readCondition_17 : decode cX2_readCondition 17 = .ok (.if_icmp .ge 42, 3) := by decide +kernel
theorem dX2_readCondition_20 : decode cX2_readCondition 20 = .ok (.aload_n 1, 1) := by decide +kernel
theorem dX2_readCondition_21 : decode cX2_readCondition 21 = .ok (.ldc 40, 2) := by decide +kernel
theorem dX2_readCondition_23 : decode cX2_readCondition 23 = .ok (.invokevirtual 42, 3) := by decide +kernel
theorem dX2_readCondition_26 : decode cX2_readCondition 26 = .ok (.ifCond .eq 33, 3) := by decide +kernel
theorem dX2_readCondition_29 : decode cX2_readCondition 29 = .ok (.aload_n 1, 1) := by decide +kernel
theorem dX2_readCondition_30 : decode cX2_readCondition 30 = .ok (.invokevirtual 46, 3) := by decide +kernel
theorem dX2_readCondition_33 : decode cX2_readCondition 33 = .ok (.aload_n 0, 1) := by decide +kernel
theorem dX2_readCondition_34 : decode cX2_readCondition 34 = .ok (.aload_n 1, 1) := by decide +kernel
theorem dX2_readCondition_35 : decode cX2_readCondition 35 = .ok (.iload_n 2, 1) := by decide +kernel
theorem dX2_readCondition_36 : decode cX2_readCondition 36 = .ok (.invokevirtual 37, 3) := by decide +kernel
theorem dX2_readCondition_39 : decode cX2_readCondition 39 = .ok (.ifCond .ne 5, 3) := by decide +kernel
theorem dX2_readCondition_42 : decode cX2_readCondition 42 = .ok (.iconst 0, 1) := by decide +kernel
theorem dX2_readCondition_43 : decode cX2_readCondition 43 = .ok (.ireturn, 1) := by decide +kernel
theorem dX2_readCondition_44 : decode cX2_readCondition 44 = .ok (.aload_n 0, 1) := by decide +kernel
theorem dX2_readCondition_45 : decode cX2_readCondition 45 = .ok (.getfield 12, 3) := by decide +kernel
theorem dX2_readCondition_48 : decode cX2_readCondition 48 = .ok (.bipush (-2), 2) := by decide +kernel
theorem dX2_readCondition_50 : decode cX2_readCondition 50 = .ok (.invokevirtual 49, 3) := by decide +kernel
theorem dX2_readCondition_53 : decode cX2_readCondition 53 = .ok (.iinc 3 1, 3) := by decide +kernel
theorem dX2_readCondition_56 : decode cX2_readCondition 56 = .ok (.goto (-43), 3) := by decide +kernel
theorem dX2_readCondition_59 : decode cX2_readCondition 59 = .ok (.iconst 1, 1) := by decide +kernel
theorem dX2_readCondition_60 : decode cX2_readCondition 60 = .ok (.ireturn, 1) := by decide +kernel
set_option maxRecDepth 100000 in
theorem bX2_readCondition_0 {sc : Nat × (Nat → Int32)} {h : jH} {Q : jQ} {z z1 : Nat} {l2 : Int32} {P1 : Int32 → jH → Prop} (hz : z1 < z) (zb : 13 ≤ z1)
    (k1 : JM (mX2_readAll z1) [.ref 6, .ref 1, .int l2] (jG0 sc) h (jint sc P1))
    (v1 : ∀ (x1 : Int32) (h1 : jH), P1 x1 h1 → ¬ x1 = 0 → WP (mX2_readCondition z) Q 11 [some (.ref 6), some (.ref 1), some (.int l2), none] [] (jG0 sc) h1 (0, 0))
    (v2 : ∀ (x1 : Int32) (h1 : jH), P1 x1 h1 → x1 = 0 → WP (mX2_readCondition z) Q 9 [some (.ref 6), some (.ref 1), some (.int l2), none] [] (jG0 sc) h1 (0, 0)) :
    WP (mX2_readCondition z) Q 0 [some (.ref 6), some (.ref 1), some (.int l2), none] [] (jG0 sc) h (0, 0) := by
  refine j_aload_n (i := 0) rfl dX2_readCondition_0 ?_
  refine j_aload_n (i := 1) rfl dX2_readCondition_1 ?_
  refine j_iload_n (i := 2) rfl dX2_readCondition_2 ?_
  refine j_callV (idx := 37) (As := [.ref 1, .int l2]) (ci := 2) (n := 2) k1 jint_nt (jlkT (jtb4 167 rfl) rfl) sX2_readAll kX2_readAll rfl ⟨rfl, (show yX2_readAll.cls ≠ "java/lang/invoke/MethodHandle" by decide +kernel), (show yX2_readAll.cls ≠ "java/lang/invoke/VarHandle" by decide +kernel), (show (parseMethodDescriptor yX2_readAll.desc).map (fun d => d.parameters.length) = some 2 by decide +kernel)⟩ rfl ⟨hz, Nat.le_of_ble_eq_true rfl⟩ (Nat.le_of_ble_eq_true rfl) rfl (Nat.le_of_ble_eq_true rfl) (Nat.le_of_ble_eq_true rfl) ⟨Nat.zero_le _, Nat.zero_le _⟩ dX2_readCondition_3 (fun r Γ' h1 q => ?_)
  obtain ⟨x1, q0, rfl, p1⟩ := q; cases q0
  refine j_eqst [.int x1] (by rfl) ?_
  refine j_if_ne (off := 5) 11 dX2_readCondition_6 (by decide) (fun c1 => ?_) (fun c1 => ?_)
  · exact j_le [some (.ref 6), some (.ref 1), some (.int l2), none] (And.intro rfl (And.intro rfl (And.intro rfl True.intro))) (v1 x1 h1 p1 c1)
  · exact j_le [some (.ref 6), some (.ref 1), some (.int l2), none] (And.intro rfl (And.intro rfl (And.intro rfl True.intro))) (v2 x1 h1 p1 c1)
set_option maxRecDepth 100000 in
theorem bX2_readCondition_9 {sc : Nat × (Nat → Int32)} {h : jH} {Q : jQ} {z z1 : Nat} {l2 : Int32} (hz : z1 < z) (zb : 13 ≤ z1)
    (v1 : Q (.inl (some (.int 0))) (jG0 sc) h) :
    WP (mX2_readCondition z) Q 9 [some (.ref 6), some (.ref 1), some (.int l2), none] [] (jG0 sc) h (0, 0) := by
  refine j_iconst (n := 0) 0 (by decide) dX2_readCondition_9 ?_
  exact j_iret rfl rfl (Nat.zero_le _) (Nat.zero_le _) dX2_readCondition_10 v1
set_option maxRecDepth 100000 in
theorem bX2_readCondition_11 {sc : Nat × (Nat → Int32)} {h : jH} {Q : jQ} {z z1 : Nat} {l2 : Int32} (hz : z1 < z) (zb : 13 ≤ z1)
    (v1 : WP (mX2_readCondition z) Q 13 [some (.ref 6), some (.ref 1), some (.int l2), some (.int 0)] [] (jG0 sc) h (0, 0)) :
    WP (mX2_readCondition z) Q 11 [some (.ref 6), some (.ref 1), some (.int l2), none] [] (jG0 sc) h (0, 0) := by
  refine j_iconst (n := 0) 0 (by decide) dX2_readCondition_11 ?_
  refine j_istore_n (i := 3) dX2_readCondition_12 (Nat.le_of_ble_eq_true rfl) ?_
  exact j_le [some (.ref 6), some (.ref 1), some (.int l2), some (.int 0)] (And.intro rfl (And.intro rfl (And.intro rfl (And.intro rfl True.intro)))) v1
set_option maxRecDepth 100000 in
theorem bX2_readCondition_13 {sc : Nat × (Nat → Int32)} {h : jH} {Q : jQ} {z z1 : Nat} {l2 l3 : Int32} (hz : z1 < z) (zb : 13 ≤ z1)
    (v1 : 400 ≤ l3 → WP (mX2_readCondition z) Q 59 [some (.ref 6), some (.ref 1), some (.int l2), some (.int l3)] [] (jG0 sc) h (0, 0))
    (v2 : ¬ 400 ≤ l3 → WP (mX2_readCondition z) Q 20 [some (.ref 6), some (.ref 1), some (.int l2), some (.int l3)] [] (jG0 sc) h (0, 0)) :
    WP (mX2_readCondition z) Q 13 [some (.ref 6), some (.ref 1), some (.int l2), some (.int l3)] [] (jG0 sc) h (0, 0) := by
  refine j_iload_n (i := 3) rfl dX2_readCondition_13 ?_
  refine j_sipush (n := 400) 400 (by decide) dX2_readCondition_14 ?_
  refine j_icmp_ge (off := 42) 59 dX2_readCondition_17 (by decide) (fun c1 => ?_) (fun c1 => ?_)
  · exact j_le [some (.ref 6), some (.ref 1), some (.int l2), some (.int l3)] (And.intro rfl (And.intro rfl (And.intro rfl (And.intro rfl True.intro)))) (v1 c1)
  · exact j_le [some (.ref 6), some (.ref 1), some (.int l2), some (.int l3)] (And.intro rfl (And.intro rfl (And.intro rfl (And.intro rfl True.intro)))) (v2 c1)
set_option maxRecDepth 100000 in
theorem bX2_readCondition_20 {sc : Nat × (Nat → Int32)} {h : jH} {Q : jQ} {z z1 : Nat} {l2 l3 : Int32} {P1 : Int32 → jH → Prop} (hz : z1 < z) (zb : 13 ≤ z1)
    (k1 : JM mX8_isWord [.ref 1, .ref 1011] (jG0 sc) h (jint sc P1))
    (v1 : ∀ (x1 : Int32) (h1 : jH), P1 x1 h1 → x1 = 0 → WP (mX2_readCondition z) Q 59 [some (.ref 6), some (.ref 1), some (.int l2), some (.int l3)] [] (jG0 sc) h1 (0, 0))
    (v2 : ∀ (x1 : Int32) (h1 : jH), P1 x1 h1 → ¬ x1 = 0 → WP (mX2_readCondition z) Q 29 [some (.ref 6), some (.ref 1), some (.int l2), some (.int l3)] [] (jG0 sc) h1 (0, 0)) :
    WP (mX2_readCondition z) Q 20 [some (.ref 6), some (.ref 1), some (.int l2), some (.int l3)] [] (jG0 sc) h (0, 0) := by
  refine j_aload_n (i := 1) rfl dX2_readCondition_20 ?_
  refine j_ldcS (idx := 40) "o\x72" 11 (show ("MendBench$LawReade\x72", 40, "o\x72", 11) ∈ jStr by decide +kernel) dX2_readCondition_21 ?_
  refine j_callVN (idx := 42) (As := [.ref 1011]) (ci := 8) (n := 1) k1 jint_nt (jTbl (jtb4 176 rfl)) sX8_isWord kX8_isWord rfl ⟨rfl, (show yX8_isWord.cls ≠ "java/lang/invoke/MethodHandle" by decide +kernel), (show yX8_isWord.cls ≠ "java/lang/invoke/VarHandle" by decide +kernel), (show (parseMethodDescriptor yX8_isWord.desc).map (fun d => d.parameters.length) = some 1 by decide +kernel)⟩ rfl ⟨Nat.lt_trans (Nat.lt_of_lt_of_le (show mH mX8_isWord < 13 by decide) zb) hz, by decide⟩ (Nat.le_of_ble_eq_true rfl) rfl (Nat.le_of_ble_eq_true rfl) (Nat.le_of_ble_eq_true rfl) ⟨Nat.zero_le _, Nat.zero_le _⟩ dX2_readCondition_23 (fun r Γ' h1 q => ?_)
  obtain ⟨x1, q0, rfl, p1⟩ := q; cases q0
  refine j_eqst [.int x1] (by rfl) ?_
  refine j_if_eq (off := 33) 59 dX2_readCondition_26 (by decide) (fun c1 => ?_) (fun c1 => ?_)
  · exact j_le [some (.ref 6), some (.ref 1), some (.int l2), some (.int l3)] (And.intro rfl (And.intro rfl (And.intro rfl (And.intro rfl True.intro)))) (v1 x1 h1 p1 c1)
  · exact j_le [some (.ref 6), some (.ref 1), some (.int l2), some (.int l3)] (And.intro rfl (And.intro rfl (And.intro rfl (And.intro rfl True.intro)))) (v2 x1 h1 p1 c1)
set_option maxRecDepth 100000 in
theorem bX2_readCondition_29 {sc : Nat × (Nat → Int32)} {h : jH} {Q : jQ} {z z1 : Nat} {l2 l3 : Int32} {P1 : jH → Prop} {P2 : Int32 → jH → Prop} (hz : z1 < z) (zb : 13 ≤ z1)
    (k1 : JM mX8_next [.ref 1] (jG0 sc) h (jvoid sc P1))
    (k2 : ∀ h1 : jH, P1 h1 → JM (mX2_readAll z1) [.ref 6, .ref 1, .int l2] (jG0 sc) h1 (jint sc P2))
    (v1 : ∀ h1 : jH, P1 h1 → ∀ (x2 : Int32) (h2 : jH), P2 x2 h2 → ¬ x2 = 0 → WP (mX2_readCondition z) Q 44 [some (.ref 6), some (.ref 1), some (.int l2), some (.int l3)] [] (jG0 sc) h2 (0, 0))
    (v2 : ∀ h1 : jH, P1 h1 → ∀ (x2 : Int32) (h2 : jH), P2 x2 h2 → x2 = 0 → WP (mX2_readCondition z) Q 42 [some (.ref 6), some (.ref 1), some (.int l2), some (.int l3)] [] (jG0 sc) h2 (0, 0)) :
    WP (mX2_readCondition z) Q 29 [some (.ref 6), some (.ref 1), some (.int l2), some (.int l3)] [] (jG0 sc) h (0, 0) := by
  refine j_aload_n (i := 1) rfl dX2_readCondition_29 ?_
  refine j_callVN (idx := 46) (As := []) (ci := 8) (n := 0) k1 jvoid_nt (jTbl (jtb4 189 rfl)) sX8_next kX8_next rfl ⟨rfl, (show yX8_next.cls ≠ "java/lang/invoke/MethodHandle" by decide +kernel), (show yX8_next.cls ≠ "java/lang/invoke/VarHandle" by decide +kernel), (show (parseMethodDescriptor yX8_next.desc).map (fun d => d.parameters.length) = some 0 by decide +kernel)⟩ rfl ⟨Nat.lt_trans (Nat.lt_of_lt_of_le (show mH mX8_next < 13 by decide) zb) hz, by decide⟩ (Nat.le_of_ble_eq_true rfl) rfl (Nat.le_of_ble_eq_true rfl) (Nat.le_of_ble_eq_true rfl) ⟨Nat.zero_le _, Nat.zero_le _⟩ dX2_readCondition_30 (fun r Γ' h1 q => ?_)
  obtain ⟨q0, rfl, p1⟩ := q; cases q0
  refine j_eqst [] (by rfl) ?_
  refine j_aload_n (i := 0) rfl dX2_readCondition_33 ?_
  refine j_aload_n (i := 1) rfl dX2_readCondition_34 ?_
  refine j_iload_n (i := 2) rfl dX2_readCondition_35 ?_
  refine j_callV (idx := 37) (As := [.ref 1, .int l2]) (ci := 2) (n := 2) (k2 h1 p1) jint_nt (jlkT (jtb4 167 rfl) rfl) sX2_readAll kX2_readAll rfl ⟨rfl, (show yX2_readAll.cls ≠ "java/lang/invoke/MethodHandle" by decide +kernel), (show yX2_readAll.cls ≠ "java/lang/invoke/VarHandle" by decide +kernel), (show (parseMethodDescriptor yX2_readAll.desc).map (fun d => d.parameters.length) = some 2 by decide +kernel)⟩ rfl ⟨hz, Nat.le_of_ble_eq_true rfl⟩ (Nat.le_of_ble_eq_true rfl) rfl (Nat.le_of_ble_eq_true rfl) (Nat.le_of_ble_eq_true rfl) ⟨Nat.zero_le _, Nat.zero_le _⟩ dX2_readCondition_36 (fun r Γ' h2 q => ?_)
  obtain ⟨x2, q0, rfl, p2⟩ := q; cases q0
  refine j_eqst [.int x2] (by rfl) ?_
  refine j_if_ne (off := 5) 44 dX2_readCondition_39 (by decide) (fun c1 => ?_) (fun c1 => ?_)
  · exact j_le [some (.ref 6), some (.ref 1), some (.int l2), some (.int l3)] (And.intro rfl (And.intro rfl (And.intro rfl (And.intro rfl True.intro)))) (v1 h1 p1 x2 h2 p2 c1)
  · exact j_le [some (.ref 6), some (.ref 1), some (.int l2), some (.int l3)] (And.intro rfl (And.intro rfl (And.intro rfl (And.intro rfl True.intro)))) (v2 h1 p1 x2 h2 p2 c1)
set_option maxRecDepth 100000 in
theorem bX2_readCondition_42 {sc : Nat × (Nat → Int32)} {h : jH} {Q : jQ} {z z1 : Nat} {l2 l3 : Int32} (hz : z1 < z) (zb : 13 ≤ z1)
    (v1 : Q (.inl (some (.int 0))) (jG0 sc) h) :
    WP (mX2_readCondition z) Q 42 [some (.ref 6), some (.ref 1), some (.int l2), some (.int l3)] [] (jG0 sc) h (0, 0) := by
  refine j_iconst (n := 0) 0 (by decide) dX2_readCondition_42 ?_
  exact j_iret rfl rfl (Nat.zero_le _) (Nat.zero_le _) dX2_readCondition_43 v1
set_option maxRecDepth 100000 in
theorem bX2_readCondition_44 {sc : Nat × (Nat → Int32)} {h : jH} {Q : jQ} {z z1 : Nat} {l2 l3 : Int32} {P1 : jH → Prop} (hz : z1 < z) (zb : 13 ≤ z1)
    (k1 : JM mX1_add [.ref 7, .int (-2)] (jG0 sc) h (jvoid sc P1))
    (v1 : ∀ h1 : jH, P1 h1 → WP (mX2_readCondition z) Q 13 [some (.ref 6), some (.ref 1), some (.int l2), some (.int (l3 + 1))] [] (jG0 sc) h1 (0, 0)) :
    WP (mX2_readCondition z) Q 44 [some (.ref 6), some (.ref 1), some (.int l2), some (.int l3)] [] (jG0 sc) h (0, 0) := by
  refine j_aload_n (i := 0) rfl dX2_readCondition_44 ?_
  refine j_getR (idx := 12) (ci := 2) (k := 0) (nest := false) (show (2, 12, 2, 0, false) ∈ jFT by decide) rfl (Nat.le_of_ble_eq_true rfl) rfl (a := 7) rfl dX2_readCondition_45 ?_
  refine j_bipush (n := (-2)) (-2) (by decide) dX2_readCondition_48 ?_
  refine j_callVN (idx := 49) (As := [.int (-2)]) (ci := 1) (n := 1) k1 jvoid_nt (jTbl (jtb4 194 rfl)) sX1_add kX1_add rfl ⟨rfl, (show yX1_add.cls ≠ "java/lang/invoke/MethodHandle" by decide +kernel), (show yX1_add.cls ≠ "java/lang/invoke/VarHandle" by decide +kernel), (show (parseMethodDescriptor yX1_add.desc).map (fun d => d.parameters.length) = some 1 by decide +kernel)⟩ rfl ⟨Nat.lt_trans (Nat.lt_of_lt_of_le (show mH mX1_add < 13 by decide) zb) hz, by decide⟩ (Nat.le_of_ble_eq_true rfl) rfl (Nat.le_of_ble_eq_true rfl) (Nat.le_of_ble_eq_true rfl) ⟨Nat.zero_le _, Nat.zero_le _⟩ dX2_readCondition_50 (fun r Γ' h1 q => ?_)
  obtain ⟨q0, rfl, p1⟩ := q; cases q0
  refine j_eqst [] (by rfl) ?_
  refine j_iinc (i := 3) (n := 1) rfl dX2_readCondition_53 (Nat.le_of_ble_eq_true rfl) ?_
  refine j_eqlv [some (.ref 6), some (.ref 1), some (.int l2), some (.int (l3 + 1))] rfl ?_
  refine j_goto (off := -43) 13 dX2_readCondition_56 (by decide) ?_
  exact j_le [some (.ref 6), some (.ref 1), some (.int l2), some (.int (l3 + 1))] (And.intro rfl (And.intro rfl (And.intro rfl (And.intro rfl True.intro)))) (v1 h1 p1)
set_option maxRecDepth 100000 in
theorem bX2_readCondition_59 {sc : Nat × (Nat → Int32)} {h : jH} {Q : jQ} {z z1 : Nat} {l2 l3 : Int32} (hz : z1 < z) (zb : 13 ≤ z1)
    (v1 : Q (.inl (some (.int 1))) (jG0 sc) h) :
    WP (mX2_readCondition z) Q 59 [some (.ref 6), some (.ref 1), some (.int l2), some (.int l3)] [] (jG0 sc) h (0, 0) := by
  refine j_iconst (n := 1) 1 (by decide) dX2_readCondition_59 ?_
  exact j_iret rfl rfl (Nat.zero_le _) (Nat.zero_le _) dX2_readCondition_60 v1
set_option maxRecDepth 100000 in
theorem rX2_readCondition_0 {sc : Nat × (Nat → Int32)} {h : jH} {Q : jQ} {z z1 : Nat} {l2 : Int32} {P1 : Int32 → jH → Prop} (hz : z1 < z) (zb : 13 ≤ z1)
    (k1 : JM (mX2_readAll z1) [.ref 6, .ref 1, .int l2] (jG0 sc) h (jint sc P1))
    (v1 : ∀ (x1 : Int32) (h1 : jH), P1 x1 h1 → ¬ x1 = 0 → WP (mX2_readCondition z) Q 13 [some (.ref 6), some (.ref 1), some (.int l2), some (.int 0)] [] (jG0 sc) h1 (0, 0))
    (v2 : ∀ (x1 : Int32) (h1 : jH), P1 x1 h1 → x1 = 0 → Q (.inl (some (.int 0))) (jG0 sc) h1) :
    WP (mX2_readCondition z) Q 0 [some (.ref 6), some (.ref 1), some (.int l2), none] [] (jG0 sc) h (0, 0) := by
  exact (bX2_readCondition_0 hz zb k1 (fun x1 h1 p1 c1 => (bX2_readCondition_11 hz zb (v1 x1 h1 p1 c1))) (fun x1 h1 p1 c1 => (bX2_readCondition_9 hz zb (v2 x1 h1 p1 c1))))
set_option maxRecDepth 100000 in
theorem rX2_readCondition_13 {sc : Nat × (Nat → Int32)} {h : jH} {Q : jQ} {z z1 : Nat} {l2 l3 : Int32} {P1 : Int32 → jH → Prop} {P2 : jH → Prop} {P3 : Int32 → jH → Prop} {P4 : jH → Prop} (hz : z1 < z) (zb : 13 ≤ z1)
    (v1 : 400 ≤ l3 → Q (.inl (some (.int 1))) (jG0 sc) h)
    (k1 : ¬ 400 ≤ l3 → JM mX8_isWord [.ref 1, .ref 1011] (jG0 sc) h (jint sc P1))
    (v2 : ¬ 400 ≤ l3 → ∀ (x1 : Int32) (h1 : jH), P1 x1 h1 → x1 = 0 → Q (.inl (some (.int 1))) (jG0 sc) h1)
    (k2 : ¬ 400 ≤ l3 → ∀ (x1 : Int32) (h1 : jH), P1 x1 h1 → ¬ x1 = 0 → JM mX8_next [.ref 1] (jG0 sc) h1 (jvoid sc P2))
    (k3 : ¬ 400 ≤ l3 → ∀ (x1 : Int32) (h1 : jH), P1 x1 h1 → ¬ x1 = 0 → ∀ h2 : jH, P2 h2 → JM (mX2_readAll z1) [.ref 6, .ref 1, .int l2] (jG0 sc) h2 (jint sc P3))
    (k4 : ¬ 400 ≤ l3 → ∀ (x1 : Int32) (h1 : jH), P1 x1 h1 → ¬ x1 = 0 → ∀ h2 : jH, P2 h2 → ∀ (x3 : Int32) (h3 : jH), P3 x3 h3 → ¬ x3 = 0 → JM mX1_add [.ref 7, .int (-2)] (jG0 sc) h3 (jvoid sc P4))
    (v3 : ¬ 400 ≤ l3 → ∀ (x1 : Int32) (h1 : jH), P1 x1 h1 → ¬ x1 = 0 → ∀ h2 : jH, P2 h2 → ∀ (x3 : Int32) (h3 : jH), P3 x3 h3 → ¬ x3 = 0 → ∀ h4 : jH, P4 h4 → WP (mX2_readCondition z) Q 13 [some (.ref 6), some (.ref 1), some (.int l2), some (.int (l3 + 1))] [] (jG0 sc) h4 (0, 0))
    (v4 : ¬ 400 ≤ l3 → ∀ (x1 : Int32) (h1 : jH), P1 x1 h1 → ¬ x1 = 0 → ∀ h2 : jH, P2 h2 → ∀ (x3 : Int32) (h3 : jH), P3 x3 h3 → x3 = 0 → Q (.inl (some (.int 0))) (jG0 sc) h3) :
    WP (mX2_readCondition z) Q 13 [some (.ref 6), some (.ref 1), some (.int l2), some (.int l3)] [] (jG0 sc) h (0, 0) := by
  exact (bX2_readCondition_13 hz zb (fun c1 => (bX2_readCondition_59 hz zb (v1 c1))) (fun c1 => (bX2_readCondition_20 hz zb (k1 c1) (fun x1 h1 p1 c2 => (bX2_readCondition_59 hz zb (v2 c1 x1 h1 p1 c2))) (fun x1 h1 p1 c2 => (bX2_readCondition_29 hz zb (k2 c1 x1 h1 p1 c2) (fun h2 p2 => (k3 c1 x1 h1 p1 c2 h2 p2)) (fun h2 p2 x3 h3 p3 c3 => (bX2_readCondition_44 hz zb (k4 c1 x1 h1 p1 c2 h2 p2 x3 h3 p3 c3) (fun h4 p4 => (v3 c1 x1 h1 p1 c2 h2 p2 x3 h3 p3 c3 h4 p4)))) (fun h2 p2 x3 h3 p3 c3 => (bX2_readCondition_42 hz zb (v4 c1 x1 h1 p1 c2 h2 p2 x3 h3 p3 c3))))))))
theorem dX2_readAll_0 : decode cX2_readAll 0 = .ok (.aload_n 0, 1) := by decide +kernel
theorem dX2_readAll_1 : decode cX2_readAll 1 = .ok (.aload_n 1, 1) := by decide +kernel
theorem dX2_readAll_2 : decode cX2_readAll 2 = .ok (.iload_n 2, 1) := by decide +kernel
theorem dX2_readAll_3 : decode cX2_readAll 3 = .ok (.invokevirtual 53, 3) := by decide +kernel
theorem dX2_readAll_6 : decode cX2_readAll 6 = .ok (.ifCond .ne 5, 3) := by decide +kernel
theorem dX2_readAll_9 : decode cX2_readAll 9 = .ok (.iconst 0, 1) := by decide +kernel
theorem dX2_readAll_10 : decode cX2_readAll 10 = .ok (.ireturn, 1) := by decide +kernel
theorem dX2_readAll_11 : decode cX2_readAll 11 = .ok (.iconst 0, 1) := by decide +kernel
theorem dX2_readAll_12 : decode cX2_readAll 12 = .ok (.istore_n 3, 1) := by decide +kernel
theorem dX2_readAll_13 : decode cX2_readAll 13 = .ok (.iload_n 3, 1) := by decide +kernel
theorem dX2_readAll_14 : decode cX2_readAll 14 = .ok (.sipush 400, 3) := by decide +kernel
theorem dX2_readAll_17 : decode cX2_readAll 17 = .ok (.if_icmp .ge 41, 3) := by decide +kernel
theorem dX2_readAll_20 : decode cX2_readAll 20 = .ok (.aload_n 1, 1) := by decide +kernel
theorem dX2_readAll_21 : decode cX2_readAll 21 = .ok (.ldc 56, 2) := by decide +kernel
theorem dX2_readAll_23 : decode cX2_readAll 23 = .ok (.invokevirtual 42, 3) := by decide +kernel
theorem dX2_readAll_26 : decode cX2_readAll 26 = .ok (.ifCond .eq 32, 3) := by decide +kernel
theorem dX2_readAll_29 : decode cX2_readAll 29 = .ok (.aload_n 1, 1) := by decide +kernel
theorem dX2_readAll_30 : decode cX2_readAll 30 = .ok (.invokevirtual 46, 3) := by decide +kernel
theorem dX2_readAll_33 : decode cX2_readAll 33 = .ok (.aload_n 0, 1) := by decide +kernel
theorem dX2_readAll_34 : decode cX2_readAll 34 = .ok (.aload_n 1, 1) := by decide +kernel
theorem dX2_readAll_35 : decode cX2_readAll 35 = .ok (.iload_n 2, 1) := by decide +kernel
theorem dX2_readAll_36 : decode cX2_readAll 36 = .ok (.invokevirtual 53, 3) := by decide +kernel
theorem dX2_readAll_39 : decode cX2_readAll 39 = .ok (.ifCond .ne 5, 3) := by decide +kernel
theorem dX2_readAll_42 : decode cX2_readAll 42 = .ok (.iconst 0, 1) := by decide +kernel
theorem dX2_readAll_43 : decode cX2_readAll 43 = .ok (.ireturn, 1) := by decide +kernel
theorem dX2_readAll_44 : decode cX2_readAll 44 = .ok (.aload_n 0, 1) := by decide +kernel
theorem dX2_readAll_45 : decode cX2_readAll 45 = .ok (.getfield 12, 3) := by decide +kernel
theorem dX2_readAll_48 : decode cX2_readAll 48 = .ok (.iconst (-1), 1) := by decide +kernel
theorem dX2_readAll_49 : decode cX2_readAll 49 = .ok (.invokevirtual 49, 3) := by decide +kernel
theorem dX2_readAll_52 : decode cX2_readAll 52 = .ok (.iinc 3 1, 3) := by decide +kernel
theorem dX2_readAll_55 : decode cX2_readAll 55 = .ok (.goto (-42), 3) := by decide +kernel
theorem dX2_readAll_58 : decode cX2_readAll 58 = .ok (.iconst 1, 1) := by decide +kernel
theorem dX2_readAll_59 : decode cX2_readAll 59 = .ok (.ireturn, 1) := by decide +kernel
set_option maxRecDepth 100000 in
theorem bX2_readAll_0 {sc : Nat × (Nat → Int32)} {h : jH} {Q : jQ} {z z1 : Nat} {l2 : Int32} {P1 : Int32 → jH → Prop} (hz : z1 < z) (zb : 13 ≤ z1)
    (k1 : JM (mX2_readItem z1) [.ref 6, .ref 1, .int l2] (jG0 sc) h (jint sc P1))
    (v1 : ∀ (x1 : Int32) (h1 : jH), P1 x1 h1 → ¬ x1 = 0 → WP (mX2_readAll z) Q 11 [some (.ref 6), some (.ref 1), some (.int l2), none] [] (jG0 sc) h1 (0, 0))
    (v2 : ∀ (x1 : Int32) (h1 : jH), P1 x1 h1 → x1 = 0 → WP (mX2_readAll z) Q 9 [some (.ref 6), some (.ref 1), some (.int l2), none] [] (jG0 sc) h1 (0, 0)) :
    WP (mX2_readAll z) Q 0 [some (.ref 6), some (.ref 1), some (.int l2), none] [] (jG0 sc) h (0, 0) := by
  refine j_aload_n (i := 0) rfl dX2_readAll_0 ?_
  refine j_aload_n (i := 1) rfl dX2_readAll_1 ?_
  refine j_iload_n (i := 2) rfl dX2_readAll_2 ?_
  refine j_callV (idx := 53) (As := [.ref 1, .int l2]) (ci := 2) (n := 2) k1 jint_nt (jlkT (jtb4 171 rfl) rfl) sX2_readItem kX2_readItem rfl ⟨rfl, (show yX2_readItem.cls ≠ "java/lang/invoke/MethodHandle" by decide +kernel), (show yX2_readItem.cls ≠ "java/lang/invoke/VarHandle" by decide +kernel), (show (parseMethodDescriptor yX2_readItem.desc).map (fun d => d.parameters.length) = some 2 by decide +kernel)⟩ rfl ⟨hz, Nat.le_of_ble_eq_true rfl⟩ (Nat.le_of_ble_eq_true rfl) rfl (Nat.le_of_ble_eq_true rfl) (Nat.le_of_ble_eq_true rfl) ⟨Nat.zero_le _, Nat.zero_le _⟩ dX2_readAll_3 (fun r Γ' h1 q => ?_)
  obtain ⟨x1, q0, rfl, p1⟩ := q; cases q0
  refine j_eqst [.int x1] (by rfl) ?_
  refine j_if_ne (off := 5) 11 dX2_readAll_6 (by decide) (fun c1 => ?_) (fun c1 => ?_)
  · exact j_le [some (.ref 6), some (.ref 1), some (.int l2), none] (And.intro rfl (And.intro rfl (And.intro rfl True.intro))) (v1 x1 h1 p1 c1)
  · exact j_le [some (.ref 6), some (.ref 1), some (.int l2), none] (And.intro rfl (And.intro rfl (And.intro rfl True.intro))) (v2 x1 h1 p1 c1)
set_option maxRecDepth 100000 in
theorem bX2_readAll_9 {sc : Nat × (Nat → Int32)} {h : jH} {Q : jQ} {z z1 : Nat} {l2 : Int32} (hz : z1 < z) (zb : 13 ≤ z1)
    (v1 : Q (.inl (some (.int 0))) (jG0 sc) h) :
    WP (mX2_readAll z) Q 9 [some (.ref 6), some (.ref 1), some (.int l2), none] [] (jG0 sc) h (0, 0) := by
  refine j_iconst (n := 0) 0 (by decide) dX2_readAll_9 ?_
  exact j_iret rfl rfl (Nat.zero_le _) (Nat.zero_le _) dX2_readAll_10 v1
set_option maxRecDepth 100000 in
theorem bX2_readAll_11 {sc : Nat × (Nat → Int32)} {h : jH} {Q : jQ} {z z1 : Nat} {l2 : Int32} (hz : z1 < z) (zb : 13 ≤ z1)
    (v1 : WP (mX2_readAll z) Q 13 [some (.ref 6), some (.ref 1), some (.int l2), some (.int 0)] [] (jG0 sc) h (0, 0)) :
    WP (mX2_readAll z) Q 11 [some (.ref 6), some (.ref 1), some (.int l2), none] [] (jG0 sc) h (0, 0) := by
  refine j_iconst (n := 0) 0 (by decide) dX2_readAll_11 ?_
  refine j_istore_n (i := 3) dX2_readAll_12 (Nat.le_of_ble_eq_true rfl) ?_
  exact j_le [some (.ref 6), some (.ref 1), some (.int l2), some (.int 0)] (And.intro rfl (And.intro rfl (And.intro rfl (And.intro rfl True.intro)))) v1
set_option maxRecDepth 100000 in
theorem bX2_readAll_13 {sc : Nat × (Nat → Int32)} {h : jH} {Q : jQ} {z z1 : Nat} {l2 l3 : Int32} (hz : z1 < z) (zb : 13 ≤ z1)
    (v1 : 400 ≤ l3 → WP (mX2_readAll z) Q 58 [some (.ref 6), some (.ref 1), some (.int l2), some (.int l3)] [] (jG0 sc) h (0, 0))
    (v2 : ¬ 400 ≤ l3 → WP (mX2_readAll z) Q 20 [some (.ref 6), some (.ref 1), some (.int l2), some (.int l3)] [] (jG0 sc) h (0, 0)) :
    WP (mX2_readAll z) Q 13 [some (.ref 6), some (.ref 1), some (.int l2), some (.int l3)] [] (jG0 sc) h (0, 0) := by
  refine j_iload_n (i := 3) rfl dX2_readAll_13 ?_
  refine j_sipush (n := 400) 400 (by decide) dX2_readAll_14 ?_
  refine j_icmp_ge (off := 41) 58 dX2_readAll_17 (by decide) (fun c1 => ?_) (fun c1 => ?_)
  · exact j_le [some (.ref 6), some (.ref 1), some (.int l2), some (.int l3)] (And.intro rfl (And.intro rfl (And.intro rfl (And.intro rfl True.intro)))) (v1 c1)
  · exact j_le [some (.ref 6), some (.ref 1), some (.int l2), some (.int l3)] (And.intro rfl (And.intro rfl (And.intro rfl (And.intro rfl True.intro)))) (v2 c1)
set_option maxRecDepth 100000 in
theorem bX2_readAll_20 {sc : Nat × (Nat → Int32)} {h : jH} {Q : jQ} {z z1 : Nat} {l2 l3 : Int32} {P1 : Int32 → jH → Prop} (hz : z1 < z) (zb : 13 ≤ z1)
    (k1 : JM mX8_isWord [.ref 1, .ref 1010] (jG0 sc) h (jint sc P1))
    (v1 : ∀ (x1 : Int32) (h1 : jH), P1 x1 h1 → x1 = 0 → WP (mX2_readAll z) Q 58 [some (.ref 6), some (.ref 1), some (.int l2), some (.int l3)] [] (jG0 sc) h1 (0, 0))
    (v2 : ∀ (x1 : Int32) (h1 : jH), P1 x1 h1 → ¬ x1 = 0 → WP (mX2_readAll z) Q 29 [some (.ref 6), some (.ref 1), some (.int l2), some (.int l3)] [] (jG0 sc) h1 (0, 0)) :
    WP (mX2_readAll z) Q 20 [some (.ref 6), some (.ref 1), some (.int l2), some (.int l3)] [] (jG0 sc) h (0, 0) := by
  refine j_aload_n (i := 1) rfl dX2_readAll_20 ?_
  refine j_ldcS (idx := 56) "and" 10 (show ("MendBench$LawReade\x72", 56, "and", 10) ∈ jStr by decide +kernel) dX2_readAll_21 ?_
  refine j_callVN (idx := 42) (As := [.ref 1010]) (ci := 8) (n := 1) k1 jint_nt (jTbl (jtb4 176 rfl)) sX8_isWord kX8_isWord rfl ⟨rfl, (show yX8_isWord.cls ≠ "java/lang/invoke/MethodHandle" by decide +kernel), (show yX8_isWord.cls ≠ "java/lang/invoke/VarHandle" by decide +kernel), (show (parseMethodDescriptor yX8_isWord.desc).map (fun d => d.parameters.length) = some 1 by decide +kernel)⟩ rfl ⟨Nat.lt_trans (Nat.lt_of_lt_of_le (show mH mX8_isWord < 13 by decide) zb) hz, by decide⟩ (Nat.le_of_ble_eq_true rfl) rfl (Nat.le_of_ble_eq_true rfl) (Nat.le_of_ble_eq_true rfl) ⟨Nat.zero_le _, Nat.zero_le _⟩ dX2_readAll_23 (fun r Γ' h1 q => ?_)
  obtain ⟨x1, q0, rfl, p1⟩ := q; cases q0
  refine j_eqst [.int x1] (by rfl) ?_
  refine j_if_eq (off := 32) 58 dX2_readAll_26 (by decide) (fun c1 => ?_) (fun c1 => ?_)
  · exact j_le [some (.ref 6), some (.ref 1), some (.int l2), some (.int l3)] (And.intro rfl (And.intro rfl (And.intro rfl (And.intro rfl True.intro)))) (v1 x1 h1 p1 c1)
  · exact j_le [some (.ref 6), some (.ref 1), some (.int l2), some (.int l3)] (And.intro rfl (And.intro rfl (And.intro rfl (And.intro rfl True.intro)))) (v2 x1 h1 p1 c1)
set_option maxRecDepth 100000 in
theorem bX2_readAll_29 {sc : Nat × (Nat → Int32)} {h : jH} {Q : jQ} {z z1 : Nat} {l2 l3 : Int32} {P1 : jH → Prop} {P2 : Int32 → jH → Prop} (hz : z1 < z) (zb : 13 ≤ z1)
    (k1 : JM mX8_next [.ref 1] (jG0 sc) h (jvoid sc P1))
    (k2 : ∀ h1 : jH, P1 h1 → JM (mX2_readItem z1) [.ref 6, .ref 1, .int l2] (jG0 sc) h1 (jint sc P2))
    (v1 : ∀ h1 : jH, P1 h1 → ∀ (x2 : Int32) (h2 : jH), P2 x2 h2 → ¬ x2 = 0 → WP (mX2_readAll z) Q 44 [some (.ref 6), some (.ref 1), some (.int l2), some (.int l3)] [] (jG0 sc) h2 (0, 0))
    (v2 : ∀ h1 : jH, P1 h1 → ∀ (x2 : Int32) (h2 : jH), P2 x2 h2 → x2 = 0 → WP (mX2_readAll z) Q 42 [some (.ref 6), some (.ref 1), some (.int l2), some (.int l3)] [] (jG0 sc) h2 (0, 0)) :
    WP (mX2_readAll z) Q 29 [some (.ref 6), some (.ref 1), some (.int l2), some (.int l3)] [] (jG0 sc) h (0, 0) := by
  refine j_aload_n (i := 1) rfl dX2_readAll_29 ?_
  refine j_callVN (idx := 46) (As := []) (ci := 8) (n := 0) k1 jvoid_nt (jTbl (jtb4 189 rfl)) sX8_next kX8_next rfl ⟨rfl, (show yX8_next.cls ≠ "java/lang/invoke/MethodHandle" by decide +kernel), (show yX8_next.cls ≠ "java/lang/invoke/VarHandle" by decide +kernel), (show (parseMethodDescriptor yX8_next.desc).map (fun d => d.parameters.length) = some 0 by decide +kernel)⟩ rfl ⟨Nat.lt_trans (Nat.lt_of_lt_of_le (show mH mX8_next < 13 by decide) zb) hz, by decide⟩ (Nat.le_of_ble_eq_true rfl) rfl (Nat.le_of_ble_eq_true rfl) (Nat.le_of_ble_eq_true rfl) ⟨Nat.zero_le _, Nat.zero_le _⟩ dX2_readAll_30 (fun r Γ' h1 q => ?_)
  obtain ⟨q0, rfl, p1⟩ := q; cases q0
  refine j_eqst [] (by rfl) ?_
  refine j_aload_n (i := 0) rfl dX2_readAll_33 ?_
  refine j_aload_n (i := 1) rfl dX2_readAll_34 ?_
  refine j_iload_n (i := 2) rfl dX2_readAll_35 ?_
  refine j_callV (idx := 53) (As := [.ref 1, .int l2]) (ci := 2) (n := 2) (k2 h1 p1) jint_nt (jlkT (jtb4 171 rfl) rfl) sX2_readItem kX2_readItem rfl ⟨rfl, (show yX2_readItem.cls ≠ "java/lang/invoke/MethodHandle" by decide +kernel), (show yX2_readItem.cls ≠ "java/lang/invoke/VarHandle" by decide +kernel), (show (parseMethodDescriptor yX2_readItem.desc).map (fun d => d.parameters.length) = some 2 by decide +kernel)⟩ rfl ⟨hz, Nat.le_of_ble_eq_true rfl⟩ (Nat.le_of_ble_eq_true rfl) rfl (Nat.le_of_ble_eq_true rfl) (Nat.le_of_ble_eq_true rfl) ⟨Nat.zero_le _, Nat.zero_le _⟩ dX2_readAll_36 (fun r Γ' h2 q => ?_)
  obtain ⟨x2, q0, rfl, p2⟩ := q; cases q0
  refine j_eqst [.int x2] (by rfl) ?_
  refine j_if_ne (off := 5) 44 dX2_readAll_39 (by decide) (fun c1 => ?_) (fun c1 => ?_)
  · exact j_le [some (.ref 6), some (.ref 1), some (.int l2), some (.int l3)] (And.intro rfl (And.intro rfl (And.intro rfl (And.intro rfl True.intro)))) (v1 h1 p1 x2 h2 p2 c1)
  · exact j_le [some (.ref 6), some (.ref 1), some (.int l2), some (.int l3)] (And.intro rfl (And.intro rfl (And.intro rfl (And.intro rfl True.intro)))) (v2 h1 p1 x2 h2 p2 c1)
set_option maxRecDepth 100000 in
theorem bX2_readAll_42 {sc : Nat × (Nat → Int32)} {h : jH} {Q : jQ} {z z1 : Nat} {l2 l3 : Int32} (hz : z1 < z) (zb : 13 ≤ z1)
    (v1 : Q (.inl (some (.int 0))) (jG0 sc) h) :
    WP (mX2_readAll z) Q 42 [some (.ref 6), some (.ref 1), some (.int l2), some (.int l3)] [] (jG0 sc) h (0, 0) := by
  refine j_iconst (n := 0) 0 (by decide) dX2_readAll_42 ?_
  exact j_iret rfl rfl (Nat.zero_le _) (Nat.zero_le _) dX2_readAll_43 v1
set_option maxRecDepth 100000 in
theorem bX2_readAll_44 {sc : Nat × (Nat → Int32)} {h : jH} {Q : jQ} {z z1 : Nat} {l2 l3 : Int32} {P1 : jH → Prop} (hz : z1 < z) (zb : 13 ≤ z1)
    (k1 : JM mX1_add [.ref 7, .int (-1)] (jG0 sc) h (jvoid sc P1))
    (v1 : ∀ h1 : jH, P1 h1 → WP (mX2_readAll z) Q 13 [some (.ref 6), some (.ref 1), some (.int l2), some (.int (l3 + 1))] [] (jG0 sc) h1 (0, 0)) :
    WP (mX2_readAll z) Q 44 [some (.ref 6), some (.ref 1), some (.int l2), some (.int l3)] [] (jG0 sc) h (0, 0) := by
  refine j_aload_n (i := 0) rfl dX2_readAll_44 ?_
  refine j_getR (idx := 12) (ci := 2) (k := 0) (nest := false) (show (2, 12, 2, 0, false) ∈ jFT by decide) rfl (Nat.le_of_ble_eq_true rfl) rfl (a := 7) rfl dX2_readAll_45 ?_
  refine j_iconst (n := (-1)) (-1) (by decide) dX2_readAll_48 ?_
  refine j_callVN (idx := 49) (As := [.int (-1)]) (ci := 1) (n := 1) k1 jvoid_nt (jTbl (jtb4 194 rfl)) sX1_add kX1_add rfl ⟨rfl, (show yX1_add.cls ≠ "java/lang/invoke/MethodHandle" by decide +kernel), (show yX1_add.cls ≠ "java/lang/invoke/VarHandle" by decide +kernel), (show (parseMethodDescriptor yX1_add.desc).map (fun d => d.parameters.length) = some 1 by decide +kernel)⟩ rfl ⟨Nat.lt_trans (Nat.lt_of_lt_of_le (show mH mX1_add < 13 by decide) zb) hz, by decide⟩ (Nat.le_of_ble_eq_true rfl) rfl (Nat.le_of_ble_eq_true rfl) (Nat.le_of_ble_eq_true rfl) ⟨Nat.zero_le _, Nat.zero_le _⟩ dX2_readAll_49 (fun r Γ' h1 q => ?_)
  obtain ⟨q0, rfl, p1⟩ := q; cases q0
  refine j_eqst [] (by rfl) ?_
  refine j_iinc (i := 3) (n := 1) rfl dX2_readAll_52 (Nat.le_of_ble_eq_true rfl) ?_
  refine j_eqlv [some (.ref 6), some (.ref 1), some (.int l2), some (.int (l3 + 1))] rfl ?_
  refine j_goto (off := -42) 13 dX2_readAll_55 (by decide) ?_
  exact j_le [some (.ref 6), some (.ref 1), some (.int l2), some (.int (l3 + 1))] (And.intro rfl (And.intro rfl (And.intro rfl (And.intro rfl True.intro)))) (v1 h1 p1)
set_option maxRecDepth 100000 in
theorem bX2_readAll_58 {sc : Nat × (Nat → Int32)} {h : jH} {Q : jQ} {z z1 : Nat} {l2 l3 : Int32} (hz : z1 < z) (zb : 13 ≤ z1)
    (v1 : Q (.inl (some (.int 1))) (jG0 sc) h) :
    WP (mX2_readAll z) Q 58 [some (.ref 6), some (.ref 1), some (.int l2), some (.int l3)] [] (jG0 sc) h (0, 0) := by
  refine j_iconst (n := 1) 1 (by decide) dX2_readAll_58 ?_
  exact j_iret rfl rfl (Nat.zero_le _) (Nat.zero_le _) dX2_readAll_59 v1
set_option maxRecDepth 100000 in
theorem rX2_readAll_0 {sc : Nat × (Nat → Int32)} {h : jH} {Q : jQ} {z z1 : Nat} {l2 : Int32} {P1 : Int32 → jH → Prop} (hz : z1 < z) (zb : 13 ≤ z1)
    (k1 : JM (mX2_readItem z1) [.ref 6, .ref 1, .int l2] (jG0 sc) h (jint sc P1))
    (v1 : ∀ (x1 : Int32) (h1 : jH), P1 x1 h1 → ¬ x1 = 0 → WP (mX2_readAll z) Q 13 [some (.ref 6), some (.ref 1), some (.int l2), some (.int 0)] [] (jG0 sc) h1 (0, 0))
    (v2 : ∀ (x1 : Int32) (h1 : jH), P1 x1 h1 → x1 = 0 → Q (.inl (some (.int 0))) (jG0 sc) h1) :
    WP (mX2_readAll z) Q 0 [some (.ref 6), some (.ref 1), some (.int l2), none] [] (jG0 sc) h (0, 0) := by
  exact (bX2_readAll_0 hz zb k1 (fun x1 h1 p1 c1 => (bX2_readAll_11 hz zb (v1 x1 h1 p1 c1))) (fun x1 h1 p1 c1 => (bX2_readAll_9 hz zb (v2 x1 h1 p1 c1))))
set_option maxRecDepth 100000 in
theorem rX2_readAll_13 {sc : Nat × (Nat → Int32)} {h : jH} {Q : jQ} {z z1 : Nat} {l2 l3 : Int32} {P1 : Int32 → jH → Prop} {P2 : jH → Prop} {P3 : Int32 → jH → Prop} {P4 : jH → Prop} (hz : z1 < z) (zb : 13 ≤ z1)
    (v1 : 400 ≤ l3 → Q (.inl (some (.int 1))) (jG0 sc) h)
    (k1 : ¬ 400 ≤ l3 → JM mX8_isWord [.ref 1, .ref 1010] (jG0 sc) h (jint sc P1))
    (v2 : ¬ 400 ≤ l3 → ∀ (x1 : Int32) (h1 : jH), P1 x1 h1 → x1 = 0 → Q (.inl (some (.int 1))) (jG0 sc) h1)
    (k2 : ¬ 400 ≤ l3 → ∀ (x1 : Int32) (h1 : jH), P1 x1 h1 → ¬ x1 = 0 → JM mX8_next [.ref 1] (jG0 sc) h1 (jvoid sc P2))
    (k3 : ¬ 400 ≤ l3 → ∀ (x1 : Int32) (h1 : jH), P1 x1 h1 → ¬ x1 = 0 → ∀ h2 : jH, P2 h2 → JM (mX2_readItem z1) [.ref 6, .ref 1, .int l2] (jG0 sc) h2 (jint sc P3))
    (k4 : ¬ 400 ≤ l3 → ∀ (x1 : Int32) (h1 : jH), P1 x1 h1 → ¬ x1 = 0 → ∀ h2 : jH, P2 h2 → ∀ (x3 : Int32) (h3 : jH), P3 x3 h3 → ¬ x3 = 0 → JM mX1_add [.ref 7, .int (-1)] (jG0 sc) h3 (jvoid sc P4))
    (v3 : ¬ 400 ≤ l3 → ∀ (x1 : Int32) (h1 : jH), P1 x1 h1 → ¬ x1 = 0 → ∀ h2 : jH, P2 h2 → ∀ (x3 : Int32) (h3 : jH), P3 x3 h3 → ¬ x3 = 0 → ∀ h4 : jH, P4 h4 → WP (mX2_readAll z) Q 13 [some (.ref 6), some (.ref 1), some (.int l2), some (.int (l3 + 1))] [] (jG0 sc) h4 (0, 0))
    (v4 : ¬ 400 ≤ l3 → ∀ (x1 : Int32) (h1 : jH), P1 x1 h1 → ¬ x1 = 0 → ∀ h2 : jH, P2 h2 → ∀ (x3 : Int32) (h3 : jH), P3 x3 h3 → x3 = 0 → Q (.inl (some (.int 0))) (jG0 sc) h3) :
    WP (mX2_readAll z) Q 13 [some (.ref 6), some (.ref 1), some (.int l2), some (.int l3)] [] (jG0 sc) h (0, 0) := by
  exact (bX2_readAll_13 hz zb (fun c1 => (bX2_readAll_58 hz zb (v1 c1))) (fun c1 => (bX2_readAll_20 hz zb (k1 c1) (fun x1 h1 p1 c2 => (bX2_readAll_58 hz zb (v2 c1 x1 h1 p1 c2))) (fun x1 h1 p1 c2 => (bX2_readAll_29 hz zb (k2 c1 x1 h1 p1 c2) (fun h2 p2 => (k3 c1 x1 h1 p1 c2 h2 p2)) (fun h2 p2 x3 h3 p3 c3 => (bX2_readAll_44 hz zb (k4 c1 x1 h1 p1 c2 h2 p2 x3 h3 p3 c3) (fun h4 p4 => (v3 c1 x1 h1 p1 c2 h2 p2 x3 h3 p3 c3 h4 p4)))) (fun h2 p2 x3 h3 p3 c3 => (bX2_readAll_42 hz zb (v4 c1 x1 h1 p1 c2 h2 p2 x3 h3 p3 c3))))))))
theorem dX2_readItem_0 : decode cX2_readItem 0 = .ok (.aload_n 1, 1) := by decide +kernel
theorem dX2_readItem_1 : decode cX2_readItem 1 = .ok (.ldc 58, 2) := by decide +kernel
theorem dX2_readItem_3 : decode cX2_readItem 3 = .ok (.invokevirtual 42, 3) := by decide +kernel
theorem dX2_readItem_6 : decode cX2_readItem 6 = .ok (.istore_n 3, 1) := by decide +kernel
theorem dX2_readItem_7 : decode cX2_readItem 7 = .ok (.iload_n 3, 1) := by decide +kernel
theorem dX2_readItem_8 : decode cX2_readItem 8 = .ok (.ifCond .ne 18, 3) := by decide +kernel
theorem dX2_readItem_11 : decode cX2_readItem 11 = .ok (.aload_n 1, 1) := by decide +kernel
theorem dX2_readItem_12 : decode cX2_readItem 12 = .ok (.bipush 40, 2) := by decide +kernel
theorem dX2_readItem_14 : decode cX2_readItem 14 = .ok (.invokevirtual 60, 3) := by decide +kernel
theorem dX2_readItem_17 : decode cX2_readItem 17 = .ok (.ifCond .ne 9, 3) := by decide +kernel
theorem dX2_readItem_20 : decode cX2_readItem 20 = .ok (.aload_n 0, 1) := by decide +kernel
theorem dX2_readItem_21 : decode cX2_readItem 21 = .ok (.aload_n 1, 1) := by decide +kernel
theorem dX2_readItem_22 : decode cX2_readItem 22 = .ok (.invokevirtual 64, 3) := by decide +kernel
theorem dX2_readItem_25 : decode cX2_readItem 25 = .ok (.ireturn, 1) := by decide +kernel
theorem dX2_readItem_26 : decode cX2_readItem 26 = .ok (.iload_n 2, 1) := by decide +kernel
theorem dX2_readItem_27 : decode cX2_readItem 27 = .ok (.bipush 6, 2) := by decide +kernel
theorem dX2_readItem_29 : decode cX2_readItem 29 = .ok (.if_icmp .lt 5, 3) := by decide +kernel
theorem dX2_readItem_32 : decode cX2_readItem 32 = .ok (.iconst 0, 1) := by decide +kernel
theorem dX2_readItem_33 : decode cX2_readItem 33 = .ok (.ireturn, 1) := by decide +kernel
theorem dX2_readItem_34 : decode cX2_readItem 34 = .ok (.aload_n 1, 1) := by decide +kernel
theorem dX2_readItem_35 : decode cX2_readItem 35 = .ok (.invokevirtual 46, 3) := by decide +kernel
theorem dX2_readItem_38 : decode cX2_readItem 38 = .ok (.iload_n 3, 1) := by decide +kernel
theorem dX2_readItem_39 : decode cX2_readItem 39 = .ok (.ifCond .eq 27, 3) := by decide +kernel
theorem dX2_readItem_42 : decode cX2_readItem 42 = .ok (.aload_n 0, 1) := by decide +kernel
theorem dX2_readItem_43 : decode cX2_readItem 43 = .ok (.aload_n 1, 1) := by decide +kernel
theorem dX2_readItem_44 : decode cX2_readItem 44 = .ok (.iload_n 2, 1) := by decide +kernel
theorem dX2_readItem_45 : decode cX2_readItem 45 = .ok (.iconst 1, 1) := by decide +kernel
theorem dX2_readItem_46 : decode cX2_readItem 46 = .ok (.iadd, 1) := by decide +kernel
theorem dX2_readItem_47 : decode cX2_readItem 47 = .ok (.invokevirtual 53, 3) := by decide +kernel
theorem dX2_readItem_50 : decode cX2_readItem 50 = .ok (.ifCond .ne 5, 3) := by decide +kernel
theorem dX2_readItem_53 : decode cX2_readItem 53 = .ok (.iconst 0, 1) := by decide +kernel
theorem dX2_readItem_54 : decode cX2_readItem 54 = .ok (.ireturn, 1) := by decide +kernel
theorem dX2_readItem_55 : decode cX2_readItem 55 = .ok (.aload_n 0, 1) := by decide +kernel
theorem dX2_readItem_56 : decode cX2_readItem 56 = .ok (.getfield 12, 3) := by decide +kernel
theorem dX2_readItem_59 : decode cX2_readItem 59 = .ok (.bipush (-3), 2) := by decide +kernel
theorem dX2_readItem_61 : decode cX2_readItem 61 = .ok (.invokevirtual 49, 3) := by decide +kernel
theorem dX2_readItem_64 : decode cX2_readItem 64 = .ok (.iconst 1, 1) := by decide +kernel
theorem dX2_readItem_65 : decode cX2_readItem 65 = .ok (.ireturn, 1) := by decide +kernel
theorem dX2_readItem_66 : decode cX2_readItem 66 = .ok (.aload_n 0, 1) := by decide +kernel
theorem dX2_readItem_67 : decode cX2_readItem 67 = .ok (.aload_n 1, 1) := by decide +kernel
theorem dX2_readItem_68 : decode cX2_readItem 68 = .ok (.iload_n 2, 1) := by decide +kernel
theorem dX2_readItem_69 : decode cX2_readItem 69 = .ok (.iconst 1, 1) := by decide +kernel
theorem dX2_readItem_70 : decode cX2_readItem 70 = .ok (.iadd, 1) := by decide +kernel
theorem dX2_readItem_71 : decode cX2_readItem 71 = .ok (.invokevirtual 27, 3) := by decide +kernel
theorem dX2_readItem_74 : decode cX2_readItem 74 = .ok (.ifCond .eq 12, 3) := by decide +kernel
theorem dX2_readItem_77 : decode cX2_readItem 77 = .ok (.aload_n 1, 1) := by decide +kernel
theorem dX2_readItem_78 : decode cX2_readItem 78 = .ok (.bipush 41, 2) := by decide +kernel
theorem dX2_readItem_80 : decode cX2_readItem 80 = .ok (.invokevirtual 60, 3) := by decide +kernel
theorem dX2_readItem_83 : decode cX2_readItem 83 = .ok (.ifCond .ne 5, 3) := by decide +kernel
theorem dX2_readItem_86 : decode cX2_readItem 86 = .ok (.iconst 0, 1) := by decide +kernel
theorem dX2_readItem_87 : decode cX2_readItem 87 = .ok (.ireturn, 1) := by decide +kernel
theorem dX2_readItem_88 : decode cX2_readItem 88 = .ok (.aload_n 1, 1) := by decide +kernel
theorem dX2_readItem_89 : decode cX2_readItem 89 = .ok (.invokevirtual 46, 3) := by decide +kernel
theorem dX2_readItem_92 : decode cX2_readItem 92 = .ok (.iconst 1, 1) := by decide +kernel
theorem dX2_readItem_93 : decode cX2_readItem 93 = .ok (.ireturn, 1) := by decide +kernel
set_option maxRecDepth 100000 in
theorem bX2_readItem_0 {sc : Nat × (Nat → Int32)} {h : jH} {Q : jQ} {z z1 : Nat} {l2 : Int32} {P1 : Int32 → jH → Prop} (hz : z1 < z) (zb : 13 ≤ z1)
    (k1 : JM mX8_isWord [.ref 1, .ref 1008] (jG0 sc) h (jint sc P1))
    (v1 : ∀ (x1 : Int32) (h1 : jH), P1 x1 h1 → ¬ x1 = 0 → WP (mX2_readItem z) Q 26 [some (.ref 6), some (.ref 1), some (.int l2), some (.int x1)] [] (jG0 sc) h1 (0, 0))
    (v2 : ∀ (x1 : Int32) (h1 : jH), P1 x1 h1 → x1 = 0 → WP (mX2_readItem z) Q 11 [some (.ref 6), some (.ref 1), some (.int l2), some (.int x1)] [] (jG0 sc) h1 (0, 0)) :
    WP (mX2_readItem z) Q 0 [some (.ref 6), some (.ref 1), some (.int l2), none] [] (jG0 sc) h (0, 0) := by
  refine j_aload_n (i := 1) rfl dX2_readItem_0 ?_
  refine j_ldcS (idx := 58) "not" 8 (show ("MendBench$LawReade\x72", 58, "not", 8) ∈ jStr by decide +kernel) dX2_readItem_1 ?_
  refine j_callVN (idx := 42) (As := [.ref 1008]) (ci := 8) (n := 1) k1 jint_nt (jTbl (jtb4 176 rfl)) sX8_isWord kX8_isWord rfl ⟨rfl, (show yX8_isWord.cls ≠ "java/lang/invoke/MethodHandle" by decide +kernel), (show yX8_isWord.cls ≠ "java/lang/invoke/VarHandle" by decide +kernel), (show (parseMethodDescriptor yX8_isWord.desc).map (fun d => d.parameters.length) = some 1 by decide +kernel)⟩ rfl ⟨Nat.lt_trans (Nat.lt_of_lt_of_le (show mH mX8_isWord < 13 by decide) zb) hz, by decide⟩ (Nat.le_of_ble_eq_true rfl) rfl (Nat.le_of_ble_eq_true rfl) (Nat.le_of_ble_eq_true rfl) ⟨Nat.zero_le _, Nat.zero_le _⟩ dX2_readItem_3 (fun r Γ' h1 q => ?_)
  obtain ⟨x1, q0, rfl, p1⟩ := q; cases q0
  refine j_eqst [.int x1] (by rfl) ?_
  refine j_istore_n (i := 3) dX2_readItem_6 (Nat.le_of_ble_eq_true rfl) ?_
  refine j_iload_n (i := 3) rfl dX2_readItem_7 ?_
  refine j_if_ne (off := 18) 26 dX2_readItem_8 (by decide) (fun c1 => ?_) (fun c1 => ?_)
  · exact j_le [some (.ref 6), some (.ref 1), some (.int l2), some (.int x1)] (And.intro rfl (And.intro rfl (And.intro rfl (And.intro rfl True.intro)))) (v1 x1 h1 p1 c1)
  · exact j_le [some (.ref 6), some (.ref 1), some (.int l2), some (.int x1)] (And.intro rfl (And.intro rfl (And.intro rfl (And.intro rfl True.intro)))) (v2 x1 h1 p1 c1)
set_option maxRecDepth 100000 in
theorem bX2_readItem_11 {sc : Nat × (Nat → Int32)} {h : jH} {Q : jQ} {z z1 : Nat} {l2 l3 : Int32} {P1 : Int32 → jH → Prop} (hz : z1 < z) (zb : 13 ≤ z1)
    (k1 : JM mX8_isMark [.ref 1, .int 40] (jG0 sc) h (jint sc P1))
    (v1 : ∀ (x1 : Int32) (h1 : jH), P1 x1 h1 → ¬ x1 = 0 → WP (mX2_readItem z) Q 26 [some (.ref 6), some (.ref 1), some (.int l2), some (.int l3)] [] (jG0 sc) h1 (0, 0))
    (v2 : ∀ (x1 : Int32) (h1 : jH), P1 x1 h1 → x1 = 0 → WP (mX2_readItem z) Q 20 [some (.ref 6), some (.ref 1), some (.int l2), some (.int l3)] [] (jG0 sc) h1 (0, 0)) :
    WP (mX2_readItem z) Q 11 [some (.ref 6), some (.ref 1), some (.int l2), some (.int l3)] [] (jG0 sc) h (0, 0) := by
  refine j_aload_n (i := 1) rfl dX2_readItem_11 ?_
  refine j_bipush (n := 40) 40 (by decide) dX2_readItem_12 ?_
  refine j_callVN (idx := 60) (As := [.int 40]) (ci := 8) (n := 1) k1 jint_nt (jTbl (jtb4 177 rfl)) sX8_isMark kX8_isMark rfl ⟨rfl, (show yX8_isMark.cls ≠ "java/lang/invoke/MethodHandle" by decide +kernel), (show yX8_isMark.cls ≠ "java/lang/invoke/VarHandle" by decide +kernel), (show (parseMethodDescriptor yX8_isMark.desc).map (fun d => d.parameters.length) = some 1 by decide +kernel)⟩ rfl ⟨Nat.lt_trans (Nat.lt_of_lt_of_le (show mH mX8_isMark < 13 by decide) zb) hz, by decide⟩ (Nat.le_of_ble_eq_true rfl) rfl (Nat.le_of_ble_eq_true rfl) (Nat.le_of_ble_eq_true rfl) ⟨Nat.zero_le _, Nat.zero_le _⟩ dX2_readItem_14 (fun r Γ' h1 q => ?_)
  obtain ⟨x1, q0, rfl, p1⟩ := q; cases q0
  refine j_eqst [.int x1] (by rfl) ?_
  refine j_if_ne (off := 9) 26 dX2_readItem_17 (by decide) (fun c1 => ?_) (fun c1 => ?_)
  · exact j_le [some (.ref 6), some (.ref 1), some (.int l2), some (.int l3)] (And.intro rfl (And.intro rfl (And.intro rfl (And.intro rfl True.intro)))) (v1 x1 h1 p1 c1)
  · exact j_le [some (.ref 6), some (.ref 1), some (.int l2), some (.int l3)] (And.intro rfl (And.intro rfl (And.intro rfl (And.intro rfl True.intro)))) (v2 x1 h1 p1 c1)
set_option maxRecDepth 100000 in
theorem bX2_readItem_20 {sc : Nat × (Nat → Int32)} {h : jH} {Q : jQ} {z z1 : Nat} {l2 l3 : Int32} {P1 : Int32 → jH → Prop} (hz : z1 < z) (zb : 13 ≤ z1)
    (k1 : JM mX2_readComparison [.ref 6, .ref 1] (jG0 sc) h (jint sc P1))
    (o1 : ∀ (x1 : Int32) (h1 : jH), P1 x1 h1 → x1 = 0 ∨ x1 = 1)
    (v1 : ∀ (x1 : Int32) (h1 : jH), P1 x1 h1 → Q (.inl (some (.int x1))) (jG0 sc) h1) :
    WP (mX2_readItem z) Q 20 [some (.ref 6), some (.ref 1), some (.int l2), some (.int l3)] [] (jG0 sc) h (0, 0) := by
  refine j_aload_n (i := 0) rfl dX2_readItem_20 ?_
  refine j_aload_n (i := 1) rfl dX2_readItem_21 ?_
  refine j_callV (idx := 64) (As := [.ref 1]) (ci := 2) (n := 1) k1 jint_nt (jlkT (jtb4 178 rfl) rfl) sX2_readComparison kX2_readComparison rfl ⟨rfl, (show yX2_readComparison.cls ≠ "java/lang/invoke/MethodHandle" by decide +kernel), (show yX2_readComparison.cls ≠ "java/lang/invoke/VarHandle" by decide +kernel), (show (parseMethodDescriptor yX2_readComparison.desc).map (fun d => d.parameters.length) = some 1 by decide +kernel)⟩ rfl ⟨Nat.lt_trans (Nat.lt_of_lt_of_le (show mH mX2_readComparison < 13 by decide) zb) hz, by decide⟩ (Nat.le_of_ble_eq_true rfl) rfl (Nat.le_of_ble_eq_true rfl) (Nat.le_of_ble_eq_true rfl) ⟨Nat.zero_le _, Nat.zero_le _⟩ dX2_readItem_22 (fun r Γ' h1 q => ?_)
  obtain ⟨x1, q0, rfl, p1⟩ := q; cases q0
  refine j_eqst [.int x1] (by rfl) ?_
  exact j_iret rfl (jbn (o1 x1 h1 p1)) (Nat.zero_le _) (Nat.zero_le _) dX2_readItem_25 (v1 x1 h1 p1)
set_option maxRecDepth 100000 in
theorem bX2_readItem_26 {sc : Nat × (Nat → Int32)} {h : jH} {Q : jQ} {z z1 : Nat} {l2 l3 : Int32} (hz : z1 < z) (zb : 13 ≤ z1)
    (v1 : l2 < 6 → WP (mX2_readItem z) Q 34 [some (.ref 6), some (.ref 1), some (.int l2), some (.int l3)] [] (jG0 sc) h (0, 0))
    (v2 : ¬ l2 < 6 → WP (mX2_readItem z) Q 32 [some (.ref 6), some (.ref 1), some (.int l2), some (.int l3)] [] (jG0 sc) h (0, 0)) :
    WP (mX2_readItem z) Q 26 [some (.ref 6), some (.ref 1), some (.int l2), some (.int l3)] [] (jG0 sc) h (0, 0) := by
  refine j_iload_n (i := 2) rfl dX2_readItem_26 ?_
  refine j_bipush (n := 6) 6 (by decide) dX2_readItem_27 ?_
  refine j_icmp_lt (off := 5) 34 dX2_readItem_29 (by decide) (fun c1 => ?_) (fun c1 => ?_)
  · exact j_le [some (.ref 6), some (.ref 1), some (.int l2), some (.int l3)] (And.intro rfl (And.intro rfl (And.intro rfl (And.intro rfl True.intro)))) (v1 c1)
  · exact j_le [some (.ref 6), some (.ref 1), some (.int l2), some (.int l3)] (And.intro rfl (And.intro rfl (And.intro rfl (And.intro rfl True.intro)))) (v2 c1)
set_option maxRecDepth 100000 in
theorem bX2_readItem_32 {sc : Nat × (Nat → Int32)} {h : jH} {Q : jQ} {z z1 : Nat} {l2 l3 : Int32} (hz : z1 < z) (zb : 13 ≤ z1)
    (v1 : Q (.inl (some (.int 0))) (jG0 sc) h) :
    WP (mX2_readItem z) Q 32 [some (.ref 6), some (.ref 1), some (.int l2), some (.int l3)] [] (jG0 sc) h (0, 0) := by
  refine j_iconst (n := 0) 0 (by decide) dX2_readItem_32 ?_
  exact j_iret rfl rfl (Nat.zero_le _) (Nat.zero_le _) dX2_readItem_33 v1
set_option maxRecDepth 100000 in
theorem bX2_readItem_34 {sc : Nat × (Nat → Int32)} {h : jH} {Q : jQ} {z z1 : Nat} {l2 l3 : Int32} {P1 : jH → Prop} (hz : z1 < z) (zb : 13 ≤ z1)
    (k1 : JM mX8_next [.ref 1] (jG0 sc) h (jvoid sc P1))
    (v1 : ∀ h1 : jH, P1 h1 → l3 = 0 → WP (mX2_readItem z) Q 66 [some (.ref 6), some (.ref 1), some (.int l2), some (.int l3)] [] (jG0 sc) h1 (0, 0))
    (v2 : ∀ h1 : jH, P1 h1 → ¬ l3 = 0 → WP (mX2_readItem z) Q 42 [some (.ref 6), some (.ref 1), some (.int l2), some (.int l3)] [] (jG0 sc) h1 (0, 0)) :
    WP (mX2_readItem z) Q 34 [some (.ref 6), some (.ref 1), some (.int l2), some (.int l3)] [] (jG0 sc) h (0, 0) := by
  refine j_aload_n (i := 1) rfl dX2_readItem_34 ?_
  refine j_callVN (idx := 46) (As := []) (ci := 8) (n := 0) k1 jvoid_nt (jTbl (jtb4 189 rfl)) sX8_next kX8_next rfl ⟨rfl, (show yX8_next.cls ≠ "java/lang/invoke/MethodHandle" by decide +kernel), (show yX8_next.cls ≠ "java/lang/invoke/VarHandle" by decide +kernel), (show (parseMethodDescriptor yX8_next.desc).map (fun d => d.parameters.length) = some 0 by decide +kernel)⟩ rfl ⟨Nat.lt_trans (Nat.lt_of_lt_of_le (show mH mX8_next < 13 by decide) zb) hz, by decide⟩ (Nat.le_of_ble_eq_true rfl) rfl (Nat.le_of_ble_eq_true rfl) (Nat.le_of_ble_eq_true rfl) ⟨Nat.zero_le _, Nat.zero_le _⟩ dX2_readItem_35 (fun r Γ' h1 q => ?_)
  obtain ⟨q0, rfl, p1⟩ := q; cases q0
  refine j_eqst [] (by rfl) ?_
  refine j_iload_n (i := 3) rfl dX2_readItem_38 ?_
  refine j_if_eq (off := 27) 66 dX2_readItem_39 (by decide) (fun c1 => ?_) (fun c1 => ?_)
  · exact j_le [some (.ref 6), some (.ref 1), some (.int l2), some (.int l3)] (And.intro rfl (And.intro rfl (And.intro rfl (And.intro rfl True.intro)))) (v1 h1 p1 c1)
  · exact j_le [some (.ref 6), some (.ref 1), some (.int l2), some (.int l3)] (And.intro rfl (And.intro rfl (And.intro rfl (And.intro rfl True.intro)))) (v2 h1 p1 c1)
set_option maxRecDepth 100000 in
theorem bX2_readItem_42 {sc : Nat × (Nat → Int32)} {h : jH} {Q : jQ} {z z1 : Nat} {l2 l3 : Int32} {P1 : Int32 → jH → Prop} (hz : z1 < z) (zb : 13 ≤ z1)
    (k1 : JM (mX2_readItem z1) [.ref 6, .ref 1, .int (l2 + 1)] (jG0 sc) h (jint sc P1))
    (v1 : ∀ (x1 : Int32) (h1 : jH), P1 x1 h1 → ¬ x1 = 0 → WP (mX2_readItem z) Q 55 [some (.ref 6), some (.ref 1), some (.int l2), some (.int l3)] [] (jG0 sc) h1 (0, 0))
    (v2 : ∀ (x1 : Int32) (h1 : jH), P1 x1 h1 → x1 = 0 → WP (mX2_readItem z) Q 53 [some (.ref 6), some (.ref 1), some (.int l2), some (.int l3)] [] (jG0 sc) h1 (0, 0)) :
    WP (mX2_readItem z) Q 42 [some (.ref 6), some (.ref 1), some (.int l2), some (.int l3)] [] (jG0 sc) h (0, 0) := by
  refine j_aload_n (i := 0) rfl dX2_readItem_42 ?_
  refine j_aload_n (i := 1) rfl dX2_readItem_43 ?_
  refine j_iload_n (i := 2) rfl dX2_readItem_44 ?_
  refine j_iconst (n := 1) 1 (by decide) dX2_readItem_45 ?_
  refine j_iadd dX2_readItem_46 ?_
  refine j_callV (idx := 53) (As := [.ref 1, .int (l2 + 1)]) (ci := 2) (n := 2) k1 jint_nt (jlkT (jtb4 171 rfl) rfl) sX2_readItem kX2_readItem rfl ⟨rfl, (show yX2_readItem.cls ≠ "java/lang/invoke/MethodHandle" by decide +kernel), (show yX2_readItem.cls ≠ "java/lang/invoke/VarHandle" by decide +kernel), (show (parseMethodDescriptor yX2_readItem.desc).map (fun d => d.parameters.length) = some 2 by decide +kernel)⟩ rfl ⟨hz, Nat.le_of_ble_eq_true rfl⟩ (Nat.le_of_ble_eq_true rfl) rfl (Nat.le_of_ble_eq_true rfl) (Nat.le_of_ble_eq_true rfl) ⟨Nat.zero_le _, Nat.zero_le _⟩ dX2_readItem_47 (fun r Γ' h1 q => ?_)
  obtain ⟨x1, q0, rfl, p1⟩ := q; cases q0
  refine j_eqst [.int x1] (by rfl) ?_
  refine j_if_ne (off := 5) 55 dX2_readItem_50 (by decide) (fun c1 => ?_) (fun c1 => ?_)
  · exact j_le [some (.ref 6), some (.ref 1), some (.int l2), some (.int l3)] (And.intro rfl (And.intro rfl (And.intro rfl (And.intro rfl True.intro)))) (v1 x1 h1 p1 c1)
  · exact j_le [some (.ref 6), some (.ref 1), some (.int l2), some (.int l3)] (And.intro rfl (And.intro rfl (And.intro rfl (And.intro rfl True.intro)))) (v2 x1 h1 p1 c1)
set_option maxRecDepth 100000 in
theorem bX2_readItem_53 {sc : Nat × (Nat → Int32)} {h : jH} {Q : jQ} {z z1 : Nat} {l2 l3 : Int32} (hz : z1 < z) (zb : 13 ≤ z1)
    (v1 : Q (.inl (some (.int 0))) (jG0 sc) h) :
    WP (mX2_readItem z) Q 53 [some (.ref 6), some (.ref 1), some (.int l2), some (.int l3)] [] (jG0 sc) h (0, 0) := by
  refine j_iconst (n := 0) 0 (by decide) dX2_readItem_53 ?_
  exact j_iret rfl rfl (Nat.zero_le _) (Nat.zero_le _) dX2_readItem_54 v1
set_option maxRecDepth 100000 in
theorem bX2_readItem_55 {sc : Nat × (Nat → Int32)} {h : jH} {Q : jQ} {z z1 : Nat} {l2 l3 : Int32} {P1 : jH → Prop} (hz : z1 < z) (zb : 13 ≤ z1)
    (k1 : JM mX1_add [.ref 7, .int (-3)] (jG0 sc) h (jvoid sc P1))
    (v1 : ∀ h1 : jH, P1 h1 → Q (.inl (some (.int 1))) (jG0 sc) h1) :
    WP (mX2_readItem z) Q 55 [some (.ref 6), some (.ref 1), some (.int l2), some (.int l3)] [] (jG0 sc) h (0, 0) := by
  refine j_aload_n (i := 0) rfl dX2_readItem_55 ?_
  refine j_getR (idx := 12) (ci := 2) (k := 0) (nest := false) (show (2, 12, 2, 0, false) ∈ jFT by decide) rfl (Nat.le_of_ble_eq_true rfl) rfl (a := 7) rfl dX2_readItem_56 ?_
  refine j_bipush (n := (-3)) (-3) (by decide) dX2_readItem_59 ?_
  refine j_callVN (idx := 49) (As := [.int (-3)]) (ci := 1) (n := 1) k1 jvoid_nt (jTbl (jtb4 194 rfl)) sX1_add kX1_add rfl ⟨rfl, (show yX1_add.cls ≠ "java/lang/invoke/MethodHandle" by decide +kernel), (show yX1_add.cls ≠ "java/lang/invoke/VarHandle" by decide +kernel), (show (parseMethodDescriptor yX1_add.desc).map (fun d => d.parameters.length) = some 1 by decide +kernel)⟩ rfl ⟨Nat.lt_trans (Nat.lt_of_lt_of_le (show mH mX1_add < 13 by decide) zb) hz, by decide⟩ (Nat.le_of_ble_eq_true rfl) rfl (Nat.le_of_ble_eq_true rfl) (Nat.le_of_ble_eq_true rfl) ⟨Nat.zero_le _, Nat.zero_le _⟩ dX2_readItem_61 (fun r Γ' h1 q => ?_)
  obtain ⟨q0, rfl, p1⟩ := q; cases q0
  refine j_eqst [] (by rfl) ?_
  refine j_iconst (n := 1) 1 (by decide) dX2_readItem_64 ?_
  exact j_iret rfl rfl (Nat.zero_le _) (Nat.zero_le _) dX2_readItem_65 (v1 h1 p1)
set_option maxRecDepth 100000 in
theorem bX2_readItem_66 {sc : Nat × (Nat → Int32)} {h : jH} {Q : jQ} {z z1 : Nat} {l2 l3 : Int32} {P1 : Int32 → jH → Prop} (hz : z1 < z) (zb : 13 ≤ z1)
    (k1 : JM (mX2_readCondition z1) [.ref 6, .ref 1, .int (l2 + 1)] (jG0 sc) h (jint sc P1))
    (v1 : ∀ (x1 : Int32) (h1 : jH), P1 x1 h1 → x1 = 0 → WP (mX2_readItem z) Q 86 [some (.ref 6), some (.ref 1), some (.int l2), some (.int l3)] [] (jG0 sc) h1 (0, 0))
    (v2 : ∀ (x1 : Int32) (h1 : jH), P1 x1 h1 → ¬ x1 = 0 → WP (mX2_readItem z) Q 77 [some (.ref 6), some (.ref 1), some (.int l2), some (.int l3)] [] (jG0 sc) h1 (0, 0)) :
    WP (mX2_readItem z) Q 66 [some (.ref 6), some (.ref 1), some (.int l2), some (.int l3)] [] (jG0 sc) h (0, 0) := by
  refine j_aload_n (i := 0) rfl dX2_readItem_66 ?_
  refine j_aload_n (i := 1) rfl dX2_readItem_67 ?_
  refine j_iload_n (i := 2) rfl dX2_readItem_68 ?_
  refine j_iconst (n := 1) 1 (by decide) dX2_readItem_69 ?_
  refine j_iadd dX2_readItem_70 ?_
  refine j_callV (idx := 27) (As := [.ref 1, .int (l2 + 1)]) (ci := 2) (n := 2) k1 jint_nt (jlkT (jtb4 163 rfl) rfl) sX2_readCondition kX2_readCondition rfl ⟨rfl, (show yX2_readCondition.cls ≠ "java/lang/invoke/MethodHandle" by decide +kernel), (show yX2_readCondition.cls ≠ "java/lang/invoke/VarHandle" by decide +kernel), (show (parseMethodDescriptor yX2_readCondition.desc).map (fun d => d.parameters.length) = some 2 by decide +kernel)⟩ rfl ⟨hz, Nat.le_of_ble_eq_true rfl⟩ (Nat.le_of_ble_eq_true rfl) rfl (Nat.le_of_ble_eq_true rfl) (Nat.le_of_ble_eq_true rfl) ⟨Nat.zero_le _, Nat.zero_le _⟩ dX2_readItem_71 (fun r Γ' h1 q => ?_)
  obtain ⟨x1, q0, rfl, p1⟩ := q; cases q0
  refine j_eqst [.int x1] (by rfl) ?_
  refine j_if_eq (off := 12) 86 dX2_readItem_74 (by decide) (fun c1 => ?_) (fun c1 => ?_)
  · exact j_le [some (.ref 6), some (.ref 1), some (.int l2), some (.int l3)] (And.intro rfl (And.intro rfl (And.intro rfl (And.intro rfl True.intro)))) (v1 x1 h1 p1 c1)
  · exact j_le [some (.ref 6), some (.ref 1), some (.int l2), some (.int l3)] (And.intro rfl (And.intro rfl (And.intro rfl (And.intro rfl True.intro)))) (v2 x1 h1 p1 c1)
set_option maxRecDepth 100000 in
theorem bX2_readItem_77 {sc : Nat × (Nat → Int32)} {h : jH} {Q : jQ} {z z1 : Nat} {l2 l3 : Int32} {P1 : Int32 → jH → Prop} (hz : z1 < z) (zb : 13 ≤ z1)
    (k1 : JM mX8_isMark [.ref 1, .int 41] (jG0 sc) h (jint sc P1))
    (v1 : ∀ (x1 : Int32) (h1 : jH), P1 x1 h1 → ¬ x1 = 0 → WP (mX2_readItem z) Q 88 [some (.ref 6), some (.ref 1), some (.int l2), some (.int l3)] [] (jG0 sc) h1 (0, 0))
    (v2 : ∀ (x1 : Int32) (h1 : jH), P1 x1 h1 → x1 = 0 → WP (mX2_readItem z) Q 86 [some (.ref 6), some (.ref 1), some (.int l2), some (.int l3)] [] (jG0 sc) h1 (0, 0)) :
    WP (mX2_readItem z) Q 77 [some (.ref 6), some (.ref 1), some (.int l2), some (.int l3)] [] (jG0 sc) h (0, 0) := by
  refine j_aload_n (i := 1) rfl dX2_readItem_77 ?_
  refine j_bipush (n := 41) 41 (by decide) dX2_readItem_78 ?_
  refine j_callVN (idx := 60) (As := [.int 41]) (ci := 8) (n := 1) k1 jint_nt (jTbl (jtb4 177 rfl)) sX8_isMark kX8_isMark rfl ⟨rfl, (show yX8_isMark.cls ≠ "java/lang/invoke/MethodHandle" by decide +kernel), (show yX8_isMark.cls ≠ "java/lang/invoke/VarHandle" by decide +kernel), (show (parseMethodDescriptor yX8_isMark.desc).map (fun d => d.parameters.length) = some 1 by decide +kernel)⟩ rfl ⟨Nat.lt_trans (Nat.lt_of_lt_of_le (show mH mX8_isMark < 13 by decide) zb) hz, by decide⟩ (Nat.le_of_ble_eq_true rfl) rfl (Nat.le_of_ble_eq_true rfl) (Nat.le_of_ble_eq_true rfl) ⟨Nat.zero_le _, Nat.zero_le _⟩ dX2_readItem_80 (fun r Γ' h1 q => ?_)
  obtain ⟨x1, q0, rfl, p1⟩ := q; cases q0
  refine j_eqst [.int x1] (by rfl) ?_
  refine j_if_ne (off := 5) 88 dX2_readItem_83 (by decide) (fun c1 => ?_) (fun c1 => ?_)
  · exact j_le [some (.ref 6), some (.ref 1), some (.int l2), some (.int l3)] (And.intro rfl (And.intro rfl (And.intro rfl (And.intro rfl True.intro)))) (v1 x1 h1 p1 c1)
  · exact j_le [some (.ref 6), some (.ref 1), some (.int l2), some (.int l3)] (And.intro rfl (And.intro rfl (And.intro rfl (And.intro rfl True.intro)))) (v2 x1 h1 p1 c1)
set_option maxRecDepth 100000 in
theorem bX2_readItem_86 {sc : Nat × (Nat → Int32)} {h : jH} {Q : jQ} {z z1 : Nat} {l2 l3 : Int32} (hz : z1 < z) (zb : 13 ≤ z1)
    (v1 : Q (.inl (some (.int 0))) (jG0 sc) h) :
    WP (mX2_readItem z) Q 86 [some (.ref 6), some (.ref 1), some (.int l2), some (.int l3)] [] (jG0 sc) h (0, 0) := by
  refine j_iconst (n := 0) 0 (by decide) dX2_readItem_86 ?_
  exact j_iret rfl rfl (Nat.zero_le _) (Nat.zero_le _) dX2_readItem_87 v1
set_option maxRecDepth 100000 in
theorem bX2_readItem_88 {sc : Nat × (Nat → Int32)} {h : jH} {Q : jQ} {z z1 : Nat} {l2 l3 : Int32} {P1 : jH → Prop} (hz : z1 < z) (zb : 13 ≤ z1)
    (k1 : JM mX8_next [.ref 1] (jG0 sc) h (jvoid sc P1))
    (v1 : ∀ h1 : jH, P1 h1 → Q (.inl (some (.int 1))) (jG0 sc) h1) :
    WP (mX2_readItem z) Q 88 [some (.ref 6), some (.ref 1), some (.int l2), some (.int l3)] [] (jG0 sc) h (0, 0) := by
  refine j_aload_n (i := 1) rfl dX2_readItem_88 ?_
  refine j_callVN (idx := 46) (As := []) (ci := 8) (n := 0) k1 jvoid_nt (jTbl (jtb4 189 rfl)) sX8_next kX8_next rfl ⟨rfl, (show yX8_next.cls ≠ "java/lang/invoke/MethodHandle" by decide +kernel), (show yX8_next.cls ≠ "java/lang/invoke/VarHandle" by decide +kernel), (show (parseMethodDescriptor yX8_next.desc).map (fun d => d.parameters.length) = some 0 by decide +kernel)⟩ rfl ⟨Nat.lt_trans (Nat.lt_of_lt_of_le (show mH mX8_next < 13 by decide) zb) hz, by decide⟩ (Nat.le_of_ble_eq_true rfl) rfl (Nat.le_of_ble_eq_true rfl) (Nat.le_of_ble_eq_true rfl) ⟨Nat.zero_le _, Nat.zero_le _⟩ dX2_readItem_89 (fun r Γ' h1 q => ?_)
  obtain ⟨q0, rfl, p1⟩ := q; cases q0
  refine j_eqst [] (by rfl) ?_
  refine j_iconst (n := 1) 1 (by decide) dX2_readItem_92 ?_
  exact j_iret rfl rfl (Nat.zero_le _) (Nat.zero_le _) dX2_readItem_93 (v1 h1 p1)
set_option maxRecDepth 100000 in
theorem rX2_readItem_0 {sc : Nat × (Nat → Int32)} {h : jH} {Q : jQ} {z z1 : Nat} {l2 : Int32} {P1 : Int32 → jH → Prop} {P2 : jH → Prop} {P3 : Int32 → jH → Prop} {P4 : Int32 → jH → Prop} {P5 : jH → Prop} {P6 : Int32 → jH → Prop} {P7 : jH → Prop} {P8 : Int32 → jH → Prop} {P9 : jH → Prop} {P10 : Int32 → jH → Prop} {P11 : Int32 → jH → Prop} {P12 : jH → Prop} {P13 : Int32 → jH → Prop} {P14 : jH → Prop} {P15 : Int32 → jH → Prop} (hz : z1 < z) (zb : 13 ≤ z1)
    (k1 : JM mX8_isWord [.ref 1, .ref 1008] (jG0 sc) h (jint sc P1))
    (k2 : ∀ (x1 : Int32) (h1 : jH), P1 x1 h1 → ¬ x1 = 0 → l2 < 6 → JM mX8_next [.ref 1] (jG0 sc) h1 (jvoid sc P2))
    (k3 : ∀ (x1 : Int32) (h1 : jH), P1 x1 h1 → ¬ x1 = 0 → l2 < 6 → ∀ h2 : jH, P2 h2 → x1 = 0 → JM (mX2_readCondition z1) [.ref 6, .ref 1, .int (l2 + 1)] (jG0 sc) h2 (jint sc P3))
    (v1 : ∀ (x1 : Int32) (h1 : jH), P1 x1 h1 → ¬ x1 = 0 → l2 < 6 → ∀ h2 : jH, P2 h2 → x1 = 0 → ∀ (x3 : Int32) (h3 : jH), P3 x3 h3 → x3 = 0 → Q (.inl (some (.int 0))) (jG0 sc) h3)
    (k4 : ∀ (x1 : Int32) (h1 : jH), P1 x1 h1 → ¬ x1 = 0 → l2 < 6 → ∀ h2 : jH, P2 h2 → x1 = 0 → ∀ (x3 : Int32) (h3 : jH), P3 x3 h3 → ¬ x3 = 0 → JM mX8_isMark [.ref 1, .int 41] (jG0 sc) h3 (jint sc P4))
    (k5 : ∀ (x1 : Int32) (h1 : jH), P1 x1 h1 → ¬ x1 = 0 → l2 < 6 → ∀ h2 : jH, P2 h2 → x1 = 0 → ∀ (x3 : Int32) (h3 : jH), P3 x3 h3 → ¬ x3 = 0 → ∀ (x4 : Int32) (h4 : jH), P4 x4 h4 → ¬ x4 = 0 → JM mX8_next [.ref 1] (jG0 sc) h4 (jvoid sc P5))
    (v2 : ∀ (x1 : Int32) (h1 : jH), P1 x1 h1 → ¬ x1 = 0 → l2 < 6 → ∀ h2 : jH, P2 h2 → x1 = 0 → ∀ (x3 : Int32) (h3 : jH), P3 x3 h3 → ¬ x3 = 0 → ∀ (x4 : Int32) (h4 : jH), P4 x4 h4 → ¬ x4 = 0 → ∀ h5 : jH, P5 h5 → Q (.inl (some (.int 1))) (jG0 sc) h5)
    (v3 : ∀ (x1 : Int32) (h1 : jH), P1 x1 h1 → ¬ x1 = 0 → l2 < 6 → ∀ h2 : jH, P2 h2 → x1 = 0 → ∀ (x3 : Int32) (h3 : jH), P3 x3 h3 → ¬ x3 = 0 → ∀ (x4 : Int32) (h4 : jH), P4 x4 h4 → x4 = 0 → Q (.inl (some (.int 0))) (jG0 sc) h4)
    (k6 : ∀ (x1 : Int32) (h1 : jH), P1 x1 h1 → ¬ x1 = 0 → l2 < 6 → ∀ h2 : jH, P2 h2 → ¬ x1 = 0 → JM (mX2_readItem z1) [.ref 6, .ref 1, .int (l2 + 1)] (jG0 sc) h2 (jint sc P6))
    (k7 : ∀ (x1 : Int32) (h1 : jH), P1 x1 h1 → ¬ x1 = 0 → l2 < 6 → ∀ h2 : jH, P2 h2 → ¬ x1 = 0 → ∀ (x6 : Int32) (h6 : jH), P6 x6 h6 → ¬ x6 = 0 → JM mX1_add [.ref 7, .int (-3)] (jG0 sc) h6 (jvoid sc P7))
    (v4 : ∀ (x1 : Int32) (h1 : jH), P1 x1 h1 → ¬ x1 = 0 → l2 < 6 → ∀ h2 : jH, P2 h2 → ¬ x1 = 0 → ∀ (x6 : Int32) (h6 : jH), P6 x6 h6 → ¬ x6 = 0 → ∀ h7 : jH, P7 h7 → Q (.inl (some (.int 1))) (jG0 sc) h7)
    (v5 : ∀ (x1 : Int32) (h1 : jH), P1 x1 h1 → ¬ x1 = 0 → l2 < 6 → ∀ h2 : jH, P2 h2 → ¬ x1 = 0 → ∀ (x6 : Int32) (h6 : jH), P6 x6 h6 → x6 = 0 → Q (.inl (some (.int 0))) (jG0 sc) h6)
    (v6 : ∀ (x1 : Int32) (h1 : jH), P1 x1 h1 → ¬ x1 = 0 → ¬ l2 < 6 → Q (.inl (some (.int 0))) (jG0 sc) h1)
    (k8 : ∀ (x1 : Int32) (h1 : jH), P1 x1 h1 → x1 = 0 → JM mX8_isMark [.ref 1, .int 40] (jG0 sc) h1 (jint sc P8))
    (k9 : ∀ (x1 : Int32) (h1 : jH), P1 x1 h1 → x1 = 0 → ∀ (x8 : Int32) (h8 : jH), P8 x8 h8 → ¬ x8 = 0 → l2 < 6 → JM mX8_next [.ref 1] (jG0 sc) h8 (jvoid sc P9))
    (k10 : ∀ (x1 : Int32) (h1 : jH), P1 x1 h1 → x1 = 0 → ∀ (x8 : Int32) (h8 : jH), P8 x8 h8 → ¬ x8 = 0 → l2 < 6 → ∀ h9 : jH, P9 h9 → x1 = 0 → JM (mX2_readCondition z1) [.ref 6, .ref 1, .int (l2 + 1)] (jG0 sc) h9 (jint sc P10))
    (v7 : ∀ (x1 : Int32) (h1 : jH), P1 x1 h1 → x1 = 0 → ∀ (x8 : Int32) (h8 : jH), P8 x8 h8 → ¬ x8 = 0 → l2 < 6 → ∀ h9 : jH, P9 h9 → x1 = 0 → ∀ (x10 : Int32) (h10 : jH), P10 x10 h10 → x10 = 0 → Q (.inl (some (.int 0))) (jG0 sc) h10)
    (k11 : ∀ (x1 : Int32) (h1 : jH), P1 x1 h1 → x1 = 0 → ∀ (x8 : Int32) (h8 : jH), P8 x8 h8 → ¬ x8 = 0 → l2 < 6 → ∀ h9 : jH, P9 h9 → x1 = 0 → ∀ (x10 : Int32) (h10 : jH), P10 x10 h10 → ¬ x10 = 0 → JM mX8_isMark [.ref 1, .int 41] (jG0 sc) h10 (jint sc P11))
    (k12 : ∀ (x1 : Int32) (h1 : jH), P1 x1 h1 → x1 = 0 → ∀ (x8 : Int32) (h8 : jH), P8 x8 h8 → ¬ x8 = 0 → l2 < 6 → ∀ h9 : jH, P9 h9 → x1 = 0 → ∀ (x10 : Int32) (h10 : jH), P10 x10 h10 → ¬ x10 = 0 → ∀ (x11 : Int32) (h11 : jH), P11 x11 h11 → ¬ x11 = 0 → JM mX8_next [.ref 1] (jG0 sc) h11 (jvoid sc P12))
    (v8 : ∀ (x1 : Int32) (h1 : jH), P1 x1 h1 → x1 = 0 → ∀ (x8 : Int32) (h8 : jH), P8 x8 h8 → ¬ x8 = 0 → l2 < 6 → ∀ h9 : jH, P9 h9 → x1 = 0 → ∀ (x10 : Int32) (h10 : jH), P10 x10 h10 → ¬ x10 = 0 → ∀ (x11 : Int32) (h11 : jH), P11 x11 h11 → ¬ x11 = 0 → ∀ h12 : jH, P12 h12 → Q (.inl (some (.int 1))) (jG0 sc) h12)
    (v9 : ∀ (x1 : Int32) (h1 : jH), P1 x1 h1 → x1 = 0 → ∀ (x8 : Int32) (h8 : jH), P8 x8 h8 → ¬ x8 = 0 → l2 < 6 → ∀ h9 : jH, P9 h9 → x1 = 0 → ∀ (x10 : Int32) (h10 : jH), P10 x10 h10 → ¬ x10 = 0 → ∀ (x11 : Int32) (h11 : jH), P11 x11 h11 → x11 = 0 → Q (.inl (some (.int 0))) (jG0 sc) h11)
    (k13 : ∀ (x1 : Int32) (h1 : jH), P1 x1 h1 → x1 = 0 → ∀ (x8 : Int32) (h8 : jH), P8 x8 h8 → ¬ x8 = 0 → l2 < 6 → ∀ h9 : jH, P9 h9 → ¬ x1 = 0 → JM (mX2_readItem z1) [.ref 6, .ref 1, .int (l2 + 1)] (jG0 sc) h9 (jint sc P13))
    (k14 : ∀ (x1 : Int32) (h1 : jH), P1 x1 h1 → x1 = 0 → ∀ (x8 : Int32) (h8 : jH), P8 x8 h8 → ¬ x8 = 0 → l2 < 6 → ∀ h9 : jH, P9 h9 → ¬ x1 = 0 → ∀ (x13 : Int32) (h13 : jH), P13 x13 h13 → ¬ x13 = 0 → JM mX1_add [.ref 7, .int (-3)] (jG0 sc) h13 (jvoid sc P14))
    (v10 : ∀ (x1 : Int32) (h1 : jH), P1 x1 h1 → x1 = 0 → ∀ (x8 : Int32) (h8 : jH), P8 x8 h8 → ¬ x8 = 0 → l2 < 6 → ∀ h9 : jH, P9 h9 → ¬ x1 = 0 → ∀ (x13 : Int32) (h13 : jH), P13 x13 h13 → ¬ x13 = 0 → ∀ h14 : jH, P14 h14 → Q (.inl (some (.int 1))) (jG0 sc) h14)
    (v11 : ∀ (x1 : Int32) (h1 : jH), P1 x1 h1 → x1 = 0 → ∀ (x8 : Int32) (h8 : jH), P8 x8 h8 → ¬ x8 = 0 → l2 < 6 → ∀ h9 : jH, P9 h9 → ¬ x1 = 0 → ∀ (x13 : Int32) (h13 : jH), P13 x13 h13 → x13 = 0 → Q (.inl (some (.int 0))) (jG0 sc) h13)
    (v12 : ∀ (x1 : Int32) (h1 : jH), P1 x1 h1 → x1 = 0 → ∀ (x8 : Int32) (h8 : jH), P8 x8 h8 → ¬ x8 = 0 → ¬ l2 < 6 → Q (.inl (some (.int 0))) (jG0 sc) h8)
    (k15 : ∀ (x1 : Int32) (h1 : jH), P1 x1 h1 → x1 = 0 → ∀ (x8 : Int32) (h8 : jH), P8 x8 h8 → x8 = 0 → JM mX2_readComparison [.ref 6, .ref 1] (jG0 sc) h8 (jint sc P15))
    (o1 : ∀ (x1 : Int32) (h1 : jH), P1 x1 h1 → x1 = 0 → ∀ (x8 : Int32) (h8 : jH), P8 x8 h8 → x8 = 0 → ∀ (x15 : Int32) (h15 : jH), P15 x15 h15 → x15 = 0 ∨ x15 = 1)
    (v13 : ∀ (x1 : Int32) (h1 : jH), P1 x1 h1 → x1 = 0 → ∀ (x8 : Int32) (h8 : jH), P8 x8 h8 → x8 = 0 → ∀ (x15 : Int32) (h15 : jH), P15 x15 h15 → Q (.inl (some (.int x15))) (jG0 sc) h15) :
    WP (mX2_readItem z) Q 0 [some (.ref 6), some (.ref 1), some (.int l2), none] [] (jG0 sc) h (0, 0) := by
  exact (bX2_readItem_0 hz zb k1 (fun x1 h1 p1 c1 => (bX2_readItem_26 hz zb (fun c2 => (bX2_readItem_34 hz zb (k2 x1 h1 p1 c1 c2) (fun h2 p2 c3 => (bX2_readItem_66 hz zb (k3 x1 h1 p1 c1 c2 h2 p2 c3) (fun x3 h3 p3 c4 => (bX2_readItem_86 hz zb (v1 x1 h1 p1 c1 c2 h2 p2 c3 x3 h3 p3 c4))) (fun x3 h3 p3 c4 => (bX2_readItem_77 hz zb (k4 x1 h1 p1 c1 c2 h2 p2 c3 x3 h3 p3 c4) (fun x4 h4 p4 c5 => (bX2_readItem_88 hz zb (k5 x1 h1 p1 c1 c2 h2 p2 c3 x3 h3 p3 c4 x4 h4 p4 c5) (fun h5 p5 => (v2 x1 h1 p1 c1 c2 h2 p2 c3 x3 h3 p3 c4 x4 h4 p4 c5 h5 p5)))) (fun x4 h4 p4 c5 => (bX2_readItem_86 hz zb (v3 x1 h1 p1 c1 c2 h2 p2 c3 x3 h3 p3 c4 x4 h4 p4 c5))))))) (fun h2 p2 c3 => (bX2_readItem_42 hz zb (k6 x1 h1 p1 c1 c2 h2 p2 c3) (fun x6 h6 p6 c6 => (bX2_readItem_55 hz zb (k7 x1 h1 p1 c1 c2 h2 p2 c3 x6 h6 p6 c6) (fun h7 p7 => (v4 x1 h1 p1 c1 c2 h2 p2 c3 x6 h6 p6 c6 h7 p7)))) (fun x6 h6 p6 c6 => (bX2_readItem_53 hz zb (v5 x1 h1 p1 c1 c2 h2 p2 c3 x6 h6 p6 c6))))))) (fun c2 => (bX2_readItem_32 hz zb (v6 x1 h1 p1 c1 c2))))) (fun x1 h1 p1 c1 => (bX2_readItem_11 hz zb (k8 x1 h1 p1 c1) (fun x8 h8 p8 c7 => (bX2_readItem_26 hz zb (fun c8 => (bX2_readItem_34 hz zb (k9 x1 h1 p1 c1 x8 h8 p8 c7 c8) (fun h9 p9 c9 => (bX2_readItem_66 hz zb (k10 x1 h1 p1 c1 x8 h8 p8 c7 c8 h9 p9 c9) (fun x10 h10 p10 c10 => (bX2_readItem_86 hz zb (v7 x1 h1 p1 c1 x8 h8 p8 c7 c8 h9 p9 c9 x10 h10 p10 c10))) (fun x10 h10 p10 c10 => (bX2_readItem_77 hz zb (k11 x1 h1 p1 c1 x8 h8 p8 c7 c8 h9 p9 c9 x10 h10 p10 c10) (fun x11 h11 p11 c11 => (bX2_readItem_88 hz zb (k12 x1 h1 p1 c1 x8 h8 p8 c7 c8 h9 p9 c9 x10 h10 p10 c10 x11 h11 p11 c11) (fun h12 p12 => (v8 x1 h1 p1 c1 x8 h8 p8 c7 c8 h9 p9 c9 x10 h10 p10 c10 x11 h11 p11 c11 h12 p12)))) (fun x11 h11 p11 c11 => (bX2_readItem_86 hz zb (v9 x1 h1 p1 c1 x8 h8 p8 c7 c8 h9 p9 c9 x10 h10 p10 c10 x11 h11 p11 c11))))))) (fun h9 p9 c9 => (bX2_readItem_42 hz zb (k13 x1 h1 p1 c1 x8 h8 p8 c7 c8 h9 p9 c9) (fun x13 h13 p13 c12 => (bX2_readItem_55 hz zb (k14 x1 h1 p1 c1 x8 h8 p8 c7 c8 h9 p9 c9 x13 h13 p13 c12) (fun h14 p14 => (v10 x1 h1 p1 c1 x8 h8 p8 c7 c8 h9 p9 c9 x13 h13 p13 c12 h14 p14)))) (fun x13 h13 p13 c12 => (bX2_readItem_53 hz zb (v11 x1 h1 p1 c1 x8 h8 p8 c7 c8 h9 p9 c9 x13 h13 p13 c12))))))) (fun c8 => (bX2_readItem_32 hz zb (v12 x1 h1 p1 c1 x8 h8 p8 c7 c8))))) (fun x8 h8 p8 c7 => (bX2_readItem_20 hz zb (k15 x1 h1 p1 c1 x8 h8 p8 c7) (fun x15 h15 p15 => (o1 x1 h1 p1 c1 x8 h8 p8 c7 x15 h15 p15)) (fun x15 h15 p15 => (v13 x1 h1 p1 c1 x8 h8 p8 c7 x15 h15 p15)))))))
theorem dX2_readComparison_0 : decode (mC mX2_readComparison) 0 = .ok (.aload_n 0, 1) := by decide +kernel
theorem dX2_readComparison_1 : decode (mC mX2_readComparison) 1 = .ok (.aload_n 1, 1) := by decide +kernel
theorem dX2_readComparison_2 : decode (mC mX2_readComparison) 2 = .ok (.invokevirtual 68, 3) := by decide +kernel
theorem dX2_readComparison_5 : decode (mC mX2_readComparison) 5 = .ok (.istore_n 2, 1) := by decide +kernel
theorem dX2_readComparison_6 : decode (mC mX2_readComparison) 6 = .ok (.iload_n 2, 1) := by decide +kernel
theorem dX2_readComparison_7 : decode (mC mX2_readComparison) 7 = .ok (.iconst (-1), 1) := by decide +kernel
theorem dX2_readComparison_8 : decode (mC mX2_readComparison) 8 = .ok (.if_icmp .ne 5, 3) := by decide +kernel
theorem dX2_readComparison_11 : decode (mC mX2_readComparison) 11 = .ok (.iconst 0, 1) := by decide +kernel
theorem dX2_readComparison_12 : decode (mC mX2_readComparison) 12 = .ok (.ireturn, 1) := by decide +kernel
theorem dX2_readComparison_13 : decode (mC mX2_readComparison) 13 = .ok (.aload_n 1, 1) := by decide +kernel
theorem dX2_readComparison_14 : decode (mC mX2_readComparison) 14 = .ok (.invokevirtual 46, 3) := by decide +kernel
theorem dX2_readComparison_17 : decode (mC mX2_readComparison) 17 = .ok (.aload_n 1, 1) := by decide +kernel
theorem dX2_readComparison_18 : decode (mC mX2_readComparison) 18 = .ok (.invokevirtual 72, 3) := by decide +kernel
theorem dX2_readComparison_21 : decode (mC mX2_readComparison) 21 = .ok (.istore_n 3, 1) := by decide +kernel
theorem dX2_readComparison_22 : decode (mC mX2_readComparison) 22 = .ok (.iload_n 3, 1) := by decide +kernel
theorem dX2_readComparison_23 : decode (mC mX2_readComparison) 23 = .ok (.bipush 6, 2) := by decide +kernel
theorem dX2_readComparison_25 : decode (mC mX2_readComparison) 25 = .ok (.if_icmp .lt 9, 3) := by decide +kernel
theorem dX2_readComparison_28 : decode (mC mX2_readComparison) 28 = .ok (.iload_n 3, 1) := by decide +kernel
theorem dX2_readComparison_29 : decode (mC mX2_readComparison) 29 = .ok (.bipush 8, 2) := by decide +kernel
theorem dX2_readComparison_31 : decode (mC mX2_readComparison) 31 = .ok (.if_icmp .le 5, 3) := by decide +kernel
theorem dX2_readComparison_34 : decode (mC mX2_readComparison) 34 = .ok (.iconst 0, 1) := by decide +kernel
theorem dX2_readComparison_35 : decode (mC mX2_readComparison) 35 = .ok (.ireturn, 1) := by decide +kernel
theorem dX2_readComparison_36 : decode (mC mX2_readComparison) 36 = .ok (.aload_n 1, 1) := by decide +kernel
theorem dX2_readComparison_37 : decode (mC mX2_readComparison) 37 = .ok (.invokevirtual 46, 3) := by decide +kernel
theorem dX2_readComparison_40 : decode (mC mX2_readComparison) 40 = .ok (.aload_n 0, 1) := by decide +kernel
theorem dX2_readComparison_41 : decode (mC mX2_readComparison) 41 = .ok (.aload_n 1, 1) := by decide +kernel
theorem dX2_readComparison_42 : decode (mC mX2_readComparison) 42 = .ok (.invokevirtual 68, 3) := by decide +kernel
theorem dX2_readComparison_45 : decode (mC mX2_readComparison) 45 = .ok (.istore 4, 2) := by decide +kernel
theorem dX2_readComparison_47 : decode (mC mX2_readComparison) 47 = .ok (.iload 4, 2) := by decide +kernel
theorem dX2_readComparison_49 : decode (mC mX2_readComparison) 49 = .ok (.iconst (-1), 1) := by decide +kernel
theorem dX2_readComparison_50 : decode (mC mX2_readComparison) 50 = .ok (.if_icmp .ne 5, 3) := by decide +kernel
theorem dX2_readComparison_53 : decode (mC mX2_readComparison) 53 = .ok (.iconst 0, 1) := by decide +kernel
theorem dX2_readComparison_54 : decode (mC mX2_readComparison) 54 = .ok (.ireturn, 1) := by decide +kernel
theorem dX2_readComparison_55 : decode (mC mX2_readComparison) 55 = .ok (.aload_n 1, 1) := by decide +kernel
theorem dX2_readComparison_56 : decode (mC mX2_readComparison) 56 = .ok (.invokevirtual 46, 3) := by decide +kernel
theorem dX2_readComparison_59 : decode (mC mX2_readComparison) 59 = .ok (.aload_n 0, 1) := by decide +kernel
theorem dX2_readComparison_60 : decode (mC mX2_readComparison) 60 = .ok (.getfield 12, 3) := by decide +kernel
theorem dX2_readComparison_63 : decode (mC mX2_readComparison) 63 = .ok (.iload_n 2, 1) := by decide +kernel
theorem dX2_readComparison_64 : decode (mC mX2_readComparison) 64 = .ok (.iload_n 3, 1) := by decide +kernel
theorem dX2_readComparison_65 : decode (mC mX2_readComparison) 65 = .ok (.iload 4, 2) := by decide +kernel
theorem dX2_readComparison_67 : decode (mC mX2_readComparison) 67 = .ok (.invokestatic 76, 3) := by decide +kernel
theorem dX2_readComparison_70 : decode (mC mX2_readComparison) 70 = .ok (.invokevirtual 49, 3) := by decide +kernel
theorem dX2_readComparison_73 : decode (mC mX2_readComparison) 73 = .ok (.iconst 1, 1) := by decide +kernel
theorem dX2_readComparison_74 : decode (mC mX2_readComparison) 74 = .ok (.ireturn, 1) := by decide +kernel
set_option maxRecDepth 100000 in
theorem bX2_readComparison_0 {sc : Nat × (Nat → Int32)} {h : jH} {Q : jQ} {P1 : Int32 → jH → Prop}
    (k1 : JM mX2_lawAtom [.ref 6, .ref 1] (jG0 sc) h (jint sc P1))
    (v1 : ∀ (x1 : Int32) (h1 : jH), P1 x1 h1 → ¬ x1 = (-1) → WP mX2_readComparison Q 13 [some (.ref 6), some (.ref 1), some (.int x1), none, none] [] (jG0 sc) h1 (0, 0))
    (v2 : ∀ (x1 : Int32) (h1 : jH), P1 x1 h1 → x1 = (-1) → WP mX2_readComparison Q 11 [some (.ref 6), some (.ref 1), some (.int x1), none, none] [] (jG0 sc) h1 (0, 0)) :
    WP mX2_readComparison Q 0 [some (.ref 6), some (.ref 1), none, none, none] [] (jG0 sc) h (0, 0) := by
  refine j_aload_n (i := 0) rfl dX2_readComparison_0 ?_
  refine j_aload_n (i := 1) rfl dX2_readComparison_1 ?_
  refine j_callV (idx := 68) (As := [.ref 1]) (ci := 2) (n := 1) k1 jint_nt (jlkT (jtb4 182 rfl) rfl) sX2_lawAtom kX2_lawAtom rfl ⟨rfl, by decide +kernel, by decide +kernel, by decide +kernel⟩ rfl ⟨by decide, by decide⟩ (Nat.le_of_ble_eq_true rfl) rfl (Nat.le_of_ble_eq_true rfl) (Nat.le_of_ble_eq_true rfl) ⟨Nat.zero_le _, Nat.zero_le _⟩ dX2_readComparison_2 (fun r Γ' h1 q => ?_)
  obtain ⟨x1, q0, rfl, p1⟩ := q; cases q0
  refine j_eqst [.int x1] (by rfl) ?_
  refine j_istore_n (i := 2) dX2_readComparison_5 (Nat.le_of_ble_eq_true rfl) ?_
  refine j_iload_n (i := 2) rfl dX2_readComparison_6 ?_
  refine j_iconst (n := (-1)) (-1) (by decide) dX2_readComparison_7 ?_
  refine j_icmp_ne (off := 5) 13 dX2_readComparison_8 (by decide) (fun c1 => ?_) (fun c1 => ?_)
  · exact j_le [some (.ref 6), some (.ref 1), some (.int x1), none, none] (And.intro rfl (And.intro rfl (And.intro rfl True.intro))) (v1 x1 h1 p1 c1)
  · exact j_le [some (.ref 6), some (.ref 1), some (.int x1), none, none] (And.intro rfl (And.intro rfl (And.intro rfl True.intro))) (v2 x1 h1 p1 c1)
set_option maxRecDepth 100000 in
theorem bX2_readComparison_11 {sc : Nat × (Nat → Int32)} {h : jH} {Q : jQ} {l2 : Int32}
    (v1 : Q (.inl (some (.int 0))) (jG0 sc) h) :
    WP mX2_readComparison Q 11 [some (.ref 6), some (.ref 1), some (.int l2), none, none] [] (jG0 sc) h (0, 0) := by
  refine j_iconst (n := 0) 0 (by decide) dX2_readComparison_11 ?_
  exact j_iret rfl rfl (Nat.zero_le _) (Nat.zero_le _) dX2_readComparison_12 v1
set_option maxRecDepth 100000 in
theorem bX2_readComparison_13 {sc : Nat × (Nat → Int32)} {h : jH} {Q : jQ} {l2 : Int32} {P1 : jH → Prop} {P2 : Int32 → jH → Prop}
    (k1 : JM mX8_next [.ref 1] (jG0 sc) h (jvoid sc P1))
    (k2 : ∀ h1 : jH, P1 h1 → JM mX8_sign [.ref 1] (jG0 sc) h1 (jint sc P2))
    (v1 : ∀ h1 : jH, P1 h1 → ∀ (x2 : Int32) (h2 : jH), P2 x2 h2 → x2 < 6 → WP mX2_readComparison Q 34 [some (.ref 6), some (.ref 1), some (.int l2), some (.int x2), none] [] (jG0 sc) h2 (0, 0))
    (v2 : ∀ h1 : jH, P1 h1 → ∀ (x2 : Int32) (h2 : jH), P2 x2 h2 → ¬ x2 < 6 → WP mX2_readComparison Q 28 [some (.ref 6), some (.ref 1), some (.int l2), some (.int x2), none] [] (jG0 sc) h2 (0, 0)) :
    WP mX2_readComparison Q 13 [some (.ref 6), some (.ref 1), some (.int l2), none, none] [] (jG0 sc) h (0, 0) := by
  refine j_aload_n (i := 1) rfl dX2_readComparison_13 ?_
  refine j_callVN (idx := 46) (As := []) (ci := 8) (n := 0) k1 jvoid_nt (jTbl (jtb4 189 rfl)) sX8_next kX8_next rfl ⟨rfl, by decide +kernel, by decide +kernel, by decide +kernel⟩ rfl ⟨by decide, by decide⟩ (Nat.le_of_ble_eq_true rfl) rfl (Nat.le_of_ble_eq_true rfl) (Nat.le_of_ble_eq_true rfl) ⟨Nat.zero_le _, Nat.zero_le _⟩ dX2_readComparison_14 (fun r Γ' h1 q => ?_)
  obtain ⟨q0, rfl, p1⟩ := q; cases q0
  refine j_eqst [] (by rfl) ?_
  refine j_aload_n (i := 1) rfl dX2_readComparison_17 ?_
  refine j_callVN (idx := 72) (As := []) (ci := 8) (n := 0) (k2 h1 p1) jint_nt (jTbl (jtb4 190 rfl)) sX8_sign kX8_sign rfl ⟨rfl, by decide +kernel, by decide +kernel, by decide +kernel⟩ rfl ⟨by decide, by decide⟩ (Nat.le_of_ble_eq_true rfl) rfl (Nat.le_of_ble_eq_true rfl) (Nat.le_of_ble_eq_true rfl) ⟨Nat.zero_le _, Nat.zero_le _⟩ dX2_readComparison_18 (fun r Γ' h2 q => ?_)
  obtain ⟨x2, q0, rfl, p2⟩ := q; cases q0
  refine j_eqst [.int x2] (by rfl) ?_
  refine j_istore_n (i := 3) dX2_readComparison_21 (Nat.le_of_ble_eq_true rfl) ?_
  refine j_iload_n (i := 3) rfl dX2_readComparison_22 ?_
  refine j_bipush (n := 6) 6 (by decide) dX2_readComparison_23 ?_
  refine j_icmp_lt (off := 9) 34 dX2_readComparison_25 (by decide) (fun c1 => ?_) (fun c1 => ?_)
  · exact j_le [some (.ref 6), some (.ref 1), some (.int l2), some (.int x2), none] (And.intro rfl (And.intro rfl (And.intro rfl (And.intro rfl True.intro)))) (v1 h1 p1 x2 h2 p2 c1)
  · exact j_le [some (.ref 6), some (.ref 1), some (.int l2), some (.int x2), none] (And.intro rfl (And.intro rfl (And.intro rfl (And.intro rfl True.intro)))) (v2 h1 p1 x2 h2 p2 c1)
set_option maxRecDepth 100000 in
theorem bX2_readComparison_28 {sc : Nat × (Nat → Int32)} {h : jH} {Q : jQ} {l2 l3 : Int32}
    (v1 : l3 ≤ 8 → WP mX2_readComparison Q 36 [some (.ref 6), some (.ref 1), some (.int l2), some (.int l3), none] [] (jG0 sc) h (0, 0))
    (v2 : ¬ l3 ≤ 8 → WP mX2_readComparison Q 34 [some (.ref 6), some (.ref 1), some (.int l2), some (.int l3), none] [] (jG0 sc) h (0, 0)) :
    WP mX2_readComparison Q 28 [some (.ref 6), some (.ref 1), some (.int l2), some (.int l3), none] [] (jG0 sc) h (0, 0) := by
  refine j_iload_n (i := 3) rfl dX2_readComparison_28 ?_
  refine j_bipush (n := 8) 8 (by decide) dX2_readComparison_29 ?_
  refine j_icmp_le (off := 5) 36 dX2_readComparison_31 (by decide) (fun c1 => ?_) (fun c1 => ?_)
  · exact j_le [some (.ref 6), some (.ref 1), some (.int l2), some (.int l3), none] (And.intro rfl (And.intro rfl (And.intro rfl (And.intro rfl True.intro)))) (v1 c1)
  · exact j_le [some (.ref 6), some (.ref 1), some (.int l2), some (.int l3), none] (And.intro rfl (And.intro rfl (And.intro rfl (And.intro rfl True.intro)))) (v2 c1)
set_option maxRecDepth 100000 in
theorem bX2_readComparison_34 {sc : Nat × (Nat → Int32)} {h : jH} {Q : jQ} {l2 l3 : Int32}
    (v1 : Q (.inl (some (.int 0))) (jG0 sc) h) :
    WP mX2_readComparison Q 34 [some (.ref 6), some (.ref 1), some (.int l2), some (.int l3), none] [] (jG0 sc) h (0, 0) := by
  refine j_iconst (n := 0) 0 (by decide) dX2_readComparison_34 ?_
  exact j_iret rfl rfl (Nat.zero_le _) (Nat.zero_le _) dX2_readComparison_35 v1
set_option maxRecDepth 100000 in
theorem bX2_readComparison_36 {sc : Nat × (Nat → Int32)} {h : jH} {Q : jQ} {l2 l3 : Int32} {P1 : jH → Prop} {P2 : Int32 → jH → Prop}
    (k1 : JM mX8_next [.ref 1] (jG0 sc) h (jvoid sc P1))
    (k2 : ∀ h1 : jH, P1 h1 → JM mX2_lawAtom [.ref 6, .ref 1] (jG0 sc) h1 (jint sc P2))
    (v1 : ∀ h1 : jH, P1 h1 → ∀ (x2 : Int32) (h2 : jH), P2 x2 h2 → ¬ x2 = (-1) → WP mX2_readComparison Q 55 [some (.ref 6), some (.ref 1), some (.int l2), some (.int l3), some (.int x2)] [] (jG0 sc) h2 (0, 0))
    (v2 : ∀ h1 : jH, P1 h1 → ∀ (x2 : Int32) (h2 : jH), P2 x2 h2 → x2 = (-1) → WP mX2_readComparison Q 53 [some (.ref 6), some (.ref 1), some (.int l2), some (.int l3), some (.int x2)] [] (jG0 sc) h2 (0, 0)) :
    WP mX2_readComparison Q 36 [some (.ref 6), some (.ref 1), some (.int l2), some (.int l3), none] [] (jG0 sc) h (0, 0) := by
  refine j_aload_n (i := 1) rfl dX2_readComparison_36 ?_
  refine j_callVN (idx := 46) (As := []) (ci := 8) (n := 0) k1 jvoid_nt (jTbl (jtb4 189 rfl)) sX8_next kX8_next rfl ⟨rfl, by decide +kernel, by decide +kernel, by decide +kernel⟩ rfl ⟨by decide, by decide⟩ (Nat.le_of_ble_eq_true rfl) rfl (Nat.le_of_ble_eq_true rfl) (Nat.le_of_ble_eq_true rfl) ⟨Nat.zero_le _, Nat.zero_le _⟩ dX2_readComparison_37 (fun r Γ' h1 q => ?_)
  obtain ⟨q0, rfl, p1⟩ := q; cases q0
  refine j_eqst [] (by rfl) ?_
  refine j_aload_n (i := 0) rfl dX2_readComparison_40 ?_
  refine j_aload_n (i := 1) rfl dX2_readComparison_41 ?_
  refine j_callV (idx := 68) (As := [.ref 1]) (ci := 2) (n := 1) (k2 h1 p1) jint_nt (jlkT (jtb4 182 rfl) rfl) sX2_lawAtom kX2_lawAtom rfl ⟨rfl, by decide +kernel, by decide +kernel, by decide +kernel⟩ rfl ⟨by decide, by decide⟩ (Nat.le_of_ble_eq_true rfl) rfl (Nat.le_of_ble_eq_true rfl) (Nat.le_of_ble_eq_true rfl) ⟨Nat.zero_le _, Nat.zero_le _⟩ dX2_readComparison_42 (fun r Γ' h2 q => ?_)
  obtain ⟨x2, q0, rfl, p2⟩ := q; cases q0
  refine j_eqst [.int x2] (by rfl) ?_
  refine j_istore (i := 4) dX2_readComparison_45 (Nat.le_of_ble_eq_true rfl) ?_
  refine j_iload (i := 4) rfl dX2_readComparison_47 ?_
  refine j_iconst (n := (-1)) (-1) (by decide) dX2_readComparison_49 ?_
  refine j_icmp_ne (off := 5) 55 dX2_readComparison_50 (by decide) (fun c1 => ?_) (fun c1 => ?_)
  · exact j_le [some (.ref 6), some (.ref 1), some (.int l2), some (.int l3), some (.int x2)] (And.intro rfl (And.intro rfl (And.intro rfl (And.intro rfl (And.intro rfl True.intro))))) (v1 h1 p1 x2 h2 p2 c1)
  · exact j_le [some (.ref 6), some (.ref 1), some (.int l2), some (.int l3), some (.int x2)] (And.intro rfl (And.intro rfl (And.intro rfl (And.intro rfl (And.intro rfl True.intro))))) (v2 h1 p1 x2 h2 p2 c1)
set_option maxRecDepth 100000 in
theorem bX2_readComparison_53 {sc : Nat × (Nat → Int32)} {h : jH} {Q : jQ} {l2 l3 l4 : Int32}
    (v1 : Q (.inl (some (.int 0))) (jG0 sc) h) :
    WP mX2_readComparison Q 53 [some (.ref 6), some (.ref 1), some (.int l2), some (.int l3), some (.int l4)] [] (jG0 sc) h (0, 0) := by
  refine j_iconst (n := 0) 0 (by decide) dX2_readComparison_53 ?_
  exact j_iret rfl rfl (Nat.zero_le _) (Nat.zero_le _) dX2_readComparison_54 v1
set_option maxRecDepth 100000 in
theorem bX2_readComparison_55 {sc : Nat × (Nat → Int32)} {h : jH} {Q : jQ} {l2 l3 l4 : Int32} {P1 : jH → Prop} {P2 : Int32 → jH → Prop} {P3 : jH → Prop}
    (k1 : JM mX8_next [.ref 1] (jG0 sc) h (jvoid sc P1))
    (k2 : ∀ h1 : jH, P1 h1 → JM mX1_comparison [.int l2, .int l3, .int l4] (jG0 sc) h1 (jint sc P2))
    (k3 : ∀ h1 : jH, P1 h1 → ∀ (x2 : Int32) (h2 : jH), P2 x2 h2 → JM mX1_add [.ref 7, .int x2] (jG0 sc) h2 (jvoid sc P3))
    (v1 : ∀ h1 : jH, P1 h1 → ∀ (x2 : Int32) (h2 : jH), P2 x2 h2 → ∀ h3 : jH, P3 h3 → Q (.inl (some (.int 1))) (jG0 sc) h3) :
    WP mX2_readComparison Q 55 [some (.ref 6), some (.ref 1), some (.int l2), some (.int l3), some (.int l4)] [] (jG0 sc) h (0, 0) := by
  refine j_aload_n (i := 1) rfl dX2_readComparison_55 ?_
  refine j_callVN (idx := 46) (As := []) (ci := 8) (n := 0) k1 jvoid_nt (jTbl (jtb4 189 rfl)) sX8_next kX8_next rfl ⟨rfl, by decide +kernel, by decide +kernel, by decide +kernel⟩ rfl ⟨by decide, by decide⟩ (Nat.le_of_ble_eq_true rfl) rfl (Nat.le_of_ble_eq_true rfl) (Nat.le_of_ble_eq_true rfl) ⟨Nat.zero_le _, Nat.zero_le _⟩ dX2_readComparison_56 (fun r Γ' h1 q => ?_)
  obtain ⟨q0, rfl, p1⟩ := q; cases q0
  refine j_eqst [] (by rfl) ?_
  refine j_aload_n (i := 0) rfl dX2_readComparison_59 ?_
  refine j_getR (idx := 12) (ci := 2) (k := 0) (nest := false) (show (2, 12, 2, 0, false) ∈ jFT by decide) rfl (Nat.le_of_ble_eq_true rfl) rfl (a := 7) rfl dX2_readComparison_60 ?_
  refine j_iload_n (i := 2) rfl dX2_readComparison_63 ?_
  refine j_iload_n (i := 3) rfl dX2_readComparison_64 ?_
  refine j_iload (i := 4) rfl dX2_readComparison_65 ?_
  refine j_callSN (idx := 76) (As := [.int l2, .int l3, .int l4]) (n := 3) (k2 h1 p1) jint_nt (jTbl (jtb4 191 rfl)) sX1_comparison kX1_comparison rfl ⟨by decide +kernel, by decide +kernel, by decide +kernel⟩ rfl ⟨by decide, by decide⟩ (Nat.le_of_ble_eq_true rfl) ⟨Nat.zero_le _, Nat.zero_le _⟩ dX2_readComparison_67 (fun r Γ' h2 q => ?_)
  obtain ⟨x2, q0, rfl, p2⟩ := q; cases q0
  refine j_eqst [.int x2, .ref 7] (by rfl) ?_
  refine j_callVN (idx := 49) (As := [.int x2]) (ci := 1) (n := 1) (k3 h1 p1 x2 h2 p2) jvoid_nt (jTbl (jtb4 194 rfl)) sX1_add kX1_add rfl ⟨rfl, by decide +kernel, by decide +kernel, by decide +kernel⟩ rfl ⟨by decide, by decide⟩ (Nat.le_of_ble_eq_true rfl) rfl (Nat.le_of_ble_eq_true rfl) (Nat.le_of_ble_eq_true rfl) ⟨Nat.zero_le _, Nat.zero_le _⟩ dX2_readComparison_70 (fun r Γ' h3 q => ?_)
  obtain ⟨q0, rfl, p3⟩ := q; cases q0
  refine j_eqst [] (by rfl) ?_
  refine j_iconst (n := 1) 1 (by decide) dX2_readComparison_73 ?_
  exact j_iret rfl rfl (Nat.zero_le _) (Nat.zero_le _) dX2_readComparison_74 (v1 h1 p1 x2 h2 p2 h3 p3)
set_option maxRecDepth 100000 in
theorem rX2_readComparison_0 {sc : Nat × (Nat → Int32)} {h : jH} {Q : jQ} {P1 : Int32 → jH → Prop} {P2 : jH → Prop} {P3 : Int32 → jH → Prop} {P4 : jH → Prop} {P5 : Int32 → jH → Prop} {P6 : jH → Prop} {P7 : Int32 → jH → Prop} {P8 : jH → Prop}
    (k1 : JM mX2_lawAtom [.ref 6, .ref 1] (jG0 sc) h (jint sc P1))
    (k2 : ∀ (x1 : Int32) (h1 : jH), P1 x1 h1 → ¬ x1 = (-1) → JM mX8_next [.ref 1] (jG0 sc) h1 (jvoid sc P2))
    (k3 : ∀ (x1 : Int32) (h1 : jH), P1 x1 h1 → ¬ x1 = (-1) → ∀ h2 : jH, P2 h2 → JM mX8_sign [.ref 1] (jG0 sc) h2 (jint sc P3))
    (v1 : ∀ (x1 : Int32) (h1 : jH), P1 x1 h1 → ¬ x1 = (-1) → ∀ h2 : jH, P2 h2 → ∀ (x3 : Int32) (h3 : jH), P3 x3 h3 → x3 < 6 → Q (.inl (some (.int 0))) (jG0 sc) h3)
    (k4 : ∀ (x1 : Int32) (h1 : jH), P1 x1 h1 → ¬ x1 = (-1) → ∀ h2 : jH, P2 h2 → ∀ (x3 : Int32) (h3 : jH), P3 x3 h3 → ¬ x3 < 6 → x3 ≤ 8 → JM mX8_next [.ref 1] (jG0 sc) h3 (jvoid sc P4))
    (k5 : ∀ (x1 : Int32) (h1 : jH), P1 x1 h1 → ¬ x1 = (-1) → ∀ h2 : jH, P2 h2 → ∀ (x3 : Int32) (h3 : jH), P3 x3 h3 → ¬ x3 < 6 → x3 ≤ 8 → ∀ h4 : jH, P4 h4 → JM mX2_lawAtom [.ref 6, .ref 1] (jG0 sc) h4 (jint sc P5))
    (k6 : ∀ (x1 : Int32) (h1 : jH), P1 x1 h1 → ¬ x1 = (-1) → ∀ h2 : jH, P2 h2 → ∀ (x3 : Int32) (h3 : jH), P3 x3 h3 → ¬ x3 < 6 → x3 ≤ 8 → ∀ h4 : jH, P4 h4 → ∀ (x5 : Int32) (h5 : jH), P5 x5 h5 → ¬ x5 = (-1) → JM mX8_next [.ref 1] (jG0 sc) h5 (jvoid sc P6))
    (k7 : ∀ (x1 : Int32) (h1 : jH), P1 x1 h1 → ¬ x1 = (-1) → ∀ h2 : jH, P2 h2 → ∀ (x3 : Int32) (h3 : jH), P3 x3 h3 → ¬ x3 < 6 → x3 ≤ 8 → ∀ h4 : jH, P4 h4 → ∀ (x5 : Int32) (h5 : jH), P5 x5 h5 → ¬ x5 = (-1) → ∀ h6 : jH, P6 h6 → JM mX1_comparison [.int x1, .int x3, .int x5] (jG0 sc) h6 (jint sc P7))
    (k8 : ∀ (x1 : Int32) (h1 : jH), P1 x1 h1 → ¬ x1 = (-1) → ∀ h2 : jH, P2 h2 → ∀ (x3 : Int32) (h3 : jH), P3 x3 h3 → ¬ x3 < 6 → x3 ≤ 8 → ∀ h4 : jH, P4 h4 → ∀ (x5 : Int32) (h5 : jH), P5 x5 h5 → ¬ x5 = (-1) → ∀ h6 : jH, P6 h6 → ∀ (x7 : Int32) (h7 : jH), P7 x7 h7 → JM mX1_add [.ref 7, .int x7] (jG0 sc) h7 (jvoid sc P8))
    (v2 : ∀ (x1 : Int32) (h1 : jH), P1 x1 h1 → ¬ x1 = (-1) → ∀ h2 : jH, P2 h2 → ∀ (x3 : Int32) (h3 : jH), P3 x3 h3 → ¬ x3 < 6 → x3 ≤ 8 → ∀ h4 : jH, P4 h4 → ∀ (x5 : Int32) (h5 : jH), P5 x5 h5 → ¬ x5 = (-1) → ∀ h6 : jH, P6 h6 → ∀ (x7 : Int32) (h7 : jH), P7 x7 h7 → ∀ h8 : jH, P8 h8 → Q (.inl (some (.int 1))) (jG0 sc) h8)
    (v3 : ∀ (x1 : Int32) (h1 : jH), P1 x1 h1 → ¬ x1 = (-1) → ∀ h2 : jH, P2 h2 → ∀ (x3 : Int32) (h3 : jH), P3 x3 h3 → ¬ x3 < 6 → x3 ≤ 8 → ∀ h4 : jH, P4 h4 → ∀ (x5 : Int32) (h5 : jH), P5 x5 h5 → x5 = (-1) → Q (.inl (some (.int 0))) (jG0 sc) h5)
    (v4 : ∀ (x1 : Int32) (h1 : jH), P1 x1 h1 → ¬ x1 = (-1) → ∀ h2 : jH, P2 h2 → ∀ (x3 : Int32) (h3 : jH), P3 x3 h3 → ¬ x3 < 6 → ¬ x3 ≤ 8 → Q (.inl (some (.int 0))) (jG0 sc) h3)
    (v5 : ∀ (x1 : Int32) (h1 : jH), P1 x1 h1 → x1 = (-1) → Q (.inl (some (.int 0))) (jG0 sc) h1) :
    WP mX2_readComparison Q 0 [some (.ref 6), some (.ref 1), none, none, none] [] (jG0 sc) h (0, 0) := by
  exact (bX2_readComparison_0 k1 (fun x1 h1 p1 c1 => (bX2_readComparison_13 (k2 x1 h1 p1 c1) (fun h2 p2 => (k3 x1 h1 p1 c1 h2 p2)) (fun h2 p2 x3 h3 p3 c2 => (bX2_readComparison_34 (v1 x1 h1 p1 c1 h2 p2 x3 h3 p3 c2))) (fun h2 p2 x3 h3 p3 c2 => (bX2_readComparison_28 (fun c3 => (bX2_readComparison_36 (k4 x1 h1 p1 c1 h2 p2 x3 h3 p3 c2 c3) (fun h4 p4 => (k5 x1 h1 p1 c1 h2 p2 x3 h3 p3 c2 c3 h4 p4)) (fun h4 p4 x5 h5 p5 c4 => (bX2_readComparison_55 (k6 x1 h1 p1 c1 h2 p2 x3 h3 p3 c2 c3 h4 p4 x5 h5 p5 c4) (fun h6 p6 => (k7 x1 h1 p1 c1 h2 p2 x3 h3 p3 c2 c3 h4 p4 x5 h5 p5 c4 h6 p6)) (fun h6 p6 x7 h7 p7 => (k8 x1 h1 p1 c1 h2 p2 x3 h3 p3 c2 c3 h4 p4 x5 h5 p5 c4 h6 p6 x7 h7 p7)) (fun h6 p6 x7 h7 p7 h8 p8 => (v2 x1 h1 p1 c1 h2 p2 x3 h3 p3 c2 c3 h4 p4 x5 h5 p5 c4 h6 p6 x7 h7 p7 h8 p8)))) (fun h4 p4 x5 h5 p5 c4 => (bX2_readComparison_53 (v3 x1 h1 p1 c1 h2 p2 x3 h3 p3 c2 c3 h4 p4 x5 h5 p5 c4))))) (fun c3 => (bX2_readComparison_34 (v4 x1 h1 p1 c1 h2 p2 x3 h3 p3 c2 c3))))))) (fun x1 h1 p1 c1 => (bX2_readComparison_11 (v5 x1 h1 p1 c1))))
theorem dX2_lawAtom_0 : decode (mC mX2_lawAtom) 0 = .ok (.aload_n 1, 1) := by decide +kernel
theorem dX2_lawAtom_1 : decode (mC mX2_lawAtom) 1 = .ok (.iconst 4, 1) := by decide +kernel
theorem dX2_lawAtom_2 : decode (mC mX2_lawAtom) 2 = .ok (.invokevirtual 80, 3) := by decide +kernel
theorem dX2_lawAtom_5 : decode (mC mX2_lawAtom) 5 = .ok (.ifCond .eq 13, 3) := by decide +kernel
theorem dX2_lawAtom_8 : decode (mC mX2_lawAtom) 8 = .ok (.aload_n 1, 1) := by decide +kernel
theorem dX2_lawAtom_9 : decode (mC mX2_lawAtom) 9 = .ok (.getfield 84, 3) := by decide +kernel
theorem dX2_lawAtom_12 : decode (mC mX2_lawAtom) 12 = .ok (.bipush 10, 2) := by decide +kernel
theorem dX2_lawAtom_14 : decode (mC mX2_lawAtom) 14 = .ok (.iadd, 1) := by decide +kernel
theorem dX2_lawAtom_15 : decode (mC mX2_lawAtom) 15 = .ok (.goto 9, 3) := by decide +kernel
theorem dX2_lawAtom_18 : decode (mC mX2_lawAtom) 18 = .ok (.aload_n 1, 1) := by decide +kernel
theorem dX2_lawAtom_19 : decode (mC mX2_lawAtom) 19 = .ok (.ldc 87, 2) := by decide +kernel
theorem dX2_lawAtom_21 : decode (mC mX2_lawAtom) 21 = .ok (.invokevirtual 89, 3) := by decide +kernel
theorem dX2_lawAtom_24 : decode (mC mX2_lawAtom) 24 = .ok (.ireturn, 1) := by decide +kernel
set_option maxRecDepth 100000 in
theorem bX2_lawAtom_0 {sc : Nat × (Nat → Int32)} {h : jH} {Q : jQ} {P1 : Int32 → jH → Prop}
    (k1 : JM mX8_isNumber [.ref 1, .int 4] (jG0 sc) h (jint sc P1))
    (v1 : ∀ (x1 : Int32) (h1 : jH), P1 x1 h1 → x1 = 0 → WP mX2_lawAtom Q 18 [some (.ref 6), some (.ref 1)] [] (jG0 sc) h1 (0, 0))
    (v2 : ∀ (x1 : Int32) (h1 : jH), P1 x1 h1 → ¬ x1 = 0 → WP mX2_lawAtom Q 8 [some (.ref 6), some (.ref 1)] [] (jG0 sc) h1 (0, 0)) :
    WP mX2_lawAtom Q 0 [some (.ref 6), some (.ref 1)] [] (jG0 sc) h (0, 0) := by
  refine j_aload_n (i := 1) rfl dX2_lawAtom_0 ?_
  refine j_iconst (n := 4) 4 (by decide) dX2_lawAtom_1 ?_
  refine j_callVN (idx := 80) (As := [.int 4]) (ci := 8) (n := 1) k1 jint_nt (jTbl (jtb4 186 rfl)) sX8_isNumber kX8_isNumber rfl ⟨rfl, by decide +kernel, by decide +kernel, by decide +kernel⟩ rfl ⟨by decide, by decide⟩ (Nat.le_of_ble_eq_true rfl) rfl (Nat.le_of_ble_eq_true rfl) (Nat.le_of_ble_eq_true rfl) ⟨Nat.zero_le _, Nat.zero_le _⟩ dX2_lawAtom_2 (fun r Γ' h1 q => ?_)
  obtain ⟨x1, q0, rfl, p1⟩ := q; cases q0
  refine j_eqst [.int x1] (by rfl) ?_
  refine j_if_eq (off := 13) 18 dX2_lawAtom_5 (by decide) (fun c1 => ?_) (fun c1 => ?_)
  · exact j_le [some (.ref 6), some (.ref 1)] (And.intro rfl (And.intro rfl True.intro)) (v1 x1 h1 p1 c1)
  · exact j_le [some (.ref 6), some (.ref 1)] (And.intro rfl (And.intro rfl True.intro)) (v2 x1 h1 p1 c1)
set_option maxRecDepth 100000 in
theorem bX2_lawAtom_8 {sc : Nat × (Nat → Int32)} {h : jH} {Q : jQ}
    (v1 : WP mX2_lawAtom Q 24 [some (.ref 6), some (.ref 1)] [.int ((h 1 5) + 10)] (jG0 sc) h (0, 0)) :
    WP mX2_lawAtom Q 8 [some (.ref 6), some (.ref 1)] [] (jG0 sc) h (0, 0) := by
  refine j_aload_n (i := 1) rfl dX2_lawAtom_8 ?_
  refine j_getI (idx := 84) (ci := 8) (k := 5) (nest := true) (show (2, 84, 8, 5, true) ∈ jFT by decide) rfl (Nat.le_of_ble_eq_true rfl) rfl dX2_lawAtom_9 ?_
  refine j_bipush (n := 10) 10 (by decide) dX2_lawAtom_12 ?_
  refine j_iadd dX2_lawAtom_14 ?_
  refine j_goto (off := 9) 24 dX2_lawAtom_15 (by decide) ?_
  exact j_le [some (.ref 6), some (.ref 1)] (And.intro rfl (And.intro rfl True.intro)) v1
set_option maxRecDepth 100000 in
theorem bX2_lawAtom_18 {sc : Nat × (Nat → Int32)} {h : jH} {Q : jQ} {P1 : Int32 → jH → Prop}
    (k1 : JM mX8_letterOf [.ref 1, .ref 1009] (jG0 sc) h (jint sc P1))
    (v1 : ∀ (x1 : Int32) (h1 : jH), P1 x1 h1 → WP mX2_lawAtom Q 24 [some (.ref 6), some (.ref 1)] [.int x1] (jG0 sc) h1 (0, 0)) :
    WP mX2_lawAtom Q 18 [some (.ref 6), some (.ref 1)] [] (jG0 sc) h (0, 0) := by
  refine j_aload_n (i := 1) rfl dX2_lawAtom_18 ?_
  refine j_ldcS (idx := 87) "rxy" 9 (show ("MendBench$LawReade\x72", 87, "rxy", 9) ∈ jStr by decide +kernel) dX2_lawAtom_19 ?_
  refine j_callVN (idx := 89) (As := [.ref 1009]) (ci := 8) (n := 1) k1 jint_nt (jTbl (jtb4 188 rfl)) sX8_letterOf kX8_letterOf rfl ⟨rfl, by decide +kernel, by decide +kernel, by decide +kernel⟩ rfl ⟨by decide, by decide⟩ (Nat.le_of_ble_eq_true rfl) rfl (Nat.le_of_ble_eq_true rfl) (Nat.le_of_ble_eq_true rfl) ⟨Nat.zero_le _, Nat.zero_le _⟩ dX2_lawAtom_21 (fun r Γ' h1 q => ?_)
  obtain ⟨x1, q0, rfl, p1⟩ := q; cases q0
  refine j_eqst [.int x1] (by rfl) ?_
  exact j_le [some (.ref 6), some (.ref 1)] (And.intro rfl (And.intro rfl True.intro)) (v1 x1 h1 p1)
set_option maxRecDepth 100000 in
theorem bX2_lawAtom_24 {sc : Nat × (Nat → Int32)} {h : jH} {Q : jQ} {s0 : Int32}
    (v1 : Q (.inl (some (.int s0))) (jG0 sc) h) :
    WP mX2_lawAtom Q 24 [some (.ref 6), some (.ref 1)] [.int s0] (jG0 sc) h (0, 0) := by
  exact j_iret rfl rfl (Nat.zero_le _) (Nat.zero_le _) dX2_lawAtom_24 v1
set_option maxRecDepth 100000 in
theorem rX2_lawAtom_0 {sc : Nat × (Nat → Int32)} {h : jH} {Q : jQ} {P1 : Int32 → jH → Prop} {P2 : Int32 → jH → Prop}
    (k1 : JM mX8_isNumber [.ref 1, .int 4] (jG0 sc) h (jint sc P1))
    (k2 : ∀ (x1 : Int32) (h1 : jH), P1 x1 h1 → x1 = 0 → JM mX8_letterOf [.ref 1, .ref 1009] (jG0 sc) h1 (jint sc P2))
    (v1 : ∀ (x1 : Int32) (h1 : jH), P1 x1 h1 → x1 = 0 → ∀ (x2 : Int32) (h2 : jH), P2 x2 h2 → Q (.inl (some (.int x2))) (jG0 sc) h2)
    (v2 : ∀ (x1 : Int32) (h1 : jH), P1 x1 h1 → ¬ x1 = 0 → Q (.inl (some (.int ((h1 1 5) + 10)))) (jG0 sc) h1) :
    WP mX2_lawAtom Q 0 [some (.ref 6), some (.ref 1)] [] (jG0 sc) h (0, 0) := by
  exact (bX2_lawAtom_0 k1 (fun x1 h1 p1 c1 => (bX2_lawAtom_18 (k2 x1 h1 p1 c1) (fun x2 h2 p2 => (bX2_lawAtom_24 (v1 x1 h1 p1 c1 x2 h2 p2))))) (fun x1 h1 p1 c1 => (bX2_lawAtom_8 (bX2_lawAtom_24 (v2 x1 h1 p1 c1)))))
theorem dX8_add_0 : decode (mC mX8_add) 0 = .ok (.bipush 24, 2) := by decide +kernel
theorem dX8_add_2 : decode (mC mX8_add) 2 = .ok (.istore_n 2, 1) := by decide +kernel
theorem dX8_add_3 : decode (mC mX8_add) 3 = .ok (.iload_n 2, 1) := by decide +kernel
theorem dX8_add_4 : decode (mC mX8_add) 4 = .ok (.ifCond .lt 52, 3) := by decide +kernel
theorem dX8_add_7 : decode (mC mX8_add) 7 = .ok (.aload_n 0, 1) := by decide +kernel
theorem dX8_add_8 : decode (mC mX8_add) 8 = .ok (.getfield 15, 3) := by decide +kernel
theorem dX8_add_11 : decode (mC mX8_add) 11 = .ok (.ifCond .lt 39, 3) := by decide +kernel
theorem dX8_add_14 : decode (mC mX8_add) 14 = .ok (.aload_n 0, 1) := by decide +kernel
theorem dX8_add_15 : decode (mC mX8_add) 15 = .ok (.getfield 15, 3) := by decide +kernel
theorem dX8_add_18 : decode (mC mX8_add) 18 = .ok (.sipush 400, 3) := by decide +kernel
theorem dX8_add_21 : decode (mC mX8_add) 21 = .ok (.if_icmp .ge 29, 3) := by decide +kernel
theorem dX8_add_24 : decode (mC mX8_add) 24 = .ok (.aload_n 0, 1) := by decide +kernel
theorem dX8_add_25 : decode (mC mX8_add) 25 = .ok (.getfield 9, 3) := by decide +kernel
theorem dX8_add_28 : decode (mC mX8_add) 28 = .ok (.aload_n 0, 1) := by decide +kernel
theorem dX8_add_29 : decode (mC mX8_add) 29 = .ok (.getfield 15, 3) := by decide +kernel
theorem dX8_add_32 : decode (mC mX8_add) 32 = .ok (.iload_n 1, 1) := by decide +kernel
theorem dX8_add_33 : decode (mC mX8_add) 33 = .ok (.iload_n 2, 1) := by decide +kernel
theorem dX8_add_34 : decode (mC mX8_add) 34 = .ok (.iushr, 1) := by decide +kernel
theorem dX8_add_35 : decode (mC mX8_add) 35 = .ok (.sipush 255, 3) := by decide +kernel
theorem dX8_add_38 : decode (mC mX8_add) 38 = .ok (.iand, 1) := by decide +kernel
theorem dX8_add_39 : decode (mC mX8_add) 39 = .ok (.iastore, 1) := by decide +kernel
theorem dX8_add_40 : decode (mC mX8_add) 40 = .ok (.aload_n 0, 1) := by decide +kernel
theorem dX8_add_41 : decode (mC mX8_add) 41 = .ok (.dup, 1) := by decide +kernel
theorem dX8_add_42 : decode (mC mX8_add) 42 = .ok (.getfield 15, 3) := by decide +kernel
theorem dX8_add_45 : decode (mC mX8_add) 45 = .ok (.iconst 1, 1) := by decide +kernel
theorem dX8_add_46 : decode (mC mX8_add) 46 = .ok (.iadd, 1) := by decide +kernel
theorem dX8_add_47 : decode (mC mX8_add) 47 = .ok (.putfield 15, 3) := by decide +kernel
theorem dX8_add_50 : decode (mC mX8_add) 50 = .ok (.iinc 2 (-8), 3) := by decide +kernel
theorem dX8_add_53 : decode (mC mX8_add) 53 = .ok (.goto (-50), 3) := by decide +kernel
theorem dX8_add_56 : decode (mC mX8_add) 56 = .ok (.return_, 1) := by decide +kernel
set_option maxRecDepth 100000 in
theorem bX8_add_0 {sc : Nat × (Nat → Int32)} {h : jH} {Q : jQ} {l1 : Int32}
    (v1 : WP mX8_add Q 3 [some (.ref 1), some (.int l1), some (.int 24)] [] (jG0 sc) h (0, 0)) :
    WP mX8_add Q 0 [some (.ref 1), some (.int l1), none] [] (jG0 sc) h (0, 0) := by
  refine j_bipush (n := 24) 24 (by decide) dX8_add_0 ?_
  refine j_istore_n (i := 2) dX8_add_2 (Nat.le_of_ble_eq_true rfl) ?_
  exact j_le [some (.ref 1), some (.int l1), some (.int 24)] (And.intro rfl (And.intro rfl (And.intro rfl True.intro))) v1
set_option maxRecDepth 100000 in
theorem bX8_add_3 {sc : Nat × (Nat → Int32)} {h : jH} {Q : jQ} {l1 l2 : Int32}
    (v1 : l2 < 0 → WP mX8_add Q 56 [some (.ref 1), some (.int l1), some (.int l2)] [] (jG0 sc) h (0, 0))
    (v2 : ¬ l2 < 0 → WP mX8_add Q 7 [some (.ref 1), some (.int l1), some (.int l2)] [] (jG0 sc) h (0, 0)) :
    WP mX8_add Q 3 [some (.ref 1), some (.int l1), some (.int l2)] [] (jG0 sc) h (0, 0) := by
  refine j_iload_n (i := 2) rfl dX8_add_3 ?_
  refine j_if_lt (off := 52) 56 dX8_add_4 (by decide) (fun c1 => ?_) (fun c1 => ?_)
  · exact j_le [some (.ref 1), some (.int l1), some (.int l2)] (And.intro rfl (And.intro rfl (And.intro rfl True.intro))) (v1 c1)
  · exact j_le [some (.ref 1), some (.int l1), some (.int l2)] (And.intro rfl (And.intro rfl (And.intro rfl True.intro))) (v2 c1)
set_option maxRecDepth 100000 in
theorem bX8_add_7 {sc : Nat × (Nat → Int32)} {h : jH} {Q : jQ} {l1 l2 : Int32}
    (v1 : (h 1 1) < 0 → WP mX8_add Q 50 [some (.ref 1), some (.int l1), some (.int l2)] [] (jG0 sc) h (0, 0))
    (v2 : ¬ (h 1 1) < 0 → WP mX8_add Q 14 [some (.ref 1), some (.int l1), some (.int l2)] [] (jG0 sc) h (0, 0)) :
    WP mX8_add Q 7 [some (.ref 1), some (.int l1), some (.int l2)] [] (jG0 sc) h (0, 0) := by
  refine j_aload_n (i := 0) rfl dX8_add_7 ?_
  refine j_getI (idx := 15) (ci := 8) (k := 1) (nest := false) (show (8, 15, 8, 1, false) ∈ jFT by decide) rfl (Nat.le_of_ble_eq_true rfl) rfl dX8_add_8 ?_
  refine j_if_lt (off := 39) 50 dX8_add_11 (by decide) (fun c1 => ?_) (fun c1 => ?_)
  · exact j_le [some (.ref 1), some (.int l1), some (.int l2)] (And.intro rfl (And.intro rfl (And.intro rfl True.intro))) (v1 c1)
  · exact j_le [some (.ref 1), some (.int l1), some (.int l2)] (And.intro rfl (And.intro rfl (And.intro rfl True.intro))) (v2 c1)
set_option maxRecDepth 100000 in
theorem bX8_add_14 {sc : Nat × (Nat → Int32)} {h : jH} {Q : jQ} {l1 l2 : Int32}
    (v1 : 400 ≤ (h 1 1) → WP mX8_add Q 50 [some (.ref 1), some (.int l1), some (.int l2)] [] (jG0 sc) h (0, 0))
    (v2 : ¬ 400 ≤ (h 1 1) → WP mX8_add Q 24 [some (.ref 1), some (.int l1), some (.int l2)] [] (jG0 sc) h (0, 0)) :
    WP mX8_add Q 14 [some (.ref 1), some (.int l1), some (.int l2)] [] (jG0 sc) h (0, 0) := by
  refine j_aload_n (i := 0) rfl dX8_add_14 ?_
  refine j_getI (idx := 15) (ci := 8) (k := 1) (nest := false) (show (8, 15, 8, 1, false) ∈ jFT by decide) rfl (Nat.le_of_ble_eq_true rfl) rfl dX8_add_15 ?_
  refine j_sipush (n := 400) 400 (by decide) dX8_add_18 ?_
  refine j_icmp_ge (off := 29) 50 dX8_add_21 (by decide) (fun c1 => ?_) (fun c1 => ?_)
  · exact j_le [some (.ref 1), some (.int l1), some (.int l2)] (And.intro rfl (And.intro rfl (And.intro rfl True.intro))) (v1 c1)
  · exact j_le [some (.ref 1), some (.int l1), some (.int l2)] (And.intro rfl (And.intro rfl (And.intro rfl True.intro))) (v2 c1)
set_option maxRecDepth 100000 in
theorem bX8_add_24 {sc : Nat × (Nat → Int32)} {h : jH} {Q : jQ} {l1 l2 : Int32}
    (o1 : vp_in (h 1 1) 400)
    (v1 : WP mX8_add Q 50 [some (.ref 1), some (.int l1), some (.int l2)] [] (jG0 sc) (jput (jput h 2 ((h 1 1).toNatClampNeg) (((l1.toUInt32 >>> (((l2 : Int32)).toUInt32 &&& Int32.toUInt32 31)).toInt32) &&& 255)) 1 1 (((jput h 2 ((h 1 1).toNatClampNeg) (((l1.toUInt32 >>> (((l2 : Int32)).toUInt32 &&& Int32.toUInt32 31)).toInt32) &&& 255)) 1 1) + 1)) (0, 0)) :
    WP mX8_add Q 24 [some (.ref 1), some (.int l1), some (.int l2)] [] (jG0 sc) h (0, 0) := by
  refine j_aload_n (i := 0) rfl dX8_add_24 ?_
  refine j_getR (idx := 9) (ci := 8) (k := 0) (nest := false) (show (8, 9, 8, 0, false) ∈ jFT by decide) rfl (Nat.le_of_ble_eq_true rfl) rfl (a := 2) rfl dX8_add_25 ?_
  refine j_aload_n (i := 0) rfl dX8_add_28 ?_
  refine j_getI (idx := 15) (ci := 8) (k := 1) (nest := false) (show (8, 15, 8, 1, false) ∈ jFT by decide) rfl (Nat.le_of_ble_eq_true rfl) rfl dX8_add_29 ?_
  refine j_iload_n (i := 1) rfl dX8_add_32 ?_
  refine j_iload_n (i := 2) rfl dX8_add_33 ?_
  refine j_iushr dX8_add_34 ?_
  refine j_sipush (n := 255) 255 (by decide) dX8_add_35 ?_
  refine j_iand dX8_add_38 ?_
  refine j_iast (Nat.le_of_ble_eq_true rfl) rfl o1 dX8_add_39 ?_
  refine j_aload_n (i := 0) rfl dX8_add_40 ?_
  refine j_dup rfl dX8_add_41 ?_
  refine j_getI (idx := 15) (ci := 8) (k := 1) (nest := false) (show (8, 15, 8, 1, false) ∈ jFT by decide) rfl (Nat.le_of_ble_eq_true rfl) rfl dX8_add_42 ?_
  refine j_iconst (n := 1) 1 (by decide) dX8_add_45 ?_
  refine j_iadd dX8_add_46 ?_
  refine j_putI (idx := 15) (ci := 8) (k := 1) (nest := false) (show (8, 15, 8, 1, false) ∈ jFT by decide) rfl rfl rfl rfl (Nat.le_of_ble_eq_true rfl) rfl dX8_add_47 ?_
  exact j_le [some (.ref 1), some (.int l1), some (.int l2)] (And.intro rfl (And.intro rfl (And.intro rfl True.intro))) v1
set_option maxRecDepth 100000 in
theorem bX8_add_50 {sc : Nat × (Nat → Int32)} {h : jH} {Q : jQ} {l1 l2 : Int32}
    (v1 : WP mX8_add Q 3 [some (.ref 1), some (.int l1), some (.int (l2 + (-8)))] [] (jG0 sc) h (0, 0)) :
    WP mX8_add Q 50 [some (.ref 1), some (.int l1), some (.int l2)] [] (jG0 sc) h (0, 0) := by
  refine j_iinc (i := 2) (n := -8) rfl dX8_add_50 (Nat.le_of_ble_eq_true rfl) ?_
  refine j_eqlv [some (.ref 1), some (.int l1), some (.int (l2 + (-8)))] rfl ?_
  refine j_goto (off := -50) 3 dX8_add_53 (by decide) ?_
  exact j_le [some (.ref 1), some (.int l1), some (.int (l2 + (-8)))] (And.intro rfl (And.intro rfl (And.intro rfl True.intro))) v1
set_option maxRecDepth 100000 in
theorem bX8_add_56 {sc : Nat × (Nat → Int32)} {h : jH} {Q : jQ} {l1 l2 : Int32}
    (v1 : Q (.inl none) (jG0 sc) h) :
    WP mX8_add Q 56 [some (.ref 1), some (.int l1), some (.int l2)] [] (jG0 sc) h (0, 0) := by
  exact j_vret rfl (Nat.zero_le _) (Nat.zero_le _) dX8_add_56 v1
set_option maxRecDepth 100000 in
theorem rX8_add_0 {sc : Nat × (Nat → Int32)} {h : jH} {Q : jQ} {l1 : Int32}
    (v1 : WP mX8_add Q 3 [some (.ref 1), some (.int l1), some (.int 24)] [] (jG0 sc) h (0, 0)) :
    WP mX8_add Q 0 [some (.ref 1), some (.int l1), none] [] (jG0 sc) h (0, 0) := by
  exact (bX8_add_0 v1)
set_option maxRecDepth 100000 in
theorem rX8_add_3 {sc : Nat × (Nat → Int32)} {h : jH} {Q : jQ} {l1 l2 : Int32}
    (v1 : l2 < 0 → Q (.inl none) (jG0 sc) h)
    (v2 : ¬ l2 < 0 → (h 1 1) < 0 → WP mX8_add Q 3 [some (.ref 1), some (.int l1), some (.int (l2 + (-8)))] [] (jG0 sc) h (0, 0))
    (v3 : ¬ l2 < 0 → ¬ (h 1 1) < 0 → 400 ≤ (h 1 1) → WP mX8_add Q 3 [some (.ref 1), some (.int l1), some (.int (l2 + (-8)))] [] (jG0 sc) h (0, 0))
    (o1 : ¬ l2 < 0 → ¬ (h 1 1) < 0 → ¬ 400 ≤ (h 1 1) → vp_in (h 1 1) 400)
    (v4 : ¬ l2 < 0 → ¬ (h 1 1) < 0 → ¬ 400 ≤ (h 1 1) → WP mX8_add Q 3 [some (.ref 1), some (.int l1), some (.int (l2 + (-8)))] [] (jG0 sc) (jput (jput h 2 ((h 1 1).toNatClampNeg) (((l1.toUInt32 >>> (((l2 : Int32)).toUInt32 &&& Int32.toUInt32 31)).toInt32) &&& 255)) 1 1 (((jput h 2 ((h 1 1).toNatClampNeg) (((l1.toUInt32 >>> (((l2 : Int32)).toUInt32 &&& Int32.toUInt32 31)).toInt32) &&& 255)) 1 1) + 1)) (0, 0)) :
    WP mX8_add Q 3 [some (.ref 1), some (.int l1), some (.int l2)] [] (jG0 sc) h (0, 0) := by
  exact (bX8_add_3 (fun c1 => (bX8_add_56 (v1 c1))) (fun c1 => (bX8_add_7 (fun c2 => (bX8_add_50 (v2 c1 c2))) (fun c2 => (bX8_add_14 (fun c3 => (bX8_add_50 (v3 c1 c2 c3))) (fun c3 => (bX8_add_24 (o1 c1 c2 c3) (bX8_add_50 (v4 c1 c2 c3)))))))))
theorem dX8_open_0 : decode (mC mX8_open) 0 = .ok (.aload_n 0, 1) := by decide +kernel
theorem dX8_open_1 : decode (mC mX8_open) 1 = .ok (.iconst 0, 1) := by decide +kernel
theorem dX8_open_2 : decode (mC mX8_open) 2 = .ok (.putfield 19, 3) := by decide +kernel
theorem dX8_open_5 : decode (mC mX8_open) 5 = .ok (.aload_n 0, 1) := by decide +kernel
theorem dX8_open_6 : decode (mC mX8_open) 6 = .ok (.invokevirtual 22, 3) := by decide +kernel
theorem dX8_open_9 : decode (mC mX8_open) 9 = .ok (.return_, 1) := by decide +kernel
set_option maxRecDepth 100000 in
theorem bX8_open_0 {sc : Nat × (Nat → Int32)} {h : jH} {Q : jQ} {P1 : jH → Prop}
    (k1 : JM mX8_next [.ref 1] (jG0 sc) (jput h 1 4 0) (jvoid sc P1))
    (v1 : ∀ h1 : jH, P1 h1 → Q (.inl none) (jG0 sc) h1) :
    WP mX8_open Q 0 [some (.ref 1)] [] (jG0 sc) h (0, 0) := by
  refine j_aload_n (i := 0) rfl dX8_open_0 ?_
  refine j_iconst (n := 0) 0 (by decide) dX8_open_1 ?_
  refine j_putI (idx := 19) (ci := 8) (k := 4) (nest := false) (show (8, 19, 8, 4, false) ∈ jFT by decide) rfl rfl rfl rfl (Nat.le_of_ble_eq_true rfl) rfl dX8_open_2 ?_
  refine j_aload_n (i := 0) rfl dX8_open_5 ?_
  refine j_callV (idx := 22) (As := []) (ci := 8) (n := 0) k1 jvoid_nt (jlkT (jtb3 214 rfl) rfl) sX8_next kX8_next rfl ⟨rfl, by decide +kernel, by decide +kernel, by decide +kernel⟩ rfl ⟨by decide, by decide⟩ (Nat.le_of_ble_eq_true rfl) rfl (Nat.le_of_ble_eq_true rfl) (Nat.le_of_ble_eq_true rfl) ⟨Nat.zero_le _, Nat.zero_le _⟩ dX8_open_6 (fun r Γ' h1 q => ?_)
  obtain ⟨q0, rfl, p1⟩ := q; cases q0
  refine j_eqst [] (by rfl) ?_
  exact j_vret rfl (Nat.zero_le _) (Nat.zero_le _) dX8_open_9 (v1 h1 p1)
set_option maxRecDepth 100000 in
theorem rX8_open_0 {sc : Nat × (Nat → Int32)} {h : jH} {Q : jQ} {P1 : jH → Prop}
    (k1 : JM mX8_next [.ref 1] (jG0 sc) (jput h 1 4 0) (jvoid sc P1))
    (v1 : ∀ h1 : jH, P1 h1 → Q (.inl none) (jG0 sc) h1) :
    WP mX8_open Q 0 [some (.ref 1)] [] (jG0 sc) h (0, 0) := by
  exact (bX8_open_0 k1 (fun h1 p1 => (v1 h1 p1)))
theorem dX8_next_0 : decode (mC mX8_next) 0 = .ok (.aload_n 0, 1) := by decide +kernel
theorem dX8_next_1 : decode (mC mX8_next) 1 = .ok (.getfield 19, 3) := by decide +kernel
theorem dX8_next_4 : decode (mC mX8_next) 4 = .ok (.istore_n 1, 1) := by decide +kernel
theorem dX8_next_5 : decode (mC mX8_next) 5 = .ok (.iload_n 1, 1) := by decide +kernel
theorem dX8_next_6 : decode (mC mX8_next) 6 = .ok (.ifCond .lt 35, 3) := by decide +kernel
theorem dX8_next_9 : decode (mC mX8_next) 9 = .ok (.iload_n 1, 1) := by decide +kernel
theorem dX8_next_10 : decode (mC mX8_next) 10 = .ok (.aload_n 0, 1) := by decide +kernel
theorem dX8_next_11 : decode (mC mX8_next) 11 = .ok (.getfield 15, 3) := by decide +kernel
theorem dX8_next_14 : decode (mC mX8_next) 14 = .ok (.if_icmp .ge 27, 3) := by decide +kernel
theorem dX8_next_17 : decode (mC mX8_next) 17 = .ok (.iload_n 1, 1) := by decide +kernel
theorem dX8_next_18 : decode (mC mX8_next) 18 = .ok (.sipush 400, 3) := by decide +kernel
theorem dX8_next_21 : decode (mC mX8_next) 21 = .ok (.if_icmp .ge 20, 3) := by decide +kernel
theorem dX8_next_24 : decode (mC mX8_next) 24 = .ok (.aload_n 0, 1) := by decide +kernel
theorem dX8_next_25 : decode (mC mX8_next) 25 = .ok (.getfield 9, 3) := by decide +kernel
theorem dX8_next_28 : decode (mC mX8_next) 28 = .ok (.iload_n 1, 1) := by decide +kernel
theorem dX8_next_29 : decode (mC mX8_next) 29 = .ok (.iaload, 1) := by decide +kernel
theorem dX8_next_30 : decode (mC mX8_next) 30 = .ok (.bipush 32, 2) := by decide +kernel
theorem dX8_next_32 : decode (mC mX8_next) 32 = .ok (.if_icmp .ne 9, 3) := by decide +kernel
theorem dX8_next_35 : decode (mC mX8_next) 35 = .ok (.iinc 1 1, 3) := by decide +kernel
theorem dX8_next_38 : decode (mC mX8_next) 38 = .ok (.goto (-33), 3) := by decide +kernel
theorem dX8_next_41 : decode (mC mX8_next) 41 = .ok (.aload_n 0, 1) := by decide +kernel
theorem dX8_next_42 : decode (mC mX8_next) 42 = .ok (.iload_n 1, 1) := by decide +kernel
theorem dX8_next_43 : decode (mC mX8_next) 43 = .ok (.putfield 25, 3) := by decide +kernel
theorem dX8_next_46 : decode (mC mX8_next) 46 = .ok (.aload_n 0, 1) := by decide +kernel
theorem dX8_next_47 : decode (mC mX8_next) 47 = .ok (.iconst 0, 1) := by decide +kernel
theorem dX8_next_48 : decode (mC mX8_next) 48 = .ok (.putfield 28, 3) := by decide +kernel
theorem dX8_next_51 : decode (mC mX8_next) 51 = .ok (.aload_n 0, 1) := by decide +kernel
theorem dX8_next_52 : decode (mC mX8_next) 52 = .ok (.iconst 0, 1) := by decide +kernel
theorem dX8_next_53 : decode (mC mX8_next) 53 = .ok (.putfield 31, 3) := by decide +kernel
theorem dX8_next_56 : decode (mC mX8_next) 56 = .ok (.iload_n 1, 1) := by decide +kernel
theorem dX8_next_57 : decode (mC mX8_next) 57 = .ok (.ifCond .lt 36, 3) := by decide +kernel
theorem dX8_next_60 : decode (mC mX8_next) 60 = .ok (.iload_n 1, 1) := by decide +kernel
theorem dX8_next_61 : decode (mC mX8_next) 61 = .ok (.aload_n 0, 1) := by decide +kernel
theorem dX8_next_62 : decode (mC mX8_next) 62 = .ok (.getfield 15, 3) := by decide +kernel
theorem dX8_next_65 : decode (mC mX8_next) 65 = .ok (.if_icmp .ge 28, 3) := by decide +kernel
theorem dX8_next_68 : decode (mC mX8_next) 68 = .ok (.iload_n 1, 1) := by decide +kernel
theorem dX8_next_69 : decode (mC mX8_next) 69 = .ok (.sipush 400, 3) := by decide +kernel
theorem dX8_next_72 : decode (mC mX8_next) 72 = .ok (.if_icmp .ge 21, 3) := by decide +kernel
theorem dX8_next_75 : decode (mC mX8_next) 75 = .ok (.aload_n 0, 1) := by decide +kernel
theorem dX8_next_76 : decode (mC mX8_next) 76 = .ok (.iconst 3, 1) := by decide +kernel
theorem dX8_next_77 : decode (mC mX8_next) 77 = .ok (.putfield 28, 3) := by decide +kernel
theorem dX8_next_80 : decode (mC mX8_next) 80 = .ok (.aload_n 0, 1) := by decide +kernel
theorem dX8_next_81 : decode (mC mX8_next) 81 = .ok (.aload_n 0, 1) := by decide +kernel
theorem dX8_next_82 : decode (mC mX8_next) 82 = .ok (.getfield 9, 3) := by decide +kernel
theorem dX8_next_85 : decode (mC mX8_next) 85 = .ok (.iload_n 1, 1) := by decide +kernel
theorem dX8_next_86 : decode (mC mX8_next) 86 = .ok (.iaload, 1) := by decide +kernel
theorem dX8_next_87 : decode (mC mX8_next) 87 = .ok (.putfield 31, 3) := by decide +kernel
theorem dX8_next_90 : decode (mC mX8_next) 90 = .ok (.iinc 1 1, 3) := by decide +kernel
theorem dX8_next_93 : decode (mC mX8_next) 93 = .ok (.aload_n 0, 1) := by decide +kernel
theorem dX8_next_94 : decode (mC mX8_next) 94 = .ok (.getfield 31, 3) := by decide +kernel
theorem dX8_next_97 : decode (mC mX8_next) 97 = .ok (.bipush 97, 2) := by decide +kernel
theorem dX8_next_99 : decode (mC mX8_next) 99 = .ok (.if_icmp .lt 64, 3) := by decide +kernel
theorem dX8_next_102 : decode (mC mX8_next) 102 = .ok (.aload_n 0, 1) := by decide +kernel
theorem dX8_next_103 : decode (mC mX8_next) 103 = .ok (.getfield 31, 3) := by decide +kernel
theorem dX8_next_106 : decode (mC mX8_next) 106 = .ok (.bipush 122, 2) := by decide +kernel
theorem dX8_next_108 : decode (mC mX8_next) 108 = .ok (.if_icmp .gt 55, 3) := by decide +kernel
theorem dX8_next_111 : decode (mC mX8_next) 111 = .ok (.aload_n 0, 1) := by decide +kernel
theorem dX8_next_112 : decode (mC mX8_next) 112 = .ok (.iconst 1, 1) := by decide +kernel
theorem dX8_next_113 : decode (mC mX8_next) 113 = .ok (.putfield 28, 3) := by decide +kernel
theorem dX8_next_116 : decode (mC mX8_next) 116 = .ok (.iload_n 1, 1) := by decide +kernel
theorem dX8_next_117 : decode (mC mX8_next) 117 = .ok (.ifCond .lt 165, 3) := by decide +kernel
theorem dX8_next_120 : decode (mC mX8_next) 120 = .ok (.iload_n 1, 1) := by decide +kernel
theorem dX8_next_121 : decode (mC mX8_next) 121 = .ok (.aload_n 0, 1) := by decide +kernel
theorem dX8_next_122 : decode (mC mX8_next) 122 = .ok (.getfield 15, 3) := by decide +kernel
theorem dX8_next_125 : decode (mC mX8_next) 125 = .ok (.if_icmp .ge 157, 3) := by decide +kernel
theorem dX8_next_128 : decode (mC mX8_next) 128 = .ok (.iload_n 1, 1) := by decide +kernel
theorem dX8_next_129 : decode (mC mX8_next) 129 = .ok (.sipush 400, 3) := by decide +kernel
theorem dX8_next_132 : decode (mC mX8_next) 132 = .ok (.if_icmp .ge 150, 3) := by decide +kernel
theorem dX8_next_135 : decode (mC mX8_next) 135 = .ok (.aload_n 0, 1) := by decide +kernel
theorem dX8_next_136 : decode (mC mX8_next) 136 = .ok (.getfield 9, 3) := by decide +kernel
theorem dX8_next_139 : decode (mC mX8_next) 139 = .ok (.iload_n 1, 1) := by decide +kernel
theorem dX8_next_140 : decode (mC mX8_next) 140 = .ok (.iaload, 1) := by decide +kernel
theorem dX8_next_141 : decode (mC mX8_next) 141 = .ok (.bipush 97, 2) := by decide +kernel
theorem dX8_next_143 : decode (mC mX8_next) 143 = .ok (.if_icmp .lt 139, 3) := by decide +kernel
theorem dX8_next_146 : decode (mC mX8_next) 146 = .ok (.aload_n 0, 1) := by decide +kernel
theorem dX8_next_147 : decode (mC mX8_next) 147 = .ok (.getfield 9, 3) := by decide +kernel
theorem dX8_next_150 : decode (mC mX8_next) 150 = .ok (.iload_n 1, 1) := by decide +kernel
theorem dX8_next_151 : decode (mC mX8_next) 151 = .ok (.iaload, 1) := by decide +kernel
theorem dX8_next_152 : decode (mC mX8_next) 152 = .ok (.bipush 122, 2) := by decide +kernel
theorem dX8_next_154 : decode (mC mX8_next) 154 = .ok (.if_icmp .gt 128, 3) := by decide +kernel
theorem dX8_next_157 : decode (mC mX8_next) 157 = .ok (.iinc 1 1, 3) := by decide +kernel
theorem dX8_next_160 : decode (mC mX8_next) 160 = .ok (.goto (-44), 3) := by decide +kernel
theorem dX8_next_163 : decode (mC mX8_next) 163 = .ok (.aload_n 0, 1) := by decide +kernel
theorem dX8_next_164 : decode (mC mX8_next) 164 = .ok (.getfield 31, 3) := by decide +kernel
theorem dX8_next_167 : decode (mC mX8_next) 167 = .ok (.bipush 48, 2) := by decide +kernel
theorem dX8_next_169 : decode (mC mX8_next) 169 = .ok (.if_icmp .lt 113, 3) := by decide +kernel
theorem dX8_next_172 : decode (mC mX8_next) 172 = .ok (.aload_n 0, 1) := by decide +kernel
theorem dX8_next_173 : decode (mC mX8_next) 173 = .ok (.getfield 31, 3) := by decide +kernel
theorem dX8_next_176 : decode (mC mX8_next) 176 = .ok (.bipush 57, 2) := by decide +kernel
theorem dX8_next_178 : decode (mC mX8_next) 178 = .ok (.if_icmp .gt 104, 3) := by decide +kernel
theorem dX8_next_181 : decode (mC mX8_next) 181 = .ok (.aload_n 0, 1) := by decide +kernel
theorem dX8_next_182 : decode (mC mX8_next) 182 = .ok (.iconst 2, 1) := by decide +kernel
theorem dX8_next_183 : decode (mC mX8_next) 183 = .ok (.putfield 28, 3) := by decide +kernel
theorem dX8_next_186 : decode (mC mX8_next) 186 = .ok (.aload_n 0, 1) := by decide +kernel
theorem dX8_next_187 : decode (mC mX8_next) 187 = .ok (.dup, 1) := by decide +kernel
theorem dX8_next_188 : decode (mC mX8_next) 188 = .ok (.getfield 31, 3) := by decide +kernel
theorem dX8_next_191 : decode (mC mX8_next) 191 = .ok (.bipush 48, 2) := by decide +kernel
theorem dX8_next_193 : decode (mC mX8_next) 193 = .ok (.isub, 1) := by decide +kernel
theorem dX8_next_194 : decode (mC mX8_next) 194 = .ok (.putfield 31, 3) := by decide +kernel
theorem dX8_next_197 : decode (mC mX8_next) 197 = .ok (.iload_n 1, 1) := by decide +kernel
theorem dX8_next_198 : decode (mC mX8_next) 198 = .ok (.ifCond .lt 84, 3) := by decide +kernel
theorem dX8_next_201 : decode (mC mX8_next) 201 = .ok (.iload_n 1, 1) := by decide +kernel
theorem dX8_next_202 : decode (mC mX8_next) 202 = .ok (.aload_n 0, 1) := by decide +kernel
theorem dX8_next_203 : decode (mC mX8_next) 203 = .ok (.getfield 15, 3) := by decide +kernel
theorem dX8_next_206 : decode (mC mX8_next) 206 = .ok (.if_icmp .ge 76, 3) := by decide +kernel
theorem dX8_next_209 : decode (mC mX8_next) 209 = .ok (.iload_n 1, 1) := by decide +kernel
theorem dX8_next_210 : decode (mC mX8_next) 210 = .ok (.sipush 400, 3) := by decide +kernel
theorem dX8_next_213 : decode (mC mX8_next) 213 = .ok (.if_icmp .ge 69, 3) := by decide +kernel
theorem dX8_next_216 : decode (mC mX8_next) 216 = .ok (.aload_n 0, 1) := by decide +kernel
theorem dX8_next_217 : decode (mC mX8_next) 217 = .ok (.getfield 9, 3) := by decide +kernel
theorem dX8_next_220 : decode (mC mX8_next) 220 = .ok (.iload_n 1, 1) := by decide +kernel
theorem dX8_next_221 : decode (mC mX8_next) 221 = .ok (.iaload, 1) := by decide +kernel
theorem dX8_next_222 : decode (mC mX8_next) 222 = .ok (.bipush 48, 2) := by decide +kernel
theorem dX8_next_224 : decode (mC mX8_next) 224 = .ok (.if_icmp .lt 58, 3) := by decide +kernel
theorem dX8_next_227 : decode (mC mX8_next) 227 = .ok (.aload_n 0, 1) := by decide +kernel
theorem dX8_next_228 : decode (mC mX8_next) 228 = .ok (.getfield 9, 3) := by decide +kernel
theorem dX8_next_231 : decode (mC mX8_next) 231 = .ok (.iload_n 1, 1) := by decide +kernel
theorem dX8_next_232 : decode (mC mX8_next) 232 = .ok (.iaload, 1) := by decide +kernel
theorem dX8_next_233 : decode (mC mX8_next) 233 = .ok (.bipush 57, 2) := by decide +kernel
theorem dX8_next_235 : decode (mC mX8_next) 235 = .ok (.if_icmp .gt 47, 3) := by decide +kernel
theorem dX8_next_238 : decode (mC mX8_next) 238 = .ok (.aload_n 0, 1) := by decide +kernel
theorem dX8_next_239 : decode (mC mX8_next) 239 = .ok (.aload_n 0, 1) := by decide +kernel
theorem dX8_next_240 : decode (mC mX8_next) 240 = .ok (.getfield 31, 3) := by decide +kernel
theorem dX8_next_243 : decode (mC mX8_next) 243 = .ok (.sipush 9999, 3) := by decide +kernel
theorem dX8_next_246 : decode (mC mX8_next) 246 = .ok (.if_icmp .le 10, 3) := by decide +kernel
theorem dX8_next_249 : decode (mC mX8_next) 249 = .ok (.aload_n 0, 1) := by decide +kernel
theorem dX8_next_250 : decode (mC mX8_next) 250 = .ok (.getfield 31, 3) := by decide +kernel
theorem dX8_next_253 : decode (mC mX8_next) 253 = .ok (.goto 20, 3) := by decide +kernel
theorem dX8_next_256 : decode (mC mX8_next) 256 = .ok (.aload_n 0, 1) := by decide +kernel
theorem dX8_next_257 : decode (mC mX8_next) 257 = .ok (.getfield 31, 3) := by decide +kernel
theorem dX8_next_260 : decode (mC mX8_next) 260 = .ok (.bipush 10, 2) := by decide +kernel
theorem dX8_next_262 : decode (mC mX8_next) 262 = .ok (.imul, 1) := by decide +kernel
theorem dX8_next_263 : decode (mC mX8_next) 263 = .ok (.aload_n 0, 1) := by decide +kernel
theorem dX8_next_264 : decode (mC mX8_next) 264 = .ok (.getfield 9, 3) := by decide +kernel
theorem dX8_next_267 : decode (mC mX8_next) 267 = .ok (.iload_n 1, 1) := by decide +kernel
theorem dX8_next_268 : decode (mC mX8_next) 268 = .ok (.iaload, 1) := by decide +kernel
theorem dX8_next_269 : decode (mC mX8_next) 269 = .ok (.iadd, 1) := by decide +kernel
theorem dX8_next_270 : decode (mC mX8_next) 270 = .ok (.bipush 48, 2) := by decide +kernel
theorem dX8_next_272 : decode (mC mX8_next) 272 = .ok (.isub, 1) := by decide +kernel
theorem dX8_next_273 : decode (mC mX8_next) 273 = .ok (.putfield 31, 3) := by decide +kernel
theorem dX8_next_276 : decode (mC mX8_next) 276 = .ok (.iinc 1 1, 3) := by decide +kernel
theorem dX8_next_279 : decode (mC mX8_next) 279 = .ok (.goto (-82), 3) := by decide +kernel
theorem dX8_next_282 : decode (mC mX8_next) 282 = .ok (.aload_n 0, 1) := by decide +kernel
theorem dX8_next_283 : decode (mC mX8_next) 283 = .ok (.iload_n 1, 1) := by decide +kernel
theorem dX8_next_284 : decode (mC mX8_next) 284 = .ok (.putfield 19, 3) := by decide +kernel
theorem dX8_next_287 : decode (mC mX8_next) 287 = .ok (.return_, 1) := by decide +kernel
set_option maxRecDepth 100000 in
theorem bX8_next_0 {sc : Nat × (Nat → Int32)} {h : jH} {Q : jQ}
    (v1 : WP mX8_next Q 5 [some (.ref 1), some (.int (h 1 4))] [] (jG0 sc) h (0, 0)) :
    WP mX8_next Q 0 [some (.ref 1), none] [] (jG0 sc) h (0, 0) := by
  refine j_aload_n (i := 0) rfl dX8_next_0 ?_
  refine j_getI (idx := 19) (ci := 8) (k := 4) (nest := false) (show (8, 19, 8, 4, false) ∈ jFT by decide) rfl (Nat.le_of_ble_eq_true rfl) rfl dX8_next_1 ?_
  refine j_istore_n (i := 1) dX8_next_4 (Nat.le_of_ble_eq_true rfl) ?_
  exact j_le [some (.ref 1), some (.int (h 1 4))] (And.intro rfl (And.intro rfl True.intro)) v1
set_option maxRecDepth 100000 in
theorem bX8_next_5 {sc : Nat × (Nat → Int32)} {h : jH} {Q : jQ} {l1 : Int32}
    (v1 : l1 < 0 → WP mX8_next Q 41 [some (.ref 1), some (.int l1)] [] (jG0 sc) h (0, 0))
    (v2 : ¬ l1 < 0 → WP mX8_next Q 9 [some (.ref 1), some (.int l1)] [] (jG0 sc) h (0, 0)) :
    WP mX8_next Q 5 [some (.ref 1), some (.int l1)] [] (jG0 sc) h (0, 0) := by
  refine j_iload_n (i := 1) rfl dX8_next_5 ?_
  refine j_if_lt (off := 35) 41 dX8_next_6 (by decide) (fun c1 => ?_) (fun c1 => ?_)
  · exact j_le [some (.ref 1), some (.int l1)] (And.intro rfl (And.intro rfl True.intro)) (v1 c1)
  · exact j_le [some (.ref 1), some (.int l1)] (And.intro rfl (And.intro rfl True.intro)) (v2 c1)
set_option maxRecDepth 100000 in
theorem bX8_next_9 {sc : Nat × (Nat → Int32)} {h : jH} {Q : jQ} {l1 : Int32}
    (v1 : (h 1 1) ≤ l1 → WP mX8_next Q 41 [some (.ref 1), some (.int l1)] [] (jG0 sc) h (0, 0))
    (v2 : ¬ (h 1 1) ≤ l1 → WP mX8_next Q 17 [some (.ref 1), some (.int l1)] [] (jG0 sc) h (0, 0)) :
    WP mX8_next Q 9 [some (.ref 1), some (.int l1)] [] (jG0 sc) h (0, 0) := by
  refine j_iload_n (i := 1) rfl dX8_next_9 ?_
  refine j_aload_n (i := 0) rfl dX8_next_10 ?_
  refine j_getI (idx := 15) (ci := 8) (k := 1) (nest := false) (show (8, 15, 8, 1, false) ∈ jFT by decide) rfl (Nat.le_of_ble_eq_true rfl) rfl dX8_next_11 ?_
  refine j_icmp_ge (off := 27) 41 dX8_next_14 (by decide) (fun c1 => ?_) (fun c1 => ?_)
  · exact j_le [some (.ref 1), some (.int l1)] (And.intro rfl (And.intro rfl True.intro)) (v1 c1)
  · exact j_le [some (.ref 1), some (.int l1)] (And.intro rfl (And.intro rfl True.intro)) (v2 c1)
set_option maxRecDepth 100000 in
theorem bX8_next_17 {sc : Nat × (Nat → Int32)} {h : jH} {Q : jQ} {l1 : Int32}
    (v1 : 400 ≤ l1 → WP mX8_next Q 41 [some (.ref 1), some (.int l1)] [] (jG0 sc) h (0, 0))
    (v2 : ¬ 400 ≤ l1 → WP mX8_next Q 24 [some (.ref 1), some (.int l1)] [] (jG0 sc) h (0, 0)) :
    WP mX8_next Q 17 [some (.ref 1), some (.int l1)] [] (jG0 sc) h (0, 0) := by
  refine j_iload_n (i := 1) rfl dX8_next_17 ?_
  refine j_sipush (n := 400) 400 (by decide) dX8_next_18 ?_
  refine j_icmp_ge (off := 20) 41 dX8_next_21 (by decide) (fun c1 => ?_) (fun c1 => ?_)
  · exact j_le [some (.ref 1), some (.int l1)] (And.intro rfl (And.intro rfl True.intro)) (v1 c1)
  · exact j_le [some (.ref 1), some (.int l1)] (And.intro rfl (And.intro rfl True.intro)) (v2 c1)
set_option maxRecDepth 100000 in
theorem bX8_next_24 {sc : Nat × (Nat → Int32)} {h : jH} {Q : jQ} {l1 : Int32}
    (o1 : vp_in l1 400)
    (v1 : ¬ (h 2 l1.toNatClampNeg) = 32 → WP mX8_next Q 41 [some (.ref 1), some (.int l1)] [] (jG0 sc) h (0, 0))
    (v2 : (h 2 l1.toNatClampNeg) = 32 → WP mX8_next Q 35 [some (.ref 1), some (.int l1)] [] (jG0 sc) h (0, 0)) :
    WP mX8_next Q 24 [some (.ref 1), some (.int l1)] [] (jG0 sc) h (0, 0) := by
  refine j_aload_n (i := 0) rfl dX8_next_24 ?_
  refine j_getR (idx := 9) (ci := 8) (k := 0) (nest := false) (show (8, 9, 8, 0, false) ∈ jFT by decide) rfl (Nat.le_of_ble_eq_true rfl) rfl (a := 2) rfl dX8_next_25 ?_
  refine j_iload_n (i := 1) rfl dX8_next_28 ?_
  refine j_iald (Nat.le_of_ble_eq_true rfl) rfl o1 dX8_next_29 ?_
  refine j_bipush (n := 32) 32 (by decide) dX8_next_30 ?_
  refine j_icmp_ne (off := 9) 41 dX8_next_32 (by decide) (fun c1 => ?_) (fun c1 => ?_)
  · exact j_le [some (.ref 1), some (.int l1)] (And.intro rfl (And.intro rfl True.intro)) (v1 c1)
  · exact j_le [some (.ref 1), some (.int l1)] (And.intro rfl (And.intro rfl True.intro)) (v2 c1)
set_option maxRecDepth 100000 in
theorem bX8_next_35 {sc : Nat × (Nat → Int32)} {h : jH} {Q : jQ} {l1 : Int32}
    (v1 : WP mX8_next Q 5 [some (.ref 1), some (.int (l1 + 1))] [] (jG0 sc) h (0, 0)) :
    WP mX8_next Q 35 [some (.ref 1), some (.int l1)] [] (jG0 sc) h (0, 0) := by
  refine j_iinc (i := 1) (n := 1) rfl dX8_next_35 (Nat.le_of_ble_eq_true rfl) ?_
  refine j_eqlv [some (.ref 1), some (.int (l1 + 1))] rfl ?_
  refine j_goto (off := -33) 5 dX8_next_38 (by decide) ?_
  exact j_le [some (.ref 1), some (.int (l1 + 1))] (And.intro rfl (And.intro rfl True.intro)) v1
set_option maxRecDepth 100000 in
theorem bX8_next_41 {sc : Nat × (Nat → Int32)} {h : jH} {Q : jQ} {l1 : Int32}
    (v1 : l1 < 0 → WP mX8_next Q 93 [some (.ref 1), some (.int l1)] [] (jG0 sc) (jput (jput (jput h 1 3 l1) 1 2 0) 1 5 0) (0, 0))
    (v2 : ¬ l1 < 0 → WP mX8_next Q 60 [some (.ref 1), some (.int l1)] [] (jG0 sc) (jput (jput (jput h 1 3 l1) 1 2 0) 1 5 0) (0, 0)) :
    WP mX8_next Q 41 [some (.ref 1), some (.int l1)] [] (jG0 sc) h (0, 0) := by
  refine j_aload_n (i := 0) rfl dX8_next_41 ?_
  refine j_iload_n (i := 1) rfl dX8_next_42 ?_
  refine j_putI (idx := 25) (ci := 8) (k := 3) (nest := false) (show (8, 25, 8, 3, false) ∈ jFT by decide) rfl rfl rfl rfl (Nat.le_of_ble_eq_true rfl) rfl dX8_next_43 ?_
  refine j_aload_n (i := 0) rfl dX8_next_46 ?_
  refine j_iconst (n := 0) 0 (by decide) dX8_next_47 ?_
  refine j_putI (idx := 28) (ci := 8) (k := 2) (nest := false) (show (8, 28, 8, 2, false) ∈ jFT by decide) rfl rfl rfl rfl (Nat.le_of_ble_eq_true rfl) rfl dX8_next_48 ?_
  refine j_aload_n (i := 0) rfl dX8_next_51 ?_
  refine j_iconst (n := 0) 0 (by decide) dX8_next_52 ?_
  refine j_putI (idx := 31) (ci := 8) (k := 5) (nest := false) (show (8, 31, 8, 5, false) ∈ jFT by decide) rfl rfl rfl rfl (Nat.le_of_ble_eq_true rfl) rfl dX8_next_53 ?_
  refine j_iload_n (i := 1) rfl dX8_next_56 ?_
  refine j_if_lt (off := 36) 93 dX8_next_57 (by decide) (fun c1 => ?_) (fun c1 => ?_)
  · exact j_le [some (.ref 1), some (.int l1)] (And.intro rfl (And.intro rfl True.intro)) (v1 c1)
  · exact j_le [some (.ref 1), some (.int l1)] (And.intro rfl (And.intro rfl True.intro)) (v2 c1)
set_option maxRecDepth 100000 in
theorem bX8_next_60 {sc : Nat × (Nat → Int32)} {h : jH} {Q : jQ} {l1 : Int32}
    (v1 : (h 1 1) ≤ l1 → WP mX8_next Q 93 [some (.ref 1), some (.int l1)] [] (jG0 sc) h (0, 0))
    (v2 : ¬ (h 1 1) ≤ l1 → WP mX8_next Q 68 [some (.ref 1), some (.int l1)] [] (jG0 sc) h (0, 0)) :
    WP mX8_next Q 60 [some (.ref 1), some (.int l1)] [] (jG0 sc) h (0, 0) := by
  refine j_iload_n (i := 1) rfl dX8_next_60 ?_
  refine j_aload_n (i := 0) rfl dX8_next_61 ?_
  refine j_getI (idx := 15) (ci := 8) (k := 1) (nest := false) (show (8, 15, 8, 1, false) ∈ jFT by decide) rfl (Nat.le_of_ble_eq_true rfl) rfl dX8_next_62 ?_
  refine j_icmp_ge (off := 28) 93 dX8_next_65 (by decide) (fun c1 => ?_) (fun c1 => ?_)
  · exact j_le [some (.ref 1), some (.int l1)] (And.intro rfl (And.intro rfl True.intro)) (v1 c1)
  · exact j_le [some (.ref 1), some (.int l1)] (And.intro rfl (And.intro rfl True.intro)) (v2 c1)
set_option maxRecDepth 100000 in
theorem bX8_next_68 {sc : Nat × (Nat → Int32)} {h : jH} {Q : jQ} {l1 : Int32}
    (v1 : 400 ≤ l1 → WP mX8_next Q 93 [some (.ref 1), some (.int l1)] [] (jG0 sc) h (0, 0))
    (v2 : ¬ 400 ≤ l1 → WP mX8_next Q 75 [some (.ref 1), some (.int l1)] [] (jG0 sc) h (0, 0)) :
    WP mX8_next Q 68 [some (.ref 1), some (.int l1)] [] (jG0 sc) h (0, 0) := by
  refine j_iload_n (i := 1) rfl dX8_next_68 ?_
  refine j_sipush (n := 400) 400 (by decide) dX8_next_69 ?_
  refine j_icmp_ge (off := 21) 93 dX8_next_72 (by decide) (fun c1 => ?_) (fun c1 => ?_)
  · exact j_le [some (.ref 1), some (.int l1)] (And.intro rfl (And.intro rfl True.intro)) (v1 c1)
  · exact j_le [some (.ref 1), some (.int l1)] (And.intro rfl (And.intro rfl True.intro)) (v2 c1)
set_option maxRecDepth 100000 in
theorem bX8_next_75 {sc : Nat × (Nat → Int32)} {h : jH} {Q : jQ} {l1 : Int32}
    (o1 : vp_in l1 400)
    (v1 : WP mX8_next Q 93 [some (.ref 1), some (.int (l1 + 1))] [] (jG0 sc) (jput (jput h 1 2 3) 1 5 ((jput h 1 2 3) 2 l1.toNatClampNeg)) (0, 0)) :
    WP mX8_next Q 75 [some (.ref 1), some (.int l1)] [] (jG0 sc) h (0, 0) := by
  refine j_aload_n (i := 0) rfl dX8_next_75 ?_
  refine j_iconst (n := 3) 3 (by decide) dX8_next_76 ?_
  refine j_putI (idx := 28) (ci := 8) (k := 2) (nest := false) (show (8, 28, 8, 2, false) ∈ jFT by decide) rfl rfl rfl rfl (Nat.le_of_ble_eq_true rfl) rfl dX8_next_77 ?_
  refine j_aload_n (i := 0) rfl dX8_next_80 ?_
  refine j_aload_n (i := 0) rfl dX8_next_81 ?_
  refine j_getR (idx := 9) (ci := 8) (k := 0) (nest := false) (show (8, 9, 8, 0, false) ∈ jFT by decide) rfl (Nat.le_of_ble_eq_true rfl) rfl (a := 2) rfl dX8_next_82 ?_
  refine j_iload_n (i := 1) rfl dX8_next_85 ?_
  refine j_iald (Nat.le_of_ble_eq_true rfl) rfl o1 dX8_next_86 ?_
  refine j_putI (idx := 31) (ci := 8) (k := 5) (nest := false) (show (8, 31, 8, 5, false) ∈ jFT by decide) rfl rfl rfl rfl (Nat.le_of_ble_eq_true rfl) rfl dX8_next_87 ?_
  refine j_iinc (i := 1) (n := 1) rfl dX8_next_90 (Nat.le_of_ble_eq_true rfl) ?_
  refine j_eqlv [some (.ref 1), some (.int (l1 + 1))] rfl ?_
  exact j_le [some (.ref 1), some (.int (l1 + 1))] (And.intro rfl (And.intro rfl True.intro)) v1
set_option maxRecDepth 100000 in
theorem bX8_next_93 {sc : Nat × (Nat → Int32)} {h : jH} {Q : jQ} {l1 : Int32}
    (v1 : (h 1 5) < 97 → WP mX8_next Q 163 [some (.ref 1), some (.int l1)] [] (jG0 sc) h (0, 0))
    (v2 : ¬ (h 1 5) < 97 → WP mX8_next Q 102 [some (.ref 1), some (.int l1)] [] (jG0 sc) h (0, 0)) :
    WP mX8_next Q 93 [some (.ref 1), some (.int l1)] [] (jG0 sc) h (0, 0) := by
  refine j_aload_n (i := 0) rfl dX8_next_93 ?_
  refine j_getI (idx := 31) (ci := 8) (k := 5) (nest := false) (show (8, 31, 8, 5, false) ∈ jFT by decide) rfl (Nat.le_of_ble_eq_true rfl) rfl dX8_next_94 ?_
  refine j_bipush (n := 97) 97 (by decide) dX8_next_97 ?_
  refine j_icmp_lt (off := 64) 163 dX8_next_99 (by decide) (fun c1 => ?_) (fun c1 => ?_)
  · exact j_le [some (.ref 1), some (.int l1)] (And.intro rfl (And.intro rfl True.intro)) (v1 c1)
  · exact j_le [some (.ref 1), some (.int l1)] (And.intro rfl (And.intro rfl True.intro)) (v2 c1)
set_option maxRecDepth 100000 in
theorem bX8_next_102 {sc : Nat × (Nat → Int32)} {h : jH} {Q : jQ} {l1 : Int32}
    (v1 : 122 < (h 1 5) → WP mX8_next Q 163 [some (.ref 1), some (.int l1)] [] (jG0 sc) h (0, 0))
    (v2 : ¬ 122 < (h 1 5) → WP mX8_next Q 111 [some (.ref 1), some (.int l1)] [] (jG0 sc) h (0, 0)) :
    WP mX8_next Q 102 [some (.ref 1), some (.int l1)] [] (jG0 sc) h (0, 0) := by
  refine j_aload_n (i := 0) rfl dX8_next_102 ?_
  refine j_getI (idx := 31) (ci := 8) (k := 5) (nest := false) (show (8, 31, 8, 5, false) ∈ jFT by decide) rfl (Nat.le_of_ble_eq_true rfl) rfl dX8_next_103 ?_
  refine j_bipush (n := 122) 122 (by decide) dX8_next_106 ?_
  refine j_icmp_gt (off := 55) 163 dX8_next_108 (by decide) (fun c1 => ?_) (fun c1 => ?_)
  · exact j_le [some (.ref 1), some (.int l1)] (And.intro rfl (And.intro rfl True.intro)) (v1 c1)
  · exact j_le [some (.ref 1), some (.int l1)] (And.intro rfl (And.intro rfl True.intro)) (v2 c1)
set_option maxRecDepth 100000 in
theorem bX8_next_111 {sc : Nat × (Nat → Int32)} {h : jH} {Q : jQ} {l1 : Int32}
    (v1 : WP mX8_next Q 116 [some (.ref 1), some (.int l1)] [] (jG0 sc) (jput h 1 2 1) (0, 0)) :
    WP mX8_next Q 111 [some (.ref 1), some (.int l1)] [] (jG0 sc) h (0, 0) := by
  refine j_aload_n (i := 0) rfl dX8_next_111 ?_
  refine j_iconst (n := 1) 1 (by decide) dX8_next_112 ?_
  refine j_putI (idx := 28) (ci := 8) (k := 2) (nest := false) (show (8, 28, 8, 2, false) ∈ jFT by decide) rfl rfl rfl rfl (Nat.le_of_ble_eq_true rfl) rfl dX8_next_113 ?_
  exact j_le [some (.ref 1), some (.int l1)] (And.intro rfl (And.intro rfl True.intro)) v1
set_option maxRecDepth 100000 in
theorem bX8_next_116 {sc : Nat × (Nat → Int32)} {h : jH} {Q : jQ} {l1 : Int32}
    (v1 : l1 < 0 → WP mX8_next Q 282 [some (.ref 1), some (.int l1)] [] (jG0 sc) h (0, 0))
    (v2 : ¬ l1 < 0 → WP mX8_next Q 120 [some (.ref 1), some (.int l1)] [] (jG0 sc) h (0, 0)) :
    WP mX8_next Q 116 [some (.ref 1), some (.int l1)] [] (jG0 sc) h (0, 0) := by
  refine j_iload_n (i := 1) rfl dX8_next_116 ?_
  refine j_if_lt (off := 165) 282 dX8_next_117 (by decide) (fun c1 => ?_) (fun c1 => ?_)
  · exact j_le [some (.ref 1), some (.int l1)] (And.intro rfl (And.intro rfl True.intro)) (v1 c1)
  · exact j_le [some (.ref 1), some (.int l1)] (And.intro rfl (And.intro rfl True.intro)) (v2 c1)
set_option maxRecDepth 100000 in
theorem bX8_next_120 {sc : Nat × (Nat → Int32)} {h : jH} {Q : jQ} {l1 : Int32}
    (v1 : (h 1 1) ≤ l1 → WP mX8_next Q 282 [some (.ref 1), some (.int l1)] [] (jG0 sc) h (0, 0))
    (v2 : ¬ (h 1 1) ≤ l1 → WP mX8_next Q 128 [some (.ref 1), some (.int l1)] [] (jG0 sc) h (0, 0)) :
    WP mX8_next Q 120 [some (.ref 1), some (.int l1)] [] (jG0 sc) h (0, 0) := by
  refine j_iload_n (i := 1) rfl dX8_next_120 ?_
  refine j_aload_n (i := 0) rfl dX8_next_121 ?_
  refine j_getI (idx := 15) (ci := 8) (k := 1) (nest := false) (show (8, 15, 8, 1, false) ∈ jFT by decide) rfl (Nat.le_of_ble_eq_true rfl) rfl dX8_next_122 ?_
  refine j_icmp_ge (off := 157) 282 dX8_next_125 (by decide) (fun c1 => ?_) (fun c1 => ?_)
  · exact j_le [some (.ref 1), some (.int l1)] (And.intro rfl (And.intro rfl True.intro)) (v1 c1)
  · exact j_le [some (.ref 1), some (.int l1)] (And.intro rfl (And.intro rfl True.intro)) (v2 c1)
set_option maxRecDepth 100000 in
theorem bX8_next_128 {sc : Nat × (Nat → Int32)} {h : jH} {Q : jQ} {l1 : Int32}
    (v1 : 400 ≤ l1 → WP mX8_next Q 282 [some (.ref 1), some (.int l1)] [] (jG0 sc) h (0, 0))
    (v2 : ¬ 400 ≤ l1 → WP mX8_next Q 135 [some (.ref 1), some (.int l1)] [] (jG0 sc) h (0, 0)) :
    WP mX8_next Q 128 [some (.ref 1), some (.int l1)] [] (jG0 sc) h (0, 0) := by
  refine j_iload_n (i := 1) rfl dX8_next_128 ?_
  refine j_sipush (n := 400) 400 (by decide) dX8_next_129 ?_
  refine j_icmp_ge (off := 150) 282 dX8_next_132 (by decide) (fun c1 => ?_) (fun c1 => ?_)
  · exact j_le [some (.ref 1), some (.int l1)] (And.intro rfl (And.intro rfl True.intro)) (v1 c1)
  · exact j_le [some (.ref 1), some (.int l1)] (And.intro rfl (And.intro rfl True.intro)) (v2 c1)
set_option maxRecDepth 100000 in
theorem bX8_next_135 {sc : Nat × (Nat → Int32)} {h : jH} {Q : jQ} {l1 : Int32}
    (o1 : vp_in l1 400)
    (v1 : (h 2 l1.toNatClampNeg) < 97 → WP mX8_next Q 282 [some (.ref 1), some (.int l1)] [] (jG0 sc) h (0, 0))
    (v2 : ¬ (h 2 l1.toNatClampNeg) < 97 → WP mX8_next Q 146 [some (.ref 1), some (.int l1)] [] (jG0 sc) h (0, 0)) :
    WP mX8_next Q 135 [some (.ref 1), some (.int l1)] [] (jG0 sc) h (0, 0) := by
  refine j_aload_n (i := 0) rfl dX8_next_135 ?_
  refine j_getR (idx := 9) (ci := 8) (k := 0) (nest := false) (show (8, 9, 8, 0, false) ∈ jFT by decide) rfl (Nat.le_of_ble_eq_true rfl) rfl (a := 2) rfl dX8_next_136 ?_
  refine j_iload_n (i := 1) rfl dX8_next_139 ?_
  refine j_iald (Nat.le_of_ble_eq_true rfl) rfl o1 dX8_next_140 ?_
  refine j_bipush (n := 97) 97 (by decide) dX8_next_141 ?_
  refine j_icmp_lt (off := 139) 282 dX8_next_143 (by decide) (fun c1 => ?_) (fun c1 => ?_)
  · exact j_le [some (.ref 1), some (.int l1)] (And.intro rfl (And.intro rfl True.intro)) (v1 c1)
  · exact j_le [some (.ref 1), some (.int l1)] (And.intro rfl (And.intro rfl True.intro)) (v2 c1)
set_option maxRecDepth 100000 in
theorem bX8_next_146 {sc : Nat × (Nat → Int32)} {h : jH} {Q : jQ} {l1 : Int32}
    (o1 : vp_in l1 400)
    (v1 : 122 < (h 2 l1.toNatClampNeg) → WP mX8_next Q 282 [some (.ref 1), some (.int l1)] [] (jG0 sc) h (0, 0))
    (v2 : ¬ 122 < (h 2 l1.toNatClampNeg) → WP mX8_next Q 157 [some (.ref 1), some (.int l1)] [] (jG0 sc) h (0, 0)) :
    WP mX8_next Q 146 [some (.ref 1), some (.int l1)] [] (jG0 sc) h (0, 0) := by
  refine j_aload_n (i := 0) rfl dX8_next_146 ?_
  refine j_getR (idx := 9) (ci := 8) (k := 0) (nest := false) (show (8, 9, 8, 0, false) ∈ jFT by decide) rfl (Nat.le_of_ble_eq_true rfl) rfl (a := 2) rfl dX8_next_147 ?_
  refine j_iload_n (i := 1) rfl dX8_next_150 ?_
  refine j_iald (Nat.le_of_ble_eq_true rfl) rfl o1 dX8_next_151 ?_
  refine j_bipush (n := 122) 122 (by decide) dX8_next_152 ?_
  refine j_icmp_gt (off := 128) 282 dX8_next_154 (by decide) (fun c1 => ?_) (fun c1 => ?_)
  · exact j_le [some (.ref 1), some (.int l1)] (And.intro rfl (And.intro rfl True.intro)) (v1 c1)
  · exact j_le [some (.ref 1), some (.int l1)] (And.intro rfl (And.intro rfl True.intro)) (v2 c1)
set_option maxRecDepth 100000 in
theorem bX8_next_157 {sc : Nat × (Nat → Int32)} {h : jH} {Q : jQ} {l1 : Int32}
    (v1 : WP mX8_next Q 116 [some (.ref 1), some (.int (l1 + 1))] [] (jG0 sc) h (0, 0)) :
    WP mX8_next Q 157 [some (.ref 1), some (.int l1)] [] (jG0 sc) h (0, 0) := by
  refine j_iinc (i := 1) (n := 1) rfl dX8_next_157 (Nat.le_of_ble_eq_true rfl) ?_
  refine j_eqlv [some (.ref 1), some (.int (l1 + 1))] rfl ?_
  refine j_goto (off := -44) 116 dX8_next_160 (by decide) ?_
  exact j_le [some (.ref 1), some (.int (l1 + 1))] (And.intro rfl (And.intro rfl True.intro)) v1
set_option maxRecDepth 100000 in
theorem bX8_next_163 {sc : Nat × (Nat → Int32)} {h : jH} {Q : jQ} {l1 : Int32}
    (v1 : (h 1 5) < 48 → WP mX8_next Q 282 [some (.ref 1), some (.int l1)] [] (jG0 sc) h (0, 0))
    (v2 : ¬ (h 1 5) < 48 → WP mX8_next Q 172 [some (.ref 1), some (.int l1)] [] (jG0 sc) h (0, 0)) :
    WP mX8_next Q 163 [some (.ref 1), some (.int l1)] [] (jG0 sc) h (0, 0) := by
  refine j_aload_n (i := 0) rfl dX8_next_163 ?_
  refine j_getI (idx := 31) (ci := 8) (k := 5) (nest := false) (show (8, 31, 8, 5, false) ∈ jFT by decide) rfl (Nat.le_of_ble_eq_true rfl) rfl dX8_next_164 ?_
  refine j_bipush (n := 48) 48 (by decide) dX8_next_167 ?_
  refine j_icmp_lt (off := 113) 282 dX8_next_169 (by decide) (fun c1 => ?_) (fun c1 => ?_)
  · exact j_le [some (.ref 1), some (.int l1)] (And.intro rfl (And.intro rfl True.intro)) (v1 c1)
  · exact j_le [some (.ref 1), some (.int l1)] (And.intro rfl (And.intro rfl True.intro)) (v2 c1)
set_option maxRecDepth 100000 in
theorem bX8_next_172 {sc : Nat × (Nat → Int32)} {h : jH} {Q : jQ} {l1 : Int32}
    (v1 : 57 < (h 1 5) → WP mX8_next Q 282 [some (.ref 1), some (.int l1)] [] (jG0 sc) h (0, 0))
    (v2 : ¬ 57 < (h 1 5) → WP mX8_next Q 181 [some (.ref 1), some (.int l1)] [] (jG0 sc) h (0, 0)) :
    WP mX8_next Q 172 [some (.ref 1), some (.int l1)] [] (jG0 sc) h (0, 0) := by
  refine j_aload_n (i := 0) rfl dX8_next_172 ?_
  refine j_getI (idx := 31) (ci := 8) (k := 5) (nest := false) (show (8, 31, 8, 5, false) ∈ jFT by decide) rfl (Nat.le_of_ble_eq_true rfl) rfl dX8_next_173 ?_
  refine j_bipush (n := 57) 57 (by decide) dX8_next_176 ?_
  refine j_icmp_gt (off := 104) 282 dX8_next_178 (by decide) (fun c1 => ?_) (fun c1 => ?_)
  · exact j_le [some (.ref 1), some (.int l1)] (And.intro rfl (And.intro rfl True.intro)) (v1 c1)
  · exact j_le [some (.ref 1), some (.int l1)] (And.intro rfl (And.intro rfl True.intro)) (v2 c1)
set_option maxRecDepth 100000 in
theorem bX8_next_181 {sc : Nat × (Nat → Int32)} {h : jH} {Q : jQ} {l1 : Int32}
    (v1 : WP mX8_next Q 197 [some (.ref 1), some (.int l1)] [] (jG0 sc) (jput (jput h 1 2 2) 1 5 (((jput h 1 2 2) 1 5) - 48)) (0, 0)) :
    WP mX8_next Q 181 [some (.ref 1), some (.int l1)] [] (jG0 sc) h (0, 0) := by
  refine j_aload_n (i := 0) rfl dX8_next_181 ?_
  refine j_iconst (n := 2) 2 (by decide) dX8_next_182 ?_
  refine j_putI (idx := 28) (ci := 8) (k := 2) (nest := false) (show (8, 28, 8, 2, false) ∈ jFT by decide) rfl rfl rfl rfl (Nat.le_of_ble_eq_true rfl) rfl dX8_next_183 ?_
  refine j_aload_n (i := 0) rfl dX8_next_186 ?_
  refine j_dup rfl dX8_next_187 ?_
  refine j_getI (idx := 31) (ci := 8) (k := 5) (nest := false) (show (8, 31, 8, 5, false) ∈ jFT by decide) rfl (Nat.le_of_ble_eq_true rfl) rfl dX8_next_188 ?_
  refine j_bipush (n := 48) 48 (by decide) dX8_next_191 ?_
  refine j_isub dX8_next_193 ?_
  refine j_putI (idx := 31) (ci := 8) (k := 5) (nest := false) (show (8, 31, 8, 5, false) ∈ jFT by decide) rfl rfl rfl rfl (Nat.le_of_ble_eq_true rfl) rfl dX8_next_194 ?_
  exact j_le [some (.ref 1), some (.int l1)] (And.intro rfl (And.intro rfl True.intro)) v1
set_option maxRecDepth 100000 in
theorem bX8_next_197 {sc : Nat × (Nat → Int32)} {h : jH} {Q : jQ} {l1 : Int32}
    (v1 : l1 < 0 → WP mX8_next Q 282 [some (.ref 1), some (.int l1)] [] (jG0 sc) h (0, 0))
    (v2 : ¬ l1 < 0 → WP mX8_next Q 201 [some (.ref 1), some (.int l1)] [] (jG0 sc) h (0, 0)) :
    WP mX8_next Q 197 [some (.ref 1), some (.int l1)] [] (jG0 sc) h (0, 0) := by
  refine j_iload_n (i := 1) rfl dX8_next_197 ?_
  refine j_if_lt (off := 84) 282 dX8_next_198 (by decide) (fun c1 => ?_) (fun c1 => ?_)
  · exact j_le [some (.ref 1), some (.int l1)] (And.intro rfl (And.intro rfl True.intro)) (v1 c1)
  · exact j_le [some (.ref 1), some (.int l1)] (And.intro rfl (And.intro rfl True.intro)) (v2 c1)
set_option maxRecDepth 100000 in
theorem bX8_next_201 {sc : Nat × (Nat → Int32)} {h : jH} {Q : jQ} {l1 : Int32}
    (v1 : (h 1 1) ≤ l1 → WP mX8_next Q 282 [some (.ref 1), some (.int l1)] [] (jG0 sc) h (0, 0))
    (v2 : ¬ (h 1 1) ≤ l1 → WP mX8_next Q 209 [some (.ref 1), some (.int l1)] [] (jG0 sc) h (0, 0)) :
    WP mX8_next Q 201 [some (.ref 1), some (.int l1)] [] (jG0 sc) h (0, 0) := by
  refine j_iload_n (i := 1) rfl dX8_next_201 ?_
  refine j_aload_n (i := 0) rfl dX8_next_202 ?_
  refine j_getI (idx := 15) (ci := 8) (k := 1) (nest := false) (show (8, 15, 8, 1, false) ∈ jFT by decide) rfl (Nat.le_of_ble_eq_true rfl) rfl dX8_next_203 ?_
  refine j_icmp_ge (off := 76) 282 dX8_next_206 (by decide) (fun c1 => ?_) (fun c1 => ?_)
  · exact j_le [some (.ref 1), some (.int l1)] (And.intro rfl (And.intro rfl True.intro)) (v1 c1)
  · exact j_le [some (.ref 1), some (.int l1)] (And.intro rfl (And.intro rfl True.intro)) (v2 c1)
set_option maxRecDepth 100000 in
theorem bX8_next_209 {sc : Nat × (Nat → Int32)} {h : jH} {Q : jQ} {l1 : Int32}
    (v1 : 400 ≤ l1 → WP mX8_next Q 282 [some (.ref 1), some (.int l1)] [] (jG0 sc) h (0, 0))
    (v2 : ¬ 400 ≤ l1 → WP mX8_next Q 216 [some (.ref 1), some (.int l1)] [] (jG0 sc) h (0, 0)) :
    WP mX8_next Q 209 [some (.ref 1), some (.int l1)] [] (jG0 sc) h (0, 0) := by
  refine j_iload_n (i := 1) rfl dX8_next_209 ?_
  refine j_sipush (n := 400) 400 (by decide) dX8_next_210 ?_
  refine j_icmp_ge (off := 69) 282 dX8_next_213 (by decide) (fun c1 => ?_) (fun c1 => ?_)
  · exact j_le [some (.ref 1), some (.int l1)] (And.intro rfl (And.intro rfl True.intro)) (v1 c1)
  · exact j_le [some (.ref 1), some (.int l1)] (And.intro rfl (And.intro rfl True.intro)) (v2 c1)
set_option maxRecDepth 100000 in
theorem bX8_next_216 {sc : Nat × (Nat → Int32)} {h : jH} {Q : jQ} {l1 : Int32}
    (o1 : vp_in l1 400)
    (v1 : (h 2 l1.toNatClampNeg) < 48 → WP mX8_next Q 282 [some (.ref 1), some (.int l1)] [] (jG0 sc) h (0, 0))
    (v2 : ¬ (h 2 l1.toNatClampNeg) < 48 → WP mX8_next Q 227 [some (.ref 1), some (.int l1)] [] (jG0 sc) h (0, 0)) :
    WP mX8_next Q 216 [some (.ref 1), some (.int l1)] [] (jG0 sc) h (0, 0) := by
  refine j_aload_n (i := 0) rfl dX8_next_216 ?_
  refine j_getR (idx := 9) (ci := 8) (k := 0) (nest := false) (show (8, 9, 8, 0, false) ∈ jFT by decide) rfl (Nat.le_of_ble_eq_true rfl) rfl (a := 2) rfl dX8_next_217 ?_
  refine j_iload_n (i := 1) rfl dX8_next_220 ?_
  refine j_iald (Nat.le_of_ble_eq_true rfl) rfl o1 dX8_next_221 ?_
  refine j_bipush (n := 48) 48 (by decide) dX8_next_222 ?_
  refine j_icmp_lt (off := 58) 282 dX8_next_224 (by decide) (fun c1 => ?_) (fun c1 => ?_)
  · exact j_le [some (.ref 1), some (.int l1)] (And.intro rfl (And.intro rfl True.intro)) (v1 c1)
  · exact j_le [some (.ref 1), some (.int l1)] (And.intro rfl (And.intro rfl True.intro)) (v2 c1)
set_option maxRecDepth 100000 in
theorem bX8_next_227 {sc : Nat × (Nat → Int32)} {h : jH} {Q : jQ} {l1 : Int32}
    (o1 : vp_in l1 400)
    (v1 : 57 < (h 2 l1.toNatClampNeg) → WP mX8_next Q 282 [some (.ref 1), some (.int l1)] [] (jG0 sc) h (0, 0))
    (v2 : ¬ 57 < (h 2 l1.toNatClampNeg) → WP mX8_next Q 238 [some (.ref 1), some (.int l1)] [] (jG0 sc) h (0, 0)) :
    WP mX8_next Q 227 [some (.ref 1), some (.int l1)] [] (jG0 sc) h (0, 0) := by
  refine j_aload_n (i := 0) rfl dX8_next_227 ?_
  refine j_getR (idx := 9) (ci := 8) (k := 0) (nest := false) (show (8, 9, 8, 0, false) ∈ jFT by decide) rfl (Nat.le_of_ble_eq_true rfl) rfl (a := 2) rfl dX8_next_228 ?_
  refine j_iload_n (i := 1) rfl dX8_next_231 ?_
  refine j_iald (Nat.le_of_ble_eq_true rfl) rfl o1 dX8_next_232 ?_
  refine j_bipush (n := 57) 57 (by decide) dX8_next_233 ?_
  refine j_icmp_gt (off := 47) 282 dX8_next_235 (by decide) (fun c1 => ?_) (fun c1 => ?_)
  · exact j_le [some (.ref 1), some (.int l1)] (And.intro rfl (And.intro rfl True.intro)) (v1 c1)
  · exact j_le [some (.ref 1), some (.int l1)] (And.intro rfl (And.intro rfl True.intro)) (v2 c1)
set_option maxRecDepth 100000 in
theorem bX8_next_238 {sc : Nat × (Nat → Int32)} {h : jH} {Q : jQ} {l1 : Int32}
    (v1 : (h 1 5) ≤ 9999 → WP mX8_next Q 256 [some (.ref 1), some (.int l1)] [.ref 1] (jG0 sc) h (0, 0))
    (v2 : ¬ (h 1 5) ≤ 9999 → WP mX8_next Q 249 [some (.ref 1), some (.int l1)] [.ref 1] (jG0 sc) h (0, 0)) :
    WP mX8_next Q 238 [some (.ref 1), some (.int l1)] [] (jG0 sc) h (0, 0) := by
  refine j_aload_n (i := 0) rfl dX8_next_238 ?_
  refine j_aload_n (i := 0) rfl dX8_next_239 ?_
  refine j_getI (idx := 31) (ci := 8) (k := 5) (nest := false) (show (8, 31, 8, 5, false) ∈ jFT by decide) rfl (Nat.le_of_ble_eq_true rfl) rfl dX8_next_240 ?_
  refine j_sipush (n := 9999) 9999 (by decide) dX8_next_243 ?_
  refine j_icmp_le (off := 10) 256 dX8_next_246 (by decide) (fun c1 => ?_) (fun c1 => ?_)
  · exact j_le [some (.ref 1), some (.int l1)] (And.intro rfl (And.intro rfl True.intro)) (v1 c1)
  · exact j_le [some (.ref 1), some (.int l1)] (And.intro rfl (And.intro rfl True.intro)) (v2 c1)
set_option maxRecDepth 100000 in
theorem bX8_next_249 {sc : Nat × (Nat → Int32)} {h : jH} {Q : jQ} {l1 : Int32}
    (v1 : WP mX8_next Q 273 [some (.ref 1), some (.int l1)] [.int (h 1 5), .ref 1] (jG0 sc) h (0, 0)) :
    WP mX8_next Q 249 [some (.ref 1), some (.int l1)] [.ref 1] (jG0 sc) h (0, 0) := by
  refine j_aload_n (i := 0) rfl dX8_next_249 ?_
  refine j_getI (idx := 31) (ci := 8) (k := 5) (nest := false) (show (8, 31, 8, 5, false) ∈ jFT by decide) rfl (Nat.le_of_ble_eq_true rfl) rfl dX8_next_250 ?_
  refine j_goto (off := 20) 273 dX8_next_253 (by decide) ?_
  exact j_le [some (.ref 1), some (.int l1)] (And.intro rfl (And.intro rfl True.intro)) v1
set_option maxRecDepth 100000 in
theorem bX8_next_256 {sc : Nat × (Nat → Int32)} {h : jH} {Q : jQ} {l1 : Int32}
    (o1 : vp_in l1 400)
    (v1 : WP mX8_next Q 273 [some (.ref 1), some (.int l1)] [.int ((((h 1 5) * 10) + (h 2 l1.toNatClampNeg)) - 48), .ref 1] (jG0 sc) h (0, 0)) :
    WP mX8_next Q 256 [some (.ref 1), some (.int l1)] [.ref 1] (jG0 sc) h (0, 0) := by
  refine j_aload_n (i := 0) rfl dX8_next_256 ?_
  refine j_getI (idx := 31) (ci := 8) (k := 5) (nest := false) (show (8, 31, 8, 5, false) ∈ jFT by decide) rfl (Nat.le_of_ble_eq_true rfl) rfl dX8_next_257 ?_
  refine j_bipush (n := 10) 10 (by decide) dX8_next_260 ?_
  refine j_imul dX8_next_262 ?_
  refine j_aload_n (i := 0) rfl dX8_next_263 ?_
  refine j_getR (idx := 9) (ci := 8) (k := 0) (nest := false) (show (8, 9, 8, 0, false) ∈ jFT by decide) rfl (Nat.le_of_ble_eq_true rfl) rfl (a := 2) rfl dX8_next_264 ?_
  refine j_iload_n (i := 1) rfl dX8_next_267 ?_
  refine j_iald (Nat.le_of_ble_eq_true rfl) rfl o1 dX8_next_268 ?_
  refine j_iadd dX8_next_269 ?_
  refine j_bipush (n := 48) 48 (by decide) dX8_next_270 ?_
  refine j_isub dX8_next_272 ?_
  exact j_le [some (.ref 1), some (.int l1)] (And.intro rfl (And.intro rfl True.intro)) v1
set_option maxRecDepth 100000 in
theorem bX8_next_273 {sc : Nat × (Nat → Int32)} {h : jH} {Q : jQ} {l1 s0 : Int32}
    (v1 : WP mX8_next Q 197 [some (.ref 1), some (.int (l1 + 1))] [] (jG0 sc) (jput h 1 5 s0) (0, 0)) :
    WP mX8_next Q 273 [some (.ref 1), some (.int l1)] [.int s0, .ref 1] (jG0 sc) h (0, 0) := by
  refine j_putI (idx := 31) (ci := 8) (k := 5) (nest := false) (show (8, 31, 8, 5, false) ∈ jFT by decide) rfl rfl rfl rfl (Nat.le_of_ble_eq_true rfl) rfl dX8_next_273 ?_
  refine j_iinc (i := 1) (n := 1) rfl dX8_next_276 (Nat.le_of_ble_eq_true rfl) ?_
  refine j_eqlv [some (.ref 1), some (.int (l1 + 1))] rfl ?_
  refine j_goto (off := -82) 197 dX8_next_279 (by decide) ?_
  exact j_le [some (.ref 1), some (.int (l1 + 1))] (And.intro rfl (And.intro rfl True.intro)) v1
set_option maxRecDepth 100000 in
theorem bX8_next_282 {sc : Nat × (Nat → Int32)} {h : jH} {Q : jQ} {l1 : Int32}
    (v1 : Q (.inl none) (jG0 sc) (jput h 1 4 l1)) :
    WP mX8_next Q 282 [some (.ref 1), some (.int l1)] [] (jG0 sc) h (0, 0) := by
  refine j_aload_n (i := 0) rfl dX8_next_282 ?_
  refine j_iload_n (i := 1) rfl dX8_next_283 ?_
  refine j_putI (idx := 19) (ci := 8) (k := 4) (nest := false) (show (8, 19, 8, 4, false) ∈ jFT by decide) rfl rfl rfl rfl (Nat.le_of_ble_eq_true rfl) rfl dX8_next_284 ?_
  exact j_vret rfl (Nat.zero_le _) (Nat.zero_le _) dX8_next_287 v1
set_option maxRecDepth 100000 in
theorem rX8_next_0 {sc : Nat × (Nat → Int32)} {h : jH} {Q : jQ}
    (v1 : WP mX8_next Q 5 [some (.ref 1), some (.int (h 1 4))] [] (jG0 sc) h (0, 0)) :
    WP mX8_next Q 0 [some (.ref 1), none] [] (jG0 sc) h (0, 0) := by
  exact (bX8_next_0 v1)
set_option maxRecDepth 100000 in
theorem rX8_next_5 {sc : Nat × (Nat → Int32)} {h : jH} {Q : jQ} {l1 : Int32}
    (v1 : l1 < 0 → l1 < 0 → ((jput (jput (jput h 1 3 l1) 1 2 0) 1 5 0) 1 5) < 97 → ((jput (jput (jput h 1 3 l1) 1 2 0) 1 5 0) 1 5) < 48 → Q (.inl none) (jG0 sc) (jput (jput (jput (jput h 1 3 l1) 1 2 0) 1 5 0) 1 4 l1))
    (v2 : l1 < 0 → l1 < 0 → ((jput (jput (jput h 1 3 l1) 1 2 0) 1 5 0) 1 5) < 97 → ¬ ((jput (jput (jput h 1 3 l1) 1 2 0) 1 5 0) 1 5) < 48 → 57 < ((jput (jput (jput h 1 3 l1) 1 2 0) 1 5 0) 1 5) → Q (.inl none) (jG0 sc) (jput (jput (jput (jput h 1 3 l1) 1 2 0) 1 5 0) 1 4 l1))
    (v3 : l1 < 0 → l1 < 0 → ((jput (jput (jput h 1 3 l1) 1 2 0) 1 5 0) 1 5) < 97 → ¬ ((jput (jput (jput h 1 3 l1) 1 2 0) 1 5 0) 1 5) < 48 → ¬ 57 < ((jput (jput (jput h 1 3 l1) 1 2 0) 1 5 0) 1 5) → WP mX8_next Q 197 [some (.ref 1), some (.int l1)] [] (jG0 sc) (jput (jput (jput (jput (jput h 1 3 l1) 1 2 0) 1 5 0) 1 2 2) 1 5 (((jput (jput (jput (jput h 1 3 l1) 1 2 0) 1 5 0) 1 2 2) 1 5) - 48)) (0, 0))
    (v4 : l1 < 0 → l1 < 0 → ¬ ((jput (jput (jput h 1 3 l1) 1 2 0) 1 5 0) 1 5) < 97 → 122 < ((jput (jput (jput h 1 3 l1) 1 2 0) 1 5 0) 1 5) → ((jput (jput (jput h 1 3 l1) 1 2 0) 1 5 0) 1 5) < 48 → Q (.inl none) (jG0 sc) (jput (jput (jput (jput h 1 3 l1) 1 2 0) 1 5 0) 1 4 l1))
    (v5 : l1 < 0 → l1 < 0 → ¬ ((jput (jput (jput h 1 3 l1) 1 2 0) 1 5 0) 1 5) < 97 → 122 < ((jput (jput (jput h 1 3 l1) 1 2 0) 1 5 0) 1 5) → ¬ ((jput (jput (jput h 1 3 l1) 1 2 0) 1 5 0) 1 5) < 48 → 57 < ((jput (jput (jput h 1 3 l1) 1 2 0) 1 5 0) 1 5) → Q (.inl none) (jG0 sc) (jput (jput (jput (jput h 1 3 l1) 1 2 0) 1 5 0) 1 4 l1))
    (v6 : l1 < 0 → l1 < 0 → ¬ ((jput (jput (jput h 1 3 l1) 1 2 0) 1 5 0) 1 5) < 97 → 122 < ((jput (jput (jput h 1 3 l1) 1 2 0) 1 5 0) 1 5) → ¬ ((jput (jput (jput h 1 3 l1) 1 2 0) 1 5 0) 1 5) < 48 → ¬ 57 < ((jput (jput (jput h 1 3 l1) 1 2 0) 1 5 0) 1 5) → WP mX8_next Q 197 [some (.ref 1), some (.int l1)] [] (jG0 sc) (jput (jput (jput (jput (jput h 1 3 l1) 1 2 0) 1 5 0) 1 2 2) 1 5 (((jput (jput (jput (jput h 1 3 l1) 1 2 0) 1 5 0) 1 2 2) 1 5) - 48)) (0, 0))
    (v7 : l1 < 0 → l1 < 0 → ¬ ((jput (jput (jput h 1 3 l1) 1 2 0) 1 5 0) 1 5) < 97 → ¬ 122 < ((jput (jput (jput h 1 3 l1) 1 2 0) 1 5 0) 1 5) → WP mX8_next Q 116 [some (.ref 1), some (.int l1)] [] (jG0 sc) (jput (jput (jput (jput h 1 3 l1) 1 2 0) 1 5 0) 1 2 1) (0, 0))
    (v8 : l1 < 0 → ¬ l1 < 0 → ((jput (jput (jput h 1 3 l1) 1 2 0) 1 5 0) 1 1) ≤ l1 → ((jput (jput (jput h 1 3 l1) 1 2 0) 1 5 0) 1 5) < 97 → ((jput (jput (jput h 1 3 l1) 1 2 0) 1 5 0) 1 5) < 48 → Q (.inl none) (jG0 sc) (jput (jput (jput (jput h 1 3 l1) 1 2 0) 1 5 0) 1 4 l1))
    (v9 : l1 < 0 → ¬ l1 < 0 → ((jput (jput (jput h 1 3 l1) 1 2 0) 1 5 0) 1 1) ≤ l1 → ((jput (jput (jput h 1 3 l1) 1 2 0) 1 5 0) 1 5) < 97 → ¬ ((jput (jput (jput h 1 3 l1) 1 2 0) 1 5 0) 1 5) < 48 → 57 < ((jput (jput (jput h 1 3 l1) 1 2 0) 1 5 0) 1 5) → Q (.inl none) (jG0 sc) (jput (jput (jput (jput h 1 3 l1) 1 2 0) 1 5 0) 1 4 l1))
    (v10 : l1 < 0 → ¬ l1 < 0 → ((jput (jput (jput h 1 3 l1) 1 2 0) 1 5 0) 1 1) ≤ l1 → ((jput (jput (jput h 1 3 l1) 1 2 0) 1 5 0) 1 5) < 97 → ¬ ((jput (jput (jput h 1 3 l1) 1 2 0) 1 5 0) 1 5) < 48 → ¬ 57 < ((jput (jput (jput h 1 3 l1) 1 2 0) 1 5 0) 1 5) → WP mX8_next Q 197 [some (.ref 1), some (.int l1)] [] (jG0 sc) (jput (jput (jput (jput (jput h 1 3 l1) 1 2 0) 1 5 0) 1 2 2) 1 5 (((jput (jput (jput (jput h 1 3 l1) 1 2 0) 1 5 0) 1 2 2) 1 5) - 48)) (0, 0))
    (v11 : l1 < 0 → ¬ l1 < 0 → ((jput (jput (jput h 1 3 l1) 1 2 0) 1 5 0) 1 1) ≤ l1 → ¬ ((jput (jput (jput h 1 3 l1) 1 2 0) 1 5 0) 1 5) < 97 → 122 < ((jput (jput (jput h 1 3 l1) 1 2 0) 1 5 0) 1 5) → ((jput (jput (jput h 1 3 l1) 1 2 0) 1 5 0) 1 5) < 48 → Q (.inl none) (jG0 sc) (jput (jput (jput (jput h 1 3 l1) 1 2 0) 1 5 0) 1 4 l1))
    (v12 : l1 < 0 → ¬ l1 < 0 → ((jput (jput (jput h 1 3 l1) 1 2 0) 1 5 0) 1 1) ≤ l1 → ¬ ((jput (jput (jput h 1 3 l1) 1 2 0) 1 5 0) 1 5) < 97 → 122 < ((jput (jput (jput h 1 3 l1) 1 2 0) 1 5 0) 1 5) → ¬ ((jput (jput (jput h 1 3 l1) 1 2 0) 1 5 0) 1 5) < 48 → 57 < ((jput (jput (jput h 1 3 l1) 1 2 0) 1 5 0) 1 5) → Q (.inl none) (jG0 sc) (jput (jput (jput (jput h 1 3 l1) 1 2 0) 1 5 0) 1 4 l1))
    (v13 : l1 < 0 → ¬ l1 < 0 → ((jput (jput (jput h 1 3 l1) 1 2 0) 1 5 0) 1 1) ≤ l1 → ¬ ((jput (jput (jput h 1 3 l1) 1 2 0) 1 5 0) 1 5) < 97 → 122 < ((jput (jput (jput h 1 3 l1) 1 2 0) 1 5 0) 1 5) → ¬ ((jput (jput (jput h 1 3 l1) 1 2 0) 1 5 0) 1 5) < 48 → ¬ 57 < ((jput (jput (jput h 1 3 l1) 1 2 0) 1 5 0) 1 5) → WP mX8_next Q 197 [some (.ref 1), some (.int l1)] [] (jG0 sc) (jput (jput (jput (jput (jput h 1 3 l1) 1 2 0) 1 5 0) 1 2 2) 1 5 (((jput (jput (jput (jput h 1 3 l1) 1 2 0) 1 5 0) 1 2 2) 1 5) - 48)) (0, 0))
    (v14 : l1 < 0 → ¬ l1 < 0 → ((jput (jput (jput h 1 3 l1) 1 2 0) 1 5 0) 1 1) ≤ l1 → ¬ ((jput (jput (jput h 1 3 l1) 1 2 0) 1 5 0) 1 5) < 97 → ¬ 122 < ((jput (jput (jput h 1 3 l1) 1 2 0) 1 5 0) 1 5) → WP mX8_next Q 116 [some (.ref 1), some (.int l1)] [] (jG0 sc) (jput (jput (jput (jput h 1 3 l1) 1 2 0) 1 5 0) 1 2 1) (0, 0))
    (v15 : l1 < 0 → ¬ l1 < 0 → ¬ ((jput (jput (jput h 1 3 l1) 1 2 0) 1 5 0) 1 1) ≤ l1 → 400 ≤ l1 → ((jput (jput (jput h 1 3 l1) 1 2 0) 1 5 0) 1 5) < 97 → ((jput (jput (jput h 1 3 l1) 1 2 0) 1 5 0) 1 5) < 48 → Q (.inl none) (jG0 sc) (jput (jput (jput (jput h 1 3 l1) 1 2 0) 1 5 0) 1 4 l1))
    (v16 : l1 < 0 → ¬ l1 < 0 → ¬ ((jput (jput (jput h 1 3 l1) 1 2 0) 1 5 0) 1 1) ≤ l1 → 400 ≤ l1 → ((jput (jput (jput h 1 3 l1) 1 2 0) 1 5 0) 1 5) < 97 → ¬ ((jput (jput (jput h 1 3 l1) 1 2 0) 1 5 0) 1 5) < 48 → 57 < ((jput (jput (jput h 1 3 l1) 1 2 0) 1 5 0) 1 5) → Q (.inl none) (jG0 sc) (jput (jput (jput (jput h 1 3 l1) 1 2 0) 1 5 0) 1 4 l1))
    (v17 : l1 < 0 → ¬ l1 < 0 → ¬ ((jput (jput (jput h 1 3 l1) 1 2 0) 1 5 0) 1 1) ≤ l1 → 400 ≤ l1 → ((jput (jput (jput h 1 3 l1) 1 2 0) 1 5 0) 1 5) < 97 → ¬ ((jput (jput (jput h 1 3 l1) 1 2 0) 1 5 0) 1 5) < 48 → ¬ 57 < ((jput (jput (jput h 1 3 l1) 1 2 0) 1 5 0) 1 5) → WP mX8_next Q 197 [some (.ref 1), some (.int l1)] [] (jG0 sc) (jput (jput (jput (jput (jput h 1 3 l1) 1 2 0) 1 5 0) 1 2 2) 1 5 (((jput (jput (jput (jput h 1 3 l1) 1 2 0) 1 5 0) 1 2 2) 1 5) - 48)) (0, 0))
    (v18 : l1 < 0 → ¬ l1 < 0 → ¬ ((jput (jput (jput h 1 3 l1) 1 2 0) 1 5 0) 1 1) ≤ l1 → 400 ≤ l1 → ¬ ((jput (jput (jput h 1 3 l1) 1 2 0) 1 5 0) 1 5) < 97 → 122 < ((jput (jput (jput h 1 3 l1) 1 2 0) 1 5 0) 1 5) → ((jput (jput (jput h 1 3 l1) 1 2 0) 1 5 0) 1 5) < 48 → Q (.inl none) (jG0 sc) (jput (jput (jput (jput h 1 3 l1) 1 2 0) 1 5 0) 1 4 l1))
    (v19 : l1 < 0 → ¬ l1 < 0 → ¬ ((jput (jput (jput h 1 3 l1) 1 2 0) 1 5 0) 1 1) ≤ l1 → 400 ≤ l1 → ¬ ((jput (jput (jput h 1 3 l1) 1 2 0) 1 5 0) 1 5) < 97 → 122 < ((jput (jput (jput h 1 3 l1) 1 2 0) 1 5 0) 1 5) → ¬ ((jput (jput (jput h 1 3 l1) 1 2 0) 1 5 0) 1 5) < 48 → 57 < ((jput (jput (jput h 1 3 l1) 1 2 0) 1 5 0) 1 5) → Q (.inl none) (jG0 sc) (jput (jput (jput (jput h 1 3 l1) 1 2 0) 1 5 0) 1 4 l1))
    (v20 : l1 < 0 → ¬ l1 < 0 → ¬ ((jput (jput (jput h 1 3 l1) 1 2 0) 1 5 0) 1 1) ≤ l1 → 400 ≤ l1 → ¬ ((jput (jput (jput h 1 3 l1) 1 2 0) 1 5 0) 1 5) < 97 → 122 < ((jput (jput (jput h 1 3 l1) 1 2 0) 1 5 0) 1 5) → ¬ ((jput (jput (jput h 1 3 l1) 1 2 0) 1 5 0) 1 5) < 48 → ¬ 57 < ((jput (jput (jput h 1 3 l1) 1 2 0) 1 5 0) 1 5) → WP mX8_next Q 197 [some (.ref 1), some (.int l1)] [] (jG0 sc) (jput (jput (jput (jput (jput h 1 3 l1) 1 2 0) 1 5 0) 1 2 2) 1 5 (((jput (jput (jput (jput h 1 3 l1) 1 2 0) 1 5 0) 1 2 2) 1 5) - 48)) (0, 0))
    (v21 : l1 < 0 → ¬ l1 < 0 → ¬ ((jput (jput (jput h 1 3 l1) 1 2 0) 1 5 0) 1 1) ≤ l1 → 400 ≤ l1 → ¬ ((jput (jput (jput h 1 3 l1) 1 2 0) 1 5 0) 1 5) < 97 → ¬ 122 < ((jput (jput (jput h 1 3 l1) 1 2 0) 1 5 0) 1 5) → WP mX8_next Q 116 [some (.ref 1), some (.int l1)] [] (jG0 sc) (jput (jput (jput (jput h 1 3 l1) 1 2 0) 1 5 0) 1 2 1) (0, 0))
    (o1 : l1 < 0 → ¬ l1 < 0 → ¬ ((jput (jput (jput h 1 3 l1) 1 2 0) 1 5 0) 1 1) ≤ l1 → ¬ 400 ≤ l1 → vp_in l1 400)
    (v22 : l1 < 0 → ¬ l1 < 0 → ¬ ((jput (jput (jput h 1 3 l1) 1 2 0) 1 5 0) 1 1) ≤ l1 → ¬ 400 ≤ l1 → ((jput (jput (jput (jput (jput h 1 3 l1) 1 2 0) 1 5 0) 1 2 3) 1 5 ((jput (jput (jput (jput h 1 3 l1) 1 2 0) 1 5 0) 1 2 3) 2 l1.toNatClampNeg)) 1 5) < 97 → ((jput (jput (jput (jput (jput h 1 3 l1) 1 2 0) 1 5 0) 1 2 3) 1 5 ((jput (jput (jput (jput h 1 3 l1) 1 2 0) 1 5 0) 1 2 3) 2 l1.toNatClampNeg)) 1 5) < 48 → Q (.inl none) (jG0 sc) (jput (jput (jput (jput (jput (jput h 1 3 l1) 1 2 0) 1 5 0) 1 2 3) 1 5 ((jput (jput (jput (jput h 1 3 l1) 1 2 0) 1 5 0) 1 2 3) 2 l1.toNatClampNeg)) 1 4 (l1 + 1)))
    (v23 : l1 < 0 → ¬ l1 < 0 → ¬ ((jput (jput (jput h 1 3 l1) 1 2 0) 1 5 0) 1 1) ≤ l1 → ¬ 400 ≤ l1 → ((jput (jput (jput (jput (jput h 1 3 l1) 1 2 0) 1 5 0) 1 2 3) 1 5 ((jput (jput (jput (jput h 1 3 l1) 1 2 0) 1 5 0) 1 2 3) 2 l1.toNatClampNeg)) 1 5) < 97 → ¬ ((jput (jput (jput (jput (jput h 1 3 l1) 1 2 0) 1 5 0) 1 2 3) 1 5 ((jput (jput (jput (jput h 1 3 l1) 1 2 0) 1 5 0) 1 2 3) 2 l1.toNatClampNeg)) 1 5) < 48 → 57 < ((jput (jput (jput (jput (jput h 1 3 l1) 1 2 0) 1 5 0) 1 2 3) 1 5 ((jput (jput (jput (jput h 1 3 l1) 1 2 0) 1 5 0) 1 2 3) 2 l1.toNatClampNeg)) 1 5) → Q (.inl none) (jG0 sc) (jput (jput (jput (jput (jput (jput h 1 3 l1) 1 2 0) 1 5 0) 1 2 3) 1 5 ((jput (jput (jput (jput h 1 3 l1) 1 2 0) 1 5 0) 1 2 3) 2 l1.toNatClampNeg)) 1 4 (l1 + 1)))
    (v24 : l1 < 0 → ¬ l1 < 0 → ¬ ((jput (jput (jput h 1 3 l1) 1 2 0) 1 5 0) 1 1) ≤ l1 → ¬ 400 ≤ l1 → ((jput (jput (jput (jput (jput h 1 3 l1) 1 2 0) 1 5 0) 1 2 3) 1 5 ((jput (jput (jput (jput h 1 3 l1) 1 2 0) 1 5 0) 1 2 3) 2 l1.toNatClampNeg)) 1 5) < 97 → ¬ ((jput (jput (jput (jput (jput h 1 3 l1) 1 2 0) 1 5 0) 1 2 3) 1 5 ((jput (jput (jput (jput h 1 3 l1) 1 2 0) 1 5 0) 1 2 3) 2 l1.toNatClampNeg)) 1 5) < 48 → ¬ 57 < ((jput (jput (jput (jput (jput h 1 3 l1) 1 2 0) 1 5 0) 1 2 3) 1 5 ((jput (jput (jput (jput h 1 3 l1) 1 2 0) 1 5 0) 1 2 3) 2 l1.toNatClampNeg)) 1 5) → WP mX8_next Q 197 [some (.ref 1), some (.int (l1 + 1))] [] (jG0 sc) (jput (jput (jput (jput (jput (jput (jput h 1 3 l1) 1 2 0) 1 5 0) 1 2 3) 1 5 ((jput (jput (jput (jput h 1 3 l1) 1 2 0) 1 5 0) 1 2 3) 2 l1.toNatClampNeg)) 1 2 2) 1 5 (((jput (jput (jput (jput (jput (jput h 1 3 l1) 1 2 0) 1 5 0) 1 2 3) 1 5 ((jput (jput (jput (jput h 1 3 l1) 1 2 0) 1 5 0) 1 2 3) 2 l1.toNatClampNeg)) 1 2 2) 1 5) - 48)) (0, 0))
    (v25 : l1 < 0 → ¬ l1 < 0 → ¬ ((jput (jput (jput h 1 3 l1) 1 2 0) 1 5 0) 1 1) ≤ l1 → ¬ 400 ≤ l1 → ¬ ((jput (jput (jput (jput (jput h 1 3 l1) 1 2 0) 1 5 0) 1 2 3) 1 5 ((jput (jput (jput (jput h 1 3 l1) 1 2 0) 1 5 0) 1 2 3) 2 l1.toNatClampNeg)) 1 5) < 97 → 122 < ((jput (jput (jput (jput (jput h 1 3 l1) 1 2 0) 1 5 0) 1 2 3) 1 5 ((jput (jput (jput (jput h 1 3 l1) 1 2 0) 1 5 0) 1 2 3) 2 l1.toNatClampNeg)) 1 5) → ((jput (jput (jput (jput (jput h 1 3 l1) 1 2 0) 1 5 0) 1 2 3) 1 5 ((jput (jput (jput (jput h 1 3 l1) 1 2 0) 1 5 0) 1 2 3) 2 l1.toNatClampNeg)) 1 5) < 48 → Q (.inl none) (jG0 sc) (jput (jput (jput (jput (jput (jput h 1 3 l1) 1 2 0) 1 5 0) 1 2 3) 1 5 ((jput (jput (jput (jput h 1 3 l1) 1 2 0) 1 5 0) 1 2 3) 2 l1.toNatClampNeg)) 1 4 (l1 + 1)))
    (v26 : l1 < 0 → ¬ l1 < 0 → ¬ ((jput (jput (jput h 1 3 l1) 1 2 0) 1 5 0) 1 1) ≤ l1 → ¬ 400 ≤ l1 → ¬ ((jput (jput (jput (jput (jput h 1 3 l1) 1 2 0) 1 5 0) 1 2 3) 1 5 ((jput (jput (jput (jput h 1 3 l1) 1 2 0) 1 5 0) 1 2 3) 2 l1.toNatClampNeg)) 1 5) < 97 → 122 < ((jput (jput (jput (jput (jput h 1 3 l1) 1 2 0) 1 5 0) 1 2 3) 1 5 ((jput (jput (jput (jput h 1 3 l1) 1 2 0) 1 5 0) 1 2 3) 2 l1.toNatClampNeg)) 1 5) → ¬ ((jput (jput (jput (jput (jput h 1 3 l1) 1 2 0) 1 5 0) 1 2 3) 1 5 ((jput (jput (jput (jput h 1 3 l1) 1 2 0) 1 5 0) 1 2 3) 2 l1.toNatClampNeg)) 1 5) < 48 → 57 < ((jput (jput (jput (jput (jput h 1 3 l1) 1 2 0) 1 5 0) 1 2 3) 1 5 ((jput (jput (jput (jput h 1 3 l1) 1 2 0) 1 5 0) 1 2 3) 2 l1.toNatClampNeg)) 1 5) → Q (.inl none) (jG0 sc) (jput (jput (jput (jput (jput (jput h 1 3 l1) 1 2 0) 1 5 0) 1 2 3) 1 5 ((jput (jput (jput (jput h 1 3 l1) 1 2 0) 1 5 0) 1 2 3) 2 l1.toNatClampNeg)) 1 4 (l1 + 1)))
    (v27 : l1 < 0 → ¬ l1 < 0 → ¬ ((jput (jput (jput h 1 3 l1) 1 2 0) 1 5 0) 1 1) ≤ l1 → ¬ 400 ≤ l1 → ¬ ((jput (jput (jput (jput (jput h 1 3 l1) 1 2 0) 1 5 0) 1 2 3) 1 5 ((jput (jput (jput (jput h 1 3 l1) 1 2 0) 1 5 0) 1 2 3) 2 l1.toNatClampNeg)) 1 5) < 97 → 122 < ((jput (jput (jput (jput (jput h 1 3 l1) 1 2 0) 1 5 0) 1 2 3) 1 5 ((jput (jput (jput (jput h 1 3 l1) 1 2 0) 1 5 0) 1 2 3) 2 l1.toNatClampNeg)) 1 5) → ¬ ((jput (jput (jput (jput (jput h 1 3 l1) 1 2 0) 1 5 0) 1 2 3) 1 5 ((jput (jput (jput (jput h 1 3 l1) 1 2 0) 1 5 0) 1 2 3) 2 l1.toNatClampNeg)) 1 5) < 48 → ¬ 57 < ((jput (jput (jput (jput (jput h 1 3 l1) 1 2 0) 1 5 0) 1 2 3) 1 5 ((jput (jput (jput (jput h 1 3 l1) 1 2 0) 1 5 0) 1 2 3) 2 l1.toNatClampNeg)) 1 5) → WP mX8_next Q 197 [some (.ref 1), some (.int (l1 + 1))] [] (jG0 sc) (jput (jput (jput (jput (jput (jput (jput h 1 3 l1) 1 2 0) 1 5 0) 1 2 3) 1 5 ((jput (jput (jput (jput h 1 3 l1) 1 2 0) 1 5 0) 1 2 3) 2 l1.toNatClampNeg)) 1 2 2) 1 5 (((jput (jput (jput (jput (jput (jput h 1 3 l1) 1 2 0) 1 5 0) 1 2 3) 1 5 ((jput (jput (jput (jput h 1 3 l1) 1 2 0) 1 5 0) 1 2 3) 2 l1.toNatClampNeg)) 1 2 2) 1 5) - 48)) (0, 0))
    (v28 : l1 < 0 → ¬ l1 < 0 → ¬ ((jput (jput (jput h 1 3 l1) 1 2 0) 1 5 0) 1 1) ≤ l1 → ¬ 400 ≤ l1 → ¬ ((jput (jput (jput (jput (jput h 1 3 l1) 1 2 0) 1 5 0) 1 2 3) 1 5 ((jput (jput (jput (jput h 1 3 l1) 1 2 0) 1 5 0) 1 2 3) 2 l1.toNatClampNeg)) 1 5) < 97 → ¬ 122 < ((jput (jput (jput (jput (jput h 1 3 l1) 1 2 0) 1 5 0) 1 2 3) 1 5 ((jput (jput (jput (jput h 1 3 l1) 1 2 0) 1 5 0) 1 2 3) 2 l1.toNatClampNeg)) 1 5) → WP mX8_next Q 116 [some (.ref 1), some (.int (l1 + 1))] [] (jG0 sc) (jput (jput (jput (jput (jput (jput h 1 3 l1) 1 2 0) 1 5 0) 1 2 3) 1 5 ((jput (jput (jput (jput h 1 3 l1) 1 2 0) 1 5 0) 1 2 3) 2 l1.toNatClampNeg)) 1 2 1) (0, 0))
    (v29 : ¬ l1 < 0 → (h 1 1) ≤ l1 → l1 < 0 → ((jput (jput (jput h 1 3 l1) 1 2 0) 1 5 0) 1 5) < 97 → ((jput (jput (jput h 1 3 l1) 1 2 0) 1 5 0) 1 5) < 48 → Q (.inl none) (jG0 sc) (jput (jput (jput (jput h 1 3 l1) 1 2 0) 1 5 0) 1 4 l1))
    (v30 : ¬ l1 < 0 → (h 1 1) ≤ l1 → l1 < 0 → ((jput (jput (jput h 1 3 l1) 1 2 0) 1 5 0) 1 5) < 97 → ¬ ((jput (jput (jput h 1 3 l1) 1 2 0) 1 5 0) 1 5) < 48 → 57 < ((jput (jput (jput h 1 3 l1) 1 2 0) 1 5 0) 1 5) → Q (.inl none) (jG0 sc) (jput (jput (jput (jput h 1 3 l1) 1 2 0) 1 5 0) 1 4 l1))
    (v31 : ¬ l1 < 0 → (h 1 1) ≤ l1 → l1 < 0 → ((jput (jput (jput h 1 3 l1) 1 2 0) 1 5 0) 1 5) < 97 → ¬ ((jput (jput (jput h 1 3 l1) 1 2 0) 1 5 0) 1 5) < 48 → ¬ 57 < ((jput (jput (jput h 1 3 l1) 1 2 0) 1 5 0) 1 5) → WP mX8_next Q 197 [some (.ref 1), some (.int l1)] [] (jG0 sc) (jput (jput (jput (jput (jput h 1 3 l1) 1 2 0) 1 5 0) 1 2 2) 1 5 (((jput (jput (jput (jput h 1 3 l1) 1 2 0) 1 5 0) 1 2 2) 1 5) - 48)) (0, 0))
    (v32 : ¬ l1 < 0 → (h 1 1) ≤ l1 → l1 < 0 → ¬ ((jput (jput (jput h 1 3 l1) 1 2 0) 1 5 0) 1 5) < 97 → 122 < ((jput (jput (jput h 1 3 l1) 1 2 0) 1 5 0) 1 5) → ((jput (jput (jput h 1 3 l1) 1 2 0) 1 5 0) 1 5) < 48 → Q (.inl none) (jG0 sc) (jput (jput (jput (jput h 1 3 l1) 1 2 0) 1 5 0) 1 4 l1))
    (v33 : ¬ l1 < 0 → (h 1 1) ≤ l1 → l1 < 0 → ¬ ((jput (jput (jput h 1 3 l1) 1 2 0) 1 5 0) 1 5) < 97 → 122 < ((jput (jput (jput h 1 3 l1) 1 2 0) 1 5 0) 1 5) → ¬ ((jput (jput (jput h 1 3 l1) 1 2 0) 1 5 0) 1 5) < 48 → 57 < ((jput (jput (jput h 1 3 l1) 1 2 0) 1 5 0) 1 5) → Q (.inl none) (jG0 sc) (jput (jput (jput (jput h 1 3 l1) 1 2 0) 1 5 0) 1 4 l1))
    (v34 : ¬ l1 < 0 → (h 1 1) ≤ l1 → l1 < 0 → ¬ ((jput (jput (jput h 1 3 l1) 1 2 0) 1 5 0) 1 5) < 97 → 122 < ((jput (jput (jput h 1 3 l1) 1 2 0) 1 5 0) 1 5) → ¬ ((jput (jput (jput h 1 3 l1) 1 2 0) 1 5 0) 1 5) < 48 → ¬ 57 < ((jput (jput (jput h 1 3 l1) 1 2 0) 1 5 0) 1 5) → WP mX8_next Q 197 [some (.ref 1), some (.int l1)] [] (jG0 sc) (jput (jput (jput (jput (jput h 1 3 l1) 1 2 0) 1 5 0) 1 2 2) 1 5 (((jput (jput (jput (jput h 1 3 l1) 1 2 0) 1 5 0) 1 2 2) 1 5) - 48)) (0, 0))
    (v35 : ¬ l1 < 0 → (h 1 1) ≤ l1 → l1 < 0 → ¬ ((jput (jput (jput h 1 3 l1) 1 2 0) 1 5 0) 1 5) < 97 → ¬ 122 < ((jput (jput (jput h 1 3 l1) 1 2 0) 1 5 0) 1 5) → WP mX8_next Q 116 [some (.ref 1), some (.int l1)] [] (jG0 sc) (jput (jput (jput (jput h 1 3 l1) 1 2 0) 1 5 0) 1 2 1) (0, 0))
    (v36 : ¬ l1 < 0 → (h 1 1) ≤ l1 → ¬ l1 < 0 → ((jput (jput (jput h 1 3 l1) 1 2 0) 1 5 0) 1 1) ≤ l1 → ((jput (jput (jput h 1 3 l1) 1 2 0) 1 5 0) 1 5) < 97 → ((jput (jput (jput h 1 3 l1) 1 2 0) 1 5 0) 1 5) < 48 → Q (.inl none) (jG0 sc) (jput (jput (jput (jput h 1 3 l1) 1 2 0) 1 5 0) 1 4 l1))
    (v37 : ¬ l1 < 0 → (h 1 1) ≤ l1 → ¬ l1 < 0 → ((jput (jput (jput h 1 3 l1) 1 2 0) 1 5 0) 1 1) ≤ l1 → ((jput (jput (jput h 1 3 l1) 1 2 0) 1 5 0) 1 5) < 97 → ¬ ((jput (jput (jput h 1 3 l1) 1 2 0) 1 5 0) 1 5) < 48 → 57 < ((jput (jput (jput h 1 3 l1) 1 2 0) 1 5 0) 1 5) → Q (.inl none) (jG0 sc) (jput (jput (jput (jput h 1 3 l1) 1 2 0) 1 5 0) 1 4 l1))
    (v38 : ¬ l1 < 0 → (h 1 1) ≤ l1 → ¬ l1 < 0 → ((jput (jput (jput h 1 3 l1) 1 2 0) 1 5 0) 1 1) ≤ l1 → ((jput (jput (jput h 1 3 l1) 1 2 0) 1 5 0) 1 5) < 97 → ¬ ((jput (jput (jput h 1 3 l1) 1 2 0) 1 5 0) 1 5) < 48 → ¬ 57 < ((jput (jput (jput h 1 3 l1) 1 2 0) 1 5 0) 1 5) → WP mX8_next Q 197 [some (.ref 1), some (.int l1)] [] (jG0 sc) (jput (jput (jput (jput (jput h 1 3 l1) 1 2 0) 1 5 0) 1 2 2) 1 5 (((jput (jput (jput (jput h 1 3 l1) 1 2 0) 1 5 0) 1 2 2) 1 5) - 48)) (0, 0))
    (v39 : ¬ l1 < 0 → (h 1 1) ≤ l1 → ¬ l1 < 0 → ((jput (jput (jput h 1 3 l1) 1 2 0) 1 5 0) 1 1) ≤ l1 → ¬ ((jput (jput (jput h 1 3 l1) 1 2 0) 1 5 0) 1 5) < 97 → 122 < ((jput (jput (jput h 1 3 l1) 1 2 0) 1 5 0) 1 5) → ((jput (jput (jput h 1 3 l1) 1 2 0) 1 5 0) 1 5) < 48 → Q (.inl none) (jG0 sc) (jput (jput (jput (jput h 1 3 l1) 1 2 0) 1 5 0) 1 4 l1))
    (v40 : ¬ l1 < 0 → (h 1 1) ≤ l1 → ¬ l1 < 0 → ((jput (jput (jput h 1 3 l1) 1 2 0) 1 5 0) 1 1) ≤ l1 → ¬ ((jput (jput (jput h 1 3 l1) 1 2 0) 1 5 0) 1 5) < 97 → 122 < ((jput (jput (jput h 1 3 l1) 1 2 0) 1 5 0) 1 5) → ¬ ((jput (jput (jput h 1 3 l1) 1 2 0) 1 5 0) 1 5) < 48 → 57 < ((jput (jput (jput h 1 3 l1) 1 2 0) 1 5 0) 1 5) → Q (.inl none) (jG0 sc) (jput (jput (jput (jput h 1 3 l1) 1 2 0) 1 5 0) 1 4 l1))
    (v41 : ¬ l1 < 0 → (h 1 1) ≤ l1 → ¬ l1 < 0 → ((jput (jput (jput h 1 3 l1) 1 2 0) 1 5 0) 1 1) ≤ l1 → ¬ ((jput (jput (jput h 1 3 l1) 1 2 0) 1 5 0) 1 5) < 97 → 122 < ((jput (jput (jput h 1 3 l1) 1 2 0) 1 5 0) 1 5) → ¬ ((jput (jput (jput h 1 3 l1) 1 2 0) 1 5 0) 1 5) < 48 → ¬ 57 < ((jput (jput (jput h 1 3 l1) 1 2 0) 1 5 0) 1 5) → WP mX8_next Q 197 [some (.ref 1), some (.int l1)] [] (jG0 sc) (jput (jput (jput (jput (jput h 1 3 l1) 1 2 0) 1 5 0) 1 2 2) 1 5 (((jput (jput (jput (jput h 1 3 l1) 1 2 0) 1 5 0) 1 2 2) 1 5) - 48)) (0, 0))
    (v42 : ¬ l1 < 0 → (h 1 1) ≤ l1 → ¬ l1 < 0 → ((jput (jput (jput h 1 3 l1) 1 2 0) 1 5 0) 1 1) ≤ l1 → ¬ ((jput (jput (jput h 1 3 l1) 1 2 0) 1 5 0) 1 5) < 97 → ¬ 122 < ((jput (jput (jput h 1 3 l1) 1 2 0) 1 5 0) 1 5) → WP mX8_next Q 116 [some (.ref 1), some (.int l1)] [] (jG0 sc) (jput (jput (jput (jput h 1 3 l1) 1 2 0) 1 5 0) 1 2 1) (0, 0))
    (v43 : ¬ l1 < 0 → (h 1 1) ≤ l1 → ¬ l1 < 0 → ¬ ((jput (jput (jput h 1 3 l1) 1 2 0) 1 5 0) 1 1) ≤ l1 → 400 ≤ l1 → ((jput (jput (jput h 1 3 l1) 1 2 0) 1 5 0) 1 5) < 97 → ((jput (jput (jput h 1 3 l1) 1 2 0) 1 5 0) 1 5) < 48 → Q (.inl none) (jG0 sc) (jput (jput (jput (jput h 1 3 l1) 1 2 0) 1 5 0) 1 4 l1))
    (v44 : ¬ l1 < 0 → (h 1 1) ≤ l1 → ¬ l1 < 0 → ¬ ((jput (jput (jput h 1 3 l1) 1 2 0) 1 5 0) 1 1) ≤ l1 → 400 ≤ l1 → ((jput (jput (jput h 1 3 l1) 1 2 0) 1 5 0) 1 5) < 97 → ¬ ((jput (jput (jput h 1 3 l1) 1 2 0) 1 5 0) 1 5) < 48 → 57 < ((jput (jput (jput h 1 3 l1) 1 2 0) 1 5 0) 1 5) → Q (.inl none) (jG0 sc) (jput (jput (jput (jput h 1 3 l1) 1 2 0) 1 5 0) 1 4 l1))
    (v45 : ¬ l1 < 0 → (h 1 1) ≤ l1 → ¬ l1 < 0 → ¬ ((jput (jput (jput h 1 3 l1) 1 2 0) 1 5 0) 1 1) ≤ l1 → 400 ≤ l1 → ((jput (jput (jput h 1 3 l1) 1 2 0) 1 5 0) 1 5) < 97 → ¬ ((jput (jput (jput h 1 3 l1) 1 2 0) 1 5 0) 1 5) < 48 → ¬ 57 < ((jput (jput (jput h 1 3 l1) 1 2 0) 1 5 0) 1 5) → WP mX8_next Q 197 [some (.ref 1), some (.int l1)] [] (jG0 sc) (jput (jput (jput (jput (jput h 1 3 l1) 1 2 0) 1 5 0) 1 2 2) 1 5 (((jput (jput (jput (jput h 1 3 l1) 1 2 0) 1 5 0) 1 2 2) 1 5) - 48)) (0, 0))
    (v46 : ¬ l1 < 0 → (h 1 1) ≤ l1 → ¬ l1 < 0 → ¬ ((jput (jput (jput h 1 3 l1) 1 2 0) 1 5 0) 1 1) ≤ l1 → 400 ≤ l1 → ¬ ((jput (jput (jput h 1 3 l1) 1 2 0) 1 5 0) 1 5) < 97 → 122 < ((jput (jput (jput h 1 3 l1) 1 2 0) 1 5 0) 1 5) → ((jput (jput (jput h 1 3 l1) 1 2 0) 1 5 0) 1 5) < 48 → Q (.inl none) (jG0 sc) (jput (jput (jput (jput h 1 3 l1) 1 2 0) 1 5 0) 1 4 l1))
    (v47 : ¬ l1 < 0 → (h 1 1) ≤ l1 → ¬ l1 < 0 → ¬ ((jput (jput (jput h 1 3 l1) 1 2 0) 1 5 0) 1 1) ≤ l1 → 400 ≤ l1 → ¬ ((jput (jput (jput h 1 3 l1) 1 2 0) 1 5 0) 1 5) < 97 → 122 < ((jput (jput (jput h 1 3 l1) 1 2 0) 1 5 0) 1 5) → ¬ ((jput (jput (jput h 1 3 l1) 1 2 0) 1 5 0) 1 5) < 48 → 57 < ((jput (jput (jput h 1 3 l1) 1 2 0) 1 5 0) 1 5) → Q (.inl none) (jG0 sc) (jput (jput (jput (jput h 1 3 l1) 1 2 0) 1 5 0) 1 4 l1))
    (v48 : ¬ l1 < 0 → (h 1 1) ≤ l1 → ¬ l1 < 0 → ¬ ((jput (jput (jput h 1 3 l1) 1 2 0) 1 5 0) 1 1) ≤ l1 → 400 ≤ l1 → ¬ ((jput (jput (jput h 1 3 l1) 1 2 0) 1 5 0) 1 5) < 97 → 122 < ((jput (jput (jput h 1 3 l1) 1 2 0) 1 5 0) 1 5) → ¬ ((jput (jput (jput h 1 3 l1) 1 2 0) 1 5 0) 1 5) < 48 → ¬ 57 < ((jput (jput (jput h 1 3 l1) 1 2 0) 1 5 0) 1 5) → WP mX8_next Q 197 [some (.ref 1), some (.int l1)] [] (jG0 sc) (jput (jput (jput (jput (jput h 1 3 l1) 1 2 0) 1 5 0) 1 2 2) 1 5 (((jput (jput (jput (jput h 1 3 l1) 1 2 0) 1 5 0) 1 2 2) 1 5) - 48)) (0, 0))
    (v49 : ¬ l1 < 0 → (h 1 1) ≤ l1 → ¬ l1 < 0 → ¬ ((jput (jput (jput h 1 3 l1) 1 2 0) 1 5 0) 1 1) ≤ l1 → 400 ≤ l1 → ¬ ((jput (jput (jput h 1 3 l1) 1 2 0) 1 5 0) 1 5) < 97 → ¬ 122 < ((jput (jput (jput h 1 3 l1) 1 2 0) 1 5 0) 1 5) → WP mX8_next Q 116 [some (.ref 1), some (.int l1)] [] (jG0 sc) (jput (jput (jput (jput h 1 3 l1) 1 2 0) 1 5 0) 1 2 1) (0, 0))
    (o2 : ¬ l1 < 0 → (h 1 1) ≤ l1 → ¬ l1 < 0 → ¬ ((jput (jput (jput h 1 3 l1) 1 2 0) 1 5 0) 1 1) ≤ l1 → ¬ 400 ≤ l1 → vp_in l1 400)
    (v50 : ¬ l1 < 0 → (h 1 1) ≤ l1 → ¬ l1 < 0 → ¬ ((jput (jput (jput h 1 3 l1) 1 2 0) 1 5 0) 1 1) ≤ l1 → ¬ 400 ≤ l1 → ((jput (jput (jput (jput (jput h 1 3 l1) 1 2 0) 1 5 0) 1 2 3) 1 5 ((jput (jput (jput (jput h 1 3 l1) 1 2 0) 1 5 0) 1 2 3) 2 l1.toNatClampNeg)) 1 5) < 97 → ((jput (jput (jput (jput (jput h 1 3 l1) 1 2 0) 1 5 0) 1 2 3) 1 5 ((jput (jput (jput (jput h 1 3 l1) 1 2 0) 1 5 0) 1 2 3) 2 l1.toNatClampNeg)) 1 5) < 48 → Q (.inl none) (jG0 sc) (jput (jput (jput (jput (jput (jput h 1 3 l1) 1 2 0) 1 5 0) 1 2 3) 1 5 ((jput (jput (jput (jput h 1 3 l1) 1 2 0) 1 5 0) 1 2 3) 2 l1.toNatClampNeg)) 1 4 (l1 + 1)))
    (v51 : ¬ l1 < 0 → (h 1 1) ≤ l1 → ¬ l1 < 0 → ¬ ((jput (jput (jput h 1 3 l1) 1 2 0) 1 5 0) 1 1) ≤ l1 → ¬ 400 ≤ l1 → ((jput (jput (jput (jput (jput h 1 3 l1) 1 2 0) 1 5 0) 1 2 3) 1 5 ((jput (jput (jput (jput h 1 3 l1) 1 2 0) 1 5 0) 1 2 3) 2 l1.toNatClampNeg)) 1 5) < 97 → ¬ ((jput (jput (jput (jput (jput h 1 3 l1) 1 2 0) 1 5 0) 1 2 3) 1 5 ((jput (jput (jput (jput h 1 3 l1) 1 2 0) 1 5 0) 1 2 3) 2 l1.toNatClampNeg)) 1 5) < 48 → 57 < ((jput (jput (jput (jput (jput h 1 3 l1) 1 2 0) 1 5 0) 1 2 3) 1 5 ((jput (jput (jput (jput h 1 3 l1) 1 2 0) 1 5 0) 1 2 3) 2 l1.toNatClampNeg)) 1 5) → Q (.inl none) (jG0 sc) (jput (jput (jput (jput (jput (jput h 1 3 l1) 1 2 0) 1 5 0) 1 2 3) 1 5 ((jput (jput (jput (jput h 1 3 l1) 1 2 0) 1 5 0) 1 2 3) 2 l1.toNatClampNeg)) 1 4 (l1 + 1)))
    (v52 : ¬ l1 < 0 → (h 1 1) ≤ l1 → ¬ l1 < 0 → ¬ ((jput (jput (jput h 1 3 l1) 1 2 0) 1 5 0) 1 1) ≤ l1 → ¬ 400 ≤ l1 → ((jput (jput (jput (jput (jput h 1 3 l1) 1 2 0) 1 5 0) 1 2 3) 1 5 ((jput (jput (jput (jput h 1 3 l1) 1 2 0) 1 5 0) 1 2 3) 2 l1.toNatClampNeg)) 1 5) < 97 → ¬ ((jput (jput (jput (jput (jput h 1 3 l1) 1 2 0) 1 5 0) 1 2 3) 1 5 ((jput (jput (jput (jput h 1 3 l1) 1 2 0) 1 5 0) 1 2 3) 2 l1.toNatClampNeg)) 1 5) < 48 → ¬ 57 < ((jput (jput (jput (jput (jput h 1 3 l1) 1 2 0) 1 5 0) 1 2 3) 1 5 ((jput (jput (jput (jput h 1 3 l1) 1 2 0) 1 5 0) 1 2 3) 2 l1.toNatClampNeg)) 1 5) → WP mX8_next Q 197 [some (.ref 1), some (.int (l1 + 1))] [] (jG0 sc) (jput (jput (jput (jput (jput (jput (jput h 1 3 l1) 1 2 0) 1 5 0) 1 2 3) 1 5 ((jput (jput (jput (jput h 1 3 l1) 1 2 0) 1 5 0) 1 2 3) 2 l1.toNatClampNeg)) 1 2 2) 1 5 (((jput (jput (jput (jput (jput (jput h 1 3 l1) 1 2 0) 1 5 0) 1 2 3) 1 5 ((jput (jput (jput (jput h 1 3 l1) 1 2 0) 1 5 0) 1 2 3) 2 l1.toNatClampNeg)) 1 2 2) 1 5) - 48)) (0, 0))
    (v53 : ¬ l1 < 0 → (h 1 1) ≤ l1 → ¬ l1 < 0 → ¬ ((jput (jput (jput h 1 3 l1) 1 2 0) 1 5 0) 1 1) ≤ l1 → ¬ 400 ≤ l1 → ¬ ((jput (jput (jput (jput (jput h 1 3 l1) 1 2 0) 1 5 0) 1 2 3) 1 5 ((jput (jput (jput (jput h 1 3 l1) 1 2 0) 1 5 0) 1 2 3) 2 l1.toNatClampNeg)) 1 5) < 97 → 122 < ((jput (jput (jput (jput (jput h 1 3 l1) 1 2 0) 1 5 0) 1 2 3) 1 5 ((jput (jput (jput (jput h 1 3 l1) 1 2 0) 1 5 0) 1 2 3) 2 l1.toNatClampNeg)) 1 5) → ((jput (jput (jput (jput (jput h 1 3 l1) 1 2 0) 1 5 0) 1 2 3) 1 5 ((jput (jput (jput (jput h 1 3 l1) 1 2 0) 1 5 0) 1 2 3) 2 l1.toNatClampNeg)) 1 5) < 48 → Q (.inl none) (jG0 sc) (jput (jput (jput (jput (jput (jput h 1 3 l1) 1 2 0) 1 5 0) 1 2 3) 1 5 ((jput (jput (jput (jput h 1 3 l1) 1 2 0) 1 5 0) 1 2 3) 2 l1.toNatClampNeg)) 1 4 (l1 + 1)))
    (v54 : ¬ l1 < 0 → (h 1 1) ≤ l1 → ¬ l1 < 0 → ¬ ((jput (jput (jput h 1 3 l1) 1 2 0) 1 5 0) 1 1) ≤ l1 → ¬ 400 ≤ l1 → ¬ ((jput (jput (jput (jput (jput h 1 3 l1) 1 2 0) 1 5 0) 1 2 3) 1 5 ((jput (jput (jput (jput h 1 3 l1) 1 2 0) 1 5 0) 1 2 3) 2 l1.toNatClampNeg)) 1 5) < 97 → 122 < ((jput (jput (jput (jput (jput h 1 3 l1) 1 2 0) 1 5 0) 1 2 3) 1 5 ((jput (jput (jput (jput h 1 3 l1) 1 2 0) 1 5 0) 1 2 3) 2 l1.toNatClampNeg)) 1 5) → ¬ ((jput (jput (jput (jput (jput h 1 3 l1) 1 2 0) 1 5 0) 1 2 3) 1 5 ((jput (jput (jput (jput h 1 3 l1) 1 2 0) 1 5 0) 1 2 3) 2 l1.toNatClampNeg)) 1 5) < 48 → 57 < ((jput (jput (jput (jput (jput h 1 3 l1) 1 2 0) 1 5 0) 1 2 3) 1 5 ((jput (jput (jput (jput h 1 3 l1) 1 2 0) 1 5 0) 1 2 3) 2 l1.toNatClampNeg)) 1 5) → Q (.inl none) (jG0 sc) (jput (jput (jput (jput (jput (jput h 1 3 l1) 1 2 0) 1 5 0) 1 2 3) 1 5 ((jput (jput (jput (jput h 1 3 l1) 1 2 0) 1 5 0) 1 2 3) 2 l1.toNatClampNeg)) 1 4 (l1 + 1)))
    (v55 : ¬ l1 < 0 → (h 1 1) ≤ l1 → ¬ l1 < 0 → ¬ ((jput (jput (jput h 1 3 l1) 1 2 0) 1 5 0) 1 1) ≤ l1 → ¬ 400 ≤ l1 → ¬ ((jput (jput (jput (jput (jput h 1 3 l1) 1 2 0) 1 5 0) 1 2 3) 1 5 ((jput (jput (jput (jput h 1 3 l1) 1 2 0) 1 5 0) 1 2 3) 2 l1.toNatClampNeg)) 1 5) < 97 → 122 < ((jput (jput (jput (jput (jput h 1 3 l1) 1 2 0) 1 5 0) 1 2 3) 1 5 ((jput (jput (jput (jput h 1 3 l1) 1 2 0) 1 5 0) 1 2 3) 2 l1.toNatClampNeg)) 1 5) → ¬ ((jput (jput (jput (jput (jput h 1 3 l1) 1 2 0) 1 5 0) 1 2 3) 1 5 ((jput (jput (jput (jput h 1 3 l1) 1 2 0) 1 5 0) 1 2 3) 2 l1.toNatClampNeg)) 1 5) < 48 → ¬ 57 < ((jput (jput (jput (jput (jput h 1 3 l1) 1 2 0) 1 5 0) 1 2 3) 1 5 ((jput (jput (jput (jput h 1 3 l1) 1 2 0) 1 5 0) 1 2 3) 2 l1.toNatClampNeg)) 1 5) → WP mX8_next Q 197 [some (.ref 1), some (.int (l1 + 1))] [] (jG0 sc) (jput (jput (jput (jput (jput (jput (jput h 1 3 l1) 1 2 0) 1 5 0) 1 2 3) 1 5 ((jput (jput (jput (jput h 1 3 l1) 1 2 0) 1 5 0) 1 2 3) 2 l1.toNatClampNeg)) 1 2 2) 1 5 (((jput (jput (jput (jput (jput (jput h 1 3 l1) 1 2 0) 1 5 0) 1 2 3) 1 5 ((jput (jput (jput (jput h 1 3 l1) 1 2 0) 1 5 0) 1 2 3) 2 l1.toNatClampNeg)) 1 2 2) 1 5) - 48)) (0, 0))
    (v56 : ¬ l1 < 0 → (h 1 1) ≤ l1 → ¬ l1 < 0 → ¬ ((jput (jput (jput h 1 3 l1) 1 2 0) 1 5 0) 1 1) ≤ l1 → ¬ 400 ≤ l1 → ¬ ((jput (jput (jput (jput (jput h 1 3 l1) 1 2 0) 1 5 0) 1 2 3) 1 5 ((jput (jput (jput (jput h 1 3 l1) 1 2 0) 1 5 0) 1 2 3) 2 l1.toNatClampNeg)) 1 5) < 97 → ¬ 122 < ((jput (jput (jput (jput (jput h 1 3 l1) 1 2 0) 1 5 0) 1 2 3) 1 5 ((jput (jput (jput (jput h 1 3 l1) 1 2 0) 1 5 0) 1 2 3) 2 l1.toNatClampNeg)) 1 5) → WP mX8_next Q 116 [some (.ref 1), some (.int (l1 + 1))] [] (jG0 sc) (jput (jput (jput (jput (jput (jput h 1 3 l1) 1 2 0) 1 5 0) 1 2 3) 1 5 ((jput (jput (jput (jput h 1 3 l1) 1 2 0) 1 5 0) 1 2 3) 2 l1.toNatClampNeg)) 1 2 1) (0, 0))
    (v57 : ¬ l1 < 0 → ¬ (h 1 1) ≤ l1 → 400 ≤ l1 → l1 < 0 → ((jput (jput (jput h 1 3 l1) 1 2 0) 1 5 0) 1 5) < 97 → ((jput (jput (jput h 1 3 l1) 1 2 0) 1 5 0) 1 5) < 48 → Q (.inl none) (jG0 sc) (jput (jput (jput (jput h 1 3 l1) 1 2 0) 1 5 0) 1 4 l1))
    (v58 : ¬ l1 < 0 → ¬ (h 1 1) ≤ l1 → 400 ≤ l1 → l1 < 0 → ((jput (jput (jput h 1 3 l1) 1 2 0) 1 5 0) 1 5) < 97 → ¬ ((jput (jput (jput h 1 3 l1) 1 2 0) 1 5 0) 1 5) < 48 → 57 < ((jput (jput (jput h 1 3 l1) 1 2 0) 1 5 0) 1 5) → Q (.inl none) (jG0 sc) (jput (jput (jput (jput h 1 3 l1) 1 2 0) 1 5 0) 1 4 l1))
    (v59 : ¬ l1 < 0 → ¬ (h 1 1) ≤ l1 → 400 ≤ l1 → l1 < 0 → ((jput (jput (jput h 1 3 l1) 1 2 0) 1 5 0) 1 5) < 97 → ¬ ((jput (jput (jput h 1 3 l1) 1 2 0) 1 5 0) 1 5) < 48 → ¬ 57 < ((jput (jput (jput h 1 3 l1) 1 2 0) 1 5 0) 1 5) → WP mX8_next Q 197 [some (.ref 1), some (.int l1)] [] (jG0 sc) (jput (jput (jput (jput (jput h 1 3 l1) 1 2 0) 1 5 0) 1 2 2) 1 5 (((jput (jput (jput (jput h 1 3 l1) 1 2 0) 1 5 0) 1 2 2) 1 5) - 48)) (0, 0))
    (v60 : ¬ l1 < 0 → ¬ (h 1 1) ≤ l1 → 400 ≤ l1 → l1 < 0 → ¬ ((jput (jput (jput h 1 3 l1) 1 2 0) 1 5 0) 1 5) < 97 → 122 < ((jput (jput (jput h 1 3 l1) 1 2 0) 1 5 0) 1 5) → ((jput (jput (jput h 1 3 l1) 1 2 0) 1 5 0) 1 5) < 48 → Q (.inl none) (jG0 sc) (jput (jput (jput (jput h 1 3 l1) 1 2 0) 1 5 0) 1 4 l1))
    (v61 : ¬ l1 < 0 → ¬ (h 1 1) ≤ l1 → 400 ≤ l1 → l1 < 0 → ¬ ((jput (jput (jput h 1 3 l1) 1 2 0) 1 5 0) 1 5) < 97 → 122 < ((jput (jput (jput h 1 3 l1) 1 2 0) 1 5 0) 1 5) → ¬ ((jput (jput (jput h 1 3 l1) 1 2 0) 1 5 0) 1 5) < 48 → 57 < ((jput (jput (jput h 1 3 l1) 1 2 0) 1 5 0) 1 5) → Q (.inl none) (jG0 sc) (jput (jput (jput (jput h 1 3 l1) 1 2 0) 1 5 0) 1 4 l1))
    (v62 : ¬ l1 < 0 → ¬ (h 1 1) ≤ l1 → 400 ≤ l1 → l1 < 0 → ¬ ((jput (jput (jput h 1 3 l1) 1 2 0) 1 5 0) 1 5) < 97 → 122 < ((jput (jput (jput h 1 3 l1) 1 2 0) 1 5 0) 1 5) → ¬ ((jput (jput (jput h 1 3 l1) 1 2 0) 1 5 0) 1 5) < 48 → ¬ 57 < ((jput (jput (jput h 1 3 l1) 1 2 0) 1 5 0) 1 5) → WP mX8_next Q 197 [some (.ref 1), some (.int l1)] [] (jG0 sc) (jput (jput (jput (jput (jput h 1 3 l1) 1 2 0) 1 5 0) 1 2 2) 1 5 (((jput (jput (jput (jput h 1 3 l1) 1 2 0) 1 5 0) 1 2 2) 1 5) - 48)) (0, 0))
    (v63 : ¬ l1 < 0 → ¬ (h 1 1) ≤ l1 → 400 ≤ l1 → l1 < 0 → ¬ ((jput (jput (jput h 1 3 l1) 1 2 0) 1 5 0) 1 5) < 97 → ¬ 122 < ((jput (jput (jput h 1 3 l1) 1 2 0) 1 5 0) 1 5) → WP mX8_next Q 116 [some (.ref 1), some (.int l1)] [] (jG0 sc) (jput (jput (jput (jput h 1 3 l1) 1 2 0) 1 5 0) 1 2 1) (0, 0))
    (v64 : ¬ l1 < 0 → ¬ (h 1 1) ≤ l1 → 400 ≤ l1 → ¬ l1 < 0 → ((jput (jput (jput h 1 3 l1) 1 2 0) 1 5 0) 1 1) ≤ l1 → ((jput (jput (jput h 1 3 l1) 1 2 0) 1 5 0) 1 5) < 97 → ((jput (jput (jput h 1 3 l1) 1 2 0) 1 5 0) 1 5) < 48 → Q (.inl none) (jG0 sc) (jput (jput (jput (jput h 1 3 l1) 1 2 0) 1 5 0) 1 4 l1))
    (v65 : ¬ l1 < 0 → ¬ (h 1 1) ≤ l1 → 400 ≤ l1 → ¬ l1 < 0 → ((jput (jput (jput h 1 3 l1) 1 2 0) 1 5 0) 1 1) ≤ l1 → ((jput (jput (jput h 1 3 l1) 1 2 0) 1 5 0) 1 5) < 97 → ¬ ((jput (jput (jput h 1 3 l1) 1 2 0) 1 5 0) 1 5) < 48 → 57 < ((jput (jput (jput h 1 3 l1) 1 2 0) 1 5 0) 1 5) → Q (.inl none) (jG0 sc) (jput (jput (jput (jput h 1 3 l1) 1 2 0) 1 5 0) 1 4 l1))
    (v66 : ¬ l1 < 0 → ¬ (h 1 1) ≤ l1 → 400 ≤ l1 → ¬ l1 < 0 → ((jput (jput (jput h 1 3 l1) 1 2 0) 1 5 0) 1 1) ≤ l1 → ((jput (jput (jput h 1 3 l1) 1 2 0) 1 5 0) 1 5) < 97 → ¬ ((jput (jput (jput h 1 3 l1) 1 2 0) 1 5 0) 1 5) < 48 → ¬ 57 < ((jput (jput (jput h 1 3 l1) 1 2 0) 1 5 0) 1 5) → WP mX8_next Q 197 [some (.ref 1), some (.int l1)] [] (jG0 sc) (jput (jput (jput (jput (jput h 1 3 l1) 1 2 0) 1 5 0) 1 2 2) 1 5 (((jput (jput (jput (jput h 1 3 l1) 1 2 0) 1 5 0) 1 2 2) 1 5) - 48)) (0, 0))
    (v67 : ¬ l1 < 0 → ¬ (h 1 1) ≤ l1 → 400 ≤ l1 → ¬ l1 < 0 → ((jput (jput (jput h 1 3 l1) 1 2 0) 1 5 0) 1 1) ≤ l1 → ¬ ((jput (jput (jput h 1 3 l1) 1 2 0) 1 5 0) 1 5) < 97 → 122 < ((jput (jput (jput h 1 3 l1) 1 2 0) 1 5 0) 1 5) → ((jput (jput (jput h 1 3 l1) 1 2 0) 1 5 0) 1 5) < 48 → Q (.inl none) (jG0 sc) (jput (jput (jput (jput h 1 3 l1) 1 2 0) 1 5 0) 1 4 l1))
    (v68 : ¬ l1 < 0 → ¬ (h 1 1) ≤ l1 → 400 ≤ l1 → ¬ l1 < 0 → ((jput (jput (jput h 1 3 l1) 1 2 0) 1 5 0) 1 1) ≤ l1 → ¬ ((jput (jput (jput h 1 3 l1) 1 2 0) 1 5 0) 1 5) < 97 → 122 < ((jput (jput (jput h 1 3 l1) 1 2 0) 1 5 0) 1 5) → ¬ ((jput (jput (jput h 1 3 l1) 1 2 0) 1 5 0) 1 5) < 48 → 57 < ((jput (jput (jput h 1 3 l1) 1 2 0) 1 5 0) 1 5) → Q (.inl none) (jG0 sc) (jput (jput (jput (jput h 1 3 l1) 1 2 0) 1 5 0) 1 4 l1))
    (v69 : ¬ l1 < 0 → ¬ (h 1 1) ≤ l1 → 400 ≤ l1 → ¬ l1 < 0 → ((jput (jput (jput h 1 3 l1) 1 2 0) 1 5 0) 1 1) ≤ l1 → ¬ ((jput (jput (jput h 1 3 l1) 1 2 0) 1 5 0) 1 5) < 97 → 122 < ((jput (jput (jput h 1 3 l1) 1 2 0) 1 5 0) 1 5) → ¬ ((jput (jput (jput h 1 3 l1) 1 2 0) 1 5 0) 1 5) < 48 → ¬ 57 < ((jput (jput (jput h 1 3 l1) 1 2 0) 1 5 0) 1 5) → WP mX8_next Q 197 [some (.ref 1), some (.int l1)] [] (jG0 sc) (jput (jput (jput (jput (jput h 1 3 l1) 1 2 0) 1 5 0) 1 2 2) 1 5 (((jput (jput (jput (jput h 1 3 l1) 1 2 0) 1 5 0) 1 2 2) 1 5) - 48)) (0, 0))
    (v70 : ¬ l1 < 0 → ¬ (h 1 1) ≤ l1 → 400 ≤ l1 → ¬ l1 < 0 → ((jput (jput (jput h 1 3 l1) 1 2 0) 1 5 0) 1 1) ≤ l1 → ¬ ((jput (jput (jput h 1 3 l1) 1 2 0) 1 5 0) 1 5) < 97 → ¬ 122 < ((jput (jput (jput h 1 3 l1) 1 2 0) 1 5 0) 1 5) → WP mX8_next Q 116 [some (.ref 1), some (.int l1)] [] (jG0 sc) (jput (jput (jput (jput h 1 3 l1) 1 2 0) 1 5 0) 1 2 1) (0, 0))
    (v71 : ¬ l1 < 0 → ¬ (h 1 1) ≤ l1 → 400 ≤ l1 → ¬ l1 < 0 → ¬ ((jput (jput (jput h 1 3 l1) 1 2 0) 1 5 0) 1 1) ≤ l1 → 400 ≤ l1 → ((jput (jput (jput h 1 3 l1) 1 2 0) 1 5 0) 1 5) < 97 → ((jput (jput (jput h 1 3 l1) 1 2 0) 1 5 0) 1 5) < 48 → Q (.inl none) (jG0 sc) (jput (jput (jput (jput h 1 3 l1) 1 2 0) 1 5 0) 1 4 l1))
    (v72 : ¬ l1 < 0 → ¬ (h 1 1) ≤ l1 → 400 ≤ l1 → ¬ l1 < 0 → ¬ ((jput (jput (jput h 1 3 l1) 1 2 0) 1 5 0) 1 1) ≤ l1 → 400 ≤ l1 → ((jput (jput (jput h 1 3 l1) 1 2 0) 1 5 0) 1 5) < 97 → ¬ ((jput (jput (jput h 1 3 l1) 1 2 0) 1 5 0) 1 5) < 48 → 57 < ((jput (jput (jput h 1 3 l1) 1 2 0) 1 5 0) 1 5) → Q (.inl none) (jG0 sc) (jput (jput (jput (jput h 1 3 l1) 1 2 0) 1 5 0) 1 4 l1))
    (v73 : ¬ l1 < 0 → ¬ (h 1 1) ≤ l1 → 400 ≤ l1 → ¬ l1 < 0 → ¬ ((jput (jput (jput h 1 3 l1) 1 2 0) 1 5 0) 1 1) ≤ l1 → 400 ≤ l1 → ((jput (jput (jput h 1 3 l1) 1 2 0) 1 5 0) 1 5) < 97 → ¬ ((jput (jput (jput h 1 3 l1) 1 2 0) 1 5 0) 1 5) < 48 → ¬ 57 < ((jput (jput (jput h 1 3 l1) 1 2 0) 1 5 0) 1 5) → WP mX8_next Q 197 [some (.ref 1), some (.int l1)] [] (jG0 sc) (jput (jput (jput (jput (jput h 1 3 l1) 1 2 0) 1 5 0) 1 2 2) 1 5 (((jput (jput (jput (jput h 1 3 l1) 1 2 0) 1 5 0) 1 2 2) 1 5) - 48)) (0, 0))
    (v74 : ¬ l1 < 0 → ¬ (h 1 1) ≤ l1 → 400 ≤ l1 → ¬ l1 < 0 → ¬ ((jput (jput (jput h 1 3 l1) 1 2 0) 1 5 0) 1 1) ≤ l1 → 400 ≤ l1 → ¬ ((jput (jput (jput h 1 3 l1) 1 2 0) 1 5 0) 1 5) < 97 → 122 < ((jput (jput (jput h 1 3 l1) 1 2 0) 1 5 0) 1 5) → ((jput (jput (jput h 1 3 l1) 1 2 0) 1 5 0) 1 5) < 48 → Q (.inl none) (jG0 sc) (jput (jput (jput (jput h 1 3 l1) 1 2 0) 1 5 0) 1 4 l1))
    (v75 : ¬ l1 < 0 → ¬ (h 1 1) ≤ l1 → 400 ≤ l1 → ¬ l1 < 0 → ¬ ((jput (jput (jput h 1 3 l1) 1 2 0) 1 5 0) 1 1) ≤ l1 → 400 ≤ l1 → ¬ ((jput (jput (jput h 1 3 l1) 1 2 0) 1 5 0) 1 5) < 97 → 122 < ((jput (jput (jput h 1 3 l1) 1 2 0) 1 5 0) 1 5) → ¬ ((jput (jput (jput h 1 3 l1) 1 2 0) 1 5 0) 1 5) < 48 → 57 < ((jput (jput (jput h 1 3 l1) 1 2 0) 1 5 0) 1 5) → Q (.inl none) (jG0 sc) (jput (jput (jput (jput h 1 3 l1) 1 2 0) 1 5 0) 1 4 l1))
    (v76 : ¬ l1 < 0 → ¬ (h 1 1) ≤ l1 → 400 ≤ l1 → ¬ l1 < 0 → ¬ ((jput (jput (jput h 1 3 l1) 1 2 0) 1 5 0) 1 1) ≤ l1 → 400 ≤ l1 → ¬ ((jput (jput (jput h 1 3 l1) 1 2 0) 1 5 0) 1 5) < 97 → 122 < ((jput (jput (jput h 1 3 l1) 1 2 0) 1 5 0) 1 5) → ¬ ((jput (jput (jput h 1 3 l1) 1 2 0) 1 5 0) 1 5) < 48 → ¬ 57 < ((jput (jput (jput h 1 3 l1) 1 2 0) 1 5 0) 1 5) → WP mX8_next Q 197 [some (.ref 1), some (.int l1)] [] (jG0 sc) (jput (jput (jput (jput (jput h 1 3 l1) 1 2 0) 1 5 0) 1 2 2) 1 5 (((jput (jput (jput (jput h 1 3 l1) 1 2 0) 1 5 0) 1 2 2) 1 5) - 48)) (0, 0))
    (v77 : ¬ l1 < 0 → ¬ (h 1 1) ≤ l1 → 400 ≤ l1 → ¬ l1 < 0 → ¬ ((jput (jput (jput h 1 3 l1) 1 2 0) 1 5 0) 1 1) ≤ l1 → 400 ≤ l1 → ¬ ((jput (jput (jput h 1 3 l1) 1 2 0) 1 5 0) 1 5) < 97 → ¬ 122 < ((jput (jput (jput h 1 3 l1) 1 2 0) 1 5 0) 1 5) → WP mX8_next Q 116 [some (.ref 1), some (.int l1)] [] (jG0 sc) (jput (jput (jput (jput h 1 3 l1) 1 2 0) 1 5 0) 1 2 1) (0, 0))
    (o3 : ¬ l1 < 0 → ¬ (h 1 1) ≤ l1 → 400 ≤ l1 → ¬ l1 < 0 → ¬ ((jput (jput (jput h 1 3 l1) 1 2 0) 1 5 0) 1 1) ≤ l1 → ¬ 400 ≤ l1 → vp_in l1 400)
    (v78 : ¬ l1 < 0 → ¬ (h 1 1) ≤ l1 → 400 ≤ l1 → ¬ l1 < 0 → ¬ ((jput (jput (jput h 1 3 l1) 1 2 0) 1 5 0) 1 1) ≤ l1 → ¬ 400 ≤ l1 → ((jput (jput (jput (jput (jput h 1 3 l1) 1 2 0) 1 5 0) 1 2 3) 1 5 ((jput (jput (jput (jput h 1 3 l1) 1 2 0) 1 5 0) 1 2 3) 2 l1.toNatClampNeg)) 1 5) < 97 → ((jput (jput (jput (jput (jput h 1 3 l1) 1 2 0) 1 5 0) 1 2 3) 1 5 ((jput (jput (jput (jput h 1 3 l1) 1 2 0) 1 5 0) 1 2 3) 2 l1.toNatClampNeg)) 1 5) < 48 → Q (.inl none) (jG0 sc) (jput (jput (jput (jput (jput (jput h 1 3 l1) 1 2 0) 1 5 0) 1 2 3) 1 5 ((jput (jput (jput (jput h 1 3 l1) 1 2 0) 1 5 0) 1 2 3) 2 l1.toNatClampNeg)) 1 4 (l1 + 1)))
    (v79 : ¬ l1 < 0 → ¬ (h 1 1) ≤ l1 → 400 ≤ l1 → ¬ l1 < 0 → ¬ ((jput (jput (jput h 1 3 l1) 1 2 0) 1 5 0) 1 1) ≤ l1 → ¬ 400 ≤ l1 → ((jput (jput (jput (jput (jput h 1 3 l1) 1 2 0) 1 5 0) 1 2 3) 1 5 ((jput (jput (jput (jput h 1 3 l1) 1 2 0) 1 5 0) 1 2 3) 2 l1.toNatClampNeg)) 1 5) < 97 → ¬ ((jput (jput (jput (jput (jput h 1 3 l1) 1 2 0) 1 5 0) 1 2 3) 1 5 ((jput (jput (jput (jput h 1 3 l1) 1 2 0) 1 5 0) 1 2 3) 2 l1.toNatClampNeg)) 1 5) < 48 → 57 < ((jput (jput (jput (jput (jput h 1 3 l1) 1 2 0) 1 5 0) 1 2 3) 1 5 ((jput (jput (jput (jput h 1 3 l1) 1 2 0) 1 5 0) 1 2 3) 2 l1.toNatClampNeg)) 1 5) → Q (.inl none) (jG0 sc) (jput (jput (jput (jput (jput (jput h 1 3 l1) 1 2 0) 1 5 0) 1 2 3) 1 5 ((jput (jput (jput (jput h 1 3 l1) 1 2 0) 1 5 0) 1 2 3) 2 l1.toNatClampNeg)) 1 4 (l1 + 1)))
    (v80 : ¬ l1 < 0 → ¬ (h 1 1) ≤ l1 → 400 ≤ l1 → ¬ l1 < 0 → ¬ ((jput (jput (jput h 1 3 l1) 1 2 0) 1 5 0) 1 1) ≤ l1 → ¬ 400 ≤ l1 → ((jput (jput (jput (jput (jput h 1 3 l1) 1 2 0) 1 5 0) 1 2 3) 1 5 ((jput (jput (jput (jput h 1 3 l1) 1 2 0) 1 5 0) 1 2 3) 2 l1.toNatClampNeg)) 1 5) < 97 → ¬ ((jput (jput (jput (jput (jput h 1 3 l1) 1 2 0) 1 5 0) 1 2 3) 1 5 ((jput (jput (jput (jput h 1 3 l1) 1 2 0) 1 5 0) 1 2 3) 2 l1.toNatClampNeg)) 1 5) < 48 → ¬ 57 < ((jput (jput (jput (jput (jput h 1 3 l1) 1 2 0) 1 5 0) 1 2 3) 1 5 ((jput (jput (jput (jput h 1 3 l1) 1 2 0) 1 5 0) 1 2 3) 2 l1.toNatClampNeg)) 1 5) → WP mX8_next Q 197 [some (.ref 1), some (.int (l1 + 1))] [] (jG0 sc) (jput (jput (jput (jput (jput (jput (jput h 1 3 l1) 1 2 0) 1 5 0) 1 2 3) 1 5 ((jput (jput (jput (jput h 1 3 l1) 1 2 0) 1 5 0) 1 2 3) 2 l1.toNatClampNeg)) 1 2 2) 1 5 (((jput (jput (jput (jput (jput (jput h 1 3 l1) 1 2 0) 1 5 0) 1 2 3) 1 5 ((jput (jput (jput (jput h 1 3 l1) 1 2 0) 1 5 0) 1 2 3) 2 l1.toNatClampNeg)) 1 2 2) 1 5) - 48)) (0, 0))
    (v81 : ¬ l1 < 0 → ¬ (h 1 1) ≤ l1 → 400 ≤ l1 → ¬ l1 < 0 → ¬ ((jput (jput (jput h 1 3 l1) 1 2 0) 1 5 0) 1 1) ≤ l1 → ¬ 400 ≤ l1 → ¬ ((jput (jput (jput (jput (jput h 1 3 l1) 1 2 0) 1 5 0) 1 2 3) 1 5 ((jput (jput (jput (jput h 1 3 l1) 1 2 0) 1 5 0) 1 2 3) 2 l1.toNatClampNeg)) 1 5) < 97 → 122 < ((jput (jput (jput (jput (jput h 1 3 l1) 1 2 0) 1 5 0) 1 2 3) 1 5 ((jput (jput (jput (jput h 1 3 l1) 1 2 0) 1 5 0) 1 2 3) 2 l1.toNatClampNeg)) 1 5) → ((jput (jput (jput (jput (jput h 1 3 l1) 1 2 0) 1 5 0) 1 2 3) 1 5 ((jput (jput (jput (jput h 1 3 l1) 1 2 0) 1 5 0) 1 2 3) 2 l1.toNatClampNeg)) 1 5) < 48 → Q (.inl none) (jG0 sc) (jput (jput (jput (jput (jput (jput h 1 3 l1) 1 2 0) 1 5 0) 1 2 3) 1 5 ((jput (jput (jput (jput h 1 3 l1) 1 2 0) 1 5 0) 1 2 3) 2 l1.toNatClampNeg)) 1 4 (l1 + 1)))
    (v82 : ¬ l1 < 0 → ¬ (h 1 1) ≤ l1 → 400 ≤ l1 → ¬ l1 < 0 → ¬ ((jput (jput (jput h 1 3 l1) 1 2 0) 1 5 0) 1 1) ≤ l1 → ¬ 400 ≤ l1 → ¬ ((jput (jput (jput (jput (jput h 1 3 l1) 1 2 0) 1 5 0) 1 2 3) 1 5 ((jput (jput (jput (jput h 1 3 l1) 1 2 0) 1 5 0) 1 2 3) 2 l1.toNatClampNeg)) 1 5) < 97 → 122 < ((jput (jput (jput (jput (jput h 1 3 l1) 1 2 0) 1 5 0) 1 2 3) 1 5 ((jput (jput (jput (jput h 1 3 l1) 1 2 0) 1 5 0) 1 2 3) 2 l1.toNatClampNeg)) 1 5) → ¬ ((jput (jput (jput (jput (jput h 1 3 l1) 1 2 0) 1 5 0) 1 2 3) 1 5 ((jput (jput (jput (jput h 1 3 l1) 1 2 0) 1 5 0) 1 2 3) 2 l1.toNatClampNeg)) 1 5) < 48 → 57 < ((jput (jput (jput (jput (jput h 1 3 l1) 1 2 0) 1 5 0) 1 2 3) 1 5 ((jput (jput (jput (jput h 1 3 l1) 1 2 0) 1 5 0) 1 2 3) 2 l1.toNatClampNeg)) 1 5) → Q (.inl none) (jG0 sc) (jput (jput (jput (jput (jput (jput h 1 3 l1) 1 2 0) 1 5 0) 1 2 3) 1 5 ((jput (jput (jput (jput h 1 3 l1) 1 2 0) 1 5 0) 1 2 3) 2 l1.toNatClampNeg)) 1 4 (l1 + 1)))
    (v83 : ¬ l1 < 0 → ¬ (h 1 1) ≤ l1 → 400 ≤ l1 → ¬ l1 < 0 → ¬ ((jput (jput (jput h 1 3 l1) 1 2 0) 1 5 0) 1 1) ≤ l1 → ¬ 400 ≤ l1 → ¬ ((jput (jput (jput (jput (jput h 1 3 l1) 1 2 0) 1 5 0) 1 2 3) 1 5 ((jput (jput (jput (jput h 1 3 l1) 1 2 0) 1 5 0) 1 2 3) 2 l1.toNatClampNeg)) 1 5) < 97 → 122 < ((jput (jput (jput (jput (jput h 1 3 l1) 1 2 0) 1 5 0) 1 2 3) 1 5 ((jput (jput (jput (jput h 1 3 l1) 1 2 0) 1 5 0) 1 2 3) 2 l1.toNatClampNeg)) 1 5) → ¬ ((jput (jput (jput (jput (jput h 1 3 l1) 1 2 0) 1 5 0) 1 2 3) 1 5 ((jput (jput (jput (jput h 1 3 l1) 1 2 0) 1 5 0) 1 2 3) 2 l1.toNatClampNeg)) 1 5) < 48 → ¬ 57 < ((jput (jput (jput (jput (jput h 1 3 l1) 1 2 0) 1 5 0) 1 2 3) 1 5 ((jput (jput (jput (jput h 1 3 l1) 1 2 0) 1 5 0) 1 2 3) 2 l1.toNatClampNeg)) 1 5) → WP mX8_next Q 197 [some (.ref 1), some (.int (l1 + 1))] [] (jG0 sc) (jput (jput (jput (jput (jput (jput (jput h 1 3 l1) 1 2 0) 1 5 0) 1 2 3) 1 5 ((jput (jput (jput (jput h 1 3 l1) 1 2 0) 1 5 0) 1 2 3) 2 l1.toNatClampNeg)) 1 2 2) 1 5 (((jput (jput (jput (jput (jput (jput h 1 3 l1) 1 2 0) 1 5 0) 1 2 3) 1 5 ((jput (jput (jput (jput h 1 3 l1) 1 2 0) 1 5 0) 1 2 3) 2 l1.toNatClampNeg)) 1 2 2) 1 5) - 48)) (0, 0))
    (v84 : ¬ l1 < 0 → ¬ (h 1 1) ≤ l1 → 400 ≤ l1 → ¬ l1 < 0 → ¬ ((jput (jput (jput h 1 3 l1) 1 2 0) 1 5 0) 1 1) ≤ l1 → ¬ 400 ≤ l1 → ¬ ((jput (jput (jput (jput (jput h 1 3 l1) 1 2 0) 1 5 0) 1 2 3) 1 5 ((jput (jput (jput (jput h 1 3 l1) 1 2 0) 1 5 0) 1 2 3) 2 l1.toNatClampNeg)) 1 5) < 97 → ¬ 122 < ((jput (jput (jput (jput (jput h 1 3 l1) 1 2 0) 1 5 0) 1 2 3) 1 5 ((jput (jput (jput (jput h 1 3 l1) 1 2 0) 1 5 0) 1 2 3) 2 l1.toNatClampNeg)) 1 5) → WP mX8_next Q 116 [some (.ref 1), some (.int (l1 + 1))] [] (jG0 sc) (jput (jput (jput (jput (jput (jput h 1 3 l1) 1 2 0) 1 5 0) 1 2 3) 1 5 ((jput (jput (jput (jput h 1 3 l1) 1 2 0) 1 5 0) 1 2 3) 2 l1.toNatClampNeg)) 1 2 1) (0, 0))
    (o4 : ¬ l1 < 0 → ¬ (h 1 1) ≤ l1 → ¬ 400 ≤ l1 → vp_in l1 400)
    (v85 : ¬ l1 < 0 → ¬ (h 1 1) ≤ l1 → ¬ 400 ≤ l1 → ¬ (h 2 l1.toNatClampNeg) = 32 → l1 < 0 → ((jput (jput (jput h 1 3 l1) 1 2 0) 1 5 0) 1 5) < 97 → ((jput (jput (jput h 1 3 l1) 1 2 0) 1 5 0) 1 5) < 48 → Q (.inl none) (jG0 sc) (jput (jput (jput (jput h 1 3 l1) 1 2 0) 1 5 0) 1 4 l1))
    (v86 : ¬ l1 < 0 → ¬ (h 1 1) ≤ l1 → ¬ 400 ≤ l1 → ¬ (h 2 l1.toNatClampNeg) = 32 → l1 < 0 → ((jput (jput (jput h 1 3 l1) 1 2 0) 1 5 0) 1 5) < 97 → ¬ ((jput (jput (jput h 1 3 l1) 1 2 0) 1 5 0) 1 5) < 48 → 57 < ((jput (jput (jput h 1 3 l1) 1 2 0) 1 5 0) 1 5) → Q (.inl none) (jG0 sc) (jput (jput (jput (jput h 1 3 l1) 1 2 0) 1 5 0) 1 4 l1))
    (v87 : ¬ l1 < 0 → ¬ (h 1 1) ≤ l1 → ¬ 400 ≤ l1 → ¬ (h 2 l1.toNatClampNeg) = 32 → l1 < 0 → ((jput (jput (jput h 1 3 l1) 1 2 0) 1 5 0) 1 5) < 97 → ¬ ((jput (jput (jput h 1 3 l1) 1 2 0) 1 5 0) 1 5) < 48 → ¬ 57 < ((jput (jput (jput h 1 3 l1) 1 2 0) 1 5 0) 1 5) → WP mX8_next Q 197 [some (.ref 1), some (.int l1)] [] (jG0 sc) (jput (jput (jput (jput (jput h 1 3 l1) 1 2 0) 1 5 0) 1 2 2) 1 5 (((jput (jput (jput (jput h 1 3 l1) 1 2 0) 1 5 0) 1 2 2) 1 5) - 48)) (0, 0))
    (v88 : ¬ l1 < 0 → ¬ (h 1 1) ≤ l1 → ¬ 400 ≤ l1 → ¬ (h 2 l1.toNatClampNeg) = 32 → l1 < 0 → ¬ ((jput (jput (jput h 1 3 l1) 1 2 0) 1 5 0) 1 5) < 97 → 122 < ((jput (jput (jput h 1 3 l1) 1 2 0) 1 5 0) 1 5) → ((jput (jput (jput h 1 3 l1) 1 2 0) 1 5 0) 1 5) < 48 → Q (.inl none) (jG0 sc) (jput (jput (jput (jput h 1 3 l1) 1 2 0) 1 5 0) 1 4 l1))
    (v89 : ¬ l1 < 0 → ¬ (h 1 1) ≤ l1 → ¬ 400 ≤ l1 → ¬ (h 2 l1.toNatClampNeg) = 32 → l1 < 0 → ¬ ((jput (jput (jput h 1 3 l1) 1 2 0) 1 5 0) 1 5) < 97 → 122 < ((jput (jput (jput h 1 3 l1) 1 2 0) 1 5 0) 1 5) → ¬ ((jput (jput (jput h 1 3 l1) 1 2 0) 1 5 0) 1 5) < 48 → 57 < ((jput (jput (jput h 1 3 l1) 1 2 0) 1 5 0) 1 5) → Q (.inl none) (jG0 sc) (jput (jput (jput (jput h 1 3 l1) 1 2 0) 1 5 0) 1 4 l1))
    (v90 : ¬ l1 < 0 → ¬ (h 1 1) ≤ l1 → ¬ 400 ≤ l1 → ¬ (h 2 l1.toNatClampNeg) = 32 → l1 < 0 → ¬ ((jput (jput (jput h 1 3 l1) 1 2 0) 1 5 0) 1 5) < 97 → 122 < ((jput (jput (jput h 1 3 l1) 1 2 0) 1 5 0) 1 5) → ¬ ((jput (jput (jput h 1 3 l1) 1 2 0) 1 5 0) 1 5) < 48 → ¬ 57 < ((jput (jput (jput h 1 3 l1) 1 2 0) 1 5 0) 1 5) → WP mX8_next Q 197 [some (.ref 1), some (.int l1)] [] (jG0 sc) (jput (jput (jput (jput (jput h 1 3 l1) 1 2 0) 1 5 0) 1 2 2) 1 5 (((jput (jput (jput (jput h 1 3 l1) 1 2 0) 1 5 0) 1 2 2) 1 5) - 48)) (0, 0))
    (v91 : ¬ l1 < 0 → ¬ (h 1 1) ≤ l1 → ¬ 400 ≤ l1 → ¬ (h 2 l1.toNatClampNeg) = 32 → l1 < 0 → ¬ ((jput (jput (jput h 1 3 l1) 1 2 0) 1 5 0) 1 5) < 97 → ¬ 122 < ((jput (jput (jput h 1 3 l1) 1 2 0) 1 5 0) 1 5) → WP mX8_next Q 116 [some (.ref 1), some (.int l1)] [] (jG0 sc) (jput (jput (jput (jput h 1 3 l1) 1 2 0) 1 5 0) 1 2 1) (0, 0))
    (v92 : ¬ l1 < 0 → ¬ (h 1 1) ≤ l1 → ¬ 400 ≤ l1 → ¬ (h 2 l1.toNatClampNeg) = 32 → ¬ l1 < 0 → ((jput (jput (jput h 1 3 l1) 1 2 0) 1 5 0) 1 1) ≤ l1 → ((jput (jput (jput h 1 3 l1) 1 2 0) 1 5 0) 1 5) < 97 → ((jput (jput (jput h 1 3 l1) 1 2 0) 1 5 0) 1 5) < 48 → Q (.inl none) (jG0 sc) (jput (jput (jput (jput h 1 3 l1) 1 2 0) 1 5 0) 1 4 l1))
    (v93 : ¬ l1 < 0 → ¬ (h 1 1) ≤ l1 → ¬ 400 ≤ l1 → ¬ (h 2 l1.toNatClampNeg) = 32 → ¬ l1 < 0 → ((jput (jput (jput h 1 3 l1) 1 2 0) 1 5 0) 1 1) ≤ l1 → ((jput (jput (jput h 1 3 l1) 1 2 0) 1 5 0) 1 5) < 97 → ¬ ((jput (jput (jput h 1 3 l1) 1 2 0) 1 5 0) 1 5) < 48 → 57 < ((jput (jput (jput h 1 3 l1) 1 2 0) 1 5 0) 1 5) → Q (.inl none) (jG0 sc) (jput (jput (jput (jput h 1 3 l1) 1 2 0) 1 5 0) 1 4 l1))
    (v94 : ¬ l1 < 0 → ¬ (h 1 1) ≤ l1 → ¬ 400 ≤ l1 → ¬ (h 2 l1.toNatClampNeg) = 32 → ¬ l1 < 0 → ((jput (jput (jput h 1 3 l1) 1 2 0) 1 5 0) 1 1) ≤ l1 → ((jput (jput (jput h 1 3 l1) 1 2 0) 1 5 0) 1 5) < 97 → ¬ ((jput (jput (jput h 1 3 l1) 1 2 0) 1 5 0) 1 5) < 48 → ¬ 57 < ((jput (jput (jput h 1 3 l1) 1 2 0) 1 5 0) 1 5) → WP mX8_next Q 197 [some (.ref 1), some (.int l1)] [] (jG0 sc) (jput (jput (jput (jput (jput h 1 3 l1) 1 2 0) 1 5 0) 1 2 2) 1 5 (((jput (jput (jput (jput h 1 3 l1) 1 2 0) 1 5 0) 1 2 2) 1 5) - 48)) (0, 0))
    (v95 : ¬ l1 < 0 → ¬ (h 1 1) ≤ l1 → ¬ 400 ≤ l1 → ¬ (h 2 l1.toNatClampNeg) = 32 → ¬ l1 < 0 → ((jput (jput (jput h 1 3 l1) 1 2 0) 1 5 0) 1 1) ≤ l1 → ¬ ((jput (jput (jput h 1 3 l1) 1 2 0) 1 5 0) 1 5) < 97 → 122 < ((jput (jput (jput h 1 3 l1) 1 2 0) 1 5 0) 1 5) → ((jput (jput (jput h 1 3 l1) 1 2 0) 1 5 0) 1 5) < 48 → Q (.inl none) (jG0 sc) (jput (jput (jput (jput h 1 3 l1) 1 2 0) 1 5 0) 1 4 l1))
    (v96 : ¬ l1 < 0 → ¬ (h 1 1) ≤ l1 → ¬ 400 ≤ l1 → ¬ (h 2 l1.toNatClampNeg) = 32 → ¬ l1 < 0 → ((jput (jput (jput h 1 3 l1) 1 2 0) 1 5 0) 1 1) ≤ l1 → ¬ ((jput (jput (jput h 1 3 l1) 1 2 0) 1 5 0) 1 5) < 97 → 122 < ((jput (jput (jput h 1 3 l1) 1 2 0) 1 5 0) 1 5) → ¬ ((jput (jput (jput h 1 3 l1) 1 2 0) 1 5 0) 1 5) < 48 → 57 < ((jput (jput (jput h 1 3 l1) 1 2 0) 1 5 0) 1 5) → Q (.inl none) (jG0 sc) (jput (jput (jput (jput h 1 3 l1) 1 2 0) 1 5 0) 1 4 l1))
    (v97 : ¬ l1 < 0 → ¬ (h 1 1) ≤ l1 → ¬ 400 ≤ l1 → ¬ (h 2 l1.toNatClampNeg) = 32 → ¬ l1 < 0 → ((jput (jput (jput h 1 3 l1) 1 2 0) 1 5 0) 1 1) ≤ l1 → ¬ ((jput (jput (jput h 1 3 l1) 1 2 0) 1 5 0) 1 5) < 97 → 122 < ((jput (jput (jput h 1 3 l1) 1 2 0) 1 5 0) 1 5) → ¬ ((jput (jput (jput h 1 3 l1) 1 2 0) 1 5 0) 1 5) < 48 → ¬ 57 < ((jput (jput (jput h 1 3 l1) 1 2 0) 1 5 0) 1 5) → WP mX8_next Q 197 [some (.ref 1), some (.int l1)] [] (jG0 sc) (jput (jput (jput (jput (jput h 1 3 l1) 1 2 0) 1 5 0) 1 2 2) 1 5 (((jput (jput (jput (jput h 1 3 l1) 1 2 0) 1 5 0) 1 2 2) 1 5) - 48)) (0, 0))
    (v98 : ¬ l1 < 0 → ¬ (h 1 1) ≤ l1 → ¬ 400 ≤ l1 → ¬ (h 2 l1.toNatClampNeg) = 32 → ¬ l1 < 0 → ((jput (jput (jput h 1 3 l1) 1 2 0) 1 5 0) 1 1) ≤ l1 → ¬ ((jput (jput (jput h 1 3 l1) 1 2 0) 1 5 0) 1 5) < 97 → ¬ 122 < ((jput (jput (jput h 1 3 l1) 1 2 0) 1 5 0) 1 5) → WP mX8_next Q 116 [some (.ref 1), some (.int l1)] [] (jG0 sc) (jput (jput (jput (jput h 1 3 l1) 1 2 0) 1 5 0) 1 2 1) (0, 0))
    (v99 : ¬ l1 < 0 → ¬ (h 1 1) ≤ l1 → ¬ 400 ≤ l1 → ¬ (h 2 l1.toNatClampNeg) = 32 → ¬ l1 < 0 → ¬ ((jput (jput (jput h 1 3 l1) 1 2 0) 1 5 0) 1 1) ≤ l1 → 400 ≤ l1 → ((jput (jput (jput h 1 3 l1) 1 2 0) 1 5 0) 1 5) < 97 → ((jput (jput (jput h 1 3 l1) 1 2 0) 1 5 0) 1 5) < 48 → Q (.inl none) (jG0 sc) (jput (jput (jput (jput h 1 3 l1) 1 2 0) 1 5 0) 1 4 l1))
    (v100 : ¬ l1 < 0 → ¬ (h 1 1) ≤ l1 → ¬ 400 ≤ l1 → ¬ (h 2 l1.toNatClampNeg) = 32 → ¬ l1 < 0 → ¬ ((jput (jput (jput h 1 3 l1) 1 2 0) 1 5 0) 1 1) ≤ l1 → 400 ≤ l1 → ((jput (jput (jput h 1 3 l1) 1 2 0) 1 5 0) 1 5) < 97 → ¬ ((jput (jput (jput h 1 3 l1) 1 2 0) 1 5 0) 1 5) < 48 → 57 < ((jput (jput (jput h 1 3 l1) 1 2 0) 1 5 0) 1 5) → Q (.inl none) (jG0 sc) (jput (jput (jput (jput h 1 3 l1) 1 2 0) 1 5 0) 1 4 l1))
    (v101 : ¬ l1 < 0 → ¬ (h 1 1) ≤ l1 → ¬ 400 ≤ l1 → ¬ (h 2 l1.toNatClampNeg) = 32 → ¬ l1 < 0 → ¬ ((jput (jput (jput h 1 3 l1) 1 2 0) 1 5 0) 1 1) ≤ l1 → 400 ≤ l1 → ((jput (jput (jput h 1 3 l1) 1 2 0) 1 5 0) 1 5) < 97 → ¬ ((jput (jput (jput h 1 3 l1) 1 2 0) 1 5 0) 1 5) < 48 → ¬ 57 < ((jput (jput (jput h 1 3 l1) 1 2 0) 1 5 0) 1 5) → WP mX8_next Q 197 [some (.ref 1), some (.int l1)] [] (jG0 sc) (jput (jput (jput (jput (jput h 1 3 l1) 1 2 0) 1 5 0) 1 2 2) 1 5 (((jput (jput (jput (jput h 1 3 l1) 1 2 0) 1 5 0) 1 2 2) 1 5) - 48)) (0, 0))
    (v102 : ¬ l1 < 0 → ¬ (h 1 1) ≤ l1 → ¬ 400 ≤ l1 → ¬ (h 2 l1.toNatClampNeg) = 32 → ¬ l1 < 0 → ¬ ((jput (jput (jput h 1 3 l1) 1 2 0) 1 5 0) 1 1) ≤ l1 → 400 ≤ l1 → ¬ ((jput (jput (jput h 1 3 l1) 1 2 0) 1 5 0) 1 5) < 97 → 122 < ((jput (jput (jput h 1 3 l1) 1 2 0) 1 5 0) 1 5) → ((jput (jput (jput h 1 3 l1) 1 2 0) 1 5 0) 1 5) < 48 → Q (.inl none) (jG0 sc) (jput (jput (jput (jput h 1 3 l1) 1 2 0) 1 5 0) 1 4 l1))
    (v103 : ¬ l1 < 0 → ¬ (h 1 1) ≤ l1 → ¬ 400 ≤ l1 → ¬ (h 2 l1.toNatClampNeg) = 32 → ¬ l1 < 0 → ¬ ((jput (jput (jput h 1 3 l1) 1 2 0) 1 5 0) 1 1) ≤ l1 → 400 ≤ l1 → ¬ ((jput (jput (jput h 1 3 l1) 1 2 0) 1 5 0) 1 5) < 97 → 122 < ((jput (jput (jput h 1 3 l1) 1 2 0) 1 5 0) 1 5) → ¬ ((jput (jput (jput h 1 3 l1) 1 2 0) 1 5 0) 1 5) < 48 → 57 < ((jput (jput (jput h 1 3 l1) 1 2 0) 1 5 0) 1 5) → Q (.inl none) (jG0 sc) (jput (jput (jput (jput h 1 3 l1) 1 2 0) 1 5 0) 1 4 l1))
    (v104 : ¬ l1 < 0 → ¬ (h 1 1) ≤ l1 → ¬ 400 ≤ l1 → ¬ (h 2 l1.toNatClampNeg) = 32 → ¬ l1 < 0 → ¬ ((jput (jput (jput h 1 3 l1) 1 2 0) 1 5 0) 1 1) ≤ l1 → 400 ≤ l1 → ¬ ((jput (jput (jput h 1 3 l1) 1 2 0) 1 5 0) 1 5) < 97 → 122 < ((jput (jput (jput h 1 3 l1) 1 2 0) 1 5 0) 1 5) → ¬ ((jput (jput (jput h 1 3 l1) 1 2 0) 1 5 0) 1 5) < 48 → ¬ 57 < ((jput (jput (jput h 1 3 l1) 1 2 0) 1 5 0) 1 5) → WP mX8_next Q 197 [some (.ref 1), some (.int l1)] [] (jG0 sc) (jput (jput (jput (jput (jput h 1 3 l1) 1 2 0) 1 5 0) 1 2 2) 1 5 (((jput (jput (jput (jput h 1 3 l1) 1 2 0) 1 5 0) 1 2 2) 1 5) - 48)) (0, 0))
    (v105 : ¬ l1 < 0 → ¬ (h 1 1) ≤ l1 → ¬ 400 ≤ l1 → ¬ (h 2 l1.toNatClampNeg) = 32 → ¬ l1 < 0 → ¬ ((jput (jput (jput h 1 3 l1) 1 2 0) 1 5 0) 1 1) ≤ l1 → 400 ≤ l1 → ¬ ((jput (jput (jput h 1 3 l1) 1 2 0) 1 5 0) 1 5) < 97 → ¬ 122 < ((jput (jput (jput h 1 3 l1) 1 2 0) 1 5 0) 1 5) → WP mX8_next Q 116 [some (.ref 1), some (.int l1)] [] (jG0 sc) (jput (jput (jput (jput h 1 3 l1) 1 2 0) 1 5 0) 1 2 1) (0, 0))
    (o5 : ¬ l1 < 0 → ¬ (h 1 1) ≤ l1 → ¬ 400 ≤ l1 → ¬ (h 2 l1.toNatClampNeg) = 32 → ¬ l1 < 0 → ¬ ((jput (jput (jput h 1 3 l1) 1 2 0) 1 5 0) 1 1) ≤ l1 → ¬ 400 ≤ l1 → vp_in l1 400)
    (v106 : ¬ l1 < 0 → ¬ (h 1 1) ≤ l1 → ¬ 400 ≤ l1 → ¬ (h 2 l1.toNatClampNeg) = 32 → ¬ l1 < 0 → ¬ ((jput (jput (jput h 1 3 l1) 1 2 0) 1 5 0) 1 1) ≤ l1 → ¬ 400 ≤ l1 → ((jput (jput (jput (jput (jput h 1 3 l1) 1 2 0) 1 5 0) 1 2 3) 1 5 ((jput (jput (jput (jput h 1 3 l1) 1 2 0) 1 5 0) 1 2 3) 2 l1.toNatClampNeg)) 1 5) < 97 → ((jput (jput (jput (jput (jput h 1 3 l1) 1 2 0) 1 5 0) 1 2 3) 1 5 ((jput (jput (jput (jput h 1 3 l1) 1 2 0) 1 5 0) 1 2 3) 2 l1.toNatClampNeg)) 1 5) < 48 → Q (.inl none) (jG0 sc) (jput (jput (jput (jput (jput (jput h 1 3 l1) 1 2 0) 1 5 0) 1 2 3) 1 5 ((jput (jput (jput (jput h 1 3 l1) 1 2 0) 1 5 0) 1 2 3) 2 l1.toNatClampNeg)) 1 4 (l1 + 1)))
    (v107 : ¬ l1 < 0 → ¬ (h 1 1) ≤ l1 → ¬ 400 ≤ l1 → ¬ (h 2 l1.toNatClampNeg) = 32 → ¬ l1 < 0 → ¬ ((jput (jput (jput h 1 3 l1) 1 2 0) 1 5 0) 1 1) ≤ l1 → ¬ 400 ≤ l1 → ((jput (jput (jput (jput (jput h 1 3 l1) 1 2 0) 1 5 0) 1 2 3) 1 5 ((jput (jput (jput (jput h 1 3 l1) 1 2 0) 1 5 0) 1 2 3) 2 l1.toNatClampNeg)) 1 5) < 97 → ¬ ((jput (jput (jput (jput (jput h 1 3 l1) 1 2 0) 1 5 0) 1 2 3) 1 5 ((jput (jput (jput (jput h 1 3 l1) 1 2 0) 1 5 0) 1 2 3) 2 l1.toNatClampNeg)) 1 5) < 48 → 57 < ((jput (jput (jput (jput (jput h 1 3 l1) 1 2 0) 1 5 0) 1 2 3) 1 5 ((jput (jput (jput (jput h 1 3 l1) 1 2 0) 1 5 0) 1 2 3) 2 l1.toNatClampNeg)) 1 5) → Q (.inl none) (jG0 sc) (jput (jput (jput (jput (jput (jput h 1 3 l1) 1 2 0) 1 5 0) 1 2 3) 1 5 ((jput (jput (jput (jput h 1 3 l1) 1 2 0) 1 5 0) 1 2 3) 2 l1.toNatClampNeg)) 1 4 (l1 + 1)))
    (v108 : ¬ l1 < 0 → ¬ (h 1 1) ≤ l1 → ¬ 400 ≤ l1 → ¬ (h 2 l1.toNatClampNeg) = 32 → ¬ l1 < 0 → ¬ ((jput (jput (jput h 1 3 l1) 1 2 0) 1 5 0) 1 1) ≤ l1 → ¬ 400 ≤ l1 → ((jput (jput (jput (jput (jput h 1 3 l1) 1 2 0) 1 5 0) 1 2 3) 1 5 ((jput (jput (jput (jput h 1 3 l1) 1 2 0) 1 5 0) 1 2 3) 2 l1.toNatClampNeg)) 1 5) < 97 → ¬ ((jput (jput (jput (jput (jput h 1 3 l1) 1 2 0) 1 5 0) 1 2 3) 1 5 ((jput (jput (jput (jput h 1 3 l1) 1 2 0) 1 5 0) 1 2 3) 2 l1.toNatClampNeg)) 1 5) < 48 → ¬ 57 < ((jput (jput (jput (jput (jput h 1 3 l1) 1 2 0) 1 5 0) 1 2 3) 1 5 ((jput (jput (jput (jput h 1 3 l1) 1 2 0) 1 5 0) 1 2 3) 2 l1.toNatClampNeg)) 1 5) → WP mX8_next Q 197 [some (.ref 1), some (.int (l1 + 1))] [] (jG0 sc) (jput (jput (jput (jput (jput (jput (jput h 1 3 l1) 1 2 0) 1 5 0) 1 2 3) 1 5 ((jput (jput (jput (jput h 1 3 l1) 1 2 0) 1 5 0) 1 2 3) 2 l1.toNatClampNeg)) 1 2 2) 1 5 (((jput (jput (jput (jput (jput (jput h 1 3 l1) 1 2 0) 1 5 0) 1 2 3) 1 5 ((jput (jput (jput (jput h 1 3 l1) 1 2 0) 1 5 0) 1 2 3) 2 l1.toNatClampNeg)) 1 2 2) 1 5) - 48)) (0, 0))
    (v109 : ¬ l1 < 0 → ¬ (h 1 1) ≤ l1 → ¬ 400 ≤ l1 → ¬ (h 2 l1.toNatClampNeg) = 32 → ¬ l1 < 0 → ¬ ((jput (jput (jput h 1 3 l1) 1 2 0) 1 5 0) 1 1) ≤ l1 → ¬ 400 ≤ l1 → ¬ ((jput (jput (jput (jput (jput h 1 3 l1) 1 2 0) 1 5 0) 1 2 3) 1 5 ((jput (jput (jput (jput h 1 3 l1) 1 2 0) 1 5 0) 1 2 3) 2 l1.toNatClampNeg)) 1 5) < 97 → 122 < ((jput (jput (jput (jput (jput h 1 3 l1) 1 2 0) 1 5 0) 1 2 3) 1 5 ((jput (jput (jput (jput h 1 3 l1) 1 2 0) 1 5 0) 1 2 3) 2 l1.toNatClampNeg)) 1 5) → ((jput (jput (jput (jput (jput h 1 3 l1) 1 2 0) 1 5 0) 1 2 3) 1 5 ((jput (jput (jput (jput h 1 3 l1) 1 2 0) 1 5 0) 1 2 3) 2 l1.toNatClampNeg)) 1 5) < 48 → Q (.inl none) (jG0 sc) (jput (jput (jput (jput (jput (jput h 1 3 l1) 1 2 0) 1 5 0) 1 2 3) 1 5 ((jput (jput (jput (jput h 1 3 l1) 1 2 0) 1 5 0) 1 2 3) 2 l1.toNatClampNeg)) 1 4 (l1 + 1)))
    (v110 : ¬ l1 < 0 → ¬ (h 1 1) ≤ l1 → ¬ 400 ≤ l1 → ¬ (h 2 l1.toNatClampNeg) = 32 → ¬ l1 < 0 → ¬ ((jput (jput (jput h 1 3 l1) 1 2 0) 1 5 0) 1 1) ≤ l1 → ¬ 400 ≤ l1 → ¬ ((jput (jput (jput (jput (jput h 1 3 l1) 1 2 0) 1 5 0) 1 2 3) 1 5 ((jput (jput (jput (jput h 1 3 l1) 1 2 0) 1 5 0) 1 2 3) 2 l1.toNatClampNeg)) 1 5) < 97 → 122 < ((jput (jput (jput (jput (jput h 1 3 l1) 1 2 0) 1 5 0) 1 2 3) 1 5 ((jput (jput (jput (jput h 1 3 l1) 1 2 0) 1 5 0) 1 2 3) 2 l1.toNatClampNeg)) 1 5) → ¬ ((jput (jput (jput (jput (jput h 1 3 l1) 1 2 0) 1 5 0) 1 2 3) 1 5 ((jput (jput (jput (jput h 1 3 l1) 1 2 0) 1 5 0) 1 2 3) 2 l1.toNatClampNeg)) 1 5) < 48 → 57 < ((jput (jput (jput (jput (jput h 1 3 l1) 1 2 0) 1 5 0) 1 2 3) 1 5 ((jput (jput (jput (jput h 1 3 l1) 1 2 0) 1 5 0) 1 2 3) 2 l1.toNatClampNeg)) 1 5) → Q (.inl none) (jG0 sc) (jput (jput (jput (jput (jput (jput h 1 3 l1) 1 2 0) 1 5 0) 1 2 3) 1 5 ((jput (jput (jput (jput h 1 3 l1) 1 2 0) 1 5 0) 1 2 3) 2 l1.toNatClampNeg)) 1 4 (l1 + 1)))
    (v111 : ¬ l1 < 0 → ¬ (h 1 1) ≤ l1 → ¬ 400 ≤ l1 → ¬ (h 2 l1.toNatClampNeg) = 32 → ¬ l1 < 0 → ¬ ((jput (jput (jput h 1 3 l1) 1 2 0) 1 5 0) 1 1) ≤ l1 → ¬ 400 ≤ l1 → ¬ ((jput (jput (jput (jput (jput h 1 3 l1) 1 2 0) 1 5 0) 1 2 3) 1 5 ((jput (jput (jput (jput h 1 3 l1) 1 2 0) 1 5 0) 1 2 3) 2 l1.toNatClampNeg)) 1 5) < 97 → 122 < ((jput (jput (jput (jput (jput h 1 3 l1) 1 2 0) 1 5 0) 1 2 3) 1 5 ((jput (jput (jput (jput h 1 3 l1) 1 2 0) 1 5 0) 1 2 3) 2 l1.toNatClampNeg)) 1 5) → ¬ ((jput (jput (jput (jput (jput h 1 3 l1) 1 2 0) 1 5 0) 1 2 3) 1 5 ((jput (jput (jput (jput h 1 3 l1) 1 2 0) 1 5 0) 1 2 3) 2 l1.toNatClampNeg)) 1 5) < 48 → ¬ 57 < ((jput (jput (jput (jput (jput h 1 3 l1) 1 2 0) 1 5 0) 1 2 3) 1 5 ((jput (jput (jput (jput h 1 3 l1) 1 2 0) 1 5 0) 1 2 3) 2 l1.toNatClampNeg)) 1 5) → WP mX8_next Q 197 [some (.ref 1), some (.int (l1 + 1))] [] (jG0 sc) (jput (jput (jput (jput (jput (jput (jput h 1 3 l1) 1 2 0) 1 5 0) 1 2 3) 1 5 ((jput (jput (jput (jput h 1 3 l1) 1 2 0) 1 5 0) 1 2 3) 2 l1.toNatClampNeg)) 1 2 2) 1 5 (((jput (jput (jput (jput (jput (jput h 1 3 l1) 1 2 0) 1 5 0) 1 2 3) 1 5 ((jput (jput (jput (jput h 1 3 l1) 1 2 0) 1 5 0) 1 2 3) 2 l1.toNatClampNeg)) 1 2 2) 1 5) - 48)) (0, 0))
    (v112 : ¬ l1 < 0 → ¬ (h 1 1) ≤ l1 → ¬ 400 ≤ l1 → ¬ (h 2 l1.toNatClampNeg) = 32 → ¬ l1 < 0 → ¬ ((jput (jput (jput h 1 3 l1) 1 2 0) 1 5 0) 1 1) ≤ l1 → ¬ 400 ≤ l1 → ¬ ((jput (jput (jput (jput (jput h 1 3 l1) 1 2 0) 1 5 0) 1 2 3) 1 5 ((jput (jput (jput (jput h 1 3 l1) 1 2 0) 1 5 0) 1 2 3) 2 l1.toNatClampNeg)) 1 5) < 97 → ¬ 122 < ((jput (jput (jput (jput (jput h 1 3 l1) 1 2 0) 1 5 0) 1 2 3) 1 5 ((jput (jput (jput (jput h 1 3 l1) 1 2 0) 1 5 0) 1 2 3) 2 l1.toNatClampNeg)) 1 5) → WP mX8_next Q 116 [some (.ref 1), some (.int (l1 + 1))] [] (jG0 sc) (jput (jput (jput (jput (jput (jput h 1 3 l1) 1 2 0) 1 5 0) 1 2 3) 1 5 ((jput (jput (jput (jput h 1 3 l1) 1 2 0) 1 5 0) 1 2 3) 2 l1.toNatClampNeg)) 1 2 1) (0, 0))
    (v113 : ¬ l1 < 0 → ¬ (h 1 1) ≤ l1 → ¬ 400 ≤ l1 → (h 2 l1.toNatClampNeg) = 32 → WP mX8_next Q 5 [some (.ref 1), some (.int (l1 + 1))] [] (jG0 sc) h (0, 0)) :
    WP mX8_next Q 5 [some (.ref 1), some (.int l1)] [] (jG0 sc) h (0, 0) := by
  exact (bX8_next_5 (fun c1 => (bX8_next_41 (fun c2 => (bX8_next_93 (fun c3 => (bX8_next_163 (fun c4 => (bX8_next_282 (v1 c1 c2 c3 c4))) (fun c4 => (bX8_next_172 (fun c5 => (bX8_next_282 (v2 c1 c2 c3 c4 c5))) (fun c5 => (bX8_next_181 (v3 c1 c2 c3 c4 c5))))))) (fun c3 => (bX8_next_102 (fun c6 => (bX8_next_163 (fun c7 => (bX8_next_282 (v4 c1 c2 c3 c6 c7))) (fun c7 => (bX8_next_172 (fun c8 => (bX8_next_282 (v5 c1 c2 c3 c6 c7 c8))) (fun c8 => (bX8_next_181 (v6 c1 c2 c3 c6 c7 c8))))))) (fun c6 => (bX8_next_111 (v7 c1 c2 c3 c6))))))) (fun c2 => (bX8_next_60 (fun c9 => (bX8_next_93 (fun c10 => (bX8_next_163 (fun c11 => (bX8_next_282 (v8 c1 c2 c9 c10 c11))) (fun c11 => (bX8_next_172 (fun c12 => (bX8_next_282 (v9 c1 c2 c9 c10 c11 c12))) (fun c12 => (bX8_next_181 (v10 c1 c2 c9 c10 c11 c12))))))) (fun c10 => (bX8_next_102 (fun c13 => (bX8_next_163 (fun c14 => (bX8_next_282 (v11 c1 c2 c9 c10 c13 c14))) (fun c14 => (bX8_next_172 (fun c15 => (bX8_next_282 (v12 c1 c2 c9 c10 c13 c14 c15))) (fun c15 => (bX8_next_181 (v13 c1 c2 c9 c10 c13 c14 c15))))))) (fun c13 => (bX8_next_111 (v14 c1 c2 c9 c10 c13))))))) (fun c9 => (bX8_next_68 (fun c16 => (bX8_next_93 (fun c17 => (bX8_next_163 (fun c18 => (bX8_next_282 (v15 c1 c2 c9 c16 c17 c18))) (fun c18 => (bX8_next_172 (fun c19 => (bX8_next_282 (v16 c1 c2 c9 c16 c17 c18 c19))) (fun c19 => (bX8_next_181 (v17 c1 c2 c9 c16 c17 c18 c19))))))) (fun c17 => (bX8_next_102 (fun c20 => (bX8_next_163 (fun c21 => (bX8_next_282 (v18 c1 c2 c9 c16 c17 c20 c21))) (fun c21 => (bX8_next_172 (fun c22 => (bX8_next_282 (v19 c1 c2 c9 c16 c17 c20 c21 c22))) (fun c22 => (bX8_next_181 (v20 c1 c2 c9 c16 c17 c20 c21 c22))))))) (fun c20 => (bX8_next_111 (v21 c1 c2 c9 c16 c17 c20))))))) (fun c16 => (bX8_next_75 (o1 c1 c2 c9 c16) (bX8_next_93 (fun c23 => (bX8_next_163 (fun c24 => (bX8_next_282 (v22 c1 c2 c9 c16 c23 c24))) (fun c24 => (bX8_next_172 (fun c25 => (bX8_next_282 (v23 c1 c2 c9 c16 c23 c24 c25))) (fun c25 => (bX8_next_181 (v24 c1 c2 c9 c16 c23 c24 c25))))))) (fun c23 => (bX8_next_102 (fun c26 => (bX8_next_163 (fun c27 => (bX8_next_282 (v25 c1 c2 c9 c16 c23 c26 c27))) (fun c27 => (bX8_next_172 (fun c28 => (bX8_next_282 (v26 c1 c2 c9 c16 c23 c26 c27 c28))) (fun c28 => (bX8_next_181 (v27 c1 c2 c9 c16 c23 c26 c27 c28))))))) (fun c26 => (bX8_next_111 (v28 c1 c2 c9 c16 c23 c26)))))))))))))) (fun c1 => (bX8_next_9 (fun c29 => (bX8_next_41 (fun c30 => (bX8_next_93 (fun c31 => (bX8_next_163 (fun c32 => (bX8_next_282 (v29 c1 c29 c30 c31 c32))) (fun c32 => (bX8_next_172 (fun c33 => (bX8_next_282 (v30 c1 c29 c30 c31 c32 c33))) (fun c33 => (bX8_next_181 (v31 c1 c29 c30 c31 c32 c33))))))) (fun c31 => (bX8_next_102 (fun c34 => (bX8_next_163 (fun c35 => (bX8_next_282 (v32 c1 c29 c30 c31 c34 c35))) (fun c35 => (bX8_next_172 (fun c36 => (bX8_next_282 (v33 c1 c29 c30 c31 c34 c35 c36))) (fun c36 => (bX8_next_181 (v34 c1 c29 c30 c31 c34 c35 c36))))))) (fun c34 => (bX8_next_111 (v35 c1 c29 c30 c31 c34))))))) (fun c30 => (bX8_next_60 (fun c37 => (bX8_next_93 (fun c38 => (bX8_next_163 (fun c39 => (bX8_next_282 (v36 c1 c29 c30 c37 c38 c39))) (fun c39 => (bX8_next_172 (fun c40 => (bX8_next_282 (v37 c1 c29 c30 c37 c38 c39 c40))) (fun c40 => (bX8_next_181 (v38 c1 c29 c30 c37 c38 c39 c40))))))) (fun c38 => (bX8_next_102 (fun c41 => (bX8_next_163 (fun c42 => (bX8_next_282 (v39 c1 c29 c30 c37 c38 c41 c42))) (fun c42 => (bX8_next_172 (fun c43 => (bX8_next_282 (v40 c1 c29 c30 c37 c38 c41 c42 c43))) (fun c43 => (bX8_next_181 (v41 c1 c29 c30 c37 c38 c41 c42 c43))))))) (fun c41 => (bX8_next_111 (v42 c1 c29 c30 c37 c38 c41))))))) (fun c37 => (bX8_next_68 (fun c44 => (bX8_next_93 (fun c45 => (bX8_next_163 (fun c46 => (bX8_next_282 (v43 c1 c29 c30 c37 c44 c45 c46))) (fun c46 => (bX8_next_172 (fun c47 => (bX8_next_282 (v44 c1 c29 c30 c37 c44 c45 c46 c47))) (fun c47 => (bX8_next_181 (v45 c1 c29 c30 c37 c44 c45 c46 c47))))))) (fun c45 => (bX8_next_102 (fun c48 => (bX8_next_163 (fun c49 => (bX8_next_282 (v46 c1 c29 c30 c37 c44 c45 c48 c49))) (fun c49 => (bX8_next_172 (fun c50 => (bX8_next_282 (v47 c1 c29 c30 c37 c44 c45 c48 c49 c50))) (fun c50 => (bX8_next_181 (v48 c1 c29 c30 c37 c44 c45 c48 c49 c50))))))) (fun c48 => (bX8_next_111 (v49 c1 c29 c30 c37 c44 c45 c48))))))) (fun c44 => (bX8_next_75 (o2 c1 c29 c30 c37 c44) (bX8_next_93 (fun c51 => (bX8_next_163 (fun c52 => (bX8_next_282 (v50 c1 c29 c30 c37 c44 c51 c52))) (fun c52 => (bX8_next_172 (fun c53 => (bX8_next_282 (v51 c1 c29 c30 c37 c44 c51 c52 c53))) (fun c53 => (bX8_next_181 (v52 c1 c29 c30 c37 c44 c51 c52 c53))))))) (fun c51 => (bX8_next_102 (fun c54 => (bX8_next_163 (fun c55 => (bX8_next_282 (v53 c1 c29 c30 c37 c44 c51 c54 c55))) (fun c55 => (bX8_next_172 (fun c56 => (bX8_next_282 (v54 c1 c29 c30 c37 c44 c51 c54 c55 c56))) (fun c56 => (bX8_next_181 (v55 c1 c29 c30 c37 c44 c51 c54 c55 c56))))))) (fun c54 => (bX8_next_111 (v56 c1 c29 c30 c37 c44 c51 c54)))))))))))))) (fun c29 => (bX8_next_17 (fun c57 => (bX8_next_41 (fun c58 => (bX8_next_93 (fun c59 => (bX8_next_163 (fun c60 => (bX8_next_282 (v57 c1 c29 c57 c58 c59 c60))) (fun c60 => (bX8_next_172 (fun c61 => (bX8_next_282 (v58 c1 c29 c57 c58 c59 c60 c61))) (fun c61 => (bX8_next_181 (v59 c1 c29 c57 c58 c59 c60 c61))))))) (fun c59 => (bX8_next_102 (fun c62 => (bX8_next_163 (fun c63 => (bX8_next_282 (v60 c1 c29 c57 c58 c59 c62 c63))) (fun c63 => (bX8_next_172 (fun c64 => (bX8_next_282 (v61 c1 c29 c57 c58 c59 c62 c63 c64))) (fun c64 => (bX8_next_181 (v62 c1 c29 c57 c58 c59 c62 c63 c64))))))) (fun c62 => (bX8_next_111 (v63 c1 c29 c57 c58 c59 c62))))))) (fun c58 => (bX8_next_60 (fun c65 => (bX8_next_93 (fun c66 => (bX8_next_163 (fun c67 => (bX8_next_282 (v64 c1 c29 c57 c58 c65 c66 c67))) (fun c67 => (bX8_next_172 (fun c68 => (bX8_next_282 (v65 c1 c29 c57 c58 c65 c66 c67 c68))) (fun c68 => (bX8_next_181 (v66 c1 c29 c57 c58 c65 c66 c67 c68))))))) (fun c66 => (bX8_next_102 (fun c69 => (bX8_next_163 (fun c70 => (bX8_next_282 (v67 c1 c29 c57 c58 c65 c66 c69 c70))) (fun c70 => (bX8_next_172 (fun c71 => (bX8_next_282 (v68 c1 c29 c57 c58 c65 c66 c69 c70 c71))) (fun c71 => (bX8_next_181 (v69 c1 c29 c57 c58 c65 c66 c69 c70 c71))))))) (fun c69 => (bX8_next_111 (v70 c1 c29 c57 c58 c65 c66 c69))))))) (fun c65 => (bX8_next_68 (fun c72 => (bX8_next_93 (fun c73 => (bX8_next_163 (fun c74 => (bX8_next_282 (v71 c1 c29 c57 c58 c65 c72 c73 c74))) (fun c74 => (bX8_next_172 (fun c75 => (bX8_next_282 (v72 c1 c29 c57 c58 c65 c72 c73 c74 c75))) (fun c75 => (bX8_next_181 (v73 c1 c29 c57 c58 c65 c72 c73 c74 c75))))))) (fun c73 => (bX8_next_102 (fun c76 => (bX8_next_163 (fun c77 => (bX8_next_282 (v74 c1 c29 c57 c58 c65 c72 c73 c76 c77))) (fun c77 => (bX8_next_172 (fun c78 => (bX8_next_282 (v75 c1 c29 c57 c58 c65 c72 c73 c76 c77 c78))) (fun c78 => (bX8_next_181 (v76 c1 c29 c57 c58 c65 c72 c73 c76 c77 c78))))))) (fun c76 => (bX8_next_111 (v77 c1 c29 c57 c58 c65 c72 c73 c76))))))) (fun c72 => (bX8_next_75 (o3 c1 c29 c57 c58 c65 c72) (bX8_next_93 (fun c79 => (bX8_next_163 (fun c80 => (bX8_next_282 (v78 c1 c29 c57 c58 c65 c72 c79 c80))) (fun c80 => (bX8_next_172 (fun c81 => (bX8_next_282 (v79 c1 c29 c57 c58 c65 c72 c79 c80 c81))) (fun c81 => (bX8_next_181 (v80 c1 c29 c57 c58 c65 c72 c79 c80 c81))))))) (fun c79 => (bX8_next_102 (fun c82 => (bX8_next_163 (fun c83 => (bX8_next_282 (v81 c1 c29 c57 c58 c65 c72 c79 c82 c83))) (fun c83 => (bX8_next_172 (fun c84 => (bX8_next_282 (v82 c1 c29 c57 c58 c65 c72 c79 c82 c83 c84))) (fun c84 => (bX8_next_181 (v83 c1 c29 c57 c58 c65 c72 c79 c82 c83 c84))))))) (fun c82 => (bX8_next_111 (v84 c1 c29 c57 c58 c65 c72 c79 c82)))))))))))))) (fun c57 => (bX8_next_24 (o4 c1 c29 c57) (fun c85 => (bX8_next_41 (fun c86 => (bX8_next_93 (fun c87 => (bX8_next_163 (fun c88 => (bX8_next_282 (v85 c1 c29 c57 c85 c86 c87 c88))) (fun c88 => (bX8_next_172 (fun c89 => (bX8_next_282 (v86 c1 c29 c57 c85 c86 c87 c88 c89))) (fun c89 => (bX8_next_181 (v87 c1 c29 c57 c85 c86 c87 c88 c89))))))) (fun c87 => (bX8_next_102 (fun c90 => (bX8_next_163 (fun c91 => (bX8_next_282 (v88 c1 c29 c57 c85 c86 c87 c90 c91))) (fun c91 => (bX8_next_172 (fun c92 => (bX8_next_282 (v89 c1 c29 c57 c85 c86 c87 c90 c91 c92))) (fun c92 => (bX8_next_181 (v90 c1 c29 c57 c85 c86 c87 c90 c91 c92))))))) (fun c90 => (bX8_next_111 (v91 c1 c29 c57 c85 c86 c87 c90))))))) (fun c86 => (bX8_next_60 (fun c93 => (bX8_next_93 (fun c94 => (bX8_next_163 (fun c95 => (bX8_next_282 (v92 c1 c29 c57 c85 c86 c93 c94 c95))) (fun c95 => (bX8_next_172 (fun c96 => (bX8_next_282 (v93 c1 c29 c57 c85 c86 c93 c94 c95 c96))) (fun c96 => (bX8_next_181 (v94 c1 c29 c57 c85 c86 c93 c94 c95 c96))))))) (fun c94 => (bX8_next_102 (fun c97 => (bX8_next_163 (fun c98 => (bX8_next_282 (v95 c1 c29 c57 c85 c86 c93 c94 c97 c98))) (fun c98 => (bX8_next_172 (fun c99 => (bX8_next_282 (v96 c1 c29 c57 c85 c86 c93 c94 c97 c98 c99))) (fun c99 => (bX8_next_181 (v97 c1 c29 c57 c85 c86 c93 c94 c97 c98 c99))))))) (fun c97 => (bX8_next_111 (v98 c1 c29 c57 c85 c86 c93 c94 c97))))))) (fun c93 => (bX8_next_68 (fun c100 => (bX8_next_93 (fun c101 => (bX8_next_163 (fun c102 => (bX8_next_282 (v99 c1 c29 c57 c85 c86 c93 c100 c101 c102))) (fun c102 => (bX8_next_172 (fun c103 => (bX8_next_282 (v100 c1 c29 c57 c85 c86 c93 c100 c101 c102 c103))) (fun c103 => (bX8_next_181 (v101 c1 c29 c57 c85 c86 c93 c100 c101 c102 c103))))))) (fun c101 => (bX8_next_102 (fun c104 => (bX8_next_163 (fun c105 => (bX8_next_282 (v102 c1 c29 c57 c85 c86 c93 c100 c101 c104 c105))) (fun c105 => (bX8_next_172 (fun c106 => (bX8_next_282 (v103 c1 c29 c57 c85 c86 c93 c100 c101 c104 c105 c106))) (fun c106 => (bX8_next_181 (v104 c1 c29 c57 c85 c86 c93 c100 c101 c104 c105 c106))))))) (fun c104 => (bX8_next_111 (v105 c1 c29 c57 c85 c86 c93 c100 c101 c104))))))) (fun c100 => (bX8_next_75 (o5 c1 c29 c57 c85 c86 c93 c100) (bX8_next_93 (fun c107 => (bX8_next_163 (fun c108 => (bX8_next_282 (v106 c1 c29 c57 c85 c86 c93 c100 c107 c108))) (fun c108 => (bX8_next_172 (fun c109 => (bX8_next_282 (v107 c1 c29 c57 c85 c86 c93 c100 c107 c108 c109))) (fun c109 => (bX8_next_181 (v108 c1 c29 c57 c85 c86 c93 c100 c107 c108 c109))))))) (fun c107 => (bX8_next_102 (fun c110 => (bX8_next_163 (fun c111 => (bX8_next_282 (v109 c1 c29 c57 c85 c86 c93 c100 c107 c110 c111))) (fun c111 => (bX8_next_172 (fun c112 => (bX8_next_282 (v110 c1 c29 c57 c85 c86 c93 c100 c107 c110 c111 c112))) (fun c112 => (bX8_next_181 (v111 c1 c29 c57 c85 c86 c93 c100 c107 c110 c111 c112))))))) (fun c110 => (bX8_next_111 (v112 c1 c29 c57 c85 c86 c93 c100 c107 c110)))))))))))))) (fun c85 => (bX8_next_35 (v113 c1 c29 c57 c85))))))))))
set_option maxRecDepth 100000 in
theorem rX8_next_116 {sc : Nat × (Nat → Int32)} {h : jH} {Q : jQ} {l1 : Int32}
    (v1 : l1 < 0 → Q (.inl none) (jG0 sc) (jput h 1 4 l1))
    (v2 : ¬ l1 < 0 → (h 1 1) ≤ l1 → Q (.inl none) (jG0 sc) (jput h 1 4 l1))
    (v3 : ¬ l1 < 0 → ¬ (h 1 1) ≤ l1 → 400 ≤ l1 → Q (.inl none) (jG0 sc) (jput h 1 4 l1))
    (o1 : ¬ l1 < 0 → ¬ (h 1 1) ≤ l1 → ¬ 400 ≤ l1 → vp_in l1 400)
    (v4 : ¬ l1 < 0 → ¬ (h 1 1) ≤ l1 → ¬ 400 ≤ l1 → (h 2 l1.toNatClampNeg) < 97 → Q (.inl none) (jG0 sc) (jput h 1 4 l1))
    (o2 : ¬ l1 < 0 → ¬ (h 1 1) ≤ l1 → ¬ 400 ≤ l1 → ¬ (h 2 l1.toNatClampNeg) < 97 → vp_in l1 400)
    (v5 : ¬ l1 < 0 → ¬ (h 1 1) ≤ l1 → ¬ 400 ≤ l1 → ¬ (h 2 l1.toNatClampNeg) < 97 → 122 < (h 2 l1.toNatClampNeg) → Q (.inl none) (jG0 sc) (jput h 1 4 l1))
    (v6 : ¬ l1 < 0 → ¬ (h 1 1) ≤ l1 → ¬ 400 ≤ l1 → ¬ (h 2 l1.toNatClampNeg) < 97 → ¬ 122 < (h 2 l1.toNatClampNeg) → WP mX8_next Q 116 [some (.ref 1), some (.int (l1 + 1))] [] (jG0 sc) h (0, 0)) :
    WP mX8_next Q 116 [some (.ref 1), some (.int l1)] [] (jG0 sc) h (0, 0) := by
  exact (bX8_next_116 (fun c1 => (bX8_next_282 (v1 c1))) (fun c1 => (bX8_next_120 (fun c2 => (bX8_next_282 (v2 c1 c2))) (fun c2 => (bX8_next_128 (fun c3 => (bX8_next_282 (v3 c1 c2 c3))) (fun c3 => (bX8_next_135 (o1 c1 c2 c3) (fun c4 => (bX8_next_282 (v4 c1 c2 c3 c4))) (fun c4 => (bX8_next_146 (o2 c1 c2 c3 c4) (fun c5 => (bX8_next_282 (v5 c1 c2 c3 c4 c5))) (fun c5 => (bX8_next_157 (v6 c1 c2 c3 c4 c5))))))))))))
set_option maxRecDepth 100000 in
theorem rX8_next_197 {sc : Nat × (Nat → Int32)} {h : jH} {Q : jQ} {l1 : Int32}
    (v1 : l1 < 0 → Q (.inl none) (jG0 sc) (jput h 1 4 l1))
    (v2 : ¬ l1 < 0 → (h 1 1) ≤ l1 → Q (.inl none) (jG0 sc) (jput h 1 4 l1))
    (v3 : ¬ l1 < 0 → ¬ (h 1 1) ≤ l1 → 400 ≤ l1 → Q (.inl none) (jG0 sc) (jput h 1 4 l1))
    (o1 : ¬ l1 < 0 → ¬ (h 1 1) ≤ l1 → ¬ 400 ≤ l1 → vp_in l1 400)
    (v4 : ¬ l1 < 0 → ¬ (h 1 1) ≤ l1 → ¬ 400 ≤ l1 → (h 2 l1.toNatClampNeg) < 48 → Q (.inl none) (jG0 sc) (jput h 1 4 l1))
    (o2 : ¬ l1 < 0 → ¬ (h 1 1) ≤ l1 → ¬ 400 ≤ l1 → ¬ (h 2 l1.toNatClampNeg) < 48 → vp_in l1 400)
    (v5 : ¬ l1 < 0 → ¬ (h 1 1) ≤ l1 → ¬ 400 ≤ l1 → ¬ (h 2 l1.toNatClampNeg) < 48 → 57 < (h 2 l1.toNatClampNeg) → Q (.inl none) (jG0 sc) (jput h 1 4 l1))
    (o3 : ¬ l1 < 0 → ¬ (h 1 1) ≤ l1 → ¬ 400 ≤ l1 → ¬ (h 2 l1.toNatClampNeg) < 48 → ¬ 57 < (h 2 l1.toNatClampNeg) → (h 1 5) ≤ 9999 → vp_in l1 400)
    (v6 : ¬ l1 < 0 → ¬ (h 1 1) ≤ l1 → ¬ 400 ≤ l1 → ¬ (h 2 l1.toNatClampNeg) < 48 → ¬ 57 < (h 2 l1.toNatClampNeg) → (h 1 5) ≤ 9999 → WP mX8_next Q 197 [some (.ref 1), some (.int (l1 + 1))] [] (jG0 sc) (jput h 1 5 ((((h 1 5) * 10) + (h 2 l1.toNatClampNeg)) - 48)) (0, 0))
    (v7 : ¬ l1 < 0 → ¬ (h 1 1) ≤ l1 → ¬ 400 ≤ l1 → ¬ (h 2 l1.toNatClampNeg) < 48 → ¬ 57 < (h 2 l1.toNatClampNeg) → ¬ (h 1 5) ≤ 9999 → WP mX8_next Q 197 [some (.ref 1), some (.int (l1 + 1))] [] (jG0 sc) (jput h 1 5 (h 1 5)) (0, 0)) :
    WP mX8_next Q 197 [some (.ref 1), some (.int l1)] [] (jG0 sc) h (0, 0) := by
  exact (bX8_next_197 (fun c1 => (bX8_next_282 (v1 c1))) (fun c1 => (bX8_next_201 (fun c2 => (bX8_next_282 (v2 c1 c2))) (fun c2 => (bX8_next_209 (fun c3 => (bX8_next_282 (v3 c1 c2 c3))) (fun c3 => (bX8_next_216 (o1 c1 c2 c3) (fun c4 => (bX8_next_282 (v4 c1 c2 c3 c4))) (fun c4 => (bX8_next_227 (o2 c1 c2 c3 c4) (fun c5 => (bX8_next_282 (v5 c1 c2 c3 c4 c5))) (fun c5 => (bX8_next_238 (fun c6 => (bX8_next_256 (o3 c1 c2 c3 c4 c5 c6) (bX8_next_273 (v6 c1 c2 c3 c4 c5 c6)))) (fun c6 => (bX8_next_249 (bX8_next_273 (v7 c1 c2 c3 c4 c5 c6)))))))))))))))
theorem dX8_isNumber_0 : decode (mC mX8_isNumber) 0 = .ok (.aload_n 0, 1) := by decide +kernel
theorem dX8_isNumber_1 : decode (mC mX8_isNumber) 1 = .ok (.getfield 28, 3) := by decide +kernel
theorem dX8_isNumber_4 : decode (mC mX8_isNumber) 4 = .ok (.iconst 2, 1) := by decide +kernel
theorem dX8_isNumber_5 : decode (mC mX8_isNumber) 5 = .ok (.if_icmp .ne 20, 3) := by decide +kernel
theorem dX8_isNumber_8 : decode (mC mX8_isNumber) 8 = .ok (.aload_n 0, 1) := by decide +kernel
theorem dX8_isNumber_9 : decode (mC mX8_isNumber) 9 = .ok (.getfield 19, 3) := by decide +kernel
theorem dX8_isNumber_12 : decode (mC mX8_isNumber) 12 = .ok (.aload_n 0, 1) := by decide +kernel
theorem dX8_isNumber_13 : decode (mC mX8_isNumber) 13 = .ok (.getfield 25, 3) := by decide +kernel
theorem dX8_isNumber_16 : decode (mC mX8_isNumber) 16 = .ok (.isub, 1) := by decide +kernel
theorem dX8_isNumber_17 : decode (mC mX8_isNumber) 17 = .ok (.iload_n 1, 1) := by decide +kernel
theorem dX8_isNumber_18 : decode (mC mX8_isNumber) 18 = .ok (.if_icmp .gt 7, 3) := by decide +kernel
theorem dX8_isNumber_21 : decode (mC mX8_isNumber) 21 = .ok (.iconst 1, 1) := by decide +kernel
theorem dX8_isNumber_22 : decode (mC mX8_isNumber) 22 = .ok (.goto 4, 3) := by decide +kernel
theorem dX8_isNumber_25 : decode (mC mX8_isNumber) 25 = .ok (.iconst 0, 1) := by decide +kernel
theorem dX8_isNumber_26 : decode (mC mX8_isNumber) 26 = .ok (.ireturn, 1) := by decide +kernel
set_option maxRecDepth 100000 in
theorem bX8_isNumber_0 {sc : Nat × (Nat → Int32)} {h : jH} {Q : jQ} {l1 : Int32}
    (v1 : ¬ (h 1 2) = 2 → WP mX8_isNumber Q 25 [some (.ref 1), some (.int l1)] [] (jG0 sc) h (0, 0))
    (v2 : (h 1 2) = 2 → WP mX8_isNumber Q 8 [some (.ref 1), some (.int l1)] [] (jG0 sc) h (0, 0)) :
    WP mX8_isNumber Q 0 [some (.ref 1), some (.int l1)] [] (jG0 sc) h (0, 0) := by
  refine j_aload_n (i := 0) rfl dX8_isNumber_0 ?_
  refine j_getI (idx := 28) (ci := 8) (k := 2) (nest := false) (show (8, 28, 8, 2, false) ∈ jFT by decide) rfl (Nat.le_of_ble_eq_true rfl) rfl dX8_isNumber_1 ?_
  refine j_iconst (n := 2) 2 (by decide) dX8_isNumber_4 ?_
  refine j_icmp_ne (off := 20) 25 dX8_isNumber_5 (by decide) (fun c1 => ?_) (fun c1 => ?_)
  · exact j_le [some (.ref 1), some (.int l1)] (And.intro rfl (And.intro rfl True.intro)) (v1 c1)
  · exact j_le [some (.ref 1), some (.int l1)] (And.intro rfl (And.intro rfl True.intro)) (v2 c1)
set_option maxRecDepth 100000 in
theorem bX8_isNumber_8 {sc : Nat × (Nat → Int32)} {h : jH} {Q : jQ} {l1 : Int32}
    (v1 : l1 < ((h 1 4) - (h 1 3)) → WP mX8_isNumber Q 25 [some (.ref 1), some (.int l1)] [] (jG0 sc) h (0, 0))
    (v2 : ¬ l1 < ((h 1 4) - (h 1 3)) → WP mX8_isNumber Q 21 [some (.ref 1), some (.int l1)] [] (jG0 sc) h (0, 0)) :
    WP mX8_isNumber Q 8 [some (.ref 1), some (.int l1)] [] (jG0 sc) h (0, 0) := by
  refine j_aload_n (i := 0) rfl dX8_isNumber_8 ?_
  refine j_getI (idx := 19) (ci := 8) (k := 4) (nest := false) (show (8, 19, 8, 4, false) ∈ jFT by decide) rfl (Nat.le_of_ble_eq_true rfl) rfl dX8_isNumber_9 ?_
  refine j_aload_n (i := 0) rfl dX8_isNumber_12 ?_
  refine j_getI (idx := 25) (ci := 8) (k := 3) (nest := false) (show (8, 25, 8, 3, false) ∈ jFT by decide) rfl (Nat.le_of_ble_eq_true rfl) rfl dX8_isNumber_13 ?_
  refine j_isub dX8_isNumber_16 ?_
  refine j_iload_n (i := 1) rfl dX8_isNumber_17 ?_
  refine j_icmp_gt (off := 7) 25 dX8_isNumber_18 (by decide) (fun c1 => ?_) (fun c1 => ?_)
  · exact j_le [some (.ref 1), some (.int l1)] (And.intro rfl (And.intro rfl True.intro)) (v1 c1)
  · exact j_le [some (.ref 1), some (.int l1)] (And.intro rfl (And.intro rfl True.intro)) (v2 c1)
set_option maxRecDepth 100000 in
theorem bX8_isNumber_21 {sc : Nat × (Nat → Int32)} {h : jH} {Q : jQ} {l1 : Int32}
    (v1 : WP mX8_isNumber Q 26 [some (.ref 1), some (.int l1)] [.int 1] (jG0 sc) h (0, 0)) :
    WP mX8_isNumber Q 21 [some (.ref 1), some (.int l1)] [] (jG0 sc) h (0, 0) := by
  refine j_iconst (n := 1) 1 (by decide) dX8_isNumber_21 ?_
  refine j_goto (off := 4) 26 dX8_isNumber_22 (by decide) ?_
  exact j_le [some (.ref 1), some (.int l1)] (And.intro rfl (And.intro rfl True.intro)) v1
set_option maxRecDepth 100000 in
theorem bX8_isNumber_25 {sc : Nat × (Nat → Int32)} {h : jH} {Q : jQ} {l1 : Int32}
    (v1 : WP mX8_isNumber Q 26 [some (.ref 1), some (.int l1)] [.int 0] (jG0 sc) h (0, 0)) :
    WP mX8_isNumber Q 25 [some (.ref 1), some (.int l1)] [] (jG0 sc) h (0, 0) := by
  refine j_iconst (n := 0) 0 (by decide) dX8_isNumber_25 ?_
  exact j_le [some (.ref 1), some (.int l1)] (And.intro rfl (And.intro rfl True.intro)) v1
set_option maxRecDepth 100000 in
theorem bX8_isNumber_26 {sc : Nat × (Nat → Int32)} {h : jH} {Q : jQ} {l1 s0 : Int32}
    (o1 : s0 = 0 ∨ s0 = 1)
    (v1 : Q (.inl (some (.int s0))) (jG0 sc) h) :
    WP mX8_isNumber Q 26 [some (.ref 1), some (.int l1)] [.int s0] (jG0 sc) h (0, 0) := by
  exact j_iret rfl (jbn o1) (Nat.zero_le _) (Nat.zero_le _) dX8_isNumber_26 v1
set_option maxRecDepth 100000 in
theorem rX8_isNumber_0 {sc : Nat × (Nat → Int32)} {h : jH} {Q : jQ} {l1 : Int32}
    (v1 : ¬ (h 1 2) = 2 → Q (.inl (some (.int 0))) (jG0 sc) h)
    (v2 : (h 1 2) = 2 → l1 < ((h 1 4) - (h 1 3)) → Q (.inl (some (.int 0))) (jG0 sc) h)
    (v3 : (h 1 2) = 2 → ¬ l1 < ((h 1 4) - (h 1 3)) → Q (.inl (some (.int 1))) (jG0 sc) h) :
    WP mX8_isNumber Q 0 [some (.ref 1), some (.int l1)] [] (jG0 sc) h (0, 0) := by
  exact (bX8_isNumber_0 (fun c1 => (bX8_isNumber_25 (bX8_isNumber_26 (by decide) (v1 c1)))) (fun c1 => (bX8_isNumber_8 (fun c2 => (bX8_isNumber_25 (bX8_isNumber_26 (by decide) (v2 c1 c2)))) (fun c2 => (bX8_isNumber_21 (bX8_isNumber_26 (by decide) (v3 c1 c2)))))))
theorem dX8_isMark_0 : decode (mC mX8_isMark) 0 = .ok (.aload_n 0, 1) := by decide +kernel
theorem dX8_isMark_1 : decode (mC mX8_isMark) 1 = .ok (.getfield 28, 3) := by decide +kernel
theorem dX8_isMark_4 : decode (mC mX8_isMark) 4 = .ok (.iconst 3, 1) := by decide +kernel
theorem dX8_isMark_5 : decode (mC mX8_isMark) 5 = .ok (.if_icmp .ne 15, 3) := by decide +kernel
theorem dX8_isMark_8 : decode (mC mX8_isMark) 8 = .ok (.aload_n 0, 1) := by decide +kernel
theorem dX8_isMark_9 : decode (mC mX8_isMark) 9 = .ok (.getfield 31, 3) := by decide +kernel
theorem dX8_isMark_12 : decode (mC mX8_isMark) 12 = .ok (.iload_n 1, 1) := by decide +kernel
theorem dX8_isMark_13 : decode (mC mX8_isMark) 13 = .ok (.if_icmp .ne 7, 3) := by decide +kernel
theorem dX8_isMark_16 : decode (mC mX8_isMark) 16 = .ok (.iconst 1, 1) := by decide +kernel
theorem dX8_isMark_17 : decode (mC mX8_isMark) 17 = .ok (.goto 4, 3) := by decide +kernel
theorem dX8_isMark_20 : decode (mC mX8_isMark) 20 = .ok (.iconst 0, 1) := by decide +kernel
theorem dX8_isMark_21 : decode (mC mX8_isMark) 21 = .ok (.ireturn, 1) := by decide +kernel
set_option maxRecDepth 100000 in
theorem bX8_isMark_0 {sc : Nat × (Nat → Int32)} {h : jH} {Q : jQ} {l1 : Int32}
    (v1 : ¬ (h 1 2) = 3 → WP mX8_isMark Q 20 [some (.ref 1), some (.int l1)] [] (jG0 sc) h (0, 0))
    (v2 : (h 1 2) = 3 → WP mX8_isMark Q 8 [some (.ref 1), some (.int l1)] [] (jG0 sc) h (0, 0)) :
    WP mX8_isMark Q 0 [some (.ref 1), some (.int l1)] [] (jG0 sc) h (0, 0) := by
  refine j_aload_n (i := 0) rfl dX8_isMark_0 ?_
  refine j_getI (idx := 28) (ci := 8) (k := 2) (nest := false) (show (8, 28, 8, 2, false) ∈ jFT by decide) rfl (Nat.le_of_ble_eq_true rfl) rfl dX8_isMark_1 ?_
  refine j_iconst (n := 3) 3 (by decide) dX8_isMark_4 ?_
  refine j_icmp_ne (off := 15) 20 dX8_isMark_5 (by decide) (fun c1 => ?_) (fun c1 => ?_)
  · exact j_le [some (.ref 1), some (.int l1)] (And.intro rfl (And.intro rfl True.intro)) (v1 c1)
  · exact j_le [some (.ref 1), some (.int l1)] (And.intro rfl (And.intro rfl True.intro)) (v2 c1)
set_option maxRecDepth 100000 in
theorem bX8_isMark_8 {sc : Nat × (Nat → Int32)} {h : jH} {Q : jQ} {l1 : Int32}
    (v1 : ¬ (h 1 5) = l1 → WP mX8_isMark Q 20 [some (.ref 1), some (.int l1)] [] (jG0 sc) h (0, 0))
    (v2 : (h 1 5) = l1 → WP mX8_isMark Q 16 [some (.ref 1), some (.int l1)] [] (jG0 sc) h (0, 0)) :
    WP mX8_isMark Q 8 [some (.ref 1), some (.int l1)] [] (jG0 sc) h (0, 0) := by
  refine j_aload_n (i := 0) rfl dX8_isMark_8 ?_
  refine j_getI (idx := 31) (ci := 8) (k := 5) (nest := false) (show (8, 31, 8, 5, false) ∈ jFT by decide) rfl (Nat.le_of_ble_eq_true rfl) rfl dX8_isMark_9 ?_
  refine j_iload_n (i := 1) rfl dX8_isMark_12 ?_
  refine j_icmp_ne (off := 7) 20 dX8_isMark_13 (by decide) (fun c1 => ?_) (fun c1 => ?_)
  · exact j_le [some (.ref 1), some (.int l1)] (And.intro rfl (And.intro rfl True.intro)) (v1 c1)
  · exact j_le [some (.ref 1), some (.int l1)] (And.intro rfl (And.intro rfl True.intro)) (v2 c1)
set_option maxRecDepth 100000 in
theorem bX8_isMark_16 {sc : Nat × (Nat → Int32)} {h : jH} {Q : jQ} {l1 : Int32}
    (v1 : WP mX8_isMark Q 21 [some (.ref 1), some (.int l1)] [.int 1] (jG0 sc) h (0, 0)) :
    WP mX8_isMark Q 16 [some (.ref 1), some (.int l1)] [] (jG0 sc) h (0, 0) := by
  refine j_iconst (n := 1) 1 (by decide) dX8_isMark_16 ?_
  refine j_goto (off := 4) 21 dX8_isMark_17 (by decide) ?_
  exact j_le [some (.ref 1), some (.int l1)] (And.intro rfl (And.intro rfl True.intro)) v1
set_option maxRecDepth 100000 in
theorem bX8_isMark_20 {sc : Nat × (Nat → Int32)} {h : jH} {Q : jQ} {l1 : Int32}
    (v1 : WP mX8_isMark Q 21 [some (.ref 1), some (.int l1)] [.int 0] (jG0 sc) h (0, 0)) :
    WP mX8_isMark Q 20 [some (.ref 1), some (.int l1)] [] (jG0 sc) h (0, 0) := by
  refine j_iconst (n := 0) 0 (by decide) dX8_isMark_20 ?_
  exact j_le [some (.ref 1), some (.int l1)] (And.intro rfl (And.intro rfl True.intro)) v1
set_option maxRecDepth 100000 in
theorem bX8_isMark_21 {sc : Nat × (Nat → Int32)} {h : jH} {Q : jQ} {l1 s0 : Int32}
    (o1 : s0 = 0 ∨ s0 = 1)
    (v1 : Q (.inl (some (.int s0))) (jG0 sc) h) :
    WP mX8_isMark Q 21 [some (.ref 1), some (.int l1)] [.int s0] (jG0 sc) h (0, 0) := by
  exact j_iret rfl (jbn o1) (Nat.zero_le _) (Nat.zero_le _) dX8_isMark_21 v1
set_option maxRecDepth 100000 in
theorem rX8_isMark_0 {sc : Nat × (Nat → Int32)} {h : jH} {Q : jQ} {l1 : Int32}
    (v1 : ¬ (h 1 2) = 3 → Q (.inl (some (.int 0))) (jG0 sc) h)
    (v2 : (h 1 2) = 3 → ¬ (h 1 5) = l1 → Q (.inl (some (.int 0))) (jG0 sc) h)
    (v3 : (h 1 2) = 3 → (h 1 5) = l1 → Q (.inl (some (.int 1))) (jG0 sc) h) :
    WP mX8_isMark Q 0 [some (.ref 1), some (.int l1)] [] (jG0 sc) h (0, 0) := by
  exact (bX8_isMark_0 (fun c1 => (bX8_isMark_20 (bX8_isMark_21 (by decide) (v1 c1)))) (fun c1 => (bX8_isMark_8 (fun c2 => (bX8_isMark_20 (bX8_isMark_21 (by decide) (v2 c1 c2)))) (fun c2 => (bX8_isMark_16 (bX8_isMark_21 (by decide) (v3 c1 c2)))))))
theorem dX8_isWord_0 : decode (mC mX8_isWord) 0 = .ok (.aload_n 0, 1) := by decide +kernel
theorem dX8_isWord_1 : decode (mC mX8_isWord) 1 = .ok (.getfield 28, 3) := by decide +kernel
theorem dX8_isWord_4 : decode (mC mX8_isWord) 4 = .ok (.iconst 1, 1) := by decide +kernel
theorem dX8_isWord_5 : decode (mC mX8_isWord) 5 = .ok (.if_icmp .ne 19, 3) := by decide +kernel
theorem dX8_isWord_8 : decode (mC mX8_isWord) 8 = .ok (.aload_n 0, 1) := by decide +kernel
theorem dX8_isWord_9 : decode (mC mX8_isWord) 9 = .ok (.getfield 19, 3) := by decide +kernel
theorem dX8_isWord_12 : decode (mC mX8_isWord) 12 = .ok (.aload_n 0, 1) := by decide +kernel
theorem dX8_isWord_13 : decode (mC mX8_isWord) 13 = .ok (.getfield 25, 3) := by decide +kernel
theorem dX8_isWord_16 : decode (mC mX8_isWord) 16 = .ok (.isub, 1) := by decide +kernel
theorem dX8_isWord_17 : decode (mC mX8_isWord) 17 = .ok (.aload_n 1, 1) := by decide +kernel
theorem dX8_isWord_18 : decode (mC mX8_isWord) 18 = .ok (.invokevirtual 34, 3) := by decide +kernel
theorem dX8_isWord_21 : decode (mC mX8_isWord) 21 = .ok (.if_icmp .eq 5, 3) := by decide +kernel
theorem dX8_isWord_24 : decode (mC mX8_isWord) 24 = .ok (.iconst 0, 1) := by decide +kernel
theorem dX8_isWord_25 : decode (mC mX8_isWord) 25 = .ok (.ireturn, 1) := by decide +kernel
theorem dX8_isWord_26 : decode (mC mX8_isWord) 26 = .ok (.iconst 0, 1) := by decide +kernel
theorem dX8_isWord_27 : decode (mC mX8_isWord) 27 = .ok (.istore_n 2, 1) := by decide +kernel
theorem dX8_isWord_28 : decode (mC mX8_isWord) 28 = .ok (.iload_n 2, 1) := by decide +kernel
theorem dX8_isWord_29 : decode (mC mX8_isWord) 29 = .ok (.aload_n 1, 1) := by decide +kernel
theorem dX8_isWord_30 : decode (mC mX8_isWord) 30 = .ok (.invokevirtual 34, 3) := by decide +kernel
theorem dX8_isWord_33 : decode (mC mX8_isWord) 33 = .ok (.if_icmp .ge 42, 3) := by decide +kernel
theorem dX8_isWord_36 : decode (mC mX8_isWord) 36 = .ok (.aload_n 0, 1) := by decide +kernel
theorem dX8_isWord_37 : decode (mC mX8_isWord) 37 = .ok (.getfield 25, 3) := by decide +kernel
theorem dX8_isWord_40 : decode (mC mX8_isWord) 40 = .ok (.iload_n 2, 1) := by decide +kernel
theorem dX8_isWord_41 : decode (mC mX8_isWord) 41 = .ok (.iadd, 1) := by decide +kernel
theorem dX8_isWord_42 : decode (mC mX8_isWord) 42 = .ok (.sipush 400, 3) := by decide +kernel
theorem dX8_isWord_45 : decode (mC mX8_isWord) 45 = .ok (.if_icmp .ge 30, 3) := by decide +kernel
theorem dX8_isWord_48 : decode (mC mX8_isWord) 48 = .ok (.aload_n 0, 1) := by decide +kernel
theorem dX8_isWord_49 : decode (mC mX8_isWord) 49 = .ok (.getfield 9, 3) := by decide +kernel
theorem dX8_isWord_52 : decode (mC mX8_isWord) 52 = .ok (.aload_n 0, 1) := by decide +kernel
theorem dX8_isWord_53 : decode (mC mX8_isWord) 53 = .ok (.getfield 25, 3) := by decide +kernel
theorem dX8_isWord_56 : decode (mC mX8_isWord) 56 = .ok (.iload_n 2, 1) := by decide +kernel
theorem dX8_isWord_57 : decode (mC mX8_isWord) 57 = .ok (.iadd, 1) := by decide +kernel
theorem dX8_isWord_58 : decode (mC mX8_isWord) 58 = .ok (.iaload, 1) := by decide +kernel
theorem dX8_isWord_59 : decode (mC mX8_isWord) 59 = .ok (.aload_n 1, 1) := by decide +kernel
theorem dX8_isWord_60 : decode (mC mX8_isWord) 60 = .ok (.iload_n 2, 1) := by decide +kernel
theorem dX8_isWord_61 : decode (mC mX8_isWord) 61 = .ok (.invokevirtual 40, 3) := by decide +kernel
theorem dX8_isWord_64 : decode (mC mX8_isWord) 64 = .ok (.if_icmp .eq 5, 3) := by decide +kernel
theorem dX8_isWord_67 : decode (mC mX8_isWord) 67 = .ok (.iconst 0, 1) := by decide +kernel
theorem dX8_isWord_68 : decode (mC mX8_isWord) 68 = .ok (.ireturn, 1) := by decide +kernel
theorem dX8_isWord_69 : decode (mC mX8_isWord) 69 = .ok (.iinc 2 1, 3) := by decide +kernel
theorem dX8_isWord_72 : decode (mC mX8_isWord) 72 = .ok (.goto (-44), 3) := by decide +kernel
theorem dX8_isWord_75 : decode (mC mX8_isWord) 75 = .ok (.iconst 1, 1) := by decide +kernel
theorem dX8_isWord_76 : decode (mC mX8_isWord) 76 = .ok (.ireturn, 1) := by decide +kernel
set_option maxRecDepth 100000 in
theorem bX8_isWord_0 {sc : Nat × (Nat → Int32)} {h : jH} {Q : jQ} {n : Nat} (n_h : n < 22)
    (v1 : ¬ (h 1 2) = 1 → WP mX8_isWord Q 24 [some (.ref 1), some (.ref (1001 + n)), none] [] (jG0 sc) h (0, 0))
    (v2 : (h 1 2) = 1 → WP mX8_isWord Q 8 [some (.ref 1), some (.ref (1001 + n)), none] [] (jG0 sc) h (0, 0)) :
    WP mX8_isWord Q 0 [some (.ref 1), some (.ref (1001 + n)), none] [] (jG0 sc) h (0, 0) := by
  refine j_aload_n (i := 0) rfl dX8_isWord_0 ?_
  refine j_getI (idx := 28) (ci := 8) (k := 2) (nest := false) (show (8, 28, 8, 2, false) ∈ jFT by decide) rfl (Nat.le_of_ble_eq_true rfl) rfl dX8_isWord_1 ?_
  refine j_iconst (n := 1) 1 (by decide) dX8_isWord_4 ?_
  refine j_icmp_ne (off := 19) 24 dX8_isWord_5 (by decide) (fun c1 => ?_) (fun c1 => ?_)
  · exact j_le [some (.ref 1), some (.ref (1001 + n)), none] (And.intro rfl (And.intro rfl True.intro)) (v1 c1)
  · exact j_le [some (.ref 1), some (.ref (1001 + n)), none] (And.intro rfl (And.intro rfl True.intro)) (v2 c1)
set_option maxRecDepth 100000 in
theorem bX8_isWord_8 {sc : Nat × (Nat → Int32)} {h : jH} {Q : jQ} {n : Nat} {P1 : Int32 → jH → Prop} (n_h : n < 22)
    (k1 : JM mJlength [.ref (1001 + n)] (jG0 sc) h (jint sc P1))
    (v1 : ∀ (x1 : Int32) (h1 : jH), P1 x1 h1 → ((h 1 4) - (h 1 3)) = x1 → WP mX8_isWord Q 26 [some (.ref 1), some (.ref (1001 + n)), none] [] (jG0 sc) h1 (0, 0))
    (v2 : ∀ (x1 : Int32) (h1 : jH), P1 x1 h1 → ¬ ((h 1 4) - (h 1 3)) = x1 → WP mX8_isWord Q 24 [some (.ref 1), some (.ref (1001 + n)), none] [] (jG0 sc) h1 (0, 0)) :
    WP mX8_isWord Q 8 [some (.ref 1), some (.ref (1001 + n)), none] [] (jG0 sc) h (0, 0) := by
  refine j_aload_n (i := 0) rfl dX8_isWord_8 ?_
  refine j_getI (idx := 19) (ci := 8) (k := 4) (nest := false) (show (8, 19, 8, 4, false) ∈ jFT by decide) rfl (Nat.le_of_ble_eq_true rfl) rfl dX8_isWord_9 ?_
  refine j_aload_n (i := 0) rfl dX8_isWord_12 ?_
  refine j_getI (idx := 25) (ci := 8) (k := 3) (nest := false) (show (8, 25, 8, 3, false) ∈ jFT by decide) rfl (Nat.le_of_ble_eq_true rfl) rfl dX8_isWord_13 ?_
  refine j_isub dX8_isWord_16 ?_
  refine j_aload_n (i := 1) rfl dX8_isWord_17 ?_
  refine j_callStr (i := n) (idx := 34) (As := []) (n := 0) k1 jint_nt (jlkT (jtb3 227 rfl) rfl) sJlength kJlength rfl ⟨rfl, by decide +kernel, by decide +kernel, by decide +kernel⟩ rfl ⟨by decide, by decide⟩ n_h (Nat.le_of_ble_eq_true rfl) ⟨Nat.zero_le _, Nat.zero_le _⟩ dX8_isWord_18 (fun r Γ' h1 q => ?_)
  obtain ⟨x1, q0, rfl, p1⟩ := q; cases q0
  refine j_eqst [.int x1, .int ((h 1 4) - (h 1 3))] (by rfl) ?_
  refine j_icmp_eq (off := 5) 26 dX8_isWord_21 (by decide) (fun c1 => ?_) (fun c1 => ?_)
  · exact j_le [some (.ref 1), some (.ref (1001 + n)), none] (And.intro rfl (And.intro rfl True.intro)) (v1 x1 h1 p1 c1)
  · exact j_le [some (.ref 1), some (.ref (1001 + n)), none] (And.intro rfl (And.intro rfl True.intro)) (v2 x1 h1 p1 c1)
set_option maxRecDepth 100000 in
theorem bX8_isWord_24 {sc : Nat × (Nat → Int32)} {h : jH} {Q : jQ} {n : Nat} (n_h : n < 22)
    (v1 : Q (.inl (some (.int 0))) (jG0 sc) h) :
    WP mX8_isWord Q 24 [some (.ref 1), some (.ref (1001 + n)), none] [] (jG0 sc) h (0, 0) := by
  refine j_iconst (n := 0) 0 (by decide) dX8_isWord_24 ?_
  exact j_iret rfl rfl (Nat.zero_le _) (Nat.zero_le _) dX8_isWord_25 v1
set_option maxRecDepth 100000 in
theorem bX8_isWord_26 {sc : Nat × (Nat → Int32)} {h : jH} {Q : jQ} {n : Nat} (n_h : n < 22)
    (v1 : WP mX8_isWord Q 28 [some (.ref 1), some (.ref (1001 + n)), some (.int 0)] [] (jG0 sc) h (0, 0)) :
    WP mX8_isWord Q 26 [some (.ref 1), some (.ref (1001 + n)), none] [] (jG0 sc) h (0, 0) := by
  refine j_iconst (n := 0) 0 (by decide) dX8_isWord_26 ?_
  refine j_istore_n (i := 2) dX8_isWord_27 (Nat.le_of_ble_eq_true rfl) ?_
  exact j_le [some (.ref 1), some (.ref (1001 + n)), some (.int 0)] (And.intro rfl (And.intro rfl (And.intro rfl True.intro))) v1
set_option maxRecDepth 100000 in
theorem bX8_isWord_28 {sc : Nat × (Nat → Int32)} {h : jH} {Q : jQ} {n : Nat} {l2 : Int32} {P1 : Int32 → jH → Prop} (n_h : n < 22)
    (k1 : JM mJlength [.ref (1001 + n)] (jG0 sc) h (jint sc P1))
    (v1 : ∀ (x1 : Int32) (h1 : jH), P1 x1 h1 → x1 ≤ l2 → WP mX8_isWord Q 75 [some (.ref 1), some (.ref (1001 + n)), some (.int l2)] [] (jG0 sc) h1 (0, 0))
    (v2 : ∀ (x1 : Int32) (h1 : jH), P1 x1 h1 → ¬ x1 ≤ l2 → WP mX8_isWord Q 36 [some (.ref 1), some (.ref (1001 + n)), some (.int l2)] [] (jG0 sc) h1 (0, 0)) :
    WP mX8_isWord Q 28 [some (.ref 1), some (.ref (1001 + n)), some (.int l2)] [] (jG0 sc) h (0, 0) := by
  refine j_iload_n (i := 2) rfl dX8_isWord_28 ?_
  refine j_aload_n (i := 1) rfl dX8_isWord_29 ?_
  refine j_callStr (i := n) (idx := 34) (As := []) (n := 0) k1 jint_nt (jlkT (jtb3 227 rfl) rfl) sJlength kJlength rfl ⟨rfl, by decide +kernel, by decide +kernel, by decide +kernel⟩ rfl ⟨by decide, by decide⟩ n_h (Nat.le_of_ble_eq_true rfl) ⟨Nat.zero_le _, Nat.zero_le _⟩ dX8_isWord_30 (fun r Γ' h1 q => ?_)
  obtain ⟨x1, q0, rfl, p1⟩ := q; cases q0
  refine j_eqst [.int x1, .int l2] (by rfl) ?_
  refine j_icmp_ge (off := 42) 75 dX8_isWord_33 (by decide) (fun c1 => ?_) (fun c1 => ?_)
  · exact j_le [some (.ref 1), some (.ref (1001 + n)), some (.int l2)] (And.intro rfl (And.intro rfl (And.intro rfl True.intro))) (v1 x1 h1 p1 c1)
  · exact j_le [some (.ref 1), some (.ref (1001 + n)), some (.int l2)] (And.intro rfl (And.intro rfl (And.intro rfl True.intro))) (v2 x1 h1 p1 c1)
set_option maxRecDepth 100000 in
theorem bX8_isWord_36 {sc : Nat × (Nat → Int32)} {h : jH} {Q : jQ} {n : Nat} {l2 : Int32} (n_h : n < 22)
    (v1 : 400 ≤ ((h 1 3) + l2) → WP mX8_isWord Q 75 [some (.ref 1), some (.ref (1001 + n)), some (.int l2)] [] (jG0 sc) h (0, 0))
    (v2 : ¬ 400 ≤ ((h 1 3) + l2) → WP mX8_isWord Q 48 [some (.ref 1), some (.ref (1001 + n)), some (.int l2)] [] (jG0 sc) h (0, 0)) :
    WP mX8_isWord Q 36 [some (.ref 1), some (.ref (1001 + n)), some (.int l2)] [] (jG0 sc) h (0, 0) := by
  refine j_aload_n (i := 0) rfl dX8_isWord_36 ?_
  refine j_getI (idx := 25) (ci := 8) (k := 3) (nest := false) (show (8, 25, 8, 3, false) ∈ jFT by decide) rfl (Nat.le_of_ble_eq_true rfl) rfl dX8_isWord_37 ?_
  refine j_iload_n (i := 2) rfl dX8_isWord_40 ?_
  refine j_iadd dX8_isWord_41 ?_
  refine j_sipush (n := 400) 400 (by decide) dX8_isWord_42 ?_
  refine j_icmp_ge (off := 30) 75 dX8_isWord_45 (by decide) (fun c1 => ?_) (fun c1 => ?_)
  · exact j_le [some (.ref 1), some (.ref (1001 + n)), some (.int l2)] (And.intro rfl (And.intro rfl (And.intro rfl True.intro))) (v1 c1)
  · exact j_le [some (.ref 1), some (.ref (1001 + n)), some (.int l2)] (And.intro rfl (And.intro rfl (And.intro rfl True.intro))) (v2 c1)
set_option maxRecDepth 100000 in
theorem bX8_isWord_48 {sc : Nat × (Nat → Int32)} {h : jH} {Q : jQ} {n : Nat} {l2 : Int32} {P1 : Int32 → jH → Prop} (n_h : n < 22)
    (o1 : vp_in ((h 1 3) + l2) 400)
    (k1 : JM mJcharAt [.ref (1001 + n), .int l2] (jG0 sc) h (jint sc P1))
    (v1 : ∀ (x1 : Int32) (h1 : jH), P1 x1 h1 → (h 2 (((h 1 3) + l2).toNatClampNeg)) = x1 → WP mX8_isWord Q 69 [some (.ref 1), some (.ref (1001 + n)), some (.int l2)] [] (jG0 sc) h1 (0, 0))
    (v2 : ∀ (x1 : Int32) (h1 : jH), P1 x1 h1 → ¬ (h 2 (((h 1 3) + l2).toNatClampNeg)) = x1 → WP mX8_isWord Q 67 [some (.ref 1), some (.ref (1001 + n)), some (.int l2)] [] (jG0 sc) h1 (0, 0)) :
    WP mX8_isWord Q 48 [some (.ref 1), some (.ref (1001 + n)), some (.int l2)] [] (jG0 sc) h (0, 0) := by
  refine j_aload_n (i := 0) rfl dX8_isWord_48 ?_
  refine j_getR (idx := 9) (ci := 8) (k := 0) (nest := false) (show (8, 9, 8, 0, false) ∈ jFT by decide) rfl (Nat.le_of_ble_eq_true rfl) rfl (a := 2) rfl dX8_isWord_49 ?_
  refine j_aload_n (i := 0) rfl dX8_isWord_52 ?_
  refine j_getI (idx := 25) (ci := 8) (k := 3) (nest := false) (show (8, 25, 8, 3, false) ∈ jFT by decide) rfl (Nat.le_of_ble_eq_true rfl) rfl dX8_isWord_53 ?_
  refine j_iload_n (i := 2) rfl dX8_isWord_56 ?_
  refine j_iadd dX8_isWord_57 ?_
  refine j_iald (Nat.le_of_ble_eq_true rfl) rfl o1 dX8_isWord_58 ?_
  refine j_aload_n (i := 1) rfl dX8_isWord_59 ?_
  refine j_iload_n (i := 2) rfl dX8_isWord_60 ?_
  refine j_callStr (i := n) (idx := 40) (As := [.int l2]) (n := 1) k1 jint_nt (jlkT (jtb3 237 rfl) rfl) sJcharAt kJcharAt rfl ⟨rfl, by decide +kernel, by decide +kernel, by decide +kernel⟩ rfl ⟨by decide, by decide⟩ n_h (Nat.le_of_ble_eq_true rfl) ⟨Nat.zero_le _, Nat.zero_le _⟩ dX8_isWord_61 (fun r Γ' h1 q => ?_)
  obtain ⟨x1, q0, rfl, p1⟩ := q; cases q0
  refine j_eqst [.int x1, .int (h 2 (((h 1 3) + l2).toNatClampNeg))] (by rfl) ?_
  refine j_icmp_eq (off := 5) 69 dX8_isWord_64 (by decide) (fun c1 => ?_) (fun c1 => ?_)
  · exact j_le [some (.ref 1), some (.ref (1001 + n)), some (.int l2)] (And.intro rfl (And.intro rfl (And.intro rfl True.intro))) (v1 x1 h1 p1 c1)
  · exact j_le [some (.ref 1), some (.ref (1001 + n)), some (.int l2)] (And.intro rfl (And.intro rfl (And.intro rfl True.intro))) (v2 x1 h1 p1 c1)
set_option maxRecDepth 100000 in
theorem bX8_isWord_67 {sc : Nat × (Nat → Int32)} {h : jH} {Q : jQ} {n : Nat} {l2 : Int32} (n_h : n < 22)
    (v1 : Q (.inl (some (.int 0))) (jG0 sc) h) :
    WP mX8_isWord Q 67 [some (.ref 1), some (.ref (1001 + n)), some (.int l2)] [] (jG0 sc) h (0, 0) := by
  refine j_iconst (n := 0) 0 (by decide) dX8_isWord_67 ?_
  exact j_iret rfl rfl (Nat.zero_le _) (Nat.zero_le _) dX8_isWord_68 v1
set_option maxRecDepth 100000 in
theorem bX8_isWord_69 {sc : Nat × (Nat → Int32)} {h : jH} {Q : jQ} {n : Nat} {l2 : Int32} (n_h : n < 22)
    (v1 : WP mX8_isWord Q 28 [some (.ref 1), some (.ref (1001 + n)), some (.int (l2 + 1))] [] (jG0 sc) h (0, 0)) :
    WP mX8_isWord Q 69 [some (.ref 1), some (.ref (1001 + n)), some (.int l2)] [] (jG0 sc) h (0, 0) := by
  refine j_iinc (i := 2) (n := 1) rfl dX8_isWord_69 (Nat.le_of_ble_eq_true rfl) ?_
  refine j_eqlv [some (.ref 1), some (.ref (1001 + n)), some (.int (l2 + 1))] rfl ?_
  refine j_goto (off := -44) 28 dX8_isWord_72 (by decide) ?_
  exact j_le [some (.ref 1), some (.ref (1001 + n)), some (.int (l2 + 1))] (And.intro rfl (And.intro rfl (And.intro rfl True.intro))) v1
set_option maxRecDepth 100000 in
theorem bX8_isWord_75 {sc : Nat × (Nat → Int32)} {h : jH} {Q : jQ} {n : Nat} {l2 : Int32} (n_h : n < 22)
    (v1 : Q (.inl (some (.int 1))) (jG0 sc) h) :
    WP mX8_isWord Q 75 [some (.ref 1), some (.ref (1001 + n)), some (.int l2)] [] (jG0 sc) h (0, 0) := by
  refine j_iconst (n := 1) 1 (by decide) dX8_isWord_75 ?_
  exact j_iret rfl rfl (Nat.zero_le _) (Nat.zero_le _) dX8_isWord_76 v1
set_option maxRecDepth 100000 in
theorem rX8_isWord_0 {sc : Nat × (Nat → Int32)} {h : jH} {Q : jQ} {n : Nat} {P1 : Int32 → jH → Prop} (n_h : n < 22)
    (v1 : ¬ (h 1 2) = 1 → Q (.inl (some (.int 0))) (jG0 sc) h)
    (k1 : (h 1 2) = 1 → JM mJlength [.ref (1001 + n)] (jG0 sc) h (jint sc P1))
    (v2 : (h 1 2) = 1 → ∀ (x1 : Int32) (h1 : jH), P1 x1 h1 → ((h 1 4) - (h 1 3)) = x1 → WP mX8_isWord Q 28 [some (.ref 1), some (.ref (1001 + n)), some (.int 0)] [] (jG0 sc) h1 (0, 0))
    (v3 : (h 1 2) = 1 → ∀ (x1 : Int32) (h1 : jH), P1 x1 h1 → ¬ ((h 1 4) - (h 1 3)) = x1 → Q (.inl (some (.int 0))) (jG0 sc) h1) :
    WP mX8_isWord Q 0 [some (.ref 1), some (.ref (1001 + n)), none] [] (jG0 sc) h (0, 0) := by
  exact (bX8_isWord_0 n_h (fun c1 => (bX8_isWord_24 n_h (v1 c1))) (fun c1 => (bX8_isWord_8 n_h (k1 c1) (fun x1 h1 p1 c2 => (bX8_isWord_26 n_h (v2 c1 x1 h1 p1 c2))) (fun x1 h1 p1 c2 => (bX8_isWord_24 n_h (v3 c1 x1 h1 p1 c2))))))
set_option maxRecDepth 100000 in
theorem rX8_isWord_28 {sc : Nat × (Nat → Int32)} {h : jH} {Q : jQ} {n : Nat} {l2 : Int32} {P1 : Int32 → jH → Prop} {P2 : Int32 → jH → Prop} (n_h : n < 22)
    (k1 : JM mJlength [.ref (1001 + n)] (jG0 sc) h (jint sc P1))
    (v1 : ∀ (x1 : Int32) (h1 : jH), P1 x1 h1 → x1 ≤ l2 → Q (.inl (some (.int 1))) (jG0 sc) h1)
    (v2 : ∀ (x1 : Int32) (h1 : jH), P1 x1 h1 → ¬ x1 ≤ l2 → 400 ≤ ((h1 1 3) + l2) → Q (.inl (some (.int 1))) (jG0 sc) h1)
    (o1 : ∀ (x1 : Int32) (h1 : jH), P1 x1 h1 → ¬ x1 ≤ l2 → ¬ 400 ≤ ((h1 1 3) + l2) → vp_in ((h1 1 3) + l2) 400)
    (k2 : ∀ (x1 : Int32) (h1 : jH), P1 x1 h1 → ¬ x1 ≤ l2 → ¬ 400 ≤ ((h1 1 3) + l2) → JM mJcharAt [.ref (1001 + n), .int l2] (jG0 sc) h1 (jint sc P2))
    (v3 : ∀ (x1 : Int32) (h1 : jH), P1 x1 h1 → ¬ x1 ≤ l2 → ¬ 400 ≤ ((h1 1 3) + l2) → ∀ (x2 : Int32) (h2 : jH), P2 x2 h2 → (h1 2 (((h1 1 3) + l2).toNatClampNeg)) = x2 → WP mX8_isWord Q 28 [some (.ref 1), some (.ref (1001 + n)), some (.int (l2 + 1))] [] (jG0 sc) h2 (0, 0))
    (v4 : ∀ (x1 : Int32) (h1 : jH), P1 x1 h1 → ¬ x1 ≤ l2 → ¬ 400 ≤ ((h1 1 3) + l2) → ∀ (x2 : Int32) (h2 : jH), P2 x2 h2 → ¬ (h1 2 (((h1 1 3) + l2).toNatClampNeg)) = x2 → Q (.inl (some (.int 0))) (jG0 sc) h2) :
    WP mX8_isWord Q 28 [some (.ref 1), some (.ref (1001 + n)), some (.int l2)] [] (jG0 sc) h (0, 0) := by
  exact (bX8_isWord_28 n_h k1 (fun x1 h1 p1 c1 => (bX8_isWord_75 n_h (v1 x1 h1 p1 c1))) (fun x1 h1 p1 c1 => (bX8_isWord_36 n_h (fun c2 => (bX8_isWord_75 n_h (v2 x1 h1 p1 c1 c2))) (fun c2 => (bX8_isWord_48 n_h (o1 x1 h1 p1 c1 c2) (k2 x1 h1 p1 c1 c2) (fun x2 h2 p2 c3 => (bX8_isWord_69 n_h (v3 x1 h1 p1 c1 c2 x2 h2 p2 c3))) (fun x2 h2 p2 c3 => (bX8_isWord_67 n_h (v4 x1 h1 p1 c1 c2 x2 h2 p2 c3))))))))
theorem dX8_letterOf_0 : decode (mC mX8_letterOf) 0 = .ok (.aload_n 0, 1) := by decide +kernel
theorem dX8_letterOf_1 : decode (mC mX8_letterOf) 1 = .ok (.getfield 28, 3) := by decide +kernel
theorem dX8_letterOf_4 : decode (mC mX8_letterOf) 4 = .ok (.iconst 1, 1) := by decide +kernel
theorem dX8_letterOf_5 : decode (mC mX8_letterOf) 5 = .ok (.if_icmp .ne 16, 3) := by decide +kernel
theorem dX8_letterOf_8 : decode (mC mX8_letterOf) 8 = .ok (.aload_n 0, 1) := by decide +kernel
theorem dX8_letterOf_9 : decode (mC mX8_letterOf) 9 = .ok (.getfield 19, 3) := by decide +kernel
theorem dX8_letterOf_12 : decode (mC mX8_letterOf) 12 = .ok (.aload_n 0, 1) := by decide +kernel
theorem dX8_letterOf_13 : decode (mC mX8_letterOf) 13 = .ok (.getfield 25, 3) := by decide +kernel
theorem dX8_letterOf_16 : decode (mC mX8_letterOf) 16 = .ok (.isub, 1) := by decide +kernel
theorem dX8_letterOf_17 : decode (mC mX8_letterOf) 17 = .ok (.iconst 1, 1) := by decide +kernel
theorem dX8_letterOf_18 : decode (mC mX8_letterOf) 18 = .ok (.if_icmp .eq 5, 3) := by decide +kernel
theorem dX8_letterOf_21 : decode (mC mX8_letterOf) 21 = .ok (.iconst (-1), 1) := by decide +kernel
theorem dX8_letterOf_22 : decode (mC mX8_letterOf) 22 = .ok (.ireturn, 1) := by decide +kernel
theorem dX8_letterOf_23 : decode (mC mX8_letterOf) 23 = .ok (.iconst 0, 1) := by decide +kernel
theorem dX8_letterOf_24 : decode (mC mX8_letterOf) 24 = .ok (.istore_n 2, 1) := by decide +kernel
theorem dX8_letterOf_25 : decode (mC mX8_letterOf) 25 = .ok (.iload_n 2, 1) := by decide +kernel
theorem dX8_letterOf_26 : decode (mC mX8_letterOf) 26 = .ok (.aload_n 1, 1) := by decide +kernel
theorem dX8_letterOf_27 : decode (mC mX8_letterOf) 27 = .ok (.invokevirtual 34, 3) := by decide +kernel
theorem dX8_letterOf_30 : decode (mC mX8_letterOf) 30 = .ok (.if_icmp .ge 23, 3) := by decide +kernel
theorem dX8_letterOf_33 : decode (mC mX8_letterOf) 33 = .ok (.aload_n 0, 1) := by decide +kernel
theorem dX8_letterOf_34 : decode (mC mX8_letterOf) 34 = .ok (.getfield 31, 3) := by decide +kernel
theorem dX8_letterOf_37 : decode (mC mX8_letterOf) 37 = .ok (.aload_n 1, 1) := by decide +kernel
theorem dX8_letterOf_38 : decode (mC mX8_letterOf) 38 = .ok (.iload_n 2, 1) := by decide +kernel
theorem dX8_letterOf_39 : decode (mC mX8_letterOf) 39 = .ok (.invokevirtual 40, 3) := by decide +kernel
theorem dX8_letterOf_42 : decode (mC mX8_letterOf) 42 = .ok (.if_icmp .ne 5, 3) := by decide +kernel
theorem dX8_letterOf_45 : decode (mC mX8_letterOf) 45 = .ok (.iload_n 2, 1) := by decide +kernel
theorem dX8_letterOf_46 : decode (mC mX8_letterOf) 46 = .ok (.ireturn, 1) := by decide +kernel
theorem dX8_letterOf_47 : decode (mC mX8_letterOf) 47 = .ok (.iinc 2 1, 3) := by decide +kernel
theorem dX8_letterOf_50 : decode (mC mX8_letterOf) 50 = .ok (.goto (-25), 3) := by decide +kernel
theorem dX8_letterOf_53 : decode (mC mX8_letterOf) 53 = .ok (.iconst (-1), 1) := by decide +kernel
theorem dX8_letterOf_54 : decode (mC mX8_letterOf) 54 = .ok (.ireturn, 1) := by decide +kernel
set_option maxRecDepth 100000 in
theorem bX8_letterOf_0 {sc : Nat × (Nat → Int32)} {h : jH} {Q : jQ} {n : Nat} (n_h : n < 22)
    (v1 : ¬ (h 1 2) = 1 → WP mX8_letterOf Q 21 [some (.ref 1), some (.ref (1001 + n)), none] [] (jG0 sc) h (0, 0))
    (v2 : (h 1 2) = 1 → WP mX8_letterOf Q 8 [some (.ref 1), some (.ref (1001 + n)), none] [] (jG0 sc) h (0, 0)) :
    WP mX8_letterOf Q 0 [some (.ref 1), some (.ref (1001 + n)), none] [] (jG0 sc) h (0, 0) := by
  refine j_aload_n (i := 0) rfl dX8_letterOf_0 ?_
  refine j_getI (idx := 28) (ci := 8) (k := 2) (nest := false) (show (8, 28, 8, 2, false) ∈ jFT by decide) rfl (Nat.le_of_ble_eq_true rfl) rfl dX8_letterOf_1 ?_
  refine j_iconst (n := 1) 1 (by decide) dX8_letterOf_4 ?_
  refine j_icmp_ne (off := 16) 21 dX8_letterOf_5 (by decide) (fun c1 => ?_) (fun c1 => ?_)
  · exact j_le [some (.ref 1), some (.ref (1001 + n)), none] (And.intro rfl (And.intro rfl True.intro)) (v1 c1)
  · exact j_le [some (.ref 1), some (.ref (1001 + n)), none] (And.intro rfl (And.intro rfl True.intro)) (v2 c1)
set_option maxRecDepth 100000 in
theorem bX8_letterOf_8 {sc : Nat × (Nat → Int32)} {h : jH} {Q : jQ} {n : Nat} (n_h : n < 22)
    (v1 : ((h 1 4) - (h 1 3)) = 1 → WP mX8_letterOf Q 23 [some (.ref 1), some (.ref (1001 + n)), none] [] (jG0 sc) h (0, 0))
    (v2 : ¬ ((h 1 4) - (h 1 3)) = 1 → WP mX8_letterOf Q 21 [some (.ref 1), some (.ref (1001 + n)), none] [] (jG0 sc) h (0, 0)) :
    WP mX8_letterOf Q 8 [some (.ref 1), some (.ref (1001 + n)), none] [] (jG0 sc) h (0, 0) := by
  refine j_aload_n (i := 0) rfl dX8_letterOf_8 ?_
  refine j_getI (idx := 19) (ci := 8) (k := 4) (nest := false) (show (8, 19, 8, 4, false) ∈ jFT by decide) rfl (Nat.le_of_ble_eq_true rfl) rfl dX8_letterOf_9 ?_
  refine j_aload_n (i := 0) rfl dX8_letterOf_12 ?_
  refine j_getI (idx := 25) (ci := 8) (k := 3) (nest := false) (show (8, 25, 8, 3, false) ∈ jFT by decide) rfl (Nat.le_of_ble_eq_true rfl) rfl dX8_letterOf_13 ?_
  refine j_isub dX8_letterOf_16 ?_
  refine j_iconst (n := 1) 1 (by decide) dX8_letterOf_17 ?_
  refine j_icmp_eq (off := 5) 23 dX8_letterOf_18 (by decide) (fun c1 => ?_) (fun c1 => ?_)
  · exact j_le [some (.ref 1), some (.ref (1001 + n)), none] (And.intro rfl (And.intro rfl True.intro)) (v1 c1)
  · exact j_le [some (.ref 1), some (.ref (1001 + n)), none] (And.intro rfl (And.intro rfl True.intro)) (v2 c1)
set_option maxRecDepth 100000 in
theorem bX8_letterOf_21 {sc : Nat × (Nat → Int32)} {h : jH} {Q : jQ} {n : Nat} (n_h : n < 22)
    (v1 : Q (.inl (some (.int (-1)))) (jG0 sc) h) :
    WP mX8_letterOf Q 21 [some (.ref 1), some (.ref (1001 + n)), none] [] (jG0 sc) h (0, 0) := by
  refine j_iconst (n := (-1)) (-1) (by decide) dX8_letterOf_21 ?_
  exact j_iret rfl rfl (Nat.zero_le _) (Nat.zero_le _) dX8_letterOf_22 v1
set_option maxRecDepth 100000 in
theorem bX8_letterOf_23 {sc : Nat × (Nat → Int32)} {h : jH} {Q : jQ} {n : Nat} (n_h : n < 22)
    (v1 : WP mX8_letterOf Q 25 [some (.ref 1), some (.ref (1001 + n)), some (.int 0)] [] (jG0 sc) h (0, 0)) :
    WP mX8_letterOf Q 23 [some (.ref 1), some (.ref (1001 + n)), none] [] (jG0 sc) h (0, 0) := by
  refine j_iconst (n := 0) 0 (by decide) dX8_letterOf_23 ?_
  refine j_istore_n (i := 2) dX8_letterOf_24 (Nat.le_of_ble_eq_true rfl) ?_
  exact j_le [some (.ref 1), some (.ref (1001 + n)), some (.int 0)] (And.intro rfl (And.intro rfl (And.intro rfl True.intro))) v1
set_option maxRecDepth 100000 in
theorem bX8_letterOf_25 {sc : Nat × (Nat → Int32)} {h : jH} {Q : jQ} {n : Nat} {l2 : Int32} {P1 : Int32 → jH → Prop} (n_h : n < 22)
    (k1 : JM mJlength [.ref (1001 + n)] (jG0 sc) h (jint sc P1))
    (v1 : ∀ (x1 : Int32) (h1 : jH), P1 x1 h1 → x1 ≤ l2 → WP mX8_letterOf Q 53 [some (.ref 1), some (.ref (1001 + n)), some (.int l2)] [] (jG0 sc) h1 (0, 0))
    (v2 : ∀ (x1 : Int32) (h1 : jH), P1 x1 h1 → ¬ x1 ≤ l2 → WP mX8_letterOf Q 33 [some (.ref 1), some (.ref (1001 + n)), some (.int l2)] [] (jG0 sc) h1 (0, 0)) :
    WP mX8_letterOf Q 25 [some (.ref 1), some (.ref (1001 + n)), some (.int l2)] [] (jG0 sc) h (0, 0) := by
  refine j_iload_n (i := 2) rfl dX8_letterOf_25 ?_
  refine j_aload_n (i := 1) rfl dX8_letterOf_26 ?_
  refine j_callStr (i := n) (idx := 34) (As := []) (n := 0) k1 jint_nt (jlkT (jtb3 227 rfl) rfl) sJlength kJlength rfl ⟨rfl, by decide +kernel, by decide +kernel, by decide +kernel⟩ rfl ⟨by decide, by decide⟩ n_h (Nat.le_of_ble_eq_true rfl) ⟨Nat.zero_le _, Nat.zero_le _⟩ dX8_letterOf_27 (fun r Γ' h1 q => ?_)
  obtain ⟨x1, q0, rfl, p1⟩ := q; cases q0
  refine j_eqst [.int x1, .int l2] (by rfl) ?_
  refine j_icmp_ge (off := 23) 53 dX8_letterOf_30 (by decide) (fun c1 => ?_) (fun c1 => ?_)
  · exact j_le [some (.ref 1), some (.ref (1001 + n)), some (.int l2)] (And.intro rfl (And.intro rfl (And.intro rfl True.intro))) (v1 x1 h1 p1 c1)
  · exact j_le [some (.ref 1), some (.ref (1001 + n)), some (.int l2)] (And.intro rfl (And.intro rfl (And.intro rfl True.intro))) (v2 x1 h1 p1 c1)
set_option maxRecDepth 100000 in
theorem bX8_letterOf_33 {sc : Nat × (Nat → Int32)} {h : jH} {Q : jQ} {n : Nat} {l2 : Int32} {P1 : Int32 → jH → Prop} (n_h : n < 22)
    (k1 : JM mJcharAt [.ref (1001 + n), .int l2] (jG0 sc) h (jint sc P1))
    (v1 : ∀ (x1 : Int32) (h1 : jH), P1 x1 h1 → ¬ (h 1 5) = x1 → WP mX8_letterOf Q 47 [some (.ref 1), some (.ref (1001 + n)), some (.int l2)] [] (jG0 sc) h1 (0, 0))
    (v2 : ∀ (x1 : Int32) (h1 : jH), P1 x1 h1 → (h 1 5) = x1 → WP mX8_letterOf Q 45 [some (.ref 1), some (.ref (1001 + n)), some (.int l2)] [] (jG0 sc) h1 (0, 0)) :
    WP mX8_letterOf Q 33 [some (.ref 1), some (.ref (1001 + n)), some (.int l2)] [] (jG0 sc) h (0, 0) := by
  refine j_aload_n (i := 0) rfl dX8_letterOf_33 ?_
  refine j_getI (idx := 31) (ci := 8) (k := 5) (nest := false) (show (8, 31, 8, 5, false) ∈ jFT by decide) rfl (Nat.le_of_ble_eq_true rfl) rfl dX8_letterOf_34 ?_
  refine j_aload_n (i := 1) rfl dX8_letterOf_37 ?_
  refine j_iload_n (i := 2) rfl dX8_letterOf_38 ?_
  refine j_callStr (i := n) (idx := 40) (As := [.int l2]) (n := 1) k1 jint_nt (jlkT (jtb3 237 rfl) rfl) sJcharAt kJcharAt rfl ⟨rfl, by decide +kernel, by decide +kernel, by decide +kernel⟩ rfl ⟨by decide, by decide⟩ n_h (Nat.le_of_ble_eq_true rfl) ⟨Nat.zero_le _, Nat.zero_le _⟩ dX8_letterOf_39 (fun r Γ' h1 q => ?_)
  obtain ⟨x1, q0, rfl, p1⟩ := q; cases q0
  refine j_eqst [.int x1, .int (h 1 5)] (by rfl) ?_
  refine j_icmp_ne (off := 5) 47 dX8_letterOf_42 (by decide) (fun c1 => ?_) (fun c1 => ?_)
  · exact j_le [some (.ref 1), some (.ref (1001 + n)), some (.int l2)] (And.intro rfl (And.intro rfl (And.intro rfl True.intro))) (v1 x1 h1 p1 c1)
  · exact j_le [some (.ref 1), some (.ref (1001 + n)), some (.int l2)] (And.intro rfl (And.intro rfl (And.intro rfl True.intro))) (v2 x1 h1 p1 c1)
set_option maxRecDepth 100000 in
theorem bX8_letterOf_45 {sc : Nat × (Nat → Int32)} {h : jH} {Q : jQ} {n : Nat} {l2 : Int32} (n_h : n < 22)
    (v1 : Q (.inl (some (.int l2))) (jG0 sc) h) :
    WP mX8_letterOf Q 45 [some (.ref 1), some (.ref (1001 + n)), some (.int l2)] [] (jG0 sc) h (0, 0) := by
  refine j_iload_n (i := 2) rfl dX8_letterOf_45 ?_
  exact j_iret rfl rfl (Nat.zero_le _) (Nat.zero_le _) dX8_letterOf_46 v1
set_option maxRecDepth 100000 in
theorem bX8_letterOf_47 {sc : Nat × (Nat → Int32)} {h : jH} {Q : jQ} {n : Nat} {l2 : Int32} (n_h : n < 22)
    (v1 : WP mX8_letterOf Q 25 [some (.ref 1), some (.ref (1001 + n)), some (.int (l2 + 1))] [] (jG0 sc) h (0, 0)) :
    WP mX8_letterOf Q 47 [some (.ref 1), some (.ref (1001 + n)), some (.int l2)] [] (jG0 sc) h (0, 0) := by
  refine j_iinc (i := 2) (n := 1) rfl dX8_letterOf_47 (Nat.le_of_ble_eq_true rfl) ?_
  refine j_eqlv [some (.ref 1), some (.ref (1001 + n)), some (.int (l2 + 1))] rfl ?_
  refine j_goto (off := -25) 25 dX8_letterOf_50 (by decide) ?_
  exact j_le [some (.ref 1), some (.ref (1001 + n)), some (.int (l2 + 1))] (And.intro rfl (And.intro rfl (And.intro rfl True.intro))) v1
set_option maxRecDepth 100000 in
theorem bX8_letterOf_53 {sc : Nat × (Nat → Int32)} {h : jH} {Q : jQ} {n : Nat} {l2 : Int32} (n_h : n < 22)
    (v1 : Q (.inl (some (.int (-1)))) (jG0 sc) h) :
    WP mX8_letterOf Q 53 [some (.ref 1), some (.ref (1001 + n)), some (.int l2)] [] (jG0 sc) h (0, 0) := by
  refine j_iconst (n := (-1)) (-1) (by decide) dX8_letterOf_53 ?_
  exact j_iret rfl rfl (Nat.zero_le _) (Nat.zero_le _) dX8_letterOf_54 v1
set_option maxRecDepth 100000 in
theorem rX8_letterOf_0 {sc : Nat × (Nat → Int32)} {h : jH} {Q : jQ} {n : Nat} (n_h : n < 22)
    (v1 : ¬ (h 1 2) = 1 → Q (.inl (some (.int (-1)))) (jG0 sc) h)
    (v2 : (h 1 2) = 1 → ((h 1 4) - (h 1 3)) = 1 → WP mX8_letterOf Q 25 [some (.ref 1), some (.ref (1001 + n)), some (.int 0)] [] (jG0 sc) h (0, 0))
    (v3 : (h 1 2) = 1 → ¬ ((h 1 4) - (h 1 3)) = 1 → Q (.inl (some (.int (-1)))) (jG0 sc) h) :
    WP mX8_letterOf Q 0 [some (.ref 1), some (.ref (1001 + n)), none] [] (jG0 sc) h (0, 0) := by
  exact (bX8_letterOf_0 n_h (fun c1 => (bX8_letterOf_21 n_h (v1 c1))) (fun c1 => (bX8_letterOf_8 n_h (fun c2 => (bX8_letterOf_23 n_h (v2 c1 c2))) (fun c2 => (bX8_letterOf_21 n_h (v3 c1 c2))))))
set_option maxRecDepth 100000 in
theorem rX8_letterOf_25 {sc : Nat × (Nat → Int32)} {h : jH} {Q : jQ} {n : Nat} {l2 : Int32} {P1 : Int32 → jH → Prop} {P2 : Int32 → jH → Prop} (n_h : n < 22)
    (k1 : JM mJlength [.ref (1001 + n)] (jG0 sc) h (jint sc P1))
    (v1 : ∀ (x1 : Int32) (h1 : jH), P1 x1 h1 → x1 ≤ l2 → Q (.inl (some (.int (-1)))) (jG0 sc) h1)
    (k2 : ∀ (x1 : Int32) (h1 : jH), P1 x1 h1 → ¬ x1 ≤ l2 → JM mJcharAt [.ref (1001 + n), .int l2] (jG0 sc) h1 (jint sc P2))
    (v2 : ∀ (x1 : Int32) (h1 : jH), P1 x1 h1 → ¬ x1 ≤ l2 → ∀ (x2 : Int32) (h2 : jH), P2 x2 h2 → ¬ (h1 1 5) = x2 → WP mX8_letterOf Q 25 [some (.ref 1), some (.ref (1001 + n)), some (.int (l2 + 1))] [] (jG0 sc) h2 (0, 0))
    (v3 : ∀ (x1 : Int32) (h1 : jH), P1 x1 h1 → ¬ x1 ≤ l2 → ∀ (x2 : Int32) (h2 : jH), P2 x2 h2 → (h1 1 5) = x2 → Q (.inl (some (.int l2))) (jG0 sc) h2) :
    WP mX8_letterOf Q 25 [some (.ref 1), some (.ref (1001 + n)), some (.int l2)] [] (jG0 sc) h (0, 0) := by
  exact (bX8_letterOf_25 n_h k1 (fun x1 h1 p1 c1 => (bX8_letterOf_53 n_h (v1 x1 h1 p1 c1))) (fun x1 h1 p1 c1 => (bX8_letterOf_33 n_h (k2 x1 h1 p1 c1) (fun x2 h2 p2 c2 => (bX8_letterOf_47 n_h (v2 x1 h1 p1 c1 x2 h2 p2 c2))) (fun x2 h2 p2 c2 => (bX8_letterOf_45 n_h (v3 x1 h1 p1 c1 x2 h2 p2 c2))))))
theorem dX8_sign_0 : decode (mC mX8_sign) 0 = .ok (.aload_n 0, 1) := by decide +kernel
theorem dX8_sign_1 : decode (mC mX8_sign) 1 = .ok (.getfield 28, 3) := by decide +kernel
theorem dX8_sign_4 : decode (mC mX8_sign) 4 = .ok (.iconst 3, 1) := by decide +kernel
theorem dX8_sign_5 : decode (mC mX8_sign) 5 = .ok (.if_icmp .eq 5, 3) := by decide +kernel
theorem dX8_sign_8 : decode (mC mX8_sign) 8 = .ok (.iconst 0, 1) := by decide +kernel
theorem dX8_sign_9 : decode (mC mX8_sign) 9 = .ok (.ireturn, 1) := by decide +kernel
theorem dX8_sign_10 : decode (mC mX8_sign) 10 = .ok (.aload_n 0, 1) := by decide +kernel
theorem dX8_sign_11 : decode (mC mX8_sign) 11 = .ok (.getfield 31, 3) := by decide +kernel
theorem dX8_sign_14 : decode (mC mX8_sign) 14 = .ok (.tableswitch 137 37 62 #[126, 137, 137, 137, 137, 122, 118, 137, 120, 137, 124, 137, 137, 137, 137, 137, 137, 137, 137, 137, 137, 137, 137, 128, 134, 131], 118) := by decide +kernel
theorem dX8_sign_132 : decode (mC mX8_sign) 132 = .ok (.iconst 1, 1) := by decide +kernel
theorem dX8_sign_133 : decode (mC mX8_sign) 133 = .ok (.ireturn, 1) := by decide +kernel
theorem dX8_sign_134 : decode (mC mX8_sign) 134 = .ok (.iconst 2, 1) := by decide +kernel
theorem dX8_sign_135 : decode (mC mX8_sign) 135 = .ok (.ireturn, 1) := by decide +kernel
theorem dX8_sign_136 : decode (mC mX8_sign) 136 = .ok (.iconst 3, 1) := by decide +kernel
theorem dX8_sign_137 : decode (mC mX8_sign) 137 = .ok (.ireturn, 1) := by decide +kernel
theorem dX8_sign_138 : decode (mC mX8_sign) 138 = .ok (.iconst 4, 1) := by decide +kernel
theorem dX8_sign_139 : decode (mC mX8_sign) 139 = .ok (.ireturn, 1) := by decide +kernel
theorem dX8_sign_140 : decode (mC mX8_sign) 140 = .ok (.iconst 5, 1) := by decide +kernel
theorem dX8_sign_141 : decode (mC mX8_sign) 141 = .ok (.ireturn, 1) := by decide +kernel
theorem dX8_sign_142 : decode (mC mX8_sign) 142 = .ok (.bipush 6, 2) := by decide +kernel
theorem dX8_sign_144 : decode (mC mX8_sign) 144 = .ok (.ireturn, 1) := by decide +kernel
theorem dX8_sign_145 : decode (mC mX8_sign) 145 = .ok (.bipush 7, 2) := by decide +kernel
theorem dX8_sign_147 : decode (mC mX8_sign) 147 = .ok (.ireturn, 1) := by decide +kernel
theorem dX8_sign_148 : decode (mC mX8_sign) 148 = .ok (.bipush 8, 2) := by decide +kernel
theorem dX8_sign_150 : decode (mC mX8_sign) 150 = .ok (.ireturn, 1) := by decide +kernel
theorem dX8_sign_151 : decode (mC mX8_sign) 151 = .ok (.iconst 0, 1) := by decide +kernel
theorem dX8_sign_152 : decode (mC mX8_sign) 152 = .ok (.ireturn, 1) := by decide +kernel
set_option maxRecDepth 100000 in
theorem bX8_sign_0 {sc : Nat × (Nat → Int32)} {h : jH} {Q : jQ}
    (v1 : (h 1 2) = 3 → WP mX8_sign Q 10 [some (.ref 1)] [] (jG0 sc) h (0, 0))
    (v2 : ¬ (h 1 2) = 3 → WP mX8_sign Q 8 [some (.ref 1)] [] (jG0 sc) h (0, 0)) :
    WP mX8_sign Q 0 [some (.ref 1)] [] (jG0 sc) h (0, 0) := by
  refine j_aload_n (i := 0) rfl dX8_sign_0 ?_
  refine j_getI (idx := 28) (ci := 8) (k := 2) (nest := false) (show (8, 28, 8, 2, false) ∈ jFT by decide) rfl (Nat.le_of_ble_eq_true rfl) rfl dX8_sign_1 ?_
  refine j_iconst (n := 3) 3 (by decide) dX8_sign_4 ?_
  refine j_icmp_eq (off := 5) 10 dX8_sign_5 (by decide) (fun c1 => ?_) (fun c1 => ?_)
  · exact j_le [some (.ref 1)] (And.intro rfl True.intro) (v1 c1)
  · exact j_le [some (.ref 1)] (And.intro rfl True.intro) (v2 c1)
set_option maxRecDepth 100000 in
theorem bX8_sign_8 {sc : Nat × (Nat → Int32)} {h : jH} {Q : jQ}
    (v1 : Q (.inl (some (.int 0))) (jG0 sc) h) :
    WP mX8_sign Q 8 [some (.ref 1)] [] (jG0 sc) h (0, 0) := by
  refine j_iconst (n := 0) 0 (by decide) dX8_sign_8 ?_
  exact j_iret rfl rfl (Nat.zero_le _) (Nat.zero_le _) dX8_sign_9 v1
set_option maxRecDepth 100000 in
theorem bX8_sign_10 {sc : Nat × (Nat → Int32)} {h : jH} {Q : jQ}
    (v1 : ((h 1 5 : Int32).toInt < 37 ∨ 62 < (h 1 5 : Int32).toInt) → WP mX8_sign Q 151 [some (.ref 1)] [] (jG0 sc) h (0, 0))
    (v2 : (h 1 5 : Int32).toInt = 37 → WP mX8_sign Q 140 [some (.ref 1)] [] (jG0 sc) h (0, 0))
    (v3 : (h 1 5 : Int32).toInt = 38 → WP mX8_sign Q 151 [some (.ref 1)] [] (jG0 sc) h (0, 0))
    (v4 : (h 1 5 : Int32).toInt = 39 → WP mX8_sign Q 151 [some (.ref 1)] [] (jG0 sc) h (0, 0))
    (v5 : (h 1 5 : Int32).toInt = 40 → WP mX8_sign Q 151 [some (.ref 1)] [] (jG0 sc) h (0, 0))
    (v6 : (h 1 5 : Int32).toInt = 41 → WP mX8_sign Q 151 [some (.ref 1)] [] (jG0 sc) h (0, 0))
    (v7 : (h 1 5 : Int32).toInt = 42 → WP mX8_sign Q 136 [some (.ref 1)] [] (jG0 sc) h (0, 0))
    (v8 : (h 1 5 : Int32).toInt = 43 → WP mX8_sign Q 132 [some (.ref 1)] [] (jG0 sc) h (0, 0))
    (v9 : (h 1 5 : Int32).toInt = 44 → WP mX8_sign Q 151 [some (.ref 1)] [] (jG0 sc) h (0, 0))
    (v10 : (h 1 5 : Int32).toInt = 45 → WP mX8_sign Q 134 [some (.ref 1)] [] (jG0 sc) h (0, 0))
    (v11 : (h 1 5 : Int32).toInt = 46 → WP mX8_sign Q 151 [some (.ref 1)] [] (jG0 sc) h (0, 0))
    (v12 : (h 1 5 : Int32).toInt = 47 → WP mX8_sign Q 138 [some (.ref 1)] [] (jG0 sc) h (0, 0))
    (v13 : (h 1 5 : Int32).toInt = 48 → WP mX8_sign Q 151 [some (.ref 1)] [] (jG0 sc) h (0, 0))
    (v14 : (h 1 5 : Int32).toInt = 49 → WP mX8_sign Q 151 [some (.ref 1)] [] (jG0 sc) h (0, 0))
    (v15 : (h 1 5 : Int32).toInt = 50 → WP mX8_sign Q 151 [some (.ref 1)] [] (jG0 sc) h (0, 0))
    (v16 : (h 1 5 : Int32).toInt = 51 → WP mX8_sign Q 151 [some (.ref 1)] [] (jG0 sc) h (0, 0))
    (v17 : (h 1 5 : Int32).toInt = 52 → WP mX8_sign Q 151 [some (.ref 1)] [] (jG0 sc) h (0, 0))
    (v18 : (h 1 5 : Int32).toInt = 53 → WP mX8_sign Q 151 [some (.ref 1)] [] (jG0 sc) h (0, 0))
    (v19 : (h 1 5 : Int32).toInt = 54 → WP mX8_sign Q 151 [some (.ref 1)] [] (jG0 sc) h (0, 0))
    (v20 : (h 1 5 : Int32).toInt = 55 → WP mX8_sign Q 151 [some (.ref 1)] [] (jG0 sc) h (0, 0))
    (v21 : (h 1 5 : Int32).toInt = 56 → WP mX8_sign Q 151 [some (.ref 1)] [] (jG0 sc) h (0, 0))
    (v22 : (h 1 5 : Int32).toInt = 57 → WP mX8_sign Q 151 [some (.ref 1)] [] (jG0 sc) h (0, 0))
    (v23 : (h 1 5 : Int32).toInt = 58 → WP mX8_sign Q 151 [some (.ref 1)] [] (jG0 sc) h (0, 0))
    (v24 : (h 1 5 : Int32).toInt = 59 → WP mX8_sign Q 151 [some (.ref 1)] [] (jG0 sc) h (0, 0))
    (v25 : (h 1 5 : Int32).toInt = 60 → WP mX8_sign Q 142 [some (.ref 1)] [] (jG0 sc) h (0, 0))
    (v26 : (h 1 5 : Int32).toInt = 61 → WP mX8_sign Q 148 [some (.ref 1)] [] (jG0 sc) h (0, 0))
    (v27 : (h 1 5 : Int32).toInt = 62 → WP mX8_sign Q 145 [some (.ref 1)] [] (jG0 sc) h (0, 0)) :
    WP mX8_sign Q 10 [some (.ref 1)] [] (jG0 sc) h (0, 0) := by
  refine j_aload_n (i := 0) rfl dX8_sign_10 ?_
  refine j_getI (idx := 31) (ci := 8) (k := 5) (nest := false) (show (8, 31, 8, 5, false) ∈ jFT by decide) rfl (Nat.le_of_ble_eq_true rfl) rfl dX8_sign_11 ?_
  refine j_switch (dflt := 137) (lo := 37) (hi := 62) (offs := #[126, 137, 137, 137, 137, 122, 118, 137, 120, 137, 124, 137, 137, 137, 137, 137, 137, 137, 137, 137, 137, 137, 137, 128, 134, 131]) (len := 118) [140, 151, 151, 151, 151, 136, 132, 151, 134, 151, 138, 151, 151, 151, 151, 151, 151, 151, 151, 151, 151, 151, 151, 142, 148, 145] 151 dX8_sign_14 (by decide) (by decide) (by decide) (fun c1 => ?_) ?_
  · exact j_le [some (.ref 1)] (And.intro rfl True.intro) (v1 c1)
  · refine ⟨fun q0 => ?_, fun q1 => ?_, fun q2 => ?_, fun q3 => ?_, fun q4 => ?_, fun q5 => ?_, fun q6 => ?_, fun q7 => ?_, fun q8 => ?_, fun q9 => ?_, fun q10 => ?_, fun q11 => ?_, fun q12 => ?_, fun q13 => ?_, fun q14 => ?_, fun q15 => ?_, fun q16 => ?_, fun q17 => ?_, fun q18 => ?_, fun q19 => ?_, fun q20 => ?_, fun q21 => ?_, fun q22 => ?_, fun q23 => ?_, fun q24 => ?_, fun q25 => ?_, True.intro⟩
    · exact j_le [some (.ref 1)] (And.intro rfl True.intro) (v2 q0)
    · exact j_le [some (.ref 1)] (And.intro rfl True.intro) (v3 q1)
    · exact j_le [some (.ref 1)] (And.intro rfl True.intro) (v4 q2)
    · exact j_le [some (.ref 1)] (And.intro rfl True.intro) (v5 q3)
    · exact j_le [some (.ref 1)] (And.intro rfl True.intro) (v6 q4)
    · exact j_le [some (.ref 1)] (And.intro rfl True.intro) (v7 q5)
    · exact j_le [some (.ref 1)] (And.intro rfl True.intro) (v8 q6)
    · exact j_le [some (.ref 1)] (And.intro rfl True.intro) (v9 q7)
    · exact j_le [some (.ref 1)] (And.intro rfl True.intro) (v10 q8)
    · exact j_le [some (.ref 1)] (And.intro rfl True.intro) (v11 q9)
    · exact j_le [some (.ref 1)] (And.intro rfl True.intro) (v12 q10)
    · exact j_le [some (.ref 1)] (And.intro rfl True.intro) (v13 q11)
    · exact j_le [some (.ref 1)] (And.intro rfl True.intro) (v14 q12)
    · exact j_le [some (.ref 1)] (And.intro rfl True.intro) (v15 q13)
    · exact j_le [some (.ref 1)] (And.intro rfl True.intro) (v16 q14)
    · exact j_le [some (.ref 1)] (And.intro rfl True.intro) (v17 q15)
    · exact j_le [some (.ref 1)] (And.intro rfl True.intro) (v18 q16)
    · exact j_le [some (.ref 1)] (And.intro rfl True.intro) (v19 q17)
    · exact j_le [some (.ref 1)] (And.intro rfl True.intro) (v20 q18)
    · exact j_le [some (.ref 1)] (And.intro rfl True.intro) (v21 q19)
    · exact j_le [some (.ref 1)] (And.intro rfl True.intro) (v22 q20)
    · exact j_le [some (.ref 1)] (And.intro rfl True.intro) (v23 q21)
    · exact j_le [some (.ref 1)] (And.intro rfl True.intro) (v24 q22)
    · exact j_le [some (.ref 1)] (And.intro rfl True.intro) (v25 q23)
    · exact j_le [some (.ref 1)] (And.intro rfl True.intro) (v26 q24)
    · exact j_le [some (.ref 1)] (And.intro rfl True.intro) (v27 q25)
set_option maxRecDepth 100000 in
theorem bX8_sign_132 {sc : Nat × (Nat → Int32)} {h : jH} {Q : jQ}
    (v1 : Q (.inl (some (.int 1))) (jG0 sc) h) :
    WP mX8_sign Q 132 [some (.ref 1)] [] (jG0 sc) h (0, 0) := by
  refine j_iconst (n := 1) 1 (by decide) dX8_sign_132 ?_
  exact j_iret rfl rfl (Nat.zero_le _) (Nat.zero_le _) dX8_sign_133 v1
set_option maxRecDepth 100000 in
theorem bX8_sign_134 {sc : Nat × (Nat → Int32)} {h : jH} {Q : jQ}
    (v1 : Q (.inl (some (.int 2))) (jG0 sc) h) :
    WP mX8_sign Q 134 [some (.ref 1)] [] (jG0 sc) h (0, 0) := by
  refine j_iconst (n := 2) 2 (by decide) dX8_sign_134 ?_
  exact j_iret rfl rfl (Nat.zero_le _) (Nat.zero_le _) dX8_sign_135 v1
set_option maxRecDepth 100000 in
theorem bX8_sign_136 {sc : Nat × (Nat → Int32)} {h : jH} {Q : jQ}
    (v1 : Q (.inl (some (.int 3))) (jG0 sc) h) :
    WP mX8_sign Q 136 [some (.ref 1)] [] (jG0 sc) h (0, 0) := by
  refine j_iconst (n := 3) 3 (by decide) dX8_sign_136 ?_
  exact j_iret rfl rfl (Nat.zero_le _) (Nat.zero_le _) dX8_sign_137 v1
set_option maxRecDepth 100000 in
theorem bX8_sign_138 {sc : Nat × (Nat → Int32)} {h : jH} {Q : jQ}
    (v1 : Q (.inl (some (.int 4))) (jG0 sc) h) :
    WP mX8_sign Q 138 [some (.ref 1)] [] (jG0 sc) h (0, 0) := by
  refine j_iconst (n := 4) 4 (by decide) dX8_sign_138 ?_
  exact j_iret rfl rfl (Nat.zero_le _) (Nat.zero_le _) dX8_sign_139 v1
set_option maxRecDepth 100000 in
theorem bX8_sign_140 {sc : Nat × (Nat → Int32)} {h : jH} {Q : jQ}
    (v1 : Q (.inl (some (.int 5))) (jG0 sc) h) :
    WP mX8_sign Q 140 [some (.ref 1)] [] (jG0 sc) h (0, 0) := by
  refine j_iconst (n := 5) 5 (by decide) dX8_sign_140 ?_
  exact j_iret rfl rfl (Nat.zero_le _) (Nat.zero_le _) dX8_sign_141 v1
set_option maxRecDepth 100000 in
theorem bX8_sign_142 {sc : Nat × (Nat → Int32)} {h : jH} {Q : jQ}
    (v1 : Q (.inl (some (.int 6))) (jG0 sc) h) :
    WP mX8_sign Q 142 [some (.ref 1)] [] (jG0 sc) h (0, 0) := by
  refine j_bipush (n := 6) 6 (by decide) dX8_sign_142 ?_
  exact j_iret rfl rfl (Nat.zero_le _) (Nat.zero_le _) dX8_sign_144 v1
set_option maxRecDepth 100000 in
theorem bX8_sign_145 {sc : Nat × (Nat → Int32)} {h : jH} {Q : jQ}
    (v1 : Q (.inl (some (.int 7))) (jG0 sc) h) :
    WP mX8_sign Q 145 [some (.ref 1)] [] (jG0 sc) h (0, 0) := by
  refine j_bipush (n := 7) 7 (by decide) dX8_sign_145 ?_
  exact j_iret rfl rfl (Nat.zero_le _) (Nat.zero_le _) dX8_sign_147 v1
set_option maxRecDepth 100000 in
theorem bX8_sign_148 {sc : Nat × (Nat → Int32)} {h : jH} {Q : jQ}
    (v1 : Q (.inl (some (.int 8))) (jG0 sc) h) :
    WP mX8_sign Q 148 [some (.ref 1)] [] (jG0 sc) h (0, 0) := by
  refine j_bipush (n := 8) 8 (by decide) dX8_sign_148 ?_
  exact j_iret rfl rfl (Nat.zero_le _) (Nat.zero_le _) dX8_sign_150 v1
set_option maxRecDepth 100000 in
theorem bX8_sign_151 {sc : Nat × (Nat → Int32)} {h : jH} {Q : jQ}
    (v1 : Q (.inl (some (.int 0))) (jG0 sc) h) :
    WP mX8_sign Q 151 [some (.ref 1)] [] (jG0 sc) h (0, 0) := by
  refine j_iconst (n := 0) 0 (by decide) dX8_sign_151 ?_
  exact j_iret rfl rfl (Nat.zero_le _) (Nat.zero_le _) dX8_sign_152 v1
set_option maxRecDepth 100000 in
theorem rX8_sign_0 {sc : Nat × (Nat → Int32)} {h : jH} {Q : jQ}
    (v1 : (h 1 2) = 3 → ((h 1 5 : Int32).toInt < 37 ∨ 62 < (h 1 5 : Int32).toInt) → Q (.inl (some (.int 0))) (jG0 sc) h)
    (v2 : (h 1 2) = 3 → (h 1 5 : Int32).toInt = 37 → Q (.inl (some (.int 5))) (jG0 sc) h)
    (v3 : (h 1 2) = 3 → (h 1 5 : Int32).toInt = 38 → Q (.inl (some (.int 0))) (jG0 sc) h)
    (v4 : (h 1 2) = 3 → (h 1 5 : Int32).toInt = 39 → Q (.inl (some (.int 0))) (jG0 sc) h)
    (v5 : (h 1 2) = 3 → (h 1 5 : Int32).toInt = 40 → Q (.inl (some (.int 0))) (jG0 sc) h)
    (v6 : (h 1 2) = 3 → (h 1 5 : Int32).toInt = 41 → Q (.inl (some (.int 0))) (jG0 sc) h)
    (v7 : (h 1 2) = 3 → (h 1 5 : Int32).toInt = 42 → Q (.inl (some (.int 3))) (jG0 sc) h)
    (v8 : (h 1 2) = 3 → (h 1 5 : Int32).toInt = 43 → Q (.inl (some (.int 1))) (jG0 sc) h)
    (v9 : (h 1 2) = 3 → (h 1 5 : Int32).toInt = 44 → Q (.inl (some (.int 0))) (jG0 sc) h)
    (v10 : (h 1 2) = 3 → (h 1 5 : Int32).toInt = 45 → Q (.inl (some (.int 2))) (jG0 sc) h)
    (v11 : (h 1 2) = 3 → (h 1 5 : Int32).toInt = 46 → Q (.inl (some (.int 0))) (jG0 sc) h)
    (v12 : (h 1 2) = 3 → (h 1 5 : Int32).toInt = 47 → Q (.inl (some (.int 4))) (jG0 sc) h)
    (v13 : (h 1 2) = 3 → (h 1 5 : Int32).toInt = 48 → Q (.inl (some (.int 0))) (jG0 sc) h)
    (v14 : (h 1 2) = 3 → (h 1 5 : Int32).toInt = 49 → Q (.inl (some (.int 0))) (jG0 sc) h)
    (v15 : (h 1 2) = 3 → (h 1 5 : Int32).toInt = 50 → Q (.inl (some (.int 0))) (jG0 sc) h)
    (v16 : (h 1 2) = 3 → (h 1 5 : Int32).toInt = 51 → Q (.inl (some (.int 0))) (jG0 sc) h)
    (v17 : (h 1 2) = 3 → (h 1 5 : Int32).toInt = 52 → Q (.inl (some (.int 0))) (jG0 sc) h)
    (v18 : (h 1 2) = 3 → (h 1 5 : Int32).toInt = 53 → Q (.inl (some (.int 0))) (jG0 sc) h)
    (v19 : (h 1 2) = 3 → (h 1 5 : Int32).toInt = 54 → Q (.inl (some (.int 0))) (jG0 sc) h)
    (v20 : (h 1 2) = 3 → (h 1 5 : Int32).toInt = 55 → Q (.inl (some (.int 0))) (jG0 sc) h)
    (v21 : (h 1 2) = 3 → (h 1 5 : Int32).toInt = 56 → Q (.inl (some (.int 0))) (jG0 sc) h)
    (v22 : (h 1 2) = 3 → (h 1 5 : Int32).toInt = 57 → Q (.inl (some (.int 0))) (jG0 sc) h)
    (v23 : (h 1 2) = 3 → (h 1 5 : Int32).toInt = 58 → Q (.inl (some (.int 0))) (jG0 sc) h)
    (v24 : (h 1 2) = 3 → (h 1 5 : Int32).toInt = 59 → Q (.inl (some (.int 0))) (jG0 sc) h)
    (v25 : (h 1 2) = 3 → (h 1 5 : Int32).toInt = 60 → Q (.inl (some (.int 6))) (jG0 sc) h)
    (v26 : (h 1 2) = 3 → (h 1 5 : Int32).toInt = 61 → Q (.inl (some (.int 8))) (jG0 sc) h)
    (v27 : (h 1 2) = 3 → (h 1 5 : Int32).toInt = 62 → Q (.inl (some (.int 7))) (jG0 sc) h)
    (v28 : ¬ (h 1 2) = 3 → Q (.inl (some (.int 0))) (jG0 sc) h) :
    WP mX8_sign Q 0 [some (.ref 1)] [] (jG0 sc) h (0, 0) := by
  exact (bX8_sign_0 (fun c1 => (bX8_sign_10 (fun c2 => (bX8_sign_151 (v1 c1 c2))) (fun q0 => (bX8_sign_140 (v2 c1 q0))) (fun q1 => (bX8_sign_151 (v3 c1 q1))) (fun q2 => (bX8_sign_151 (v4 c1 q2))) (fun q3 => (bX8_sign_151 (v5 c1 q3))) (fun q4 => (bX8_sign_151 (v6 c1 q4))) (fun q5 => (bX8_sign_136 (v7 c1 q5))) (fun q6 => (bX8_sign_132 (v8 c1 q6))) (fun q7 => (bX8_sign_151 (v9 c1 q7))) (fun q8 => (bX8_sign_134 (v10 c1 q8))) (fun q9 => (bX8_sign_151 (v11 c1 q9))) (fun q10 => (bX8_sign_138 (v12 c1 q10))) (fun q11 => (bX8_sign_151 (v13 c1 q11))) (fun q12 => (bX8_sign_151 (v14 c1 q12))) (fun q13 => (bX8_sign_151 (v15 c1 q13))) (fun q14 => (bX8_sign_151 (v16 c1 q14))) (fun q15 => (bX8_sign_151 (v17 c1 q15))) (fun q16 => (bX8_sign_151 (v18 c1 q16))) (fun q17 => (bX8_sign_151 (v19 c1 q17))) (fun q18 => (bX8_sign_151 (v20 c1 q18))) (fun q19 => (bX8_sign_151 (v21 c1 q19))) (fun q20 => (bX8_sign_151 (v22 c1 q20))) (fun q21 => (bX8_sign_151 (v23 c1 q21))) (fun q22 => (bX8_sign_151 (v24 c1 q22))) (fun q23 => (bX8_sign_142 (v25 c1 q23))) (fun q24 => (bX8_sign_148 (v26 c1 q24))) (fun q25 => (bX8_sign_145 (v27 c1 q25))))) (fun c1 => (bX8_sign_8 (v28 c1))))
