theorem dX11_feed_0 : decode (mC mX11_feed) 0 = .ok (.aload_n 0, 1) := by decide +kernel
theorem dX11_feed_1 : decode (mC mX11_feed) 1 = .ok (.getfield 12, 3) := by decide +kernel
theorem dX11_feed_4 : decode (mC mX11_feed) 4 = .ok (.getfield 99, 3) := by decide +kernel
theorem dX11_feed_7 : decode (mC mX11_feed) 7 = .ok (.bipush 20, 2) := by decide +kernel
theorem dX11_feed_9 : decode (mC mX11_feed) 9 = .ok (.iadd, 1) := by decide +kernel
theorem dX11_feed_10 : decode (mC mX11_feed) 10 = .ok (.sipush 400, 3) := by decide +kernel
theorem dX11_feed_13 : decode (mC mX11_feed) 13 = .ok (.if_icmp .le 5, 3) := by decide +kernel
theorem dX11_feed_16 : decode (mC mX11_feed) 16 = .ok (.iconst (-1), 1) := by decide +kernel
theorem dX11_feed_17 : decode (mC mX11_feed) 17 = .ok (.ireturn, 1) := by decide +kernel
theorem dX11_feed_18 : decode (mC mX11_feed) 18 = .ok (.aload_n 0, 1) := by decide +kernel
theorem dX11_feed_19 : decode (mC mX11_feed) 19 = .ok (.getfield 12, 3) := by decide +kernel
theorem dX11_feed_22 : decode (mC mX11_feed) 22 = .ok (.iload_n 1, 1) := by decide +kernel
theorem dX11_feed_23 : decode (mC mX11_feed) 23 = .ok (.invokevirtual 102, 3) := by decide +kernel
theorem dX11_feed_26 : decode (mC mX11_feed) 26 = .ok (.aload_n 0, 1) := by decide +kernel
theorem dX11_feed_27 : decode (mC mX11_feed) 27 = .ok (.getfield 12, 3) := by decide +kernel
theorem dX11_feed_30 : decode (mC mX11_feed) 30 = .ok (.iload_n 2, 1) := by decide +kernel
theorem dX11_feed_31 : decode (mC mX11_feed) 31 = .ok (.invokevirtual 102, 3) := by decide +kernel
theorem dX11_feed_34 : decode (mC mX11_feed) 34 = .ok (.aload_n 0, 1) := by decide +kernel
theorem dX11_feed_35 : decode (mC mX11_feed) 35 = .ok (.getfield 12, 3) := by decide +kernel
theorem dX11_feed_38 : decode (mC mX11_feed) 38 = .ok (.iload_n 3, 1) := by decide +kernel
theorem dX11_feed_39 : decode (mC mX11_feed) 39 = .ok (.invokevirtual 102, 3) := by decide +kernel
theorem dX11_feed_42 : decode (mC mX11_feed) 42 = .ok (.aload_n 0, 1) := by decide +kernel
theorem dX11_feed_43 : decode (mC mX11_feed) 43 = .ok (.getfield 12, 3) := by decide +kernel
theorem dX11_feed_46 : decode (mC mX11_feed) 46 = .ok (.iload 4, 2) := by decide +kernel
theorem dX11_feed_48 : decode (mC mX11_feed) 48 = .ok (.invokevirtual 102, 3) := by decide +kernel
theorem dX11_feed_51 : decode (mC mX11_feed) 51 = .ok (.aload_n 0, 1) := by decide +kernel
theorem dX11_feed_52 : decode (mC mX11_feed) 52 = .ok (.getfield 12, 3) := by decide +kernel
theorem dX11_feed_55 : decode (mC mX11_feed) 55 = .ok (.iload 5, 2) := by decide +kernel
theorem dX11_feed_57 : decode (mC mX11_feed) 57 = .ok (.invokevirtual 102, 3) := by decide +kernel
theorem dX11_feed_60 : decode (mC mX11_feed) 60 = .ok (.aload_n 0, 1) := by decide +kernel
theorem dX11_feed_61 : decode (mC mX11_feed) 61 = .ok (.getfield 12, 3) := by decide +kernel
theorem dX11_feed_64 : decode (mC mX11_feed) 64 = .ok (.getfield 99, 3) := by decide +kernel
theorem dX11_feed_67 : decode (mC mX11_feed) 67 = .ok (.ireturn, 1) := by decide +kernel
set_option maxRecDepth 100000 in
theorem bX11_feed_0 {sc : Nat × (Nat → Int32)} {h : jH} {Q : jQ} {l1 l2 l3 l4 l5 : Int32}
    (v1 : ((h 1 1) + 20) ≤ 400 → WP mX11_feed Q 18 [some (.ref 0), some (.int l1), some (.int l2), some (.int l3), some (.int l4), some (.int l5)] [] (jG0 sc) h (0, 0))
    (v2 : ¬ ((h 1 1) + 20) ≤ 400 → WP mX11_feed Q 16 [some (.ref 0), some (.int l1), some (.int l2), some (.int l3), some (.int l4), some (.int l5)] [] (jG0 sc) h (0, 0)) :
    WP mX11_feed Q 0 [some (.ref 0), some (.int l1), some (.int l2), some (.int l3), some (.int l4), some (.int l5)] [] (jG0 sc) h (0, 0) := by
  refine j_aload_n (i := 0) rfl dX11_feed_0 ?_
  refine j_getR (idx := 12) (ci := 11) (k := 0) (nest := false) (show (11, 12, 11, 0, false) ∈ jFT by decide) rfl (Nat.le_of_ble_eq_true rfl) rfl (a := 1) rfl dX11_feed_1 ?_
  refine j_getI (idx := 99) (ci := 8) (k := 1) (nest := true) (show (11, 99, 8, 1, true) ∈ jFT by decide) rfl (Nat.le_of_ble_eq_true rfl) rfl dX11_feed_4 ?_
  refine j_bipush (n := 20) 20 (by decide) dX11_feed_7 ?_
  refine j_iadd dX11_feed_9 ?_
  refine j_sipush (n := 400) 400 (by decide) dX11_feed_10 ?_
  refine j_icmp_le (off := 5) 18 dX11_feed_13 (by decide) (fun c1 => ?_) (fun c1 => ?_)
  · exact j_le [some (.ref 0), some (.int l1), some (.int l2), some (.int l3), some (.int l4), some (.int l5)] (And.intro rfl (And.intro rfl (And.intro rfl (And.intro rfl (And.intro rfl (And.intro rfl True.intro)))))) (v1 c1)
  · exact j_le [some (.ref 0), some (.int l1), some (.int l2), some (.int l3), some (.int l4), some (.int l5)] (And.intro rfl (And.intro rfl (And.intro rfl (And.intro rfl (And.intro rfl (And.intro rfl True.intro)))))) (v2 c1)
set_option maxRecDepth 100000 in
theorem bX11_feed_16 {sc : Nat × (Nat → Int32)} {h : jH} {Q : jQ} {l1 l2 l3 l4 l5 : Int32}
    (v1 : Q (.inl (some (.int (-1)))) (jG0 sc) h) :
    WP mX11_feed Q 16 [some (.ref 0), some (.int l1), some (.int l2), some (.int l3), some (.int l4), some (.int l5)] [] (jG0 sc) h (0, 0) := by
  refine j_iconst (n := (-1)) (-1) (by decide) dX11_feed_16 ?_
  exact j_iret rfl rfl (Nat.zero_le _) (Nat.zero_le _) dX11_feed_17 v1
set_option maxRecDepth 100000 in
theorem bX11_feed_18 {sc : Nat × (Nat → Int32)} {h : jH} {Q : jQ} {l1 l2 l3 l4 l5 : Int32} {P1 : jH → Prop} {P2 : jH → Prop} {P3 : jH → Prop}
    (k1 : JM mX8_add [.ref 1, .int l1] (jG0 sc) h (jvoid sc P1))
    (k2 : ∀ h1 : jH, P1 h1 → JM mX8_add [.ref 1, .int l2] (jG0 sc) h1 (jvoid sc P2))
    (k3 : ∀ h1 : jH, P1 h1 → ∀ h2 : jH, P2 h2 → JM mX8_add [.ref 1, .int l3] (jG0 sc) h2 (jvoid sc P3))
    (v1 : ∀ h1 : jH, P1 h1 → ∀ h2 : jH, P2 h2 → ∀ h3 : jH, P3 h3 → WP mX11_feed Q 46 [some (.ref 0), some (.int l1), some (.int l2), some (.int l3), some (.int l4), some (.int l5)] [.ref 1] (jG0 sc) h3 (0, 0)) :
    WP mX11_feed Q 18 [some (.ref 0), some (.int l1), some (.int l2), some (.int l3), some (.int l4), some (.int l5)] [] (jG0 sc) h (0, 0) := by
  refine j_aload_n (i := 0) rfl dX11_feed_18 ?_
  refine j_getR (idx := 12) (ci := 11) (k := 0) (nest := false) (show (11, 12, 11, 0, false) ∈ jFT by decide) rfl (Nat.le_of_ble_eq_true rfl) rfl (a := 1) rfl dX11_feed_19 ?_
  refine j_iload_n (i := 1) rfl dX11_feed_22 ?_
  refine j_callVN (idx := 102) (As := [.int l1]) (ci := 8) (n := 1) k1 jvoid_nt (jTbl (jtb2 179 rfl)) sX8_add kX8_add rfl ⟨rfl, by decide +kernel, by decide +kernel, by decide +kernel⟩ rfl ⟨by decide, by decide⟩ (Nat.le_of_ble_eq_true rfl) rfl (Nat.le_of_ble_eq_true rfl) (Nat.le_of_ble_eq_true rfl) ⟨Nat.zero_le _, Nat.zero_le _⟩ dX11_feed_23 (fun r Γ' h1 q => ?_)
  obtain ⟨q0, rfl, p1⟩ := q; cases q0
  refine j_eqst [] (by rfl) ?_
  refine j_aload_n (i := 0) rfl dX11_feed_26 ?_
  refine j_getR (idx := 12) (ci := 11) (k := 0) (nest := false) (show (11, 12, 11, 0, false) ∈ jFT by decide) rfl (Nat.le_of_ble_eq_true rfl) rfl (a := 1) rfl dX11_feed_27 ?_
  refine j_iload_n (i := 2) rfl dX11_feed_30 ?_
  refine j_callVN (idx := 102) (As := [.int l2]) (ci := 8) (n := 1) (k2 h1 p1) jvoid_nt (jTbl (jtb2 179 rfl)) sX8_add kX8_add rfl ⟨rfl, by decide +kernel, by decide +kernel, by decide +kernel⟩ rfl ⟨by decide, by decide⟩ (Nat.le_of_ble_eq_true rfl) rfl (Nat.le_of_ble_eq_true rfl) (Nat.le_of_ble_eq_true rfl) ⟨Nat.zero_le _, Nat.zero_le _⟩ dX11_feed_31 (fun r Γ' h2 q => ?_)
  obtain ⟨q0, rfl, p2⟩ := q; cases q0
  refine j_eqst [] (by rfl) ?_
  refine j_aload_n (i := 0) rfl dX11_feed_34 ?_
  refine j_getR (idx := 12) (ci := 11) (k := 0) (nest := false) (show (11, 12, 11, 0, false) ∈ jFT by decide) rfl (Nat.le_of_ble_eq_true rfl) rfl (a := 1) rfl dX11_feed_35 ?_
  refine j_iload_n (i := 3) rfl dX11_feed_38 ?_
  refine j_callVN (idx := 102) (As := [.int l3]) (ci := 8) (n := 1) (k3 h1 p1 h2 p2) jvoid_nt (jTbl (jtb2 179 rfl)) sX8_add kX8_add rfl ⟨rfl, by decide +kernel, by decide +kernel, by decide +kernel⟩ rfl ⟨by decide, by decide⟩ (Nat.le_of_ble_eq_true rfl) rfl (Nat.le_of_ble_eq_true rfl) (Nat.le_of_ble_eq_true rfl) ⟨Nat.zero_le _, Nat.zero_le _⟩ dX11_feed_39 (fun r Γ' h3 q => ?_)
  obtain ⟨q0, rfl, p3⟩ := q; cases q0
  refine j_eqst [] (by rfl) ?_
  refine j_aload_n (i := 0) rfl dX11_feed_42 ?_
  refine j_getR (idx := 12) (ci := 11) (k := 0) (nest := false) (show (11, 12, 11, 0, false) ∈ jFT by decide) rfl (Nat.le_of_ble_eq_true rfl) rfl (a := 1) rfl dX11_feed_43 ?_
  exact j_le [some (.ref 0), some (.int l1), some (.int l2), some (.int l3), some (.int l4), some (.int l5)] (And.intro rfl (And.intro rfl (And.intro rfl (And.intro rfl (And.intro rfl (And.intro rfl True.intro)))))) (v1 h1 p1 h2 p2 h3 p3)
set_option maxRecDepth 100000 in
theorem bX11_feed_46 {sc : Nat × (Nat → Int32)} {h : jH} {Q : jQ} {l1 l2 l3 l4 l5 : Int32} {P1 : jH → Prop} {P2 : jH → Prop}
    (k1 : JM mX8_add [.ref 1, .int l4] (jG0 sc) h (jvoid sc P1))
    (k2 : ∀ h1 : jH, P1 h1 → JM mX8_add [.ref 1, .int l5] (jG0 sc) h1 (jvoid sc P2))
    (v1 : ∀ h1 : jH, P1 h1 → ∀ h2 : jH, P2 h2 → Q (.inl (some (.int (h2 1 1)))) (jG0 sc) h2) :
    WP mX11_feed Q 46 [some (.ref 0), some (.int l1), some (.int l2), some (.int l3), some (.int l4), some (.int l5)] [.ref 1] (jG0 sc) h (0, 0) := by
  refine j_iload (i := 4) rfl dX11_feed_46 ?_
  refine j_callVN (idx := 102) (As := [.int l4]) (ci := 8) (n := 1) k1 jvoid_nt (jTbl (jtb2 179 rfl)) sX8_add kX8_add rfl ⟨rfl, by decide +kernel, by decide +kernel, by decide +kernel⟩ rfl ⟨by decide, by decide⟩ (Nat.le_of_ble_eq_true rfl) rfl (Nat.le_of_ble_eq_true rfl) (Nat.le_of_ble_eq_true rfl) ⟨Nat.zero_le _, Nat.zero_le _⟩ dX11_feed_48 (fun r Γ' h1 q => ?_)
  obtain ⟨q0, rfl, p1⟩ := q; cases q0
  refine j_eqst [] (by rfl) ?_
  refine j_aload_n (i := 0) rfl dX11_feed_51 ?_
  refine j_getR (idx := 12) (ci := 11) (k := 0) (nest := false) (show (11, 12, 11, 0, false) ∈ jFT by decide) rfl (Nat.le_of_ble_eq_true rfl) rfl (a := 1) rfl dX11_feed_52 ?_
  refine j_iload (i := 5) rfl dX11_feed_55 ?_
  refine j_callVN (idx := 102) (As := [.int l5]) (ci := 8) (n := 1) (k2 h1 p1) jvoid_nt (jTbl (jtb2 179 rfl)) sX8_add kX8_add rfl ⟨rfl, by decide +kernel, by decide +kernel, by decide +kernel⟩ rfl ⟨by decide, by decide⟩ (Nat.le_of_ble_eq_true rfl) rfl (Nat.le_of_ble_eq_true rfl) (Nat.le_of_ble_eq_true rfl) ⟨Nat.zero_le _, Nat.zero_le _⟩ dX11_feed_57 (fun r Γ' h2 q => ?_)
  obtain ⟨q0, rfl, p2⟩ := q; cases q0
  refine j_eqst [] (by rfl) ?_
  refine j_aload_n (i := 0) rfl dX11_feed_60 ?_
  refine j_getR (idx := 12) (ci := 11) (k := 0) (nest := false) (show (11, 12, 11, 0, false) ∈ jFT by decide) rfl (Nat.le_of_ble_eq_true rfl) rfl (a := 1) rfl dX11_feed_61 ?_
  refine j_getI (idx := 99) (ci := 8) (k := 1) (nest := true) (show (11, 99, 8, 1, true) ∈ jFT by decide) rfl (Nat.le_of_ble_eq_true rfl) rfl dX11_feed_64 ?_
  exact j_iret rfl rfl (Nat.zero_le _) (Nat.zero_le _) dX11_feed_67 (v1 h1 p1 h2 p2)
set_option maxRecDepth 100000 in
theorem rX11_feed_0 {sc : Nat × (Nat → Int32)} {h : jH} {Q : jQ} {l1 l2 l3 l4 l5 : Int32} {P1 : jH → Prop} {P2 : jH → Prop} {P3 : jH → Prop} {P4 : jH → Prop} {P5 : jH → Prop}
    (k1 : ((h 1 1) + 20) ≤ 400 → JM mX8_add [.ref 1, .int l1] (jG0 sc) h (jvoid sc P1))
    (k2 : ((h 1 1) + 20) ≤ 400 → ∀ h1 : jH, P1 h1 → JM mX8_add [.ref 1, .int l2] (jG0 sc) h1 (jvoid sc P2))
    (k3 : ((h 1 1) + 20) ≤ 400 → ∀ h1 : jH, P1 h1 → ∀ h2 : jH, P2 h2 → JM mX8_add [.ref 1, .int l3] (jG0 sc) h2 (jvoid sc P3))
    (k4 : ((h 1 1) + 20) ≤ 400 → ∀ h1 : jH, P1 h1 → ∀ h2 : jH, P2 h2 → ∀ h3 : jH, P3 h3 → JM mX8_add [.ref 1, .int l4] (jG0 sc) h3 (jvoid sc P4))
    (k5 : ((h 1 1) + 20) ≤ 400 → ∀ h1 : jH, P1 h1 → ∀ h2 : jH, P2 h2 → ∀ h3 : jH, P3 h3 → ∀ h4 : jH, P4 h4 → JM mX8_add [.ref 1, .int l5] (jG0 sc) h4 (jvoid sc P5))
    (v1 : ((h 1 1) + 20) ≤ 400 → ∀ h1 : jH, P1 h1 → ∀ h2 : jH, P2 h2 → ∀ h3 : jH, P3 h3 → ∀ h4 : jH, P4 h4 → ∀ h5 : jH, P5 h5 → Q (.inl (some (.int (h5 1 1)))) (jG0 sc) h5)
    (v2 : ¬ ((h 1 1) + 20) ≤ 400 → Q (.inl (some (.int (-1)))) (jG0 sc) h) :
    WP mX11_feed Q 0 [some (.ref 0), some (.int l1), some (.int l2), some (.int l3), some (.int l4), some (.int l5)] [] (jG0 sc) h (0, 0) := by
  exact (bX11_feed_0 (fun c1 => (bX11_feed_18 (k1 c1) (fun h1 p1 => (k2 c1 h1 p1)) (fun h1 p1 h2 p2 => (k3 c1 h1 p1 h2 p2)) (fun h1 p1 h2 p2 h3 p3 => (bX11_feed_46 (k4 c1 h1 p1 h2 p2 h3 p3) (fun h4 p4 => (k5 c1 h1 p1 h2 p2 h3 p3 h4 p4)) (fun h4 p4 h5 p5 => (v1 c1 h1 p1 h2 p2 h3 p3 h4 p4 h5 p5)))))) (fun c1 => (bX11_feed_16 (v2 c1))))
theorem dX11_end_0 : decode (mC mX11_end) 0 = .ok (.iload_n 1, 1) := by decide +kernel
theorem dX11_end_1 : decode (mC mX11_end) 1 = .ok (.ifCond .lt 14, 3) := by decide +kernel
theorem dX11_end_4 : decode (mC mX11_end) 4 = .ok (.iload_n 1, 1) := by decide +kernel
theorem dX11_end_5 : decode (mC mX11_end) 5 = .ok (.aload_n 0, 1) := by decide +kernel
theorem dX11_end_6 : decode (mC mX11_end) 6 = .ok (.getfield 12, 3) := by decide +kernel
theorem dX11_end_9 : decode (mC mX11_end) 9 = .ok (.getfield 99, 3) := by decide +kernel
theorem dX11_end_12 : decode (mC mX11_end) 12 = .ok (.if_icmp .le 5, 3) := by decide +kernel
theorem dX11_end_15 : decode (mC mX11_end) 15 = .ok (.iconst 0, 1) := by decide +kernel
theorem dX11_end_16 : decode (mC mX11_end) 16 = .ok (.ireturn, 1) := by decide +kernel
theorem dX11_end_17 : decode (mC mX11_end) 17 = .ok (.aload_n 0, 1) := by decide +kernel
theorem dX11_end_18 : decode (mC mX11_end) 18 = .ok (.getfield 12, 3) := by decide +kernel
theorem dX11_end_21 : decode (mC mX11_end) 21 = .ok (.iload_n 1, 1) := by decide +kernel
theorem dX11_end_22 : decode (mC mX11_end) 22 = .ok (.putfield 99, 3) := by decide +kernel
theorem dX11_end_25 : decode (mC mX11_end) 25 = .ok (.iconst 1, 1) := by decide +kernel
theorem dX11_end_26 : decode (mC mX11_end) 26 = .ok (.ireturn, 1) := by decide +kernel
set_option maxRecDepth 100000 in
theorem bX11_end_0 {sc : Nat × (Nat → Int32)} {h : jH} {Q : jQ} {l1 : Int32}
    (v1 : l1 < 0 → WP mX11_end Q 15 [some (.ref 0), some (.int l1)] [] (jG0 sc) h (0, 0))
    (v2 : ¬ l1 < 0 → WP mX11_end Q 4 [some (.ref 0), some (.int l1)] [] (jG0 sc) h (0, 0)) :
    WP mX11_end Q 0 [some (.ref 0), some (.int l1)] [] (jG0 sc) h (0, 0) := by
  refine j_iload_n (i := 1) rfl dX11_end_0 ?_
  refine j_if_lt (off := 14) 15 dX11_end_1 (by decide) (fun c1 => ?_) (fun c1 => ?_)
  · exact j_le [some (.ref 0), some (.int l1)] (And.intro rfl (And.intro rfl True.intro)) (v1 c1)
  · exact j_le [some (.ref 0), some (.int l1)] (And.intro rfl (And.intro rfl True.intro)) (v2 c1)
set_option maxRecDepth 100000 in
theorem bX11_end_4 {sc : Nat × (Nat → Int32)} {h : jH} {Q : jQ} {l1 : Int32}
    (v1 : l1 ≤ (h 1 1) → WP mX11_end Q 17 [some (.ref 0), some (.int l1)] [] (jG0 sc) h (0, 0))
    (v2 : ¬ l1 ≤ (h 1 1) → WP mX11_end Q 15 [some (.ref 0), some (.int l1)] [] (jG0 sc) h (0, 0)) :
    WP mX11_end Q 4 [some (.ref 0), some (.int l1)] [] (jG0 sc) h (0, 0) := by
  refine j_iload_n (i := 1) rfl dX11_end_4 ?_
  refine j_aload_n (i := 0) rfl dX11_end_5 ?_
  refine j_getR (idx := 12) (ci := 11) (k := 0) (nest := false) (show (11, 12, 11, 0, false) ∈ jFT by decide) rfl (Nat.le_of_ble_eq_true rfl) rfl (a := 1) rfl dX11_end_6 ?_
  refine j_getI (idx := 99) (ci := 8) (k := 1) (nest := true) (show (11, 99, 8, 1, true) ∈ jFT by decide) rfl (Nat.le_of_ble_eq_true rfl) rfl dX11_end_9 ?_
  refine j_icmp_le (off := 5) 17 dX11_end_12 (by decide) (fun c1 => ?_) (fun c1 => ?_)
  · exact j_le [some (.ref 0), some (.int l1)] (And.intro rfl (And.intro rfl True.intro)) (v1 c1)
  · exact j_le [some (.ref 0), some (.int l1)] (And.intro rfl (And.intro rfl True.intro)) (v2 c1)
set_option maxRecDepth 100000 in
theorem bX11_end_15 {sc : Nat × (Nat → Int32)} {h : jH} {Q : jQ} {l1 : Int32}
    (v1 : Q (.inl (some (.int 0))) (jG0 sc) h) :
    WP mX11_end Q 15 [some (.ref 0), some (.int l1)] [] (jG0 sc) h (0, 0) := by
  refine j_iconst (n := 0) 0 (by decide) dX11_end_15 ?_
  exact j_iret rfl rfl (Nat.zero_le _) (Nat.zero_le _) dX11_end_16 v1
set_option maxRecDepth 100000 in
theorem bX11_end_17 {sc : Nat × (Nat → Int32)} {h : jH} {Q : jQ} {l1 : Int32}
    (v1 : Q (.inl (some (.int 1))) (jG0 sc) (jput h 1 1 l1)) :
    WP mX11_end Q 17 [some (.ref 0), some (.int l1)] [] (jG0 sc) h (0, 0) := by
  refine j_aload_n (i := 0) rfl dX11_end_17 ?_
  refine j_getR (idx := 12) (ci := 11) (k := 0) (nest := false) (show (11, 12, 11, 0, false) ∈ jFT by decide) rfl (Nat.le_of_ble_eq_true rfl) rfl (a := 1) rfl dX11_end_18 ?_
  refine j_iload_n (i := 1) rfl dX11_end_21 ?_
  refine j_putI (idx := 99) (ci := 8) (k := 1) (nest := true) (show (11, 99, 8, 1, true) ∈ jFT by decide) rfl rfl rfl rfl (Nat.le_of_ble_eq_true rfl) rfl dX11_end_22 ?_
  refine j_iconst (n := 1) 1 (by decide) dX11_end_25 ?_
  exact j_iret rfl rfl (Nat.zero_le _) (Nat.zero_le _) dX11_end_26 v1
set_option maxRecDepth 100000 in
theorem rX11_end_0 {sc : Nat × (Nat → Int32)} {h : jH} {Q : jQ} {l1 : Int32}
    (v1 : l1 < 0 → Q (.inl (some (.int 0))) (jG0 sc) h)
    (v2 : ¬ l1 < 0 → l1 ≤ (h 1 1) → Q (.inl (some (.int 1))) (jG0 sc) (jput h 1 1 l1))
    (v3 : ¬ l1 < 0 → ¬ l1 ≤ (h 1 1) → Q (.inl (some (.int 0))) (jG0 sc) h) :
    WP mX11_end Q 0 [some (.ref 0), some (.int l1)] [] (jG0 sc) h (0, 0) := by
  exact (bX11_end_0 (fun c1 => (bX11_end_15 (v1 c1))) (fun c1 => (bX11_end_4 (fun c2 => (bX11_end_17 (v2 c1 c2))) (fun c2 => (bX11_end_15 (v3 c1 c2))))))
theorem dX11_body_0 : decode (mC mX11_body) 0 = .ok (.aload_n 0, 1) := by decide +kernel
theorem dX11_body_1 : decode (mC mX11_body) 1 = .ok (.aload_n 0, 1) := by decide +kernel
theorem dX11_body_2 : decode (mC mX11_body) 2 = .ok (.getfield 23, 3) := by decide +kernel
theorem dX11_body_5 : decode (mC mX11_body) 5 = .ok (.aload_n 0, 1) := by decide +kernel
theorem dX11_body_6 : decode (mC mX11_body) 6 = .ok (.getfield 12, 3) := by decide +kernel
theorem dX11_body_9 : decode (mC mX11_body) 9 = .ok (.invokevirtual 106, 3) := by decide +kernel
theorem dX11_body_12 : decode (mC mX11_body) 12 = .ok (.putfield 16, 3) := by decide +kernel
theorem dX11_body_15 : decode (mC mX11_body) 15 = .ok (.aload_n 0, 1) := by decide +kernel
theorem dX11_body_16 : decode (mC mX11_body) 16 = .ok (.getfield 12, 3) := by decide +kernel
theorem dX11_body_19 : decode (mC mX11_body) 19 = .ok (.iconst 0, 1) := by decide +kernel
theorem dX11_body_20 : decode (mC mX11_body) 20 = .ok (.putfield 99, 3) := by decide +kernel
theorem dX11_body_23 : decode (mC mX11_body) 23 = .ok (.aload_n 0, 1) := by decide +kernel
theorem dX11_body_24 : decode (mC mX11_body) 24 = .ok (.getfield 16, 3) := by decide +kernel
theorem dX11_body_27 : decode (mC mX11_body) 27 = .ok (.iconst (-1), 1) := by decide +kernel
theorem dX11_body_28 : decode (mC mX11_body) 28 = .ok (.if_icmp .eq 13, 3) := by decide +kernel
theorem dX11_body_31 : decode (mC mX11_body) 31 = .ok (.new 110, 3) := by decide +kernel
theorem dX11_body_34 : decode (mC mX11_body) 34 = .ok (.dup, 1) := by decide +kernel
theorem dX11_body_35 : decode (mC mX11_body) 35 = .ok (.ldc 112, 2) := by decide +kernel
theorem dX11_body_37 : decode (mC mX11_body) 37 = .ok (.invokespecial 114, 3) := by decide +kernel
theorem dX11_body_40 : decode (mC mX11_body) 40 = .ok (.athrow, 1) := by decide +kernel
theorem dX11_body_41 : decode (mC mX11_body) 41 = .ok (.iload_n 1, 1) := by decide +kernel
theorem dX11_body_42 : decode (mC mX11_body) 42 = .ok (.ifCond .eq 23, 3) := by decide +kernel
theorem dX11_body_45 : decode (mC mX11_body) 45 = .ok (.aload_n 0, 1) := by decide +kernel
theorem dX11_body_46 : decode (mC mX11_body) 46 = .ok (.getfield 37, 3) := by decide +kernel
theorem dX11_body_49 : decode (mC mX11_body) 49 = .ok (.getfield 117, 3) := by decide +kernel
theorem dX11_body_52 : decode (mC mX11_body) 52 = .ok (.aload_n 0, 1) := by decide +kernel
theorem dX11_body_53 : decode (mC mX11_body) 53 = .ok (.getfield 23, 3) := by decide +kernel
theorem dX11_body_56 : decode (mC mX11_body) 56 = .ok (.getfield 120, 3) := by decide +kernel
theorem dX11_body_59 : decode (mC mX11_body) 59 = .ok (.invokevirtual 123, 3) := by decide +kernel
theorem dX11_body_62 : decode (mC mX11_body) 62 = .ok (.goto 32, 3) := by decide +kernel
theorem dX11_body_65 : decode (mC mX11_body) 65 = .ok (.aload_n 0, 1) := by decide +kernel
theorem dX11_body_66 : decode (mC mX11_body) 66 = .ok (.getfield 37, 3) := by decide +kernel
theorem dX11_body_69 : decode (mC mX11_body) 69 = .ok (.getfield 127, 3) := by decide +kernel
theorem dX11_body_72 : decode (mC mX11_body) 72 = .ok (.aload_n 0, 1) := by decide +kernel
theorem dX11_body_73 : decode (mC mX11_body) 73 = .ok (.getfield 23, 3) := by decide +kernel
theorem dX11_body_76 : decode (mC mX11_body) 76 = .ok (.getfield 120, 3) := by decide +kernel
theorem dX11_body_79 : decode (mC mX11_body) 79 = .ok (.invokevirtual 123, 3) := by decide +kernel
theorem dX11_body_82 : decode (mC mX11_body) 82 = .ok (.aload_n 0, 1) := by decide +kernel
theorem dX11_body_83 : decode (mC mX11_body) 83 = .ok (.getfield 37, 3) := by decide +kernel
theorem dX11_body_86 : decode (mC mX11_body) 86 = .ok (.iconst 0, 1) := by decide +kernel
theorem dX11_body_87 : decode (mC mX11_body) 87 = .ok (.putfield 130, 3) := by decide +kernel
theorem dX11_body_90 : decode (mC mX11_body) 90 = .ok (.aload_n 0, 1) := by decide +kernel
theorem dX11_body_91 : decode (mC mX11_body) 91 = .ok (.invokevirtual 133, 3) := by decide +kernel
theorem dX11_body_94 : decode (mC mX11_body) 94 = .ok (.aload_n 0, 1) := by decide +kernel
theorem dX11_body_95 : decode (mC mX11_body) 95 = .ok (.getfield 23, 3) := by decide +kernel
theorem dX11_body_98 : decode (mC mX11_body) 98 = .ok (.getfield 120, 3) := by decide +kernel
theorem dX11_body_101 : decode (mC mX11_body) 101 = .ok (.getfield 136, 3) := by decide +kernel
theorem dX11_body_104 : decode (mC mX11_body) 104 = .ok (.ireturn, 1) := by decide +kernel
set_option maxRecDepth 100000 in
theorem bX11_body_0 {sc : Nat × (Nat → Int32)} {h : jH} {Q : jQ} {l1 : Int32} {P1 : Int32 → jH → Prop}
    (k1 : JM mX0_wrongIn [.ref 3, .ref 1] (jG0 sc) h (jint sc P1))
    (v1 : ∀ (x1 : Int32) (h1 : jH), P1 x1 h1 → ((jput (jput h1 0 1 x1) 1 1 0) 0 1) = (-1) → WP mX11_body Q 41 [some (.ref 0), some (.int l1)] [] (jG0 sc) (jput (jput h1 0 1 x1) 1 1 0) (0, 0))
    (v2 : ∀ (x1 : Int32) (h1 : jH), P1 x1 h1 → ¬ ((jput (jput h1 0 1 x1) 1 1 0) 0 1) = (-1) → WP mX11_body Q 31 [some (.ref 0), some (.int l1)] [] (jG0 sc) (jput (jput h1 0 1 x1) 1 1 0) (0, 0)) :
    WP mX11_body Q 0 [some (.ref 0), some (.int l1)] [] (jG0 sc) h (0, 0) := by
  refine j_aload_n (i := 0) rfl dX11_body_0 ?_
  refine j_aload_n (i := 0) rfl dX11_body_1 ?_
  refine j_getR (idx := 23) (ci := 11) (k := 2) (nest := false) (show (11, 23, 11, 2, false) ∈ jFT by decide) rfl (Nat.le_of_ble_eq_true rfl) rfl (a := 3) rfl dX11_body_2 ?_
  refine j_aload_n (i := 0) rfl dX11_body_5 ?_
  refine j_getR (idx := 12) (ci := 11) (k := 0) (nest := false) (show (11, 12, 11, 0, false) ∈ jFT by decide) rfl (Nat.le_of_ble_eq_true rfl) rfl (a := 1) rfl dX11_body_6 ?_
  refine j_callVN (idx := 106) (As := [.ref 1]) (ci := 0) (n := 1) k1 jint_nt (jTbl (jtb3 206 rfl)) sX0_wrongIn kX0_wrongIn rfl ⟨rfl, by decide +kernel, by decide +kernel, by decide +kernel⟩ rfl ⟨by decide, by decide⟩ (Nat.le_of_ble_eq_true rfl) rfl (Nat.le_of_ble_eq_true rfl) (Nat.le_of_ble_eq_true rfl) ⟨Nat.zero_le _, Nat.zero_le _⟩ dX11_body_9 (fun r Γ' h1 q => ?_)
  obtain ⟨x1, q0, rfl, p1⟩ := q; cases q0
  refine j_eqst [.int x1, .ref 0] (by rfl) ?_
  refine j_putI (idx := 16) (ci := 11) (k := 1) (nest := false) (show (11, 16, 11, 1, false) ∈ jFT by decide) rfl rfl rfl rfl (Nat.le_of_ble_eq_true rfl) rfl dX11_body_12 ?_
  refine j_aload_n (i := 0) rfl dX11_body_15 ?_
  refine j_getR (idx := 12) (ci := 11) (k := 0) (nest := false) (show (11, 12, 11, 0, false) ∈ jFT by decide) rfl (Nat.le_of_ble_eq_true rfl) rfl (a := 1) rfl dX11_body_16 ?_
  refine j_iconst (n := 0) 0 (by decide) dX11_body_19 ?_
  refine j_putI (idx := 99) (ci := 8) (k := 1) (nest := true) (show (11, 99, 8, 1, true) ∈ jFT by decide) rfl rfl rfl rfl (Nat.le_of_ble_eq_true rfl) rfl dX11_body_20 ?_
  refine j_aload_n (i := 0) rfl dX11_body_23 ?_
  refine j_getI (idx := 16) (ci := 11) (k := 1) (nest := false) (show (11, 16, 11, 1, false) ∈ jFT by decide) rfl (Nat.le_of_ble_eq_true rfl) rfl dX11_body_24 ?_
  refine j_iconst (n := (-1)) (-1) (by decide) dX11_body_27 ?_
  refine j_icmp_eq (off := 13) 41 dX11_body_28 (by decide) (fun c1 => ?_) (fun c1 => ?_)
  · exact j_le [some (.ref 0), some (.int l1)] (And.intro rfl (And.intro rfl True.intro)) (v1 x1 h1 p1 c1)
  · exact j_le [some (.ref 0), some (.int l1)] (And.intro rfl (And.intro rfl True.intro)) (v2 x1 h1 p1 c1)
set_option maxRecDepth 100000 in
theorem bX11_body_31 {sc : Nat × (Nat → Int32)} {h : jH} {Q : jQ} {l1 : Int32}
    (v1 : Q (.inr "java/lang/IllegalArgumentException") (jG0 sc) h) :
    WP mX11_body Q 31 [some (.ref 0), some (.int l1)] [] (jG0 sc) h (0, 0) := by
  exact j_thr_IAE (is := 112) "the text is no BODY" 23 (by decide +kernel) rfl rfl (by decide) (by decide) (Nat.le_of_ble_eq_true rfl) dX11_body_31 dX11_body_34 dX11_body_35 dX11_body_37 dX11_body_40 v1
set_option maxRecDepth 100000 in
theorem bX11_body_41 {sc : Nat × (Nat → Int32)} {h : jH} {Q : jQ} {l1 : Int32}
    (v1 : l1 = 0 → WP mX11_body Q 65 [some (.ref 0), some (.int l1)] [] (jG0 sc) h (0, 0))
    (v2 : ¬ l1 = 0 → WP mX11_body Q 45 [some (.ref 0), some (.int l1)] [] (jG0 sc) h (0, 0)) :
    WP mX11_body Q 41 [some (.ref 0), some (.int l1)] [] (jG0 sc) h (0, 0) := by
  refine j_iload_n (i := 1) rfl dX11_body_41 ?_
  refine j_if_eq (off := 23) 65 dX11_body_42 (by decide) (fun c1 => ?_) (fun c1 => ?_)
  · exact j_le [some (.ref 0), some (.int l1)] (And.intro rfl (And.intro rfl True.intro)) (v1 c1)
  · exact j_le [some (.ref 0), some (.int l1)] (And.intro rfl (And.intro rfl True.intro)) (v2 c1)
set_option maxRecDepth 100000 in
theorem bX11_body_45 {sc : Nat × (Nat → Int32)} {h : jH} {Q : jQ} {l1 : Int32} {P1 : jH → Prop}
    (k1 : JM mX4_copyOf [.ref 12, .ref 4] (jG0 sc) h (jvoid sc P1))
    (v1 : ∀ h1 : jH, P1 h1 → WP mX11_body Q 94 [some (.ref 0), some (.int l1)] [] (jG0 sc) h1 (0, 0)) :
    WP mX11_body Q 45 [some (.ref 0), some (.int l1)] [] (jG0 sc) h (0, 0) := by
  refine j_aload_n (i := 0) rfl dX11_body_45 ?_
  refine j_getR (idx := 37) (ci := 11) (k := 4) (nest := false) (show (11, 37, 11, 4, false) ∈ jFT by decide) rfl (Nat.le_of_ble_eq_true rfl) rfl (a := 9) rfl dX11_body_46 ?_
  refine j_getR (idx := 117) (ci := 6) (k := 1) (nest := true) (show (11, 117, 6, 1, true) ∈ jFT by decide) rfl (Nat.le_of_ble_eq_true rfl) rfl (a := 12) rfl dX11_body_49 ?_
  refine j_aload_n (i := 0) rfl dX11_body_52 ?_
  refine j_getR (idx := 23) (ci := 11) (k := 2) (nest := false) (show (11, 23, 11, 2, false) ∈ jFT by decide) rfl (Nat.le_of_ble_eq_true rfl) rfl (a := 3) rfl dX11_body_53 ?_
  refine j_getR (idx := 120) (ci := 0) (k := 0) (nest := true) (show (11, 120, 0, 0, true) ∈ jFT by decide) rfl (Nat.le_of_ble_eq_true rfl) rfl (a := 4) rfl dX11_body_56 ?_
  refine j_callVN (idx := 123) (As := [.ref 4]) (ci := 4) (n := 1) k1 jvoid_nt (jTbl (jtb4 150 rfl)) sX4_copyOf kX4_copyOf rfl ⟨rfl, by decide +kernel, by decide +kernel, by decide +kernel⟩ rfl ⟨by decide, by decide⟩ (Nat.le_of_ble_eq_true rfl) rfl (Nat.le_of_ble_eq_true rfl) (Nat.le_of_ble_eq_true rfl) ⟨Nat.zero_le _, Nat.zero_le _⟩ dX11_body_59 (fun r Γ' h1 q => ?_)
  obtain ⟨q0, rfl, p1⟩ := q; cases q0
  refine j_eqst [] (by rfl) ?_
  refine j_goto (off := 32) 94 dX11_body_62 (by decide) ?_
  exact j_le [some (.ref 0), some (.int l1)] (And.intro rfl (And.intro rfl True.intro)) (v1 h1 p1)
set_option maxRecDepth 100000 in
theorem bX11_body_65 {sc : Nat × (Nat → Int32)} {h : jH} {Q : jQ} {l1 : Int32} {P1 : jH → Prop} {P2 : jH → Prop}
    (k1 : JM mX4_copyOf [.ref 10, .ref 4] (jG0 sc) h (jvoid sc P1))
    (k2 : ∀ h1 : jH, P1 h1 → JM mX11_beginAnew [.ref 0] (jG0 sc) (jput h1 9 7 0) (jvoid sc P2))
    (v1 : ∀ h1 : jH, P1 h1 → ∀ h2 : jH, P2 h2 → WP mX11_body Q 94 [some (.ref 0), some (.int l1)] [] (jG0 sc) h2 (0, 0)) :
    WP mX11_body Q 65 [some (.ref 0), some (.int l1)] [] (jG0 sc) h (0, 0) := by
  refine j_aload_n (i := 0) rfl dX11_body_65 ?_
  refine j_getR (idx := 37) (ci := 11) (k := 4) (nest := false) (show (11, 37, 11, 4, false) ∈ jFT by decide) rfl (Nat.le_of_ble_eq_true rfl) rfl (a := 9) rfl dX11_body_66 ?_
  refine j_getR (idx := 127) (ci := 6) (k := 0) (nest := true) (show (11, 127, 6, 0, true) ∈ jFT by decide) rfl (Nat.le_of_ble_eq_true rfl) rfl (a := 10) rfl dX11_body_69 ?_
  refine j_aload_n (i := 0) rfl dX11_body_72 ?_
  refine j_getR (idx := 23) (ci := 11) (k := 2) (nest := false) (show (11, 23, 11, 2, false) ∈ jFT by decide) rfl (Nat.le_of_ble_eq_true rfl) rfl (a := 3) rfl dX11_body_73 ?_
  refine j_getR (idx := 120) (ci := 0) (k := 0) (nest := true) (show (11, 120, 0, 0, true) ∈ jFT by decide) rfl (Nat.le_of_ble_eq_true rfl) rfl (a := 4) rfl dX11_body_76 ?_
  refine j_callVN (idx := 123) (As := [.ref 4]) (ci := 4) (n := 1) k1 jvoid_nt (jTbl (jtb4 150 rfl)) sX4_copyOf kX4_copyOf rfl ⟨rfl, by decide +kernel, by decide +kernel, by decide +kernel⟩ rfl ⟨by decide, by decide⟩ (Nat.le_of_ble_eq_true rfl) rfl (Nat.le_of_ble_eq_true rfl) (Nat.le_of_ble_eq_true rfl) ⟨Nat.zero_le _, Nat.zero_le _⟩ dX11_body_79 (fun r Γ' h1 q => ?_)
  obtain ⟨q0, rfl, p1⟩ := q; cases q0
  refine j_eqst [] (by rfl) ?_
  refine j_aload_n (i := 0) rfl dX11_body_82 ?_
  refine j_getR (idx := 37) (ci := 11) (k := 4) (nest := false) (show (11, 37, 11, 4, false) ∈ jFT by decide) rfl (Nat.le_of_ble_eq_true rfl) rfl (a := 9) rfl dX11_body_83 ?_
  refine j_iconst (n := 0) 0 (by decide) dX11_body_86 ?_
  refine j_putI (idx := 130) (ci := 6) (k := 7) (nest := true) (show (11, 130, 6, 7, true) ∈ jFT by decide) rfl rfl rfl rfl (Nat.le_of_ble_eq_true rfl) rfl dX11_body_87 ?_
  refine j_aload_n (i := 0) rfl dX11_body_90 ?_
  refine j_callV (idx := 133) (As := []) (ci := 11) (n := 0) (k2 h1 p1) jvoid_nt (jlkT (jtb3 89 rfl) rfl) sX11_beginAnew kX11_beginAnew rfl ⟨rfl, by decide +kernel, by decide +kernel, by decide +kernel⟩ rfl ⟨by decide, by decide⟩ (Nat.le_of_ble_eq_true rfl) rfl (Nat.le_of_ble_eq_true rfl) (Nat.le_of_ble_eq_true rfl) ⟨Nat.zero_le _, Nat.zero_le _⟩ dX11_body_91 (fun r Γ' h2 q => ?_)
  obtain ⟨q0, rfl, p2⟩ := q; cases q0
  refine j_eqst [] (by rfl) ?_
  exact j_le [some (.ref 0), some (.int l1)] (And.intro rfl (And.intro rfl True.intro)) (v1 h1 p1 h2 p2)
set_option maxRecDepth 100000 in
theorem bX11_body_94 {sc : Nat × (Nat → Int32)} {h : jH} {Q : jQ} {l1 : Int32}
    (v1 : Q (.inl (some (.int (h 4 1)))) (jG0 sc) h) :
    WP mX11_body Q 94 [some (.ref 0), some (.int l1)] [] (jG0 sc) h (0, 0) := by
  refine j_aload_n (i := 0) rfl dX11_body_94 ?_
  refine j_getR (idx := 23) (ci := 11) (k := 2) (nest := false) (show (11, 23, 11, 2, false) ∈ jFT by decide) rfl (Nat.le_of_ble_eq_true rfl) rfl (a := 3) rfl dX11_body_95 ?_
  refine j_getR (idx := 120) (ci := 0) (k := 0) (nest := true) (show (11, 120, 0, 0, true) ∈ jFT by decide) rfl (Nat.le_of_ble_eq_true rfl) rfl (a := 4) rfl dX11_body_98 ?_
  refine j_getI (idx := 136) (ci := 4) (k := 1) (nest := true) (show (11, 136, 4, 1, true) ∈ jFT by decide) rfl (Nat.le_of_ble_eq_true rfl) rfl dX11_body_101 ?_
  exact j_iret rfl rfl (Nat.zero_le _) (Nat.zero_le _) dX11_body_104 v1
set_option maxRecDepth 100000 in
theorem rX11_body_0 {sc : Nat × (Nat → Int32)} {h : jH} {Q : jQ} {l1 : Int32} {P1 : Int32 → jH → Prop} {P2 : jH → Prop} {P3 : jH → Prop} {P4 : jH → Prop}
    (k1 : JM mX0_wrongIn [.ref 3, .ref 1] (jG0 sc) h (jint sc P1))
    (k2 : ∀ (x1 : Int32) (h1 : jH), P1 x1 h1 → ((jput (jput h1 0 1 x1) 1 1 0) 0 1) = (-1) → l1 = 0 → JM mX4_copyOf [.ref 10, .ref 4] (jG0 sc) (jput (jput h1 0 1 x1) 1 1 0) (jvoid sc P2))
    (k3 : ∀ (x1 : Int32) (h1 : jH), P1 x1 h1 → ((jput (jput h1 0 1 x1) 1 1 0) 0 1) = (-1) → l1 = 0 → ∀ h2 : jH, P2 h2 → JM mX11_beginAnew [.ref 0] (jG0 sc) (jput h2 9 7 0) (jvoid sc P3))
    (v1 : ∀ (x1 : Int32) (h1 : jH), P1 x1 h1 → ((jput (jput h1 0 1 x1) 1 1 0) 0 1) = (-1) → l1 = 0 → ∀ h2 : jH, P2 h2 → ∀ h3 : jH, P3 h3 → Q (.inl (some (.int (h3 4 1)))) (jG0 sc) h3)
    (k4 : ∀ (x1 : Int32) (h1 : jH), P1 x1 h1 → ((jput (jput h1 0 1 x1) 1 1 0) 0 1) = (-1) → ¬ l1 = 0 → JM mX4_copyOf [.ref 12, .ref 4] (jG0 sc) (jput (jput h1 0 1 x1) 1 1 0) (jvoid sc P4))
    (v2 : ∀ (x1 : Int32) (h1 : jH), P1 x1 h1 → ((jput (jput h1 0 1 x1) 1 1 0) 0 1) = (-1) → ¬ l1 = 0 → ∀ h4 : jH, P4 h4 → Q (.inl (some (.int (h4 4 1)))) (jG0 sc) h4)
    (v3 : ∀ (x1 : Int32) (h1 : jH), P1 x1 h1 → ¬ ((jput (jput h1 0 1 x1) 1 1 0) 0 1) = (-1) → Q (.inr "java/lang/IllegalArgumentException") (jG0 sc) (jput (jput h1 0 1 x1) 1 1 0)) :
    WP mX11_body Q 0 [some (.ref 0), some (.int l1)] [] (jG0 sc) h (0, 0) := by
  exact (bX11_body_0 k1 (fun x1 h1 p1 c1 => (bX11_body_41 (fun c2 => (bX11_body_65 (k2 x1 h1 p1 c1 c2) (fun h2 p2 => (k3 x1 h1 p1 c1 c2 h2 p2)) (fun h2 p2 h3 p3 => (bX11_body_94 (v1 x1 h1 p1 c1 c2 h2 p2 h3 p3))))) (fun c2 => (bX11_body_45 (k4 x1 h1 p1 c1 c2) (fun h4 p4 => (bX11_body_94 (v2 x1 h1 p1 c1 c2 h4 p4))))))) (fun x1 h1 p1 c1 => (bX11_body_31 (v3 x1 h1 p1 c1))))
theorem dX11_law_0 : decode (mC mX11_law) 0 = .ok (.aload_n 0, 1) := by decide +kernel
theorem dX11_law_1 : decode (mC mX11_law) 1 = .ok (.aload_n 0, 1) := by decide +kernel
theorem dX11_law_2 : decode (mC mX11_law) 2 = .ok (.getfield 30, 3) := by decide +kernel
theorem dX11_law_5 : decode (mC mX11_law) 5 = .ok (.aload_n 0, 1) := by decide +kernel
theorem dX11_law_6 : decode (mC mX11_law) 6 = .ok (.getfield 12, 3) := by decide +kernel
theorem dX11_law_9 : decode (mC mX11_law) 9 = .ok (.invokevirtual 137, 3) := by decide +kernel
theorem dX11_law_12 : decode (mC mX11_law) 12 = .ok (.putfield 16, 3) := by decide +kernel
theorem dX11_law_15 : decode (mC mX11_law) 15 = .ok (.aload_n 0, 1) := by decide +kernel
theorem dX11_law_16 : decode (mC mX11_law) 16 = .ok (.getfield 12, 3) := by decide +kernel
theorem dX11_law_19 : decode (mC mX11_law) 19 = .ok (.iconst 0, 1) := by decide +kernel
theorem dX11_law_20 : decode (mC mX11_law) 20 = .ok (.putfield 99, 3) := by decide +kernel
theorem dX11_law_23 : decode (mC mX11_law) 23 = .ok (.aload_n 0, 1) := by decide +kernel
theorem dX11_law_24 : decode (mC mX11_law) 24 = .ok (.getfield 16, 3) := by decide +kernel
theorem dX11_law_27 : decode (mC mX11_law) 27 = .ok (.iconst (-1), 1) := by decide +kernel
theorem dX11_law_28 : decode (mC mX11_law) 28 = .ok (.if_icmp .eq 13, 3) := by decide +kernel
theorem dX11_law_31 : decode (mC mX11_law) 31 = .ok (.new 110, 3) := by decide +kernel
theorem dX11_law_34 : decode (mC mX11_law) 34 = .ok (.dup, 1) := by decide +kernel
theorem dX11_law_35 : decode (mC mX11_law) 35 = .ok (.ldc 138, 2) := by decide +kernel
theorem dX11_law_37 : decode (mC mX11_law) 37 = .ok (.invokespecial 114, 3) := by decide +kernel
theorem dX11_law_40 : decode (mC mX11_law) 40 = .ok (.athrow, 1) := by decide +kernel
theorem dX11_law_41 : decode (mC mX11_law) 41 = .ok (.aload_n 0, 1) := by decide +kernel
theorem dX11_law_42 : decode (mC mX11_law) 42 = .ok (.getfield 37, 3) := by decide +kernel
theorem dX11_law_45 : decode (mC mX11_law) 45 = .ok (.getfield 140, 3) := by decide +kernel
theorem dX11_law_48 : decode (mC mX11_law) 48 = .ok (.aload_n 0, 1) := by decide +kernel
theorem dX11_law_49 : decode (mC mX11_law) 49 = .ok (.getfield 30, 3) := by decide +kernel
theorem dX11_law_52 : decode (mC mX11_law) 52 = .ok (.getfield 144, 3) := by decide +kernel
theorem dX11_law_55 : decode (mC mX11_law) 55 = .ok (.invokevirtual 146, 3) := by decide +kernel
theorem dX11_law_58 : decode (mC mX11_law) 58 = .ok (.iconst 1, 1) := by decide +kernel
theorem dX11_law_59 : decode (mC mX11_law) 59 = .ok (.ireturn, 1) := by decide +kernel
set_option maxRecDepth 100000 in
theorem bX11_law_0 {sc : Nat × (Nat → Int32)} {h : jH} {Q : jQ} {P1 : Int32 → jH → Prop}
    (k1 : JM mX2_wrongIn [.ref 6, .ref 1] (jG0 sc) h (jint sc P1))
    (v1 : ∀ (x1 : Int32) (h1 : jH), P1 x1 h1 → ((jput (jput h1 0 1 x1) 1 1 0) 0 1) = (-1) → WP mX11_law Q 41 [some (.ref 0)] [] (jG0 sc) (jput (jput h1 0 1 x1) 1 1 0) (0, 0))
    (v2 : ∀ (x1 : Int32) (h1 : jH), P1 x1 h1 → ¬ ((jput (jput h1 0 1 x1) 1 1 0) 0 1) = (-1) → WP mX11_law Q 31 [some (.ref 0)] [] (jG0 sc) (jput (jput h1 0 1 x1) 1 1 0) (0, 0)) :
    WP mX11_law Q 0 [some (.ref 0)] [] (jG0 sc) h (0, 0) := by
  refine j_aload_n (i := 0) rfl dX11_law_0 ?_
  refine j_aload_n (i := 0) rfl dX11_law_1 ?_
  refine j_getR (idx := 30) (ci := 11) (k := 3) (nest := false) (show (11, 30, 11, 3, false) ∈ jFT by decide) rfl (Nat.le_of_ble_eq_true rfl) rfl (a := 6) rfl dX11_law_2 ?_
  refine j_aload_n (i := 0) rfl dX11_law_5 ?_
  refine j_getR (idx := 12) (ci := 11) (k := 0) (nest := false) (show (11, 12, 11, 0, false) ∈ jFT by decide) rfl (Nat.le_of_ble_eq_true rfl) rfl (a := 1) rfl dX11_law_6 ?_
  refine j_callVN (idx := 137) (As := [.ref 1]) (ci := 2) (n := 1) k1 jint_nt (jTbl (jtb4 158 rfl)) sX2_wrongIn kX2_wrongIn rfl ⟨rfl, by decide +kernel, by decide +kernel, by decide +kernel⟩ rfl ⟨by decide, by decide⟩ (Nat.le_of_ble_eq_true rfl) rfl (Nat.le_of_ble_eq_true rfl) (Nat.le_of_ble_eq_true rfl) ⟨Nat.zero_le _, Nat.zero_le _⟩ dX11_law_9 (fun r Γ' h1 q => ?_)
  obtain ⟨x1, q0, rfl, p1⟩ := q; cases q0
  refine j_eqst [.int x1, .ref 0] (by rfl) ?_
  refine j_putI (idx := 16) (ci := 11) (k := 1) (nest := false) (show (11, 16, 11, 1, false) ∈ jFT by decide) rfl rfl rfl rfl (Nat.le_of_ble_eq_true rfl) rfl dX11_law_12 ?_
  refine j_aload_n (i := 0) rfl dX11_law_15 ?_
  refine j_getR (idx := 12) (ci := 11) (k := 0) (nest := false) (show (11, 12, 11, 0, false) ∈ jFT by decide) rfl (Nat.le_of_ble_eq_true rfl) rfl (a := 1) rfl dX11_law_16 ?_
  refine j_iconst (n := 0) 0 (by decide) dX11_law_19 ?_
  refine j_putI (idx := 99) (ci := 8) (k := 1) (nest := true) (show (11, 99, 8, 1, true) ∈ jFT by decide) rfl rfl rfl rfl (Nat.le_of_ble_eq_true rfl) rfl dX11_law_20 ?_
  refine j_aload_n (i := 0) rfl dX11_law_23 ?_
  refine j_getI (idx := 16) (ci := 11) (k := 1) (nest := false) (show (11, 16, 11, 1, false) ∈ jFT by decide) rfl (Nat.le_of_ble_eq_true rfl) rfl dX11_law_24 ?_
  refine j_iconst (n := (-1)) (-1) (by decide) dX11_law_27 ?_
  refine j_icmp_eq (off := 13) 41 dX11_law_28 (by decide) (fun c1 => ?_) (fun c1 => ?_)
  · exact j_le [some (.ref 0)] (And.intro rfl True.intro) (v1 x1 h1 p1 c1)
  · exact j_le [some (.ref 0)] (And.intro rfl True.intro) (v2 x1 h1 p1 c1)
set_option maxRecDepth 100000 in
theorem bX11_law_31 {sc : Nat × (Nat → Int32)} {h : jH} {Q : jQ}
    (v1 : Q (.inr "java/lang/IllegalArgumentException") (jG0 sc) h) :
    WP mX11_law Q 31 [some (.ref 0)] [] (jG0 sc) h (0, 0) := by
  exact j_thr_IAE (is := 138) "the text is no LAW" 24 (by decide +kernel) rfl rfl (by decide) (by decide) (Nat.le_of_ble_eq_true rfl) dX11_law_31 dX11_law_34 dX11_law_35 dX11_law_37 dX11_law_40 v1
set_option maxRecDepth 100000 in
theorem bX11_law_41 {sc : Nat × (Nat → Int32)} {h : jH} {Q : jQ} {P1 : jH → Prop}
    (k1 : JM mX1_copyOf [.ref 18, .ref 7] (jG0 sc) h (jvoid sc P1))
    (v1 : ∀ h1 : jH, P1 h1 → Q (.inl (some (.int 1))) (jG0 sc) h1) :
    WP mX11_law Q 41 [some (.ref 0)] [] (jG0 sc) h (0, 0) := by
  refine j_aload_n (i := 0) rfl dX11_law_41 ?_
  refine j_getR (idx := 37) (ci := 11) (k := 4) (nest := false) (show (11, 37, 11, 4, false) ∈ jFT by decide) rfl (Nat.le_of_ble_eq_true rfl) rfl (a := 9) rfl dX11_law_42 ?_
  refine j_getR (idx := 140) (ci := 6) (k := 3) (nest := true) (show (11, 140, 6, 3, true) ∈ jFT by decide) rfl (Nat.le_of_ble_eq_true rfl) rfl (a := 18) rfl dX11_law_45 ?_
  refine j_aload_n (i := 0) rfl dX11_law_48 ?_
  refine j_getR (idx := 30) (ci := 11) (k := 3) (nest := false) (show (11, 30, 11, 3, false) ∈ jFT by decide) rfl (Nat.le_of_ble_eq_true rfl) rfl (a := 6) rfl dX11_law_49 ?_
  refine j_getR (idx := 144) (ci := 2) (k := 0) (nest := true) (show (11, 144, 2, 0, true) ∈ jFT by decide) rfl (Nat.le_of_ble_eq_true rfl) rfl (a := 7) rfl dX11_law_52 ?_
  refine j_callVN (idx := 146) (As := [.ref 7]) (ci := 1) (n := 1) k1 jvoid_nt (jTbl (jtb4 201 rfl)) sX1_copyOf kX1_copyOf rfl ⟨rfl, by decide +kernel, by decide +kernel, by decide +kernel⟩ rfl ⟨by decide, by decide⟩ (Nat.le_of_ble_eq_true rfl) rfl (Nat.le_of_ble_eq_true rfl) (Nat.le_of_ble_eq_true rfl) ⟨Nat.zero_le _, Nat.zero_le _⟩ dX11_law_55 (fun r Γ' h1 q => ?_)
  obtain ⟨q0, rfl, p1⟩ := q; cases q0
  refine j_eqst [] (by rfl) ?_
  refine j_iconst (n := 1) 1 (by decide) dX11_law_58 ?_
  exact j_iret rfl rfl (Nat.zero_le _) (Nat.zero_le _) dX11_law_59 (v1 h1 p1)
set_option maxRecDepth 100000 in
theorem rX11_law_0 {sc : Nat × (Nat → Int32)} {h : jH} {Q : jQ} {P1 : Int32 → jH → Prop} {P2 : jH → Prop}
    (k1 : JM mX2_wrongIn [.ref 6, .ref 1] (jG0 sc) h (jint sc P1))
    (k2 : ∀ (x1 : Int32) (h1 : jH), P1 x1 h1 → ((jput (jput h1 0 1 x1) 1 1 0) 0 1) = (-1) → JM mX1_copyOf [.ref 18, .ref 7] (jG0 sc) (jput (jput h1 0 1 x1) 1 1 0) (jvoid sc P2))
    (v1 : ∀ (x1 : Int32) (h1 : jH), P1 x1 h1 → ((jput (jput h1 0 1 x1) 1 1 0) 0 1) = (-1) → ∀ h2 : jH, P2 h2 → Q (.inl (some (.int 1))) (jG0 sc) h2)
    (v2 : ∀ (x1 : Int32) (h1 : jH), P1 x1 h1 → ¬ ((jput (jput h1 0 1 x1) 1 1 0) 0 1) = (-1) → Q (.inr "java/lang/IllegalArgumentException") (jG0 sc) (jput (jput h1 0 1 x1) 1 1 0)) :
    WP mX11_law Q 0 [some (.ref 0)] [] (jG0 sc) h (0, 0) := by
  exact (bX11_law_0 k1 (fun x1 h1 p1 c1 => (bX11_law_41 (k2 x1 h1 p1 c1) (fun h2 p2 => (v1 x1 h1 p1 c1 h2 p2)))) (fun x1 h1 p1 c1 => (bX11_law_31 (v2 x1 h1 p1 c1))))
theorem dX11_fault_0 : decode (mC mX11_fault) 0 = .ok (.aload_n 0, 1) := by decide +kernel
theorem dX11_fault_1 : decode (mC mX11_fault) 1 = .ok (.getfield 16, 3) := by decide +kernel
theorem dX11_fault_4 : decode (mC mX11_fault) 4 = .ok (.ireturn, 1) := by decide +kernel
set_option maxRecDepth 100000 in
theorem bX11_fault_0 {sc : Nat × (Nat → Int32)} {h : jH} {Q : jQ}
    (v1 : Q (.inl (some (.int (h 0 1)))) (jG0 sc) h) :
    WP mX11_fault Q 0 [some (.ref 0)] [] (jG0 sc) h (0, 0) := by
  refine j_aload_n (i := 0) rfl dX11_fault_0 ?_
  refine j_getI (idx := 16) (ci := 11) (k := 1) (nest := false) (show (11, 16, 11, 1, false) ∈ jFT by decide) rfl (Nat.le_of_ble_eq_true rfl) rfl dX11_fault_1 ?_
  exact j_iret rfl rfl (Nat.zero_le _) (Nat.zero_le _) dX11_fault_4 v1
set_option maxRecDepth 100000 in
theorem rX11_fault_0 {sc : Nat × (Nat → Int32)} {h : jH} {Q : jQ}
    (v1 : Q (.inl (some (.int (h 0 1)))) (jG0 sc) h) :
    WP mX11_fault Q 0 [some (.ref 0)] [] (jG0 sc) h (0, 0) := by
  exact (bX11_fault_0 v1)
theorem dX11_beginAnew_0 : decode (mC mX11_beginAnew) 0 = .ok (.aload_n 0, 1) := by decide +kernel
theorem dX11_beginAnew_1 : decode (mC mX11_beginAnew) 1 = .ok (.getfield 37, 3) := by decide +kernel
theorem dX11_beginAnew_4 : decode (mC mX11_beginAnew) 4 = .ok (.getfield 151, 3) := by decide +kernel
theorem dX11_beginAnew_7 : decode (mC mX11_beginAnew) 7 = .ok (.invokevirtual 155, 3) := by decide +kernel
theorem dX11_beginAnew_10 : decode (mC mX11_beginAnew) 10 = .ok (.aload_n 0, 1) := by decide +kernel
theorem dX11_beginAnew_11 : decode (mC mX11_beginAnew) 11 = .ok (.getfield 61, 3) := by decide +kernel
theorem dX11_beginAnew_14 : decode (mC mX11_beginAnew) 14 = .ok (.aload_n 0, 1) := by decide +kernel
theorem dX11_beginAnew_15 : decode (mC mX11_beginAnew) 15 = .ok (.getfield 37, 3) := by decide +kernel
theorem dX11_beginAnew_18 : decode (mC mX11_beginAnew) 18 = .ok (.getfield 127, 3) := by decide +kernel
theorem dX11_beginAnew_21 : decode (mC mX11_beginAnew) 21 = .ok (.invokevirtual 160, 3) := by decide +kernel
theorem dX11_beginAnew_24 : decode (mC mX11_beginAnew) 24 = .ok (.return_, 1) := by decide +kernel
set_option maxRecDepth 100000 in
theorem bX11_beginAnew_0 {sc : Nat × (Nat → Int32)} {h : jH} {Q : jQ} {P1 : jH → Prop} {P2 : jH → Prop}
    (k1 : JM mX9_forget [.ref 20] (jG0 sc) h (jvoid sc P1))
    (k2 : ∀ h1 : jH, P1 h1 → JM mX3_of [.ref 75, .ref 10] (jG0 sc) h1 (jvoid sc P2))
    (v1 : ∀ h1 : jH, P1 h1 → ∀ h2 : jH, P2 h2 → Q (.inl none) (jG0 sc) h2) :
    WP mX11_beginAnew Q 0 [some (.ref 0)] [] (jG0 sc) h (0, 0) := by
  refine j_aload_n (i := 0) rfl dX11_beginAnew_0 ?_
  refine j_getR (idx := 37) (ci := 11) (k := 4) (nest := false) (show (11, 37, 11, 4, false) ∈ jFT by decide) rfl (Nat.le_of_ble_eq_true rfl) rfl (a := 9) rfl dX11_beginAnew_1 ?_
  refine j_getR (idx := 151) (ci := 6) (k := 4) (nest := true) (show (11, 151, 6, 4, true) ∈ jFT by decide) rfl (Nat.le_of_ble_eq_true rfl) rfl (a := 20) rfl dX11_beginAnew_4 ?_
  refine j_callVN (idx := 155) (As := []) (ci := 9) (n := 0) k1 jvoid_nt (jTbl (jtb3 93 rfl)) sX9_forget kX9_forget rfl ⟨rfl, by decide +kernel, by decide +kernel, by decide +kernel⟩ rfl ⟨by decide, by decide⟩ (Nat.le_of_ble_eq_true rfl) rfl (Nat.le_of_ble_eq_true rfl) (Nat.le_of_ble_eq_true rfl) ⟨Nat.zero_le _, Nat.zero_le _⟩ dX11_beginAnew_7 (fun r Γ' h1 q => ?_)
  obtain ⟨q0, rfl, p1⟩ := q; cases q0
  refine j_eqst [] (by rfl) ?_
  refine j_aload_n (i := 0) rfl dX11_beginAnew_10 ?_
  refine j_getR (idx := 61) (ci := 11) (k := 9) (nest := false) (show (11, 61, 11, 9, false) ∈ jFT by decide) rfl (Nat.le_of_ble_eq_true rfl) rfl (a := 75) rfl dX11_beginAnew_11 ?_
  refine j_aload_n (i := 0) rfl dX11_beginAnew_14 ?_
  refine j_getR (idx := 37) (ci := 11) (k := 4) (nest := false) (show (11, 37, 11, 4, false) ∈ jFT by decide) rfl (Nat.le_of_ble_eq_true rfl) rfl (a := 9) rfl dX11_beginAnew_15 ?_
  refine j_getR (idx := 127) (ci := 6) (k := 0) (nest := true) (show (11, 127, 6, 0, true) ∈ jFT by decide) rfl (Nat.le_of_ble_eq_true rfl) rfl (a := 10) rfl dX11_beginAnew_18 ?_
  refine j_callVN (idx := 160) (As := [.ref 10]) (ci := 3) (n := 1) (k2 h1 p1) jvoid_nt (jTbl (jtb3 97 rfl)) sX3_of kX3_of rfl ⟨rfl, by decide +kernel, by decide +kernel, by decide +kernel⟩ rfl ⟨by decide, by decide⟩ (Nat.le_of_ble_eq_true rfl) rfl (Nat.le_of_ble_eq_true rfl) (Nat.le_of_ble_eq_true rfl) ⟨Nat.zero_le _, Nat.zero_le _⟩ dX11_beginAnew_21 (fun r Γ' h2 q => ?_)
  obtain ⟨q0, rfl, p2⟩ := q; cases q0
  refine j_eqst [] (by rfl) ?_
  exact j_vret rfl (Nat.zero_le _) (Nat.zero_le _) dX11_beginAnew_24 (v1 h1 p1 h2 p2)
set_option maxRecDepth 100000 in
theorem rX11_beginAnew_0 {sc : Nat × (Nat → Int32)} {h : jH} {Q : jQ} {P1 : jH → Prop} {P2 : jH → Prop}
    (k1 : JM mX9_forget [.ref 20] (jG0 sc) h (jvoid sc P1))
    (k2 : ∀ h1 : jH, P1 h1 → JM mX3_of [.ref 75, .ref 10] (jG0 sc) h1 (jvoid sc P2))
    (v1 : ∀ h1 : jH, P1 h1 → ∀ h2 : jH, P2 h2 → Q (.inl none) (jG0 sc) h2) :
    WP mX11_beginAnew Q 0 [some (.ref 0)] [] (jG0 sc) h (0, 0) := by
  exact (bX11_beginAnew_0 k1 (fun h1 p1 => (k2 h1 p1)) (fun h1 p1 h2 p2 => (v1 h1 p1 h2 p2)))
theorem dX11_hasBody_0 : decode (mC mX11_hasBody) 0 = .ok (.aload_n 0, 1) := by decide +kernel
theorem dX11_hasBody_1 : decode (mC mX11_hasBody) 1 = .ok (.getfield 37, 3) := by decide +kernel
theorem dX11_hasBody_4 : decode (mC mX11_hasBody) 4 = .ok (.getfield 127, 3) := by decide +kernel
theorem dX11_hasBody_7 : decode (mC mX11_hasBody) 7 = .ok (.getfield 136, 3) := by decide +kernel
theorem dX11_hasBody_10 : decode (mC mX11_hasBody) 10 = .ok (.ifCond .le 7, 3) := by decide +kernel
theorem dX11_hasBody_13 : decode (mC mX11_hasBody) 13 = .ok (.iconst 1, 1) := by decide +kernel
theorem dX11_hasBody_14 : decode (mC mX11_hasBody) 14 = .ok (.goto 4, 3) := by decide +kernel
theorem dX11_hasBody_17 : decode (mC mX11_hasBody) 17 = .ok (.iconst 0, 1) := by decide +kernel
theorem dX11_hasBody_18 : decode (mC mX11_hasBody) 18 = .ok (.ireturn, 1) := by decide +kernel
set_option maxRecDepth 100000 in
theorem bX11_hasBody_0 {sc : Nat × (Nat → Int32)} {h : jH} {Q : jQ}
    (v1 : (h 10 1) ≤ 0 → WP mX11_hasBody Q 17 [some (.ref 0)] [] (jG0 sc) h (0, 0))
    (v2 : ¬ (h 10 1) ≤ 0 → WP mX11_hasBody Q 13 [some (.ref 0)] [] (jG0 sc) h (0, 0)) :
    WP mX11_hasBody Q 0 [some (.ref 0)] [] (jG0 sc) h (0, 0) := by
  refine j_aload_n (i := 0) rfl dX11_hasBody_0 ?_
  refine j_getR (idx := 37) (ci := 11) (k := 4) (nest := false) (show (11, 37, 11, 4, false) ∈ jFT by decide) rfl (Nat.le_of_ble_eq_true rfl) rfl (a := 9) rfl dX11_hasBody_1 ?_
  refine j_getR (idx := 127) (ci := 6) (k := 0) (nest := true) (show (11, 127, 6, 0, true) ∈ jFT by decide) rfl (Nat.le_of_ble_eq_true rfl) rfl (a := 10) rfl dX11_hasBody_4 ?_
  refine j_getI (idx := 136) (ci := 4) (k := 1) (nest := true) (show (11, 136, 4, 1, true) ∈ jFT by decide) rfl (Nat.le_of_ble_eq_true rfl) rfl dX11_hasBody_7 ?_
  refine j_if_le (off := 7) 17 dX11_hasBody_10 (by decide) (fun c1 => ?_) (fun c1 => ?_)
  · exact j_le [some (.ref 0)] (And.intro rfl True.intro) (v1 c1)
  · exact j_le [some (.ref 0)] (And.intro rfl True.intro) (v2 c1)
set_option maxRecDepth 100000 in
theorem bX11_hasBody_13 {sc : Nat × (Nat → Int32)} {h : jH} {Q : jQ}
    (v1 : WP mX11_hasBody Q 18 [some (.ref 0)] [.int 1] (jG0 sc) h (0, 0)) :
    WP mX11_hasBody Q 13 [some (.ref 0)] [] (jG0 sc) h (0, 0) := by
  refine j_iconst (n := 1) 1 (by decide) dX11_hasBody_13 ?_
  refine j_goto (off := 4) 18 dX11_hasBody_14 (by decide) ?_
  exact j_le [some (.ref 0)] (And.intro rfl True.intro) v1
set_option maxRecDepth 100000 in
theorem bX11_hasBody_17 {sc : Nat × (Nat → Int32)} {h : jH} {Q : jQ}
    (v1 : WP mX11_hasBody Q 18 [some (.ref 0)] [.int 0] (jG0 sc) h (0, 0)) :
    WP mX11_hasBody Q 17 [some (.ref 0)] [] (jG0 sc) h (0, 0) := by
  refine j_iconst (n := 0) 0 (by decide) dX11_hasBody_17 ?_
  exact j_le [some (.ref 0)] (And.intro rfl True.intro) v1
set_option maxRecDepth 100000 in
theorem bX11_hasBody_18 {sc : Nat × (Nat → Int32)} {h : jH} {Q : jQ} {s0 : Int32}
    (o1 : s0 = 0 ∨ s0 = 1)
    (v1 : Q (.inl (some (.int s0))) (jG0 sc) h) :
    WP mX11_hasBody Q 18 [some (.ref 0)] [.int s0] (jG0 sc) h (0, 0) := by
  exact j_iret rfl (jbn o1) (Nat.zero_le _) (Nat.zero_le _) dX11_hasBody_18 v1
set_option maxRecDepth 100000 in
theorem rX11_hasBody_0 {sc : Nat × (Nat → Int32)} {h : jH} {Q : jQ}
    (v1 : (h 10 1) ≤ 0 → Q (.inl (some (.int 0))) (jG0 sc) h)
    (v2 : ¬ (h 10 1) ≤ 0 → Q (.inl (some (.int 1))) (jG0 sc) h) :
    WP mX11_hasBody Q 0 [some (.ref 0)] [] (jG0 sc) h (0, 0) := by
  exact (bX11_hasBody_0 (fun c1 => (bX11_hasBody_17 (bX11_hasBody_18 (by decide) (v1 c1)))) (fun c1 => (bX11_hasBody_13 (bX11_hasBody_18 (by decide) (v2 c1)))))
theorem dX11_run_0 : decode (mC mX11_run) 0 = .ok (.iload_n 1, 1) := by decide +kernel
theorem dX11_run_1 : decode (mC mX11_run) 1 = .ok (.ifCond .lt 19, 3) := by decide +kernel
theorem dX11_run_4 : decode (mC mX11_run) 4 = .ok (.iload_n 1, 1) := by decide +kernel
theorem dX11_run_5 : decode (mC mX11_run) 5 = .ok (.bipush 15, 2) := by decide +kernel
theorem dX11_run_7 : decode (mC mX11_run) 7 = .ok (.if_icmp .gt 13, 3) := by decide +kernel
theorem dX11_run_10 : decode (mC mX11_run) 10 = .ok (.iload_n 2, 1) := by decide +kernel
theorem dX11_run_11 : decode (mC mX11_run) 11 = .ok (.ifCond .lt 9, 3) := by decide +kernel
theorem dX11_run_14 : decode (mC mX11_run) 14 = .ok (.iload_n 2, 1) := by decide +kernel
theorem dX11_run_15 : decode (mC mX11_run) 15 = .ok (.bipush 15, 2) := by decide +kernel
theorem dX11_run_17 : decode (mC mX11_run) 17 = .ok (.if_icmp .le 13, 3) := by decide +kernel
theorem dX11_run_20 : decode (mC mX11_run) 20 = .ok (.new 110, 3) := by decide +kernel
theorem dX11_run_23 : decode (mC mX11_run) 23 = .ok (.dup, 1) := by decide +kernel
theorem dX11_run_24 : decode (mC mX11_run) 24 = .ok (.ldc 163, 2) := by decide +kernel
theorem dX11_run_26 : decode (mC mX11_run) 26 = .ok (.invokespecial 114, 3) := by decide +kernel
theorem dX11_run_29 : decode (mC mX11_run) 29 = .ok (.athrow, 1) := by decide +kernel
theorem dX11_run_30 : decode (mC mX11_run) 30 = .ok (.iload_n 3, 1) := by decide +kernel
theorem dX11_run_31 : decode (mC mX11_run) 31 = .ok (.ldc 165, 2) := by decide +kernel
theorem dX11_run_33 : decode (mC mX11_run) 33 = .ok (.if_icmp .lt 9, 3) := by decide +kernel
theorem dX11_run_36 : decode (mC mX11_run) 36 = .ok (.iload_n 3, 1) := by decide +kernel
theorem dX11_run_37 : decode (mC mX11_run) 37 = .ok (.ldc 166, 2) := by decide +kernel
theorem dX11_run_39 : decode (mC mX11_run) 39 = .ok (.if_icmp .le 13, 3) := by decide +kernel
theorem dX11_run_42 : decode (mC mX11_run) 42 = .ok (.new 110, 3) := by decide +kernel
theorem dX11_run_45 : decode (mC mX11_run) 45 = .ok (.dup, 1) := by decide +kernel
theorem dX11_run_46 : decode (mC mX11_run) 46 = .ok (.ldc 167, 2) := by decide +kernel
theorem dX11_run_48 : decode (mC mX11_run) 48 = .ok (.invokespecial 114, 3) := by decide +kernel
theorem dX11_run_51 : decode (mC mX11_run) 51 = .ok (.athrow, 1) := by decide +kernel
theorem dX11_run_52 : decode (mC mX11_run) 52 = .ok (.aload_n 0, 1) := by decide +kernel
theorem dX11_run_53 : decode (mC mX11_run) 53 = .ok (.getfield 37, 3) := by decide +kernel
theorem dX11_run_56 : decode (mC mX11_run) 56 = .ok (.getfield 169, 3) := by decide +kernel
theorem dX11_run_59 : decode (mC mX11_run) 59 = .ok (.getfield 173, 3) := by decide +kernel
theorem dX11_run_62 : decode (mC mX11_run) 62 = .ok (.bipush 12, 2) := by decide +kernel
theorem dX11_run_64 : decode (mC mX11_run) 64 = .ok (.if_icmp .lt 13, 3) := by decide +kernel
theorem dX11_run_67 : decode (mC mX11_run) 67 = .ok (.new 176, 3) := by decide +kernel
theorem dX11_run_70 : decode (mC mX11_run) 70 = .ok (.dup, 1) := by decide +kernel
theorem dX11_run_71 : decode (mC mX11_run) 71 = .ok (.ldc 178, 2) := by decide +kernel
theorem dX11_run_73 : decode (mC mX11_run) 73 = .ok (.invokespecial 180, 3) := by decide +kernel
theorem dX11_run_76 : decode (mC mX11_run) 76 = .ok (.athrow, 1) := by decide +kernel
theorem dX11_run_77 : decode (mC mX11_run) 77 = .ok (.aload_n 0, 1) := by decide +kernel
theorem dX11_run_78 : decode (mC mX11_run) 78 = .ok (.getfield 37, 3) := by decide +kernel
theorem dX11_run_81 : decode (mC mX11_run) 81 = .ok (.getfield 169, 3) := by decide +kernel
theorem dX11_run_84 : decode (mC mX11_run) 84 = .ok (.iload_n 1, 1) := by decide +kernel
theorem dX11_run_85 : decode (mC mX11_run) 85 = .ok (.iload_n 2, 1) := by decide +kernel
theorem dX11_run_86 : decode (mC mX11_run) 86 = .ok (.iload_n 3, 1) := by decide +kernel
theorem dX11_run_87 : decode (mC mX11_run) 87 = .ok (.invokevirtual 181, 3) := by decide +kernel
theorem dX11_run_90 : decode (mC mX11_run) 90 = .ok (.aload_n 0, 1) := by decide +kernel
theorem dX11_run_91 : decode (mC mX11_run) 91 = .ok (.iload_n 1, 1) := by decide +kernel
theorem dX11_run_92 : decode (mC mX11_run) 92 = .ok (.iload_n 2, 1) := by decide +kernel
theorem dX11_run_93 : decode (mC mX11_run) 93 = .ok (.iload_n 3, 1) := by decide +kernel
theorem dX11_run_94 : decode (mC mX11_run) 94 = .ok (.invokevirtual 184, 3) := by decide +kernel
theorem dX11_run_97 : decode (mC mX11_run) 97 = .ok (.aload_n 0, 1) := by decide +kernel
theorem dX11_run_98 : decode (mC mX11_run) 98 = .ok (.getfield 37, 3) := by decide +kernel
theorem dX11_run_101 : decode (mC mX11_run) 101 = .ok (.getfield 169, 3) := by decide +kernel
theorem dX11_run_104 : decode (mC mX11_run) 104 = .ok (.getfield 173, 3) := by decide +kernel
theorem dX11_run_107 : decode (mC mX11_run) 107 = .ok (.iconst 1, 1) := by decide +kernel
theorem dX11_run_108 : decode (mC mX11_run) 108 = .ok (.isub, 1) := by decide +kernel
theorem dX11_run_109 : decode (mC mX11_run) 109 = .ok (.ireturn, 1) := by decide +kernel
set_option maxRecDepth 100000 in
theorem bX11_run_0 {sc : Nat × (Nat → Int32)} {h : jH} {Q : jQ} {l1 l2 l3 : Int32}
    (v1 : l1 < 0 → WP mX11_run Q 20 [some (.ref 0), some (.int l1), some (.int l2), some (.int l3)] [] (jG0 sc) h (0, 0))
    (v2 : ¬ l1 < 0 → WP mX11_run Q 4 [some (.ref 0), some (.int l1), some (.int l2), some (.int l3)] [] (jG0 sc) h (0, 0)) :
    WP mX11_run Q 0 [some (.ref 0), some (.int l1), some (.int l2), some (.int l3)] [] (jG0 sc) h (0, 0) := by
  refine j_iload_n (i := 1) rfl dX11_run_0 ?_
  refine j_if_lt (off := 19) 20 dX11_run_1 (by decide) (fun c1 => ?_) (fun c1 => ?_)
  · exact j_le [some (.ref 0), some (.int l1), some (.int l2), some (.int l3)] (And.intro rfl (And.intro rfl (And.intro rfl (And.intro rfl True.intro)))) (v1 c1)
  · exact j_le [some (.ref 0), some (.int l1), some (.int l2), some (.int l3)] (And.intro rfl (And.intro rfl (And.intro rfl (And.intro rfl True.intro)))) (v2 c1)
set_option maxRecDepth 100000 in
theorem bX11_run_4 {sc : Nat × (Nat → Int32)} {h : jH} {Q : jQ} {l1 l2 l3 : Int32}
    (v1 : 15 < l1 → WP mX11_run Q 20 [some (.ref 0), some (.int l1), some (.int l2), some (.int l3)] [] (jG0 sc) h (0, 0))
    (v2 : ¬ 15 < l1 → WP mX11_run Q 10 [some (.ref 0), some (.int l1), some (.int l2), some (.int l3)] [] (jG0 sc) h (0, 0)) :
    WP mX11_run Q 4 [some (.ref 0), some (.int l1), some (.int l2), some (.int l3)] [] (jG0 sc) h (0, 0) := by
  refine j_iload_n (i := 1) rfl dX11_run_4 ?_
  refine j_bipush (n := 15) 15 (by decide) dX11_run_5 ?_
  refine j_icmp_gt (off := 13) 20 dX11_run_7 (by decide) (fun c1 => ?_) (fun c1 => ?_)
  · exact j_le [some (.ref 0), some (.int l1), some (.int l2), some (.int l3)] (And.intro rfl (And.intro rfl (And.intro rfl (And.intro rfl True.intro)))) (v1 c1)
  · exact j_le [some (.ref 0), some (.int l1), some (.int l2), some (.int l3)] (And.intro rfl (And.intro rfl (And.intro rfl (And.intro rfl True.intro)))) (v2 c1)
set_option maxRecDepth 100000 in
theorem bX11_run_10 {sc : Nat × (Nat → Int32)} {h : jH} {Q : jQ} {l1 l2 l3 : Int32}
    (v1 : l2 < 0 → WP mX11_run Q 20 [some (.ref 0), some (.int l1), some (.int l2), some (.int l3)] [] (jG0 sc) h (0, 0))
    (v2 : ¬ l2 < 0 → WP mX11_run Q 14 [some (.ref 0), some (.int l1), some (.int l2), some (.int l3)] [] (jG0 sc) h (0, 0)) :
    WP mX11_run Q 10 [some (.ref 0), some (.int l1), some (.int l2), some (.int l3)] [] (jG0 sc) h (0, 0) := by
  refine j_iload_n (i := 2) rfl dX11_run_10 ?_
  refine j_if_lt (off := 9) 20 dX11_run_11 (by decide) (fun c1 => ?_) (fun c1 => ?_)
  · exact j_le [some (.ref 0), some (.int l1), some (.int l2), some (.int l3)] (And.intro rfl (And.intro rfl (And.intro rfl (And.intro rfl True.intro)))) (v1 c1)
  · exact j_le [some (.ref 0), some (.int l1), some (.int l2), some (.int l3)] (And.intro rfl (And.intro rfl (And.intro rfl (And.intro rfl True.intro)))) (v2 c1)
set_option maxRecDepth 100000 in
theorem bX11_run_14 {sc : Nat × (Nat → Int32)} {h : jH} {Q : jQ} {l1 l2 l3 : Int32}
    (v1 : l2 ≤ 15 → WP mX11_run Q 30 [some (.ref 0), some (.int l1), some (.int l2), some (.int l3)] [] (jG0 sc) h (0, 0))
    (v2 : ¬ l2 ≤ 15 → WP mX11_run Q 20 [some (.ref 0), some (.int l1), some (.int l2), some (.int l3)] [] (jG0 sc) h (0, 0)) :
    WP mX11_run Q 14 [some (.ref 0), some (.int l1), some (.int l2), some (.int l3)] [] (jG0 sc) h (0, 0) := by
  refine j_iload_n (i := 2) rfl dX11_run_14 ?_
  refine j_bipush (n := 15) 15 (by decide) dX11_run_15 ?_
  refine j_icmp_le (off := 13) 30 dX11_run_17 (by decide) (fun c1 => ?_) (fun c1 => ?_)
  · exact j_le [some (.ref 0), some (.int l1), some (.int l2), some (.int l3)] (And.intro rfl (And.intro rfl (And.intro rfl (And.intro rfl True.intro)))) (v1 c1)
  · exact j_le [some (.ref 0), some (.int l1), some (.int l2), some (.int l3)] (And.intro rfl (And.intro rfl (And.intro rfl (And.intro rfl True.intro)))) (v2 c1)
set_option maxRecDepth 100000 in
theorem bX11_run_20 {sc : Nat × (Nat → Int32)} {h : jH} {Q : jQ} {l1 l2 l3 : Int32}
    (v1 : Q (.inr "java/lang/IllegalArgumentException") (jG0 sc) h) :
    WP mX11_run Q 20 [some (.ref 0), some (.int l1), some (.int l2), some (.int l3)] [] (jG0 sc) h (0, 0) := by
  exact j_thr_IAE (is := 163) "no such input" 25 (by decide +kernel) rfl rfl (by decide) (by decide) (Nat.le_of_ble_eq_true rfl) dX11_run_20 dX11_run_23 dX11_run_24 dX11_run_26 dX11_run_29 v1
set_option maxRecDepth 100000 in
theorem bX11_run_30 {sc : Nat × (Nat → Int32)} {h : jH} {Q : jQ} {l1 l2 l3 : Int32}
    (v1 : l3 < (-999999) → WP mX11_run Q 42 [some (.ref 0), some (.int l1), some (.int l2), some (.int l3)] [] (jG0 sc) h (0, 0))
    (v2 : ¬ l3 < (-999999) → WP mX11_run Q 36 [some (.ref 0), some (.int l1), some (.int l2), some (.int l3)] [] (jG0 sc) h (0, 0)) :
    WP mX11_run Q 30 [some (.ref 0), some (.int l1), some (.int l2), some (.int l3)] [] (jG0 sc) h (0, 0) := by
  refine j_iload_n (i := 3) rfl dX11_run_30 ?_
  refine j_ldc (idx := 165) (-999999) (show (jCn 11, 165, (-999999)) ∈ jCT by decide) dX11_run_31 ?_
  refine j_icmp_lt (off := 9) 42 dX11_run_33 (by decide) (fun c1 => ?_) (fun c1 => ?_)
  · exact j_le [some (.ref 0), some (.int l1), some (.int l2), some (.int l3)] (And.intro rfl (And.intro rfl (And.intro rfl (And.intro rfl True.intro)))) (v1 c1)
  · exact j_le [some (.ref 0), some (.int l1), some (.int l2), some (.int l3)] (And.intro rfl (And.intro rfl (And.intro rfl (And.intro rfl True.intro)))) (v2 c1)
set_option maxRecDepth 100000 in
theorem bX11_run_36 {sc : Nat × (Nat → Int32)} {h : jH} {Q : jQ} {l1 l2 l3 : Int32}
    (v1 : l3 ≤ 999999 → WP mX11_run Q 52 [some (.ref 0), some (.int l1), some (.int l2), some (.int l3)] [] (jG0 sc) h (0, 0))
    (v2 : ¬ l3 ≤ 999999 → WP mX11_run Q 42 [some (.ref 0), some (.int l1), some (.int l2), some (.int l3)] [] (jG0 sc) h (0, 0)) :
    WP mX11_run Q 36 [some (.ref 0), some (.int l1), some (.int l2), some (.int l3)] [] (jG0 sc) h (0, 0) := by
  refine j_iload_n (i := 3) rfl dX11_run_36 ?_
  refine j_ldc (idx := 166) 999999 (show (jCn 11, 166, 999999) ∈ jCT by decide) dX11_run_37 ?_
  refine j_icmp_le (off := 13) 52 dX11_run_39 (by decide) (fun c1 => ?_) (fun c1 => ?_)
  · exact j_le [some (.ref 0), some (.int l1), some (.int l2), some (.int l3)] (And.intro rfl (And.intro rfl (And.intro rfl (And.intro rfl True.intro)))) (v1 c1)
  · exact j_le [some (.ref 0), some (.int l1), some (.int l2), some (.int l3)] (And.intro rfl (And.intro rfl (And.intro rfl (And.intro rfl True.intro)))) (v2 c1)
set_option maxRecDepth 100000 in
theorem bX11_run_42 {sc : Nat × (Nat → Int32)} {h : jH} {Q : jQ} {l1 l2 l3 : Int32}
    (v1 : Q (.inr "java/lang/IllegalArgumentException") (jG0 sc) h) :
    WP mX11_run Q 42 [some (.ref 0), some (.int l1), some (.int l2), some (.int l3)] [] (jG0 sc) h (0, 0) := by
  exact j_thr_IAE (is := 167) "no such numbe\x72" 26 (by decide +kernel) rfl rfl (by decide) (by decide) (Nat.le_of_ble_eq_true rfl) dX11_run_42 dX11_run_45 dX11_run_46 dX11_run_48 dX11_run_51 v1
set_option maxRecDepth 100000 in
theorem bX11_run_52 {sc : Nat × (Nat → Int32)} {h : jH} {Q : jQ} {l1 l2 l3 : Int32}
    (v1 : (h 14 3) < 12 → WP mX11_run Q 77 [some (.ref 0), some (.int l1), some (.int l2), some (.int l3)] [] (jG0 sc) h (0, 0))
    (v2 : ¬ (h 14 3) < 12 → WP mX11_run Q 67 [some (.ref 0), some (.int l1), some (.int l2), some (.int l3)] [] (jG0 sc) h (0, 0)) :
    WP mX11_run Q 52 [some (.ref 0), some (.int l1), some (.int l2), some (.int l3)] [] (jG0 sc) h (0, 0) := by
  refine j_aload_n (i := 0) rfl dX11_run_52 ?_
  refine j_getR (idx := 37) (ci := 11) (k := 4) (nest := false) (show (11, 37, 11, 4, false) ∈ jFT by decide) rfl (Nat.le_of_ble_eq_true rfl) rfl (a := 9) rfl dX11_run_53 ?_
  refine j_getR (idx := 169) (ci := 6) (k := 2) (nest := true) (show (11, 169, 6, 2, true) ∈ jFT by decide) rfl (Nat.le_of_ble_eq_true rfl) rfl (a := 14) rfl dX11_run_56 ?_
  refine j_getI (idx := 173) (ci := 5) (k := 3) (nest := true) (show (11, 173, 5, 3, true) ∈ jFT by decide) rfl (Nat.le_of_ble_eq_true rfl) rfl dX11_run_59 ?_
  refine j_bipush (n := 12) 12 (by decide) dX11_run_62 ?_
  refine j_icmp_lt (off := 13) 77 dX11_run_64 (by decide) (fun c1 => ?_) (fun c1 => ?_)
  · exact j_le [some (.ref 0), some (.int l1), some (.int l2), some (.int l3)] (And.intro rfl (And.intro rfl (And.intro rfl (And.intro rfl True.intro)))) (v1 c1)
  · exact j_le [some (.ref 0), some (.int l1), some (.int l2), some (.int l3)] (And.intro rfl (And.intro rfl (And.intro rfl (And.intro rfl True.intro)))) (v2 c1)
set_option maxRecDepth 100000 in
theorem bX11_run_67 {sc : Nat × (Nat → Int32)} {h : jH} {Q : jQ} {l1 l2 l3 : Int32}
    (v1 : Q (.inr "java/lang/UnsupportedOperationException") (jG0 sc) h) :
    WP mX11_run Q 67 [some (.ref 0), some (.int l1), some (.int l2), some (.int l3)] [] (jG0 sc) h (0, 0) := by
  exact j_thr_UOE (is := 178) "there are 12 RUNS" 27 (by decide +kernel) rfl rfl (by decide) (by decide) (Nat.le_of_ble_eq_true rfl) dX11_run_67 dX11_run_70 dX11_run_71 dX11_run_73 dX11_run_76 v1
set_option maxRecDepth 100000 in
theorem bX11_run_77 {sc : Nat × (Nat → Int32)} {h : jH} {Q : jQ} {l1 l2 l3 : Int32} {P1 : jH → Prop} {P2 : jH → Prop}
    (k1 : JM mX5_add [.ref 14, .int l1, .int l2, .int l3] (jG0 sc) h (jvoid sc P1))
    (k2 : ∀ h1 : jH, P1 h1 → JM mX11_putOutPleased [.ref 0, .int l1, .int l2, .int l3] (jG0 sc) h1 (jvoid sc P2))
    (v1 : ∀ h1 : jH, P1 h1 → ∀ h2 : jH, P2 h2 → WP mX11_run Q 108 [some (.ref 0), some (.int l1), some (.int l2), some (.int l3)] [.int 1, .int (h2 14 3)] (jG0 sc) h2 (0, 0)) :
    WP mX11_run Q 77 [some (.ref 0), some (.int l1), some (.int l2), some (.int l3)] [] (jG0 sc) h (0, 0) := by
  refine j_aload_n (i := 0) rfl dX11_run_77 ?_
  refine j_getR (idx := 37) (ci := 11) (k := 4) (nest := false) (show (11, 37, 11, 4, false) ∈ jFT by decide) rfl (Nat.le_of_ble_eq_true rfl) rfl (a := 9) rfl dX11_run_78 ?_
  refine j_getR (idx := 169) (ci := 6) (k := 2) (nest := true) (show (11, 169, 6, 2, true) ∈ jFT by decide) rfl (Nat.le_of_ble_eq_true rfl) rfl (a := 14) rfl dX11_run_81 ?_
  refine j_iload_n (i := 1) rfl dX11_run_84 ?_
  refine j_iload_n (i := 2) rfl dX11_run_85 ?_
  refine j_iload_n (i := 3) rfl dX11_run_86 ?_
  refine j_callVN (idx := 181) (As := [.int l1, .int l2, .int l3]) (ci := 5) (n := 3) k1 jvoid_nt (jTbl (jtb4 229 rfl)) sX5_add kX5_add rfl ⟨rfl, by decide +kernel, by decide +kernel, by decide +kernel⟩ rfl ⟨by decide, by decide⟩ (Nat.le_of_ble_eq_true rfl) rfl (Nat.le_of_ble_eq_true rfl) (Nat.le_of_ble_eq_true rfl) ⟨Nat.zero_le _, Nat.zero_le _⟩ dX11_run_87 (fun r Γ' h1 q => ?_)
  obtain ⟨q0, rfl, p1⟩ := q; cases q0
  refine j_eqst [] (by rfl) ?_
  refine j_aload_n (i := 0) rfl dX11_run_90 ?_
  refine j_iload_n (i := 1) rfl dX11_run_91 ?_
  refine j_iload_n (i := 2) rfl dX11_run_92 ?_
  refine j_iload_n (i := 3) rfl dX11_run_93 ?_
  refine j_callV (idx := 184) (As := [.int l1, .int l2, .int l3]) (ci := 11) (n := 3) (k2 h1 p1) jvoid_nt (jlkT (jtb4 233 rfl) rfl) sX11_putOutPleased kX11_putOutPleased rfl ⟨rfl, by decide +kernel, by decide +kernel, by decide +kernel⟩ rfl ⟨by decide, by decide⟩ (Nat.le_of_ble_eq_true rfl) rfl (Nat.le_of_ble_eq_true rfl) (Nat.le_of_ble_eq_true rfl) ⟨Nat.zero_le _, Nat.zero_le _⟩ dX11_run_94 (fun r Γ' h2 q => ?_)
  obtain ⟨q0, rfl, p2⟩ := q; cases q0
  refine j_eqst [] (by rfl) ?_
  refine j_aload_n (i := 0) rfl dX11_run_97 ?_
  refine j_getR (idx := 37) (ci := 11) (k := 4) (nest := false) (show (11, 37, 11, 4, false) ∈ jFT by decide) rfl (Nat.le_of_ble_eq_true rfl) rfl (a := 9) rfl dX11_run_98 ?_
  refine j_getR (idx := 169) (ci := 6) (k := 2) (nest := true) (show (11, 169, 6, 2, true) ∈ jFT by decide) rfl (Nat.le_of_ble_eq_true rfl) rfl (a := 14) rfl dX11_run_101 ?_
  refine j_getI (idx := 173) (ci := 5) (k := 3) (nest := true) (show (11, 173, 5, 3, true) ∈ jFT by decide) rfl (Nat.le_of_ble_eq_true rfl) rfl dX11_run_104 ?_
  refine j_iconst (n := 1) 1 (by decide) dX11_run_107 ?_
  exact j_le [some (.ref 0), some (.int l1), some (.int l2), some (.int l3)] (And.intro rfl (And.intro rfl (And.intro rfl (And.intro rfl True.intro)))) (v1 h1 p1 h2 p2)
set_option maxRecDepth 100000 in
theorem bX11_run_108 {sc : Nat × (Nat → Int32)} {h : jH} {Q : jQ} {l1 l2 l3 s0 s1 : Int32}
    (v1 : Q (.inl (some (.int (s1 - s0)))) (jG0 sc) h) :
    WP mX11_run Q 108 [some (.ref 0), some (.int l1), some (.int l2), some (.int l3)] [.int s0, .int s1] (jG0 sc) h (0, 0) := by
  refine j_isub dX11_run_108 ?_
  exact j_iret rfl rfl (Nat.zero_le _) (Nat.zero_le _) dX11_run_109 v1
set_option maxRecDepth 100000 in
theorem rX11_run_0 {sc : Nat × (Nat → Int32)} {h : jH} {Q : jQ} {l1 l2 l3 : Int32} {P1 : jH → Prop} {P2 : jH → Prop}
    (v1 : l1 < 0 → Q (.inr "java/lang/IllegalArgumentException") (jG0 sc) h)
    (v2 : ¬ l1 < 0 → 15 < l1 → Q (.inr "java/lang/IllegalArgumentException") (jG0 sc) h)
    (v3 : ¬ l1 < 0 → ¬ 15 < l1 → l2 < 0 → Q (.inr "java/lang/IllegalArgumentException") (jG0 sc) h)
    (v4 : ¬ l1 < 0 → ¬ 15 < l1 → ¬ l2 < 0 → l2 ≤ 15 → l3 < (-999999) → Q (.inr "java/lang/IllegalArgumentException") (jG0 sc) h)
    (k1 : ¬ l1 < 0 → ¬ 15 < l1 → ¬ l2 < 0 → l2 ≤ 15 → ¬ l3 < (-999999) → l3 ≤ 999999 → (h 14 3) < 12 → JM mX5_add [.ref 14, .int l1, .int l2, .int l3] (jG0 sc) h (jvoid sc P1))
    (k2 : ¬ l1 < 0 → ¬ 15 < l1 → ¬ l2 < 0 → l2 ≤ 15 → ¬ l3 < (-999999) → l3 ≤ 999999 → (h 14 3) < 12 → ∀ h1 : jH, P1 h1 → JM mX11_putOutPleased [.ref 0, .int l1, .int l2, .int l3] (jG0 sc) h1 (jvoid sc P2))
    (v5 : ¬ l1 < 0 → ¬ 15 < l1 → ¬ l2 < 0 → l2 ≤ 15 → ¬ l3 < (-999999) → l3 ≤ 999999 → (h 14 3) < 12 → ∀ h1 : jH, P1 h1 → ∀ h2 : jH, P2 h2 → Q (.inl (some (.int ((h2 14 3) - 1)))) (jG0 sc) h2)
    (v6 : ¬ l1 < 0 → ¬ 15 < l1 → ¬ l2 < 0 → l2 ≤ 15 → ¬ l3 < (-999999) → l3 ≤ 999999 → ¬ (h 14 3) < 12 → Q (.inr "java/lang/UnsupportedOperationException") (jG0 sc) h)
    (v7 : ¬ l1 < 0 → ¬ 15 < l1 → ¬ l2 < 0 → l2 ≤ 15 → ¬ l3 < (-999999) → ¬ l3 ≤ 999999 → Q (.inr "java/lang/IllegalArgumentException") (jG0 sc) h)
    (v8 : ¬ l1 < 0 → ¬ 15 < l1 → ¬ l2 < 0 → ¬ l2 ≤ 15 → Q (.inr "java/lang/IllegalArgumentException") (jG0 sc) h) :
    WP mX11_run Q 0 [some (.ref 0), some (.int l1), some (.int l2), some (.int l3)] [] (jG0 sc) h (0, 0) := by
  exact (bX11_run_0 (fun c1 => (bX11_run_20 (v1 c1))) (fun c1 => (bX11_run_4 (fun c2 => (bX11_run_20 (v2 c1 c2))) (fun c2 => (bX11_run_10 (fun c3 => (bX11_run_20 (v3 c1 c2 c3))) (fun c3 => (bX11_run_14 (fun c4 => (bX11_run_30 (fun c5 => (bX11_run_42 (v4 c1 c2 c3 c4 c5))) (fun c5 => (bX11_run_36 (fun c6 => (bX11_run_52 (fun c7 => (bX11_run_77 (k1 c1 c2 c3 c4 c5 c6 c7) (fun h1 p1 => (k2 c1 c2 c3 c4 c5 c6 c7 h1 p1)) (fun h1 p1 h2 p2 => (bX11_run_108 (v5 c1 c2 c3 c4 c5 c6 c7 h1 p1 h2 p2))))) (fun c7 => (bX11_run_67 (v6 c1 c2 c3 c4 c5 c6 c7))))) (fun c6 => (bX11_run_42 (v7 c1 c2 c3 c4 c5 c6))))))) (fun c4 => (bX11_run_20 (v8 c1 c2 c3 c4))))))))))
theorem dX11_putOutPleased_0 : decode (mC mX11_putOutPleased) 0 = .ok (.aload_n 0, 1) := by decide +kernel
theorem dX11_putOutPleased_1 : decode (mC mX11_putOutPleased) 1 = .ok (.getfield 37, 3) := by decide +kernel
theorem dX11_putOutPleased_4 : decode (mC mX11_putOutPleased) 4 = .ok (.getfield 151, 3) := by decide +kernel
theorem dX11_putOutPleased_7 : decode (mC mX11_putOutPleased) 7 = .ok (.astore 4, 2) := by decide +kernel
theorem dX11_putOutPleased_9 : decode (mC mX11_putOutPleased) 9 = .ok (.iconst 0, 1) := by decide +kernel
theorem dX11_putOutPleased_10 : decode (mC mX11_putOutPleased) 10 = .ok (.istore 5, 2) := by decide +kernel
theorem dX11_putOutPleased_12 : decode (mC mX11_putOutPleased) 12 = .ok (.iconst 0, 1) := by decide +kernel
theorem dX11_putOutPleased_13 : decode (mC mX11_putOutPleased) 13 = .ok (.istore 6, 2) := by decide +kernel
theorem dX11_putOutPleased_15 : decode (mC mX11_putOutPleased) 15 = .ok (.iconst 0, 1) := by decide +kernel
theorem dX11_putOutPleased_16 : decode (mC mX11_putOutPleased) 16 = .ok (.istore 7, 2) := by decide +kernel
theorem dX11_putOutPleased_18 : decode (mC mX11_putOutPleased) 18 = .ok (.iload 7, 2) := by decide +kernel
theorem dX11_putOutPleased_20 : decode (mC mX11_putOutPleased) 20 = .ok (.aload 4, 2) := by decide +kernel
theorem dX11_putOutPleased_22 : decode (mC mX11_putOutPleased) 22 = .ok (.getfield 187, 3) := by decide +kernel
theorem dX11_putOutPleased_25 : decode (mC mX11_putOutPleased) 25 = .ok (.if_icmp .ge 89, 3) := by decide +kernel
theorem dX11_putOutPleased_28 : decode (mC mX11_putOutPleased) 28 = .ok (.iload 7, 2) := by decide +kernel
theorem dX11_putOutPleased_30 : decode (mC mX11_putOutPleased) 30 = .ok (.aload 4, 2) := by decide +kernel
theorem dX11_putOutPleased_32 : decode (mC mX11_putOutPleased) 32 = .ok (.getfield 190, 3) := by decide +kernel
theorem dX11_putOutPleased_35 : decode (mC mX11_putOutPleased) 35 = .ok (.arraylength, 1) := by decide +kernel
theorem dX11_putOutPleased_36 : decode (mC mX11_putOutPleased) 36 = .ok (.if_icmp .ge 78, 3) := by decide +kernel
theorem dX11_putOutPleased_39 : decode (mC mX11_putOutPleased) 39 = .ok (.aload_n 0, 1) := by decide +kernel
theorem dX11_putOutPleased_40 : decode (mC mX11_putOutPleased) 40 = .ok (.getfield 61, 3) := by decide +kernel
theorem dX11_putOutPleased_43 : decode (mC mX11_putOutPleased) 43 = .ok (.aload_n 0, 1) := by decide +kernel
theorem dX11_putOutPleased_44 : decode (mC mX11_putOutPleased) 44 = .ok (.getfield 37, 3) := by decide +kernel
theorem dX11_putOutPleased_47 : decode (mC mX11_putOutPleased) 47 = .ok (.getfield 127, 3) := by decide +kernel
theorem dX11_putOutPleased_50 : decode (mC mX11_putOutPleased) 50 = .ok (.aload 4, 2) := by decide +kernel
theorem dX11_putOutPleased_52 : decode (mC mX11_putOutPleased) 52 = .ok (.getfield 190, 3) := by decide +kernel
theorem dX11_putOutPleased_55 : decode (mC mX11_putOutPleased) 55 = .ok (.iload 7, 2) := by decide +kernel
theorem dX11_putOutPleased_57 : decode (mC mX11_putOutPleased) 57 = .ok (.iaload, 1) := by decide +kernel
theorem dX11_putOutPleased_58 : decode (mC mX11_putOutPleased) 58 = .ok (.aload_n 0, 1) := by decide +kernel
theorem dX11_putOutPleased_59 : decode (mC mX11_putOutPleased) 59 = .ok (.getfield 71, 3) := by decide +kernel
theorem dX11_putOutPleased_62 : decode (mC mX11_putOutPleased) 62 = .ok (.invokevirtual 192, 3) := by decide +kernel
theorem dX11_putOutPleased_65 : decode (mC mX11_putOutPleased) 65 = .ok (.pop, 1) := by decide +kernel
theorem dX11_putOutPleased_66 : decode (mC mX11_putOutPleased) 66 = .ok (.aload_n 0, 1) := by decide +kernel
theorem dX11_putOutPleased_67 : decode (mC mX11_putOutPleased) 67 = .ok (.getfield 47, 3) := by decide +kernel
theorem dX11_putOutPleased_70 : decode (mC mX11_putOutPleased) 70 = .ok (.aload_n 0, 1) := by decide +kernel
theorem dX11_putOutPleased_71 : decode (mC mX11_putOutPleased) 71 = .ok (.getfield 71, 3) := by decide +kernel
theorem dX11_putOutPleased_74 : decode (mC mX11_putOutPleased) 74 = .ok (.iload_n 1, 1) := by decide +kernel
theorem dX11_putOutPleased_75 : decode (mC mX11_putOutPleased) 75 = .ok (.iload_n 2, 1) := by decide +kernel
theorem dX11_putOutPleased_76 : decode (mC mX11_putOutPleased) 76 = .ok (.invokevirtual 196, 3) := by decide +kernel
theorem dX11_putOutPleased_79 : decode (mC mX11_putOutPleased) 79 = .ok (.iload_n 3, 1) := by decide +kernel
theorem dX11_putOutPleased_80 : decode (mC mX11_putOutPleased) 80 = .ok (.if_icmp .ne 25, 3) := by decide +kernel
theorem dX11_putOutPleased_83 : decode (mC mX11_putOutPleased) 83 = .ok (.aload 4, 2) := by decide +kernel
theorem dX11_putOutPleased_85 : decode (mC mX11_putOutPleased) 85 = .ok (.getfield 190, 3) := by decide +kernel
theorem dX11_putOutPleased_88 : decode (mC mX11_putOutPleased) 88 = .ok (.iload 6, 2) := by decide +kernel
theorem dX11_putOutPleased_90 : decode (mC mX11_putOutPleased) 90 = .ok (.aload 4, 2) := by decide +kernel
theorem dX11_putOutPleased_92 : decode (mC mX11_putOutPleased) 92 = .ok (.getfield 190, 3) := by decide +kernel
theorem dX11_putOutPleased_95 : decode (mC mX11_putOutPleased) 95 = .ok (.iload 7, 2) := by decide +kernel
theorem dX11_putOutPleased_97 : decode (mC mX11_putOutPleased) 97 = .ok (.iaload, 1) := by decide +kernel
theorem dX11_putOutPleased_98 : decode (mC mX11_putOutPleased) 98 = .ok (.iastore, 1) := by decide +kernel
theorem dX11_putOutPleased_99 : decode (mC mX11_putOutPleased) 99 = .ok (.iinc 6 1, 3) := by decide +kernel
theorem dX11_putOutPleased_102 : decode (mC mX11_putOutPleased) 102 = .ok (.goto 6, 3) := by decide +kernel
theorem dX11_putOutPleased_105 : decode (mC mX11_putOutPleased) 105 = .ok (.iinc 5 1, 3) := by decide +kernel
theorem dX11_putOutPleased_108 : decode (mC mX11_putOutPleased) 108 = .ok (.iinc 7 1, 3) := by decide +kernel
theorem dX11_putOutPleased_111 : decode (mC mX11_putOutPleased) 111 = .ok (.goto (-93), 3) := by decide +kernel
theorem dX11_putOutPleased_114 : decode (mC mX11_putOutPleased) 114 = .ok (.aload 4, 2) := by decide +kernel
theorem dX11_putOutPleased_116 : decode (mC mX11_putOutPleased) 116 = .ok (.iload 6, 2) := by decide +kernel
theorem dX11_putOutPleased_118 : decode (mC mX11_putOutPleased) 118 = .ok (.putfield 187, 3) := by decide +kernel
theorem dX11_putOutPleased_121 : decode (mC mX11_putOutPleased) 121 = .ok (.aload 4, 2) := by decide +kernel
theorem dX11_putOutPleased_123 : decode (mC mX11_putOutPleased) 123 = .ok (.dup, 1) := by decide +kernel
theorem dX11_putOutPleased_124 : decode (mC mX11_putOutPleased) 124 = .ok (.getfield 200, 3) := by decide +kernel
theorem dX11_putOutPleased_127 : decode (mC mX11_putOutPleased) 127 = .ok (.iload 5, 2) := by decide +kernel
theorem dX11_putOutPleased_129 : decode (mC mX11_putOutPleased) 129 = .ok (.iadd, 1) := by decide +kernel
theorem dX11_putOutPleased_130 : decode (mC mX11_putOutPleased) 130 = .ok (.putfield 200, 3) := by decide +kernel
theorem dX11_putOutPleased_133 : decode (mC mX11_putOutPleased) 133 = .ok (.return_, 1) := by decide +kernel
set_option maxRecDepth 100000 in
theorem bX11_putOutPleased_0 {sc : Nat × (Nat → Int32)} {h : jH} {Q : jQ} {l1 l2 l3 : Int32}
    (v1 : WP mX11_putOutPleased Q 18 [some (.ref 0), some (.int l1), some (.int l2), some (.int l3), some (.ref 20), some (.int 0), some (.int 0), some (.int 0)] [] (jG0 sc) h (0, 0)) :
    WP mX11_putOutPleased Q 0 [some (.ref 0), some (.int l1), some (.int l2), some (.int l3), none, none, none, none] [] (jG0 sc) h (0, 0) := by
  refine j_aload_n (i := 0) rfl dX11_putOutPleased_0 ?_
  refine j_getR (idx := 37) (ci := 11) (k := 4) (nest := false) (show (11, 37, 11, 4, false) ∈ jFT by decide) rfl (Nat.le_of_ble_eq_true rfl) rfl (a := 9) rfl dX11_putOutPleased_1 ?_
  refine j_getR (idx := 151) (ci := 6) (k := 4) (nest := true) (show (11, 151, 6, 4, true) ∈ jFT by decide) rfl (Nat.le_of_ble_eq_true rfl) rfl (a := 20) rfl dX11_putOutPleased_4 ?_
  refine j_astore (i := 4) dX11_putOutPleased_7 (Nat.le_of_ble_eq_true rfl) ?_
  refine j_iconst (n := 0) 0 (by decide) dX11_putOutPleased_9 ?_
  refine j_istore (i := 5) dX11_putOutPleased_10 (Nat.le_of_ble_eq_true rfl) ?_
  refine j_iconst (n := 0) 0 (by decide) dX11_putOutPleased_12 ?_
  refine j_istore (i := 6) dX11_putOutPleased_13 (Nat.le_of_ble_eq_true rfl) ?_
  refine j_iconst (n := 0) 0 (by decide) dX11_putOutPleased_15 ?_
  refine j_istore (i := 7) dX11_putOutPleased_16 (Nat.le_of_ble_eq_true rfl) ?_
  exact j_le [some (.ref 0), some (.int l1), some (.int l2), some (.int l3), some (.ref 20), some (.int 0), some (.int 0), some (.int 0)] (And.intro rfl (And.intro rfl (And.intro rfl (And.intro rfl (And.intro rfl (And.intro rfl (And.intro rfl (And.intro rfl True.intro)))))))) v1
set_option maxRecDepth 100000 in
theorem bX11_putOutPleased_18 {sc : Nat × (Nat → Int32)} {h : jH} {Q : jQ} {l1 l2 l3 l5 l6 l7 : Int32}
    (v1 : (h 20 1) ≤ l7 → WP mX11_putOutPleased Q 114 [some (.ref 0), some (.int l1), some (.int l2), some (.int l3), some (.ref 20), some (.int l5), some (.int l6), some (.int l7)] [] (jG0 sc) h (0, 0))
    (v2 : ¬ (h 20 1) ≤ l7 → WP mX11_putOutPleased Q 28 [some (.ref 0), some (.int l1), some (.int l2), some (.int l3), some (.ref 20), some (.int l5), some (.int l6), some (.int l7)] [] (jG0 sc) h (0, 0)) :
    WP mX11_putOutPleased Q 18 [some (.ref 0), some (.int l1), some (.int l2), some (.int l3), some (.ref 20), some (.int l5), some (.int l6), some (.int l7)] [] (jG0 sc) h (0, 0) := by
  refine j_iload (i := 7) rfl dX11_putOutPleased_18 ?_
  refine j_aload (i := 4) rfl dX11_putOutPleased_20 ?_
  refine j_getI (idx := 187) (ci := 9) (k := 1) (nest := true) (show (11, 187, 9, 1, true) ∈ jFT by decide) rfl (Nat.le_of_ble_eq_true rfl) rfl dX11_putOutPleased_22 ?_
  refine j_icmp_ge (off := 89) 114 dX11_putOutPleased_25 (by decide) (fun c1 => ?_) (fun c1 => ?_)
  · exact j_le [some (.ref 0), some (.int l1), some (.int l2), some (.int l3), some (.ref 20), some (.int l5), some (.int l6), some (.int l7)] (And.intro rfl (And.intro rfl (And.intro rfl (And.intro rfl (And.intro rfl (And.intro rfl (And.intro rfl (And.intro rfl True.intro)))))))) (v1 c1)
  · exact j_le [some (.ref 0), some (.int l1), some (.int l2), some (.int l3), some (.ref 20), some (.int l5), some (.int l6), some (.int l7)] (And.intro rfl (And.intro rfl (And.intro rfl (And.intro rfl (And.intro rfl (And.intro rfl (And.intro rfl (And.intro rfl True.intro)))))))) (v2 c1)
set_option maxRecDepth 100000 in
theorem bX11_putOutPleased_28 {sc : Nat × (Nat → Int32)} {h : jH} {Q : jQ} {l1 l2 l3 l5 l6 l7 : Int32}
    (v1 : 30 ≤ l7 → WP mX11_putOutPleased Q 114 [some (.ref 0), some (.int l1), some (.int l2), some (.int l3), some (.ref 20), some (.int l5), some (.int l6), some (.int l7)] [] (jG0 sc) h (0, 0))
    (v2 : ¬ 30 ≤ l7 → WP mX11_putOutPleased Q 39 [some (.ref 0), some (.int l1), some (.int l2), some (.int l3), some (.ref 20), some (.int l5), some (.int l6), some (.int l7)] [] (jG0 sc) h (0, 0)) :
    WP mX11_putOutPleased Q 28 [some (.ref 0), some (.int l1), some (.int l2), some (.int l3), some (.ref 20), some (.int l5), some (.int l6), some (.int l7)] [] (jG0 sc) h (0, 0) := by
  refine j_iload (i := 7) rfl dX11_putOutPleased_28 ?_
  refine j_aload (i := 4) rfl dX11_putOutPleased_30 ?_
  refine j_getR (idx := 190) (ci := 9) (k := 0) (nest := true) (show (11, 190, 9, 0, true) ∈ jFT by decide) rfl (Nat.le_of_ble_eq_true rfl) rfl (a := 21) rfl dX11_putOutPleased_32 ?_
  refine j_alen (Nat.le_of_ble_eq_true rfl) rfl rfl 30 rfl dX11_putOutPleased_35 ?_
  refine j_icmp_ge (off := 78) 114 dX11_putOutPleased_36 (by decide) (fun c1 => ?_) (fun c1 => ?_)
  · exact j_le [some (.ref 0), some (.int l1), some (.int l2), some (.int l3), some (.ref 20), some (.int l5), some (.int l6), some (.int l7)] (And.intro rfl (And.intro rfl (And.intro rfl (And.intro rfl (And.intro rfl (And.intro rfl (And.intro rfl (And.intro rfl True.intro)))))))) (v1 c1)
  · exact j_le [some (.ref 0), some (.int l1), some (.int l2), some (.int l3), some (.ref 20), some (.int l5), some (.int l6), some (.int l7)] (And.intro rfl (And.intro rfl (And.intro rfl (And.intro rfl (And.intro rfl (And.intro rfl (And.intro rfl (And.intro rfl True.intro)))))))) (v2 c1)
set_option maxRecDepth 100000 in
theorem bX11_putOutPleased_39 {sc : Nat × (Nat → Int32)} {h : jH} {Q : jQ} {l1 l2 l3 l5 l6 l7 : Int32} {P1 : Int32 → jH → Prop}
    (o1 : vp_in l7 30)
    (k1 : JM mX3_shape [.ref 75, .ref 10, .int (h 21 l7.toNatClampNeg), .ref 89] (jG0 sc) h (jint sc P1))
    (v1 : ∀ (x1 : Int32) (h1 : jH), P1 x1 h1 → WP mX11_putOutPleased Q 76 [some (.ref 0), some (.int l1), some (.int l2), some (.int l3), some (.ref 20), some (.int l5), some (.int l6), some (.int l7)] [.int l2, .int l1, .ref 89, .ref 69] (jG0 sc) h1 (0, 0)) :
    WP mX11_putOutPleased Q 39 [some (.ref 0), some (.int l1), some (.int l2), some (.int l3), some (.ref 20), some (.int l5), some (.int l6), some (.int l7)] [] (jG0 sc) h (0, 0) := by
  refine j_aload_n (i := 0) rfl dX11_putOutPleased_39 ?_
  refine j_getR (idx := 61) (ci := 11) (k := 9) (nest := false) (show (11, 61, 11, 9, false) ∈ jFT by decide) rfl (Nat.le_of_ble_eq_true rfl) rfl (a := 75) rfl dX11_putOutPleased_40 ?_
  refine j_aload_n (i := 0) rfl dX11_putOutPleased_43 ?_
  refine j_getR (idx := 37) (ci := 11) (k := 4) (nest := false) (show (11, 37, 11, 4, false) ∈ jFT by decide) rfl (Nat.le_of_ble_eq_true rfl) rfl (a := 9) rfl dX11_putOutPleased_44 ?_
  refine j_getR (idx := 127) (ci := 6) (k := 0) (nest := true) (show (11, 127, 6, 0, true) ∈ jFT by decide) rfl (Nat.le_of_ble_eq_true rfl) rfl (a := 10) rfl dX11_putOutPleased_47 ?_
  refine j_aload (i := 4) rfl dX11_putOutPleased_50 ?_
  refine j_getR (idx := 190) (ci := 9) (k := 0) (nest := true) (show (11, 190, 9, 0, true) ∈ jFT by decide) rfl (Nat.le_of_ble_eq_true rfl) rfl (a := 21) rfl dX11_putOutPleased_52 ?_
  refine j_iload (i := 7) rfl dX11_putOutPleased_55 ?_
  refine j_iald (Nat.le_of_ble_eq_true rfl) rfl o1 dX11_putOutPleased_57 ?_
  refine j_aload_n (i := 0) rfl dX11_putOutPleased_58 ?_
  refine j_getR (idx := 71) (ci := 11) (k := 11) (nest := false) (show (11, 71, 11, 11, false) ∈ jFT by decide) rfl (Nat.le_of_ble_eq_true rfl) rfl (a := 89) rfl dX11_putOutPleased_59 ?_
  refine j_callVN (idx := 192) (As := [.ref 10, .int (h 21 l7.toNatClampNeg), .ref 89]) (ci := 3) (n := 3) k1 jint_nt (jTbl (jtb2 199 rfl)) sX3_shape kX3_shape rfl ⟨rfl, by decide +kernel, by decide +kernel, by decide +kernel⟩ rfl ⟨by decide, by decide⟩ (Nat.le_of_ble_eq_true rfl) rfl (Nat.le_of_ble_eq_true rfl) (Nat.le_of_ble_eq_true rfl) ⟨Nat.zero_le _, Nat.zero_le _⟩ dX11_putOutPleased_62 (fun r Γ' h1 q => ?_)
  obtain ⟨x1, q0, rfl, p1⟩ := q; cases q0
  refine j_eqst [.int x1] (by rfl) ?_
  refine j_pop rfl dX11_putOutPleased_65 ?_
  refine j_aload_n (i := 0) rfl dX11_putOutPleased_66 ?_
  refine j_getR (idx := 47) (ci := 11) (k := 7) (nest := false) (show (11, 47, 11, 7, false) ∈ jFT by decide) rfl (Nat.le_of_ble_eq_true rfl) rfl (a := 69) rfl dX11_putOutPleased_67 ?_
  refine j_aload_n (i := 0) rfl dX11_putOutPleased_70 ?_
  refine j_getR (idx := 71) (ci := 11) (k := 11) (nest := false) (show (11, 71, 11, 11, false) ∈ jFT by decide) rfl (Nat.le_of_ble_eq_true rfl) rfl (a := 89) rfl dX11_putOutPleased_71 ?_
  refine j_iload_n (i := 1) rfl dX11_putOutPleased_74 ?_
  refine j_iload_n (i := 2) rfl dX11_putOutPleased_75 ?_
  exact j_le [some (.ref 0), some (.int l1), some (.int l2), some (.int l3), some (.ref 20), some (.int l5), some (.int l6), some (.int l7)] (And.intro rfl (And.intro rfl (And.intro rfl (And.intro rfl (And.intro rfl (And.intro rfl (And.intro rfl (And.intro rfl True.intro)))))))) (v1 x1 h1 p1)
set_option maxRecDepth 100000 in
theorem bX11_putOutPleased_76 {sc : Nat × (Nat → Int32)} {h : jH} {Q : jQ} {l1 l2 l3 l5 l6 l7 s0 s1 : Int32} {P1 : Int32 → jH → Prop}
    (k1 : JM mX10_through [.ref 69, .ref 89, .int s1, .int s0] (jG0 sc) h (jint sc P1))
    (v1 : ∀ (x1 : Int32) (h1 : jH), P1 x1 h1 → ¬ x1 = l3 → WP mX11_putOutPleased Q 105 [some (.ref 0), some (.int l1), some (.int l2), some (.int l3), some (.ref 20), some (.int l5), some (.int l6), some (.int l7)] [] (jG0 sc) h1 (0, 0))
    (v2 : ∀ (x1 : Int32) (h1 : jH), P1 x1 h1 → x1 = l3 → WP mX11_putOutPleased Q 83 [some (.ref 0), some (.int l1), some (.int l2), some (.int l3), some (.ref 20), some (.int l5), some (.int l6), some (.int l7)] [] (jG0 sc) h1 (0, 0)) :
    WP mX11_putOutPleased Q 76 [some (.ref 0), some (.int l1), some (.int l2), some (.int l3), some (.ref 20), some (.int l5), some (.int l6), some (.int l7)] [.int s0, .int s1, .ref 89, .ref 69] (jG0 sc) h (0, 0) := by
  refine j_callVN (idx := 196) (As := [.ref 89, .int s1, .int s0]) (ci := 10) (n := 3) k1 jint_nt (jTbl (jtb3 9 rfl)) sX10_through kX10_through rfl ⟨rfl, by decide +kernel, by decide +kernel, by decide +kernel⟩ rfl ⟨by decide, by decide⟩ (Nat.le_of_ble_eq_true rfl) rfl (Nat.le_of_ble_eq_true rfl) (Nat.le_of_ble_eq_true rfl) ⟨Nat.zero_le _, Nat.zero_le _⟩ dX11_putOutPleased_76 (fun r Γ' h1 q => ?_)
  obtain ⟨x1, q0, rfl, p1⟩ := q; cases q0
  refine j_eqst [.int x1] (by rfl) ?_
  refine j_iload_n (i := 3) rfl dX11_putOutPleased_79 ?_
  refine j_icmp_ne (off := 25) 105 dX11_putOutPleased_80 (by decide) (fun c1 => ?_) (fun c1 => ?_)
  · exact j_le [some (.ref 0), some (.int l1), some (.int l2), some (.int l3), some (.ref 20), some (.int l5), some (.int l6), some (.int l7)] (And.intro rfl (And.intro rfl (And.intro rfl (And.intro rfl (And.intro rfl (And.intro rfl (And.intro rfl (And.intro rfl True.intro)))))))) (v1 x1 h1 p1 c1)
  · exact j_le [some (.ref 0), some (.int l1), some (.int l2), some (.int l3), some (.ref 20), some (.int l5), some (.int l6), some (.int l7)] (And.intro rfl (And.intro rfl (And.intro rfl (And.intro rfl (And.intro rfl (And.intro rfl (And.intro rfl (And.intro rfl True.intro)))))))) (v2 x1 h1 p1 c1)
set_option maxRecDepth 100000 in
theorem bX11_putOutPleased_83 {sc : Nat × (Nat → Int32)} {h : jH} {Q : jQ} {l1 l2 l3 l5 l6 l7 : Int32}
    (o1 : vp_in l7 30)
    (o2 : vp_in l6 30)
    (v1 : WP mX11_putOutPleased Q 108 [some (.ref 0), some (.int l1), some (.int l2), some (.int l3), some (.ref 20), some (.int l5), some (.int (l6 + 1)), some (.int l7)] [] (jG0 sc) (jput h 21 l6.toNatClampNeg (h 21 l7.toNatClampNeg)) (0, 0)) :
    WP mX11_putOutPleased Q 83 [some (.ref 0), some (.int l1), some (.int l2), some (.int l3), some (.ref 20), some (.int l5), some (.int l6), some (.int l7)] [] (jG0 sc) h (0, 0) := by
  refine j_aload (i := 4) rfl dX11_putOutPleased_83 ?_
  refine j_getR (idx := 190) (ci := 9) (k := 0) (nest := true) (show (11, 190, 9, 0, true) ∈ jFT by decide) rfl (Nat.le_of_ble_eq_true rfl) rfl (a := 21) rfl dX11_putOutPleased_85 ?_
  refine j_iload (i := 6) rfl dX11_putOutPleased_88 ?_
  refine j_aload (i := 4) rfl dX11_putOutPleased_90 ?_
  refine j_getR (idx := 190) (ci := 9) (k := 0) (nest := true) (show (11, 190, 9, 0, true) ∈ jFT by decide) rfl (Nat.le_of_ble_eq_true rfl) rfl (a := 21) rfl dX11_putOutPleased_92 ?_
  refine j_iload (i := 7) rfl dX11_putOutPleased_95 ?_
  refine j_iald (Nat.le_of_ble_eq_true rfl) rfl o1 dX11_putOutPleased_97 ?_
  refine j_iast (Nat.le_of_ble_eq_true rfl) rfl o2 dX11_putOutPleased_98 ?_
  refine j_iinc (i := 6) (n := 1) rfl dX11_putOutPleased_99 (Nat.le_of_ble_eq_true rfl) ?_
  refine j_eqlv [some (.ref 0), some (.int l1), some (.int l2), some (.int l3), some (.ref 20), some (.int l5), some (.int (l6 + 1)), some (.int l7)] rfl ?_
  refine j_goto (off := 6) 108 dX11_putOutPleased_102 (by decide) ?_
  exact j_le [some (.ref 0), some (.int l1), some (.int l2), some (.int l3), some (.ref 20), some (.int l5), some (.int (l6 + 1)), some (.int l7)] (And.intro rfl (And.intro rfl (And.intro rfl (And.intro rfl (And.intro rfl (And.intro rfl (And.intro rfl (And.intro rfl True.intro)))))))) v1
set_option maxRecDepth 100000 in
theorem bX11_putOutPleased_105 {sc : Nat × (Nat → Int32)} {h : jH} {Q : jQ} {l1 l2 l3 l5 l6 l7 : Int32}
    (v1 : WP mX11_putOutPleased Q 108 [some (.ref 0), some (.int l1), some (.int l2), some (.int l3), some (.ref 20), some (.int (l5 + 1)), some (.int l6), some (.int l7)] [] (jG0 sc) h (0, 0)) :
    WP mX11_putOutPleased Q 105 [some (.ref 0), some (.int l1), some (.int l2), some (.int l3), some (.ref 20), some (.int l5), some (.int l6), some (.int l7)] [] (jG0 sc) h (0, 0) := by
  refine j_iinc (i := 5) (n := 1) rfl dX11_putOutPleased_105 (Nat.le_of_ble_eq_true rfl) ?_
  refine j_eqlv [some (.ref 0), some (.int l1), some (.int l2), some (.int l3), some (.ref 20), some (.int (l5 + 1)), some (.int l6), some (.int l7)] rfl ?_
  exact j_le [some (.ref 0), some (.int l1), some (.int l2), some (.int l3), some (.ref 20), some (.int (l5 + 1)), some (.int l6), some (.int l7)] (And.intro rfl (And.intro rfl (And.intro rfl (And.intro rfl (And.intro rfl (And.intro rfl (And.intro rfl (And.intro rfl True.intro)))))))) v1
set_option maxRecDepth 100000 in
theorem bX11_putOutPleased_108 {sc : Nat × (Nat → Int32)} {h : jH} {Q : jQ} {l1 l2 l3 l5 l6 l7 : Int32}
    (v1 : WP mX11_putOutPleased Q 18 [some (.ref 0), some (.int l1), some (.int l2), some (.int l3), some (.ref 20), some (.int l5), some (.int l6), some (.int (l7 + 1))] [] (jG0 sc) h (0, 0)) :
    WP mX11_putOutPleased Q 108 [some (.ref 0), some (.int l1), some (.int l2), some (.int l3), some (.ref 20), some (.int l5), some (.int l6), some (.int l7)] [] (jG0 sc) h (0, 0) := by
  refine j_iinc (i := 7) (n := 1) rfl dX11_putOutPleased_108 (Nat.le_of_ble_eq_true rfl) ?_
  refine j_eqlv [some (.ref 0), some (.int l1), some (.int l2), some (.int l3), some (.ref 20), some (.int l5), some (.int l6), some (.int (l7 + 1))] rfl ?_
  refine j_goto (off := -93) 18 dX11_putOutPleased_111 (by decide) ?_
  exact j_le [some (.ref 0), some (.int l1), some (.int l2), some (.int l3), some (.ref 20), some (.int l5), some (.int l6), some (.int (l7 + 1))] (And.intro rfl (And.intro rfl (And.intro rfl (And.intro rfl (And.intro rfl (And.intro rfl (And.intro rfl (And.intro rfl True.intro)))))))) v1
set_option maxRecDepth 100000 in
theorem bX11_putOutPleased_114 {sc : Nat × (Nat → Int32)} {h : jH} {Q : jQ} {l1 l2 l3 l5 l6 l7 : Int32}
    (v1 : Q (.inl none) (jG0 sc) (jput (jput h 20 1 l6) 20 4 (((jput h 20 1 l6) 20 4) + l5))) :
    WP mX11_putOutPleased Q 114 [some (.ref 0), some (.int l1), some (.int l2), some (.int l3), some (.ref 20), some (.int l5), some (.int l6), some (.int l7)] [] (jG0 sc) h (0, 0) := by
  refine j_aload (i := 4) rfl dX11_putOutPleased_114 ?_
  refine j_iload (i := 6) rfl dX11_putOutPleased_116 ?_
  refine j_putI (idx := 187) (ci := 9) (k := 1) (nest := true) (show (11, 187, 9, 1, true) ∈ jFT by decide) rfl rfl rfl rfl (Nat.le_of_ble_eq_true rfl) rfl dX11_putOutPleased_118 ?_
  refine j_aload (i := 4) rfl dX11_putOutPleased_121 ?_
  refine j_dup rfl dX11_putOutPleased_123 ?_
  refine j_getI (idx := 200) (ci := 9) (k := 4) (nest := true) (show (11, 200, 9, 4, true) ∈ jFT by decide) rfl (Nat.le_of_ble_eq_true rfl) rfl dX11_putOutPleased_124 ?_
  refine j_iload (i := 5) rfl dX11_putOutPleased_127 ?_
  refine j_iadd dX11_putOutPleased_129 ?_
  refine j_putI (idx := 200) (ci := 9) (k := 4) (nest := true) (show (11, 200, 9, 4, true) ∈ jFT by decide) rfl rfl rfl rfl (Nat.le_of_ble_eq_true rfl) rfl dX11_putOutPleased_130 ?_
  exact j_vret rfl (Nat.zero_le _) (Nat.zero_le _) dX11_putOutPleased_133 v1
set_option maxRecDepth 100000 in
theorem rX11_putOutPleased_0 {sc : Nat × (Nat → Int32)} {h : jH} {Q : jQ} {l1 l2 l3 : Int32}
    (v1 : WP mX11_putOutPleased Q 18 [some (.ref 0), some (.int l1), some (.int l2), some (.int l3), some (.ref 20), some (.int 0), some (.int 0), some (.int 0)] [] (jG0 sc) h (0, 0)) :
    WP mX11_putOutPleased Q 0 [some (.ref 0), some (.int l1), some (.int l2), some (.int l3), none, none, none, none] [] (jG0 sc) h (0, 0) := by
  exact (bX11_putOutPleased_0 v1)
set_option maxRecDepth 100000 in
theorem rX11_putOutPleased_18 {sc : Nat × (Nat → Int32)} {h : jH} {Q : jQ} {l1 l2 l3 l5 l6 l7 : Int32} {P1 : Int32 → jH → Prop} {P2 : Int32 → jH → Prop}
    (v1 : (h 20 1) ≤ l7 → Q (.inl none) (jG0 sc) (jput (jput h 20 1 l6) 20 4 (((jput h 20 1 l6) 20 4) + l5)))
    (v2 : ¬ (h 20 1) ≤ l7 → 30 ≤ l7 → Q (.inl none) (jG0 sc) (jput (jput h 20 1 l6) 20 4 (((jput h 20 1 l6) 20 4) + l5)))
    (o1 : ¬ (h 20 1) ≤ l7 → ¬ 30 ≤ l7 → vp_in l7 30)
    (k1 : ¬ (h 20 1) ≤ l7 → ¬ 30 ≤ l7 → JM mX3_shape [.ref 75, .ref 10, .int (h 21 l7.toNatClampNeg), .ref 89] (jG0 sc) h (jint sc P1))
    (k2 : ¬ (h 20 1) ≤ l7 → ¬ 30 ≤ l7 → ∀ (x1 : Int32) (h1 : jH), P1 x1 h1 → JM mX10_through [.ref 69, .ref 89, .int l1, .int l2] (jG0 sc) h1 (jint sc P2))
    (v3 : ¬ (h 20 1) ≤ l7 → ¬ 30 ≤ l7 → ∀ (x1 : Int32) (h1 : jH), P1 x1 h1 → ∀ (x2 : Int32) (h2 : jH), P2 x2 h2 → ¬ x2 = l3 → WP mX11_putOutPleased Q 18 [some (.ref 0), some (.int l1), some (.int l2), some (.int l3), some (.ref 20), some (.int (l5 + 1)), some (.int l6), some (.int (l7 + 1))] [] (jG0 sc) h2 (0, 0))
    (o2 : ¬ (h 20 1) ≤ l7 → ¬ 30 ≤ l7 → ∀ (x1 : Int32) (h1 : jH), P1 x1 h1 → ∀ (x2 : Int32) (h2 : jH), P2 x2 h2 → x2 = l3 → vp_in l7 30)
    (o3 : ¬ (h 20 1) ≤ l7 → ¬ 30 ≤ l7 → ∀ (x1 : Int32) (h1 : jH), P1 x1 h1 → ∀ (x2 : Int32) (h2 : jH), P2 x2 h2 → x2 = l3 → vp_in l6 30)
    (v4 : ¬ (h 20 1) ≤ l7 → ¬ 30 ≤ l7 → ∀ (x1 : Int32) (h1 : jH), P1 x1 h1 → ∀ (x2 : Int32) (h2 : jH), P2 x2 h2 → x2 = l3 → WP mX11_putOutPleased Q 18 [some (.ref 0), some (.int l1), some (.int l2), some (.int l3), some (.ref 20), some (.int l5), some (.int (l6 + 1)), some (.int (l7 + 1))] [] (jG0 sc) (jput h2 21 l6.toNatClampNeg (h2 21 l7.toNatClampNeg)) (0, 0)) :
    WP mX11_putOutPleased Q 18 [some (.ref 0), some (.int l1), some (.int l2), some (.int l3), some (.ref 20), some (.int l5), some (.int l6), some (.int l7)] [] (jG0 sc) h (0, 0) := by
  exact (bX11_putOutPleased_18 (fun c1 => (bX11_putOutPleased_114 (v1 c1))) (fun c1 => (bX11_putOutPleased_28 (fun c2 => (bX11_putOutPleased_114 (v2 c1 c2))) (fun c2 => (bX11_putOutPleased_39 (o1 c1 c2) (k1 c1 c2) (fun x1 h1 p1 => (bX11_putOutPleased_76 (k2 c1 c2 x1 h1 p1) (fun x2 h2 p2 c3 => (bX11_putOutPleased_105 (bX11_putOutPleased_108 (v3 c1 c2 x1 h1 p1 x2 h2 p2 c3)))) (fun x2 h2 p2 c3 => (bX11_putOutPleased_83 (o2 c1 c2 x1 h1 p1 x2 h2 p2 c3) (o3 c1 c2 x1 h1 p1 x2 h2 p2 c3) (bX11_putOutPleased_108 (v4 c1 c2 x1 h1 p1 x2 h2 p2 c3)))))))))))
theorem dX11_ends_0 : decode (mC mX11_ends) 0 = .ok (.iload_n 3, 1) := by decide +kernel
theorem dX11_ends_1 : decode (mC mX11_ends) 1 = .ok (.ifCond .eq 13, 3) := by decide +kernel
theorem dX11_ends_4 : decode (mC mX11_ends) 4 = .ok (.aload_n 0, 1) := by decide +kernel
theorem dX11_ends_5 : decode (mC mX11_ends) 5 = .ok (.getfield 37, 3) := by decide +kernel
theorem dX11_ends_8 : decode (mC mX11_ends) 8 = .ok (.getfield 117, 3) := by decide +kernel
theorem dX11_ends_11 : decode (mC mX11_ends) 11 = .ok (.goto 10, 3) := by decide +kernel
theorem dX11_ends_14 : decode (mC mX11_ends) 14 = .ok (.aload_n 0, 1) := by decide +kernel
theorem dX11_ends_15 : decode (mC mX11_ends) 15 = .ok (.getfield 37, 3) := by decide +kernel
theorem dX11_ends_18 : decode (mC mX11_ends) 18 = .ok (.getfield 127, 3) := by decide +kernel
theorem dX11_ends_21 : decode (mC mX11_ends) 21 = .ok (.astore 4, 2) := by decide +kernel
theorem dX11_ends_23 : decode (mC mX11_ends) 23 = .ok (.aload 4, 2) := by decide +kernel
theorem dX11_ends_25 : decode (mC mX11_ends) 25 = .ok (.getfield 136, 3) := by decide +kernel
theorem dX11_ends_28 : decode (mC mX11_ends) 28 = .ok (.ifCond .ne 13, 3) := by decide +kernel
theorem dX11_ends_31 : decode (mC mX11_ends) 31 = .ok (.new 203, 3) := by decide +kernel
theorem dX11_ends_34 : decode (mC mX11_ends) 34 = .ok (.dup, 1) := by decide +kernel
theorem dX11_ends_35 : decode (mC mX11_ends) 35 = .ok (.ldc 205, 2) := by decide +kernel
theorem dX11_ends_37 : decode (mC mX11_ends) 37 = .ok (.invokespecial 207, 3) := by decide +kernel
theorem dX11_ends_40 : decode (mC mX11_ends) 40 = .ok (.athrow, 1) := by decide +kernel
theorem dX11_ends_41 : decode (mC mX11_ends) 41 = .ok (.aload_n 0, 1) := by decide +kernel
theorem dX11_ends_42 : decode (mC mX11_ends) 42 = .ok (.getfield 47, 3) := by decide +kernel
theorem dX11_ends_45 : decode (mC mX11_ends) 45 = .ok (.aload 4, 2) := by decide +kernel
theorem dX11_ends_47 : decode (mC mX11_ends) 47 = .ok (.iload_n 1, 1) := by decide +kernel
theorem dX11_ends_48 : decode (mC mX11_ends) 48 = .ok (.iload_n 2, 1) := by decide +kernel
theorem dX11_ends_49 : decode (mC mX11_ends) 49 = .ok (.invokevirtual 196, 3) := by decide +kernel
theorem dX11_ends_52 : decode (mC mX11_ends) 52 = .ok (.ireturn, 1) := by decide +kernel
set_option maxRecDepth 100000 in
theorem bX11_ends_0 {sc : Nat × (Nat → Int32)} {h : jH} {Q : jQ} {l1 l2 l3 : Int32}
    (v1 : l3 = 0 → WP mX11_ends Q 14 [some (.ref 0), some (.int l1), some (.int l2), some (.int l3), none] [] (jG0 sc) h (0, 0))
    (v2 : ¬ l3 = 0 → WP mX11_ends Q 4 [some (.ref 0), some (.int l1), some (.int l2), some (.int l3), none] [] (jG0 sc) h (0, 0)) :
    WP mX11_ends Q 0 [some (.ref 0), some (.int l1), some (.int l2), some (.int l3), none] [] (jG0 sc) h (0, 0) := by
  refine j_iload_n (i := 3) rfl dX11_ends_0 ?_
  refine j_if_eq (off := 13) 14 dX11_ends_1 (by decide) (fun c1 => ?_) (fun c1 => ?_)
  · exact j_le [some (.ref 0), some (.int l1), some (.int l2), some (.int l3), none] (And.intro rfl (And.intro rfl (And.intro rfl (And.intro rfl True.intro)))) (v1 c1)
  · exact j_le [some (.ref 0), some (.int l1), some (.int l2), some (.int l3), none] (And.intro rfl (And.intro rfl (And.intro rfl (And.intro rfl True.intro)))) (v2 c1)
set_option maxRecDepth 100000 in
theorem bX11_ends_4 {sc : Nat × (Nat → Int32)} {h : jH} {Q : jQ} {l1 l2 l3 : Int32}
    (v1 : WP mX11_ends Q 21 [some (.ref 0), some (.int l1), some (.int l2), some (.int l3), none] [.ref 12] (jG0 sc) h (0, 0)) :
    WP mX11_ends Q 4 [some (.ref 0), some (.int l1), some (.int l2), some (.int l3), none] [] (jG0 sc) h (0, 0) := by
  refine j_aload_n (i := 0) rfl dX11_ends_4 ?_
  refine j_getR (idx := 37) (ci := 11) (k := 4) (nest := false) (show (11, 37, 11, 4, false) ∈ jFT by decide) rfl (Nat.le_of_ble_eq_true rfl) rfl (a := 9) rfl dX11_ends_5 ?_
  refine j_getR (idx := 117) (ci := 6) (k := 1) (nest := true) (show (11, 117, 6, 1, true) ∈ jFT by decide) rfl (Nat.le_of_ble_eq_true rfl) rfl (a := 12) rfl dX11_ends_8 ?_
  refine j_goto (off := 10) 21 dX11_ends_11 (by decide) ?_
  exact j_le [some (.ref 0), some (.int l1), some (.int l2), some (.int l3), none] (And.intro rfl (And.intro rfl (And.intro rfl (And.intro rfl True.intro)))) v1
set_option maxRecDepth 100000 in
theorem bX11_ends_14 {sc : Nat × (Nat → Int32)} {h : jH} {Q : jQ} {l1 l2 l3 : Int32}
    (v1 : WP mX11_ends Q 21 [some (.ref 0), some (.int l1), some (.int l2), some (.int l3), none] [.ref 10] (jG0 sc) h (0, 0)) :
    WP mX11_ends Q 14 [some (.ref 0), some (.int l1), some (.int l2), some (.int l3), none] [] (jG0 sc) h (0, 0) := by
  refine j_aload_n (i := 0) rfl dX11_ends_14 ?_
  refine j_getR (idx := 37) (ci := 11) (k := 4) (nest := false) (show (11, 37, 11, 4, false) ∈ jFT by decide) rfl (Nat.le_of_ble_eq_true rfl) rfl (a := 9) rfl dX11_ends_15 ?_
  refine j_getR (idx := 127) (ci := 6) (k := 0) (nest := true) (show (11, 127, 6, 0, true) ∈ jFT by decide) rfl (Nat.le_of_ble_eq_true rfl) rfl (a := 10) rfl dX11_ends_18 ?_
  exact j_le [some (.ref 0), some (.int l1), some (.int l2), some (.int l3), none] (And.intro rfl (And.intro rfl (And.intro rfl (And.intro rfl True.intro)))) v1
set_option maxRecDepth 100000 in
theorem bX11_ends_21 {sc : Nat × (Nat → Int32)} {h : jH} {Q : jQ} {m : Nat} {l1 l2 l3 : Int32} (m_h : jI4 m)
    (v1 : ¬ (h m 1) = 0 → WP mX11_ends Q 41 [some (.ref 0), some (.int l1), some (.int l2), some (.int l3), some (.ref m)] [] (jG0 sc) h (0, 0))
    (v2 : (h m 1) = 0 → WP mX11_ends Q 31 [some (.ref 0), some (.int l1), some (.int l2), some (.int l3), some (.ref m)] [] (jG0 sc) h (0, 0)) :
    WP mX11_ends Q 21 [some (.ref 0), some (.int l1), some (.int l2), some (.int l3), none] [.ref m] (jG0 sc) h (0, 0) := by
  obtain ⟨m_lt1, m_K0, m_R0_0, m_K1, m_L1⟩ := m_h
  have m_lt0 : m + 0 < jN (jG0 sc) := Nat.lt_of_succ_lt m_lt1
  refine j_astore (i := 4) dX11_ends_21 (Nat.le_of_ble_eq_true rfl) ?_
  refine j_aload (i := 4) rfl dX11_ends_23 ?_
  refine j_getI (idx := 136) (ci := 4) (k := 1) (nest := true) (show (11, 136, 4, 1, true) ∈ jFT by decide) rfl (m_lt0) m_K0 dX11_ends_25 ?_
  refine j_if_ne (off := 13) 41 dX11_ends_28 (by decide) (fun c1 => ?_) (fun c1 => ?_)
  · exact j_le [some (.ref 0), some (.int l1), some (.int l2), some (.int l3), some (.ref m)] (And.intro rfl (And.intro rfl (And.intro rfl (And.intro rfl (And.intro rfl True.intro))))) (v1 c1)
  · exact j_le [some (.ref 0), some (.int l1), some (.int l2), some (.int l3), some (.ref m)] (And.intro rfl (And.intro rfl (And.intro rfl (And.intro rfl (And.intro rfl True.intro))))) (v2 c1)
set_option maxRecDepth 100000 in
theorem bX11_ends_31 {sc : Nat × (Nat → Int32)} {h : jH} {Q : jQ} {m : Nat} {l1 l2 l3 : Int32} (m_h : jI4 m)
    (v1 : Q (.inr "java/lang/IllegalStateException") (jG0 sc) h) :
    WP mX11_ends Q 31 [some (.ref 0), some (.int l1), some (.int l2), some (.int l3), some (.ref m)] [] (jG0 sc) h (0, 0) := by
  obtain ⟨m_lt1, m_K0, m_R0_0, m_K1, m_L1⟩ := m_h
  have m_lt0 : m + 0 < jN (jG0 sc) := Nat.lt_of_succ_lt m_lt1
  exact j_thr_ISE (is := 205) "there is no such BODY" 28 (by decide +kernel) rfl rfl (by decide) (by decide) (Nat.le_of_ble_eq_true rfl) dX11_ends_31 dX11_ends_34 dX11_ends_35 dX11_ends_37 dX11_ends_40 v1
set_option maxRecDepth 100000 in
theorem bX11_ends_41 {sc : Nat × (Nat → Int32)} {h : jH} {Q : jQ} {m : Nat} {l1 l2 l3 : Int32} {P1 : Int32 → jH → Prop} (m_h : jI4 m)
    (k1 : JM mX10_through [.ref 69, .ref m, .int l1, .int l2] (jG0 sc) h (jint sc P1))
    (v1 : ∀ (x1 : Int32) (h1 : jH), P1 x1 h1 → Q (.inl (some (.int x1))) (jG0 sc) h1) :
    WP mX11_ends Q 41 [some (.ref 0), some (.int l1), some (.int l2), some (.int l3), some (.ref m)] [] (jG0 sc) h (0, 0) := by
  obtain ⟨m_lt1, m_K0, m_R0_0, m_K1, m_L1⟩ := m_h
  have m_lt0 : m + 0 < jN (jG0 sc) := Nat.lt_of_succ_lt m_lt1
  refine j_aload_n (i := 0) rfl dX11_ends_41 ?_
  refine j_getR (idx := 47) (ci := 11) (k := 7) (nest := false) (show (11, 47, 11, 7, false) ∈ jFT by decide) rfl (Nat.le_of_ble_eq_true rfl) rfl (a := 69) rfl dX11_ends_42 ?_
  refine j_aload (i := 4) rfl dX11_ends_45 ?_
  refine j_iload_n (i := 1) rfl dX11_ends_47 ?_
  refine j_iload_n (i := 2) rfl dX11_ends_48 ?_
  refine j_callVN (idx := 196) (As := [.ref m, .int l1, .int l2]) (ci := 10) (n := 3) k1 jint_nt (jTbl (jtb3 9 rfl)) sX10_through kX10_through rfl ⟨rfl, by decide +kernel, by decide +kernel, by decide +kernel⟩ rfl ⟨by decide, by decide⟩ (Nat.le_of_ble_eq_true rfl) rfl (Nat.le_of_ble_eq_true rfl) (Nat.le_of_ble_eq_true rfl) ⟨Nat.zero_le _, Nat.zero_le _⟩ dX11_ends_49 (fun r Γ' h1 q => ?_)
  obtain ⟨x1, q0, rfl, p1⟩ := q; cases q0
  refine j_eqst [.int x1] (by rfl) ?_
  exact j_iret rfl rfl (Nat.zero_le _) (Nat.zero_le _) dX11_ends_52 (v1 x1 h1 p1)
set_option maxRecDepth 100000 in
theorem rX11_ends_0 {sc : Nat × (Nat → Int32)} {h : jH} {Q : jQ} {l1 l2 l3 : Int32} {P1 : Int32 → jH → Prop} {P2 : Int32 → jH → Prop}
    (k1 : l3 = 0 → ¬ (h 10 1) = 0 → JM mX10_through [.ref 69, .ref 10, .int l1, .int l2] (jG0 sc) h (jint sc P1))
    (v1 : l3 = 0 → ¬ (h 10 1) = 0 → ∀ (x1 : Int32) (h1 : jH), P1 x1 h1 → Q (.inl (some (.int x1))) (jG0 sc) h1)
    (v2 : l3 = 0 → (h 10 1) = 0 → Q (.inr "java/lang/IllegalStateException") (jG0 sc) h)
    (k2 : ¬ l3 = 0 → ¬ (h 12 1) = 0 → JM mX10_through [.ref 69, .ref 12, .int l1, .int l2] (jG0 sc) h (jint sc P2))
    (v3 : ¬ l3 = 0 → ¬ (h 12 1) = 0 → ∀ (x2 : Int32) (h2 : jH), P2 x2 h2 → Q (.inl (some (.int x2))) (jG0 sc) h2)
    (v4 : ¬ l3 = 0 → (h 12 1) = 0 → Q (.inr "java/lang/IllegalStateException") (jG0 sc) h) :
    WP mX11_ends Q 0 [some (.ref 0), some (.int l1), some (.int l2), some (.int l3), none] [] (jG0 sc) h (0, 0) := by
  exact (bX11_ends_0 (fun c1 => (bX11_ends_14 (bX11_ends_21 (by unfold jI4; decide) (fun c2 => (bX11_ends_41 (by unfold jI4; decide) (k1 c1 c2) (fun x1 h1 p1 => (v1 c1 c2 x1 h1 p1)))) (fun c2 => (bX11_ends_31 (by unfold jI4; decide) (v2 c1 c2)))))) (fun c1 => (bX11_ends_4 (bX11_ends_21 (by unfold jI4; decide) (fun c3 => (bX11_ends_41 (by unfold jI4; decide) (k2 c1 c3) (fun x2 h2 p2 => (v3 c1 c3 x2 h2 p2)))) (fun c3 => (bX11_ends_31 (by unfold jI4; decide) (v4 c1 c3)))))))
theorem dX11_look_0 : decode (mC mX11_look) 0 = .ok (.aload_n 0, 1) := by decide +kernel
theorem dX11_look_1 : decode (mC mX11_look) 1 = .ok (.getfield 37, 3) := by decide +kernel
theorem dX11_look_4 : decode (mC mX11_look) 4 = .ok (.getfield 169, 3) := by decide +kernel
theorem dX11_look_7 : decode (mC mX11_look) 7 = .ok (.astore_n 3, 1) := by decide +kernel
theorem dX11_look_8 : decode (mC mX11_look) 8 = .ok (.iload_n 1, 1) := by decide +kernel
theorem dX11_look_9 : decode (mC mX11_look) 9 = .ok (.ifCond .lt 17, 3) := by decide +kernel
theorem dX11_look_12 : decode (mC mX11_look) 12 = .ok (.iload_n 1, 1) := by decide +kernel
theorem dX11_look_13 : decode (mC mX11_look) 13 = .ok (.aload_n 3, 1) := by decide +kernel
theorem dX11_look_14 : decode (mC mX11_look) 14 = .ok (.getfield 173, 3) := by decide +kernel
theorem dX11_look_17 : decode (mC mX11_look) 17 = .ok (.if_icmp .ge 9, 3) := by decide +kernel
theorem dX11_look_20 : decode (mC mX11_look) 20 = .ok (.iload_n 1, 1) := by decide +kernel
theorem dX11_look_21 : decode (mC mX11_look) 21 = .ok (.bipush 12, 2) := by decide +kernel
theorem dX11_look_23 : decode (mC mX11_look) 23 = .ok (.if_icmp .lt 13, 3) := by decide +kernel
theorem dX11_look_26 : decode (mC mX11_look) 26 = .ok (.new 208, 3) := by decide +kernel
theorem dX11_look_29 : decode (mC mX11_look) 29 = .ok (.dup, 1) := by decide +kernel
theorem dX11_look_30 : decode (mC mX11_look) 30 = .ok (.ldc 210, 2) := by decide +kernel
theorem dX11_look_32 : decode (mC mX11_look) 32 = .ok (.invokespecial 212, 3) := by decide +kernel
theorem dX11_look_35 : decode (mC mX11_look) 35 = .ok (.athrow, 1) := by decide +kernel
theorem dX11_look_36 : decode (mC mX11_look) 36 = .ok (.aload_n 0, 1) := by decide +kernel
theorem dX11_look_37 : decode (mC mX11_look) 37 = .ok (.invokevirtual 213, 3) := by decide +kernel
theorem dX11_look_40 : decode (mC mX11_look) 40 = .ok (.ifCond .ne 13, 3) := by decide +kernel
theorem dX11_look_43 : decode (mC mX11_look) 43 = .ok (.new 203, 3) := by decide +kernel
theorem dX11_look_46 : decode (mC mX11_look) 46 = .ok (.dup, 1) := by decide +kernel
theorem dX11_look_47 : decode (mC mX11_look) 47 = .ok (.ldc 217, 2) := by decide +kernel
theorem dX11_look_49 : decode (mC mX11_look) 49 = .ok (.invokespecial 207, 3) := by decide +kernel
theorem dX11_look_52 : decode (mC mX11_look) 52 = .ok (.athrow, 1) := by decide +kernel
theorem dX11_look_53 : decode (mC mX11_look) 53 = .ok (.aload_n 0, 1) := by decide +kernel
theorem dX11_look_54 : decode (mC mX11_look) 54 = .ok (.getfield 47, 3) := by decide +kernel
theorem dX11_look_57 : decode (mC mX11_look) 57 = .ok (.aload_n 0, 1) := by decide +kernel
theorem dX11_look_58 : decode (mC mX11_look) 58 = .ok (.getfield 37, 3) := by decide +kernel
theorem dX11_look_61 : decode (mC mX11_look) 61 = .ok (.getfield 127, 3) := by decide +kernel
theorem dX11_look_64 : decode (mC mX11_look) 64 = .ok (.aload_n 3, 1) := by decide +kernel
theorem dX11_look_65 : decode (mC mX11_look) 65 = .ok (.getfield 219, 3) := by decide +kernel
theorem dX11_look_68 : decode (mC mX11_look) 68 = .ok (.iload_n 1, 1) := by decide +kernel
theorem dX11_look_69 : decode (mC mX11_look) 69 = .ok (.iaload, 1) := by decide +kernel
theorem dX11_look_70 : decode (mC mX11_look) 70 = .ok (.aload_n 3, 1) := by decide +kernel
theorem dX11_look_71 : decode (mC mX11_look) 71 = .ok (.getfield 222, 3) := by decide +kernel
theorem dX11_look_74 : decode (mC mX11_look) 74 = .ok (.iload_n 1, 1) := by decide +kernel
theorem dX11_look_75 : decode (mC mX11_look) 75 = .ok (.iaload, 1) := by decide +kernel
theorem dX11_look_76 : decode (mC mX11_look) 76 = .ok (.invokevirtual 196, 3) := by decide +kernel
theorem dX11_look_79 : decode (mC mX11_look) 79 = .ok (.istore 4, 2) := by decide +kernel
theorem dX11_look_81 : decode (mC mX11_look) 81 = .ok (.iload_n 2, 1) := by decide +kernel
theorem dX11_look_82 : decode (mC mX11_look) 82 = .ok (.tableswitch 99 0 6 #[42, 49, 56, 63, 66, 83, 91], 42) := by decide +kernel
theorem dX11_look_124 : decode (mC mX11_look) 124 = .ok (.aload_n 3, 1) := by decide +kernel
theorem dX11_look_125 : decode (mC mX11_look) 125 = .ok (.getfield 219, 3) := by decide +kernel
theorem dX11_look_128 : decode (mC mX11_look) 128 = .ok (.iload_n 1, 1) := by decide +kernel
theorem dX11_look_129 : decode (mC mX11_look) 129 = .ok (.iaload, 1) := by decide +kernel
theorem dX11_look_130 : decode (mC mX11_look) 130 = .ok (.ireturn, 1) := by decide +kernel
theorem dX11_look_131 : decode (mC mX11_look) 131 = .ok (.aload_n 3, 1) := by decide +kernel
theorem dX11_look_132 : decode (mC mX11_look) 132 = .ok (.getfield 222, 3) := by decide +kernel
theorem dX11_look_135 : decode (mC mX11_look) 135 = .ok (.iload_n 1, 1) := by decide +kernel
theorem dX11_look_136 : decode (mC mX11_look) 136 = .ok (.iaload, 1) := by decide +kernel
theorem dX11_look_137 : decode (mC mX11_look) 137 = .ok (.ireturn, 1) := by decide +kernel
theorem dX11_look_138 : decode (mC mX11_look) 138 = .ok (.aload_n 3, 1) := by decide +kernel
theorem dX11_look_139 : decode (mC mX11_look) 139 = .ok (.getfield 225, 3) := by decide +kernel
theorem dX11_look_142 : decode (mC mX11_look) 142 = .ok (.iload_n 1, 1) := by decide +kernel
theorem dX11_look_143 : decode (mC mX11_look) 143 = .ok (.iaload, 1) := by decide +kernel
theorem dX11_look_144 : decode (mC mX11_look) 144 = .ok (.ireturn, 1) := by decide +kernel
theorem dX11_look_145 : decode (mC mX11_look) 145 = .ok (.iload 4, 2) := by decide +kernel
theorem dX11_look_147 : decode (mC mX11_look) 147 = .ok (.ireturn, 1) := by decide +kernel
theorem dX11_look_148 : decode (mC mX11_look) 148 = .ok (.iload 4, 2) := by decide +kernel
theorem dX11_look_150 : decode (mC mX11_look) 150 = .ok (.aload_n 3, 1) := by decide +kernel
theorem dX11_look_151 : decode (mC mX11_look) 151 = .ok (.getfield 225, 3) := by decide +kernel
theorem dX11_look_154 : decode (mC mX11_look) 154 = .ok (.iload_n 1, 1) := by decide +kernel
theorem dX11_look_155 : decode (mC mX11_look) 155 = .ok (.iaload, 1) := by decide +kernel
theorem dX11_look_156 : decode (mC mX11_look) 156 = .ok (.if_icmp .ne 7, 3) := by decide +kernel
theorem dX11_look_159 : decode (mC mX11_look) 159 = .ok (.iconst 1, 1) := by decide +kernel
theorem dX11_look_160 : decode (mC mX11_look) 160 = .ok (.goto 4, 3) := by decide +kernel
theorem dX11_look_163 : decode (mC mX11_look) 163 = .ok (.iconst 0, 1) := by decide +kernel
theorem dX11_look_164 : decode (mC mX11_look) 164 = .ok (.ireturn, 1) := by decide +kernel
theorem dX11_look_165 : decode (mC mX11_look) 165 = .ok (.aload_n 0, 1) := by decide +kernel
theorem dX11_look_166 : decode (mC mX11_look) 166 = .ok (.getfield 47, 3) := by decide +kernel
theorem dX11_look_169 : decode (mC mX11_look) 169 = .ok (.getfield 228, 3) := by decide +kernel
theorem dX11_look_172 : decode (mC mX11_look) 172 = .ok (.ireturn, 1) := by decide +kernel
theorem dX11_look_173 : decode (mC mX11_look) 173 = .ok (.aload_n 0, 1) := by decide +kernel
theorem dX11_look_174 : decode (mC mX11_look) 174 = .ok (.getfield 47, 3) := by decide +kernel
theorem dX11_look_177 : decode (mC mX11_look) 177 = .ok (.getfield 231, 3) := by decide +kernel
theorem dX11_look_180 : decode (mC mX11_look) 180 = .ok (.ireturn, 1) := by decide +kernel
theorem dX11_look_181 : decode (mC mX11_look) 181 = .ok (.new 234, 3) := by decide +kernel
theorem dX11_look_184 : decode (mC mX11_look) 184 = .ok (.dup, 1) := by decide +kernel
theorem dX11_look_185 : decode (mC mX11_look) 185 = .ok (.ldc 236, 2) := by decide +kernel
theorem dX11_look_187 : decode (mC mX11_look) 187 = .ok (.invokespecial 238, 3) := by decide +kernel
theorem dX11_look_190 : decode (mC mX11_look) 190 = .ok (.athrow, 1) := by decide +kernel
set_option maxRecDepth 100000 in
theorem bX11_look_0 {sc : Nat × (Nat → Int32)} {h : jH} {Q : jQ} {l1 l2 : Int32}
    (v1 : l1 < 0 → WP mX11_look Q 26 [some (.ref 0), some (.int l1), some (.int l2), some (.ref 14), none] [] (jG0 sc) h (0, 0))
    (v2 : ¬ l1 < 0 → WP mX11_look Q 12 [some (.ref 0), some (.int l1), some (.int l2), some (.ref 14), none] [] (jG0 sc) h (0, 0)) :
    WP mX11_look Q 0 [some (.ref 0), some (.int l1), some (.int l2), none, none] [] (jG0 sc) h (0, 0) := by
  refine j_aload_n (i := 0) rfl dX11_look_0 ?_
  refine j_getR (idx := 37) (ci := 11) (k := 4) (nest := false) (show (11, 37, 11, 4, false) ∈ jFT by decide) rfl (Nat.le_of_ble_eq_true rfl) rfl (a := 9) rfl dX11_look_1 ?_
  refine j_getR (idx := 169) (ci := 6) (k := 2) (nest := true) (show (11, 169, 6, 2, true) ∈ jFT by decide) rfl (Nat.le_of_ble_eq_true rfl) rfl (a := 14) rfl dX11_look_4 ?_
  refine j_astore_n (i := 3) dX11_look_7 (Nat.le_of_ble_eq_true rfl) ?_
  refine j_iload_n (i := 1) rfl dX11_look_8 ?_
  refine j_if_lt (off := 17) 26 dX11_look_9 (by decide) (fun c1 => ?_) (fun c1 => ?_)
  · exact j_le [some (.ref 0), some (.int l1), some (.int l2), some (.ref 14), none] (And.intro rfl (And.intro rfl (And.intro rfl (And.intro rfl True.intro)))) (v1 c1)
  · exact j_le [some (.ref 0), some (.int l1), some (.int l2), some (.ref 14), none] (And.intro rfl (And.intro rfl (And.intro rfl (And.intro rfl True.intro)))) (v2 c1)
set_option maxRecDepth 100000 in
theorem bX11_look_12 {sc : Nat × (Nat → Int32)} {h : jH} {Q : jQ} {l1 l2 : Int32}
    (v1 : (h 14 3) ≤ l1 → WP mX11_look Q 26 [some (.ref 0), some (.int l1), some (.int l2), some (.ref 14), none] [] (jG0 sc) h (0, 0))
    (v2 : ¬ (h 14 3) ≤ l1 → WP mX11_look Q 20 [some (.ref 0), some (.int l1), some (.int l2), some (.ref 14), none] [] (jG0 sc) h (0, 0)) :
    WP mX11_look Q 12 [some (.ref 0), some (.int l1), some (.int l2), some (.ref 14), none] [] (jG0 sc) h (0, 0) := by
  refine j_iload_n (i := 1) rfl dX11_look_12 ?_
  refine j_aload_n (i := 3) rfl dX11_look_13 ?_
  refine j_getI (idx := 173) (ci := 5) (k := 3) (nest := true) (show (11, 173, 5, 3, true) ∈ jFT by decide) rfl (Nat.le_of_ble_eq_true rfl) rfl dX11_look_14 ?_
  refine j_icmp_ge (off := 9) 26 dX11_look_17 (by decide) (fun c1 => ?_) (fun c1 => ?_)
  · exact j_le [some (.ref 0), some (.int l1), some (.int l2), some (.ref 14), none] (And.intro rfl (And.intro rfl (And.intro rfl (And.intro rfl True.intro)))) (v1 c1)
  · exact j_le [some (.ref 0), some (.int l1), some (.int l2), some (.ref 14), none] (And.intro rfl (And.intro rfl (And.intro rfl (And.intro rfl True.intro)))) (v2 c1)
set_option maxRecDepth 100000 in
theorem bX11_look_20 {sc : Nat × (Nat → Int32)} {h : jH} {Q : jQ} {l1 l2 : Int32}
    (v1 : l1 < 12 → WP mX11_look Q 36 [some (.ref 0), some (.int l1), some (.int l2), some (.ref 14), none] [] (jG0 sc) h (0, 0))
    (v2 : ¬ l1 < 12 → WP mX11_look Q 26 [some (.ref 0), some (.int l1), some (.int l2), some (.ref 14), none] [] (jG0 sc) h (0, 0)) :
    WP mX11_look Q 20 [some (.ref 0), some (.int l1), some (.int l2), some (.ref 14), none] [] (jG0 sc) h (0, 0) := by
  refine j_iload_n (i := 1) rfl dX11_look_20 ?_
  refine j_bipush (n := 12) 12 (by decide) dX11_look_21 ?_
  refine j_icmp_lt (off := 13) 36 dX11_look_23 (by decide) (fun c1 => ?_) (fun c1 => ?_)
  · exact j_le [some (.ref 0), some (.int l1), some (.int l2), some (.ref 14), none] (And.intro rfl (And.intro rfl (And.intro rfl (And.intro rfl True.intro)))) (v1 c1)
  · exact j_le [some (.ref 0), some (.int l1), some (.int l2), some (.ref 14), none] (And.intro rfl (And.intro rfl (And.intro rfl (And.intro rfl True.intro)))) (v2 c1)
set_option maxRecDepth 100000 in
theorem bX11_look_26 {sc : Nat × (Nat → Int32)} {h : jH} {Q : jQ} {l1 l2 : Int32}
    (v1 : Q (.inr "java/lang/IndexOutOfBoundsException") (jG0 sc) h) :
    WP mX11_look Q 26 [some (.ref 0), some (.int l1), some (.int l2), some (.ref 14), none] [] (jG0 sc) h (0, 0) := by
  exact j_thr_IOB (is := 210) "no such RUN" 29 (by decide +kernel) rfl rfl (by decide) (by decide) (Nat.le_of_ble_eq_true rfl) dX11_look_26 dX11_look_29 dX11_look_30 dX11_look_32 dX11_look_35 v1
set_option maxRecDepth 100000 in
theorem bX11_look_36 {sc : Nat × (Nat → Int32)} {h : jH} {Q : jQ} {l1 l2 : Int32} {P1 : Int32 → jH → Prop}
    (k1 : JM mX11_hasBody [.ref 0] (jG0 sc) h (jint sc P1))
    (v1 : ∀ (x1 : Int32) (h1 : jH), P1 x1 h1 → ¬ x1 = 0 → WP mX11_look Q 53 [some (.ref 0), some (.int l1), some (.int l2), some (.ref 14), none] [] (jG0 sc) h1 (0, 0))
    (v2 : ∀ (x1 : Int32) (h1 : jH), P1 x1 h1 → x1 = 0 → WP mX11_look Q 43 [some (.ref 0), some (.int l1), some (.int l2), some (.ref 14), none] [] (jG0 sc) h1 (0, 0)) :
    WP mX11_look Q 36 [some (.ref 0), some (.int l1), some (.int l2), some (.ref 14), none] [] (jG0 sc) h (0, 0) := by
  refine j_aload_n (i := 0) rfl dX11_look_36 ?_
  refine j_callV (idx := 213) (As := []) (ci := 11) (n := 0) k1 jint_nt (jlkT (jtb3 180 rfl) rfl) sX11_hasBody kX11_hasBody rfl ⟨rfl, by decide +kernel, by decide +kernel, by decide +kernel⟩ rfl ⟨by decide, by decide⟩ (Nat.le_of_ble_eq_true rfl) rfl (Nat.le_of_ble_eq_true rfl) (Nat.le_of_ble_eq_true rfl) ⟨Nat.zero_le _, Nat.zero_le _⟩ dX11_look_37 (fun r Γ' h1 q => ?_)
  obtain ⟨x1, q0, rfl, p1⟩ := q; cases q0
  refine j_eqst [.int x1] (by rfl) ?_
  refine j_if_ne (off := 13) 53 dX11_look_40 (by decide) (fun c1 => ?_) (fun c1 => ?_)
  · exact j_le [some (.ref 0), some (.int l1), some (.int l2), some (.ref 14), none] (And.intro rfl (And.intro rfl (And.intro rfl (And.intro rfl True.intro)))) (v1 x1 h1 p1 c1)
  · exact j_le [some (.ref 0), some (.int l1), some (.int l2), some (.ref 14), none] (And.intro rfl (And.intro rfl (And.intro rfl (And.intro rfl True.intro)))) (v2 x1 h1 p1 c1)
set_option maxRecDepth 100000 in
theorem bX11_look_43 {sc : Nat × (Nat → Int32)} {h : jH} {Q : jQ} {l1 l2 : Int32}
    (v1 : Q (.inr "java/lang/IllegalStateException") (jG0 sc) h) :
    WP mX11_look Q 43 [some (.ref 0), some (.int l1), some (.int l2), some (.ref 14), none] [] (jG0 sc) h (0, 0) := by
  exact j_thr_ISE (is := 217) "there is no BODY" 30 (by decide +kernel) rfl rfl (by decide) (by decide) (Nat.le_of_ble_eq_true rfl) dX11_look_43 dX11_look_46 dX11_look_47 dX11_look_49 dX11_look_52 v1
set_option maxRecDepth 100000 in
theorem bX11_look_53 {sc : Nat × (Nat → Int32)} {h : jH} {Q : jQ} {l1 l2 : Int32} {P1 : Int32 → jH → Prop}
    (o1 : vp_in l1 12)
    (o2 : vp_in l1 12)
    (k1 : JM mX10_through [.ref 69, .ref 10, .int (h 15 l1.toNatClampNeg), .int (h 16 l1.toNatClampNeg)] (jG0 sc) h (jint sc P1))
    (v1 : ∀ (x1 : Int32) (h1 : jH), P1 x1 h1 → ((l2 : Int32).toInt < 0 ∨ 6 < (l2 : Int32).toInt) → WP mX11_look Q 181 [some (.ref 0), some (.int l1), some (.int l2), some (.ref 14), some (.int x1)] [] (jG0 sc) h1 (0, 0))
    (v2 : ∀ (x1 : Int32) (h1 : jH), P1 x1 h1 → (l2 : Int32).toInt = 0 → WP mX11_look Q 124 [some (.ref 0), some (.int l1), some (.int l2), some (.ref 14), some (.int x1)] [] (jG0 sc) h1 (0, 0))
    (v3 : ∀ (x1 : Int32) (h1 : jH), P1 x1 h1 → (l2 : Int32).toInt = 1 → WP mX11_look Q 131 [some (.ref 0), some (.int l1), some (.int l2), some (.ref 14), some (.int x1)] [] (jG0 sc) h1 (0, 0))
    (v4 : ∀ (x1 : Int32) (h1 : jH), P1 x1 h1 → (l2 : Int32).toInt = 2 → WP mX11_look Q 138 [some (.ref 0), some (.int l1), some (.int l2), some (.ref 14), some (.int x1)] [] (jG0 sc) h1 (0, 0))
    (v5 : ∀ (x1 : Int32) (h1 : jH), P1 x1 h1 → (l2 : Int32).toInt = 3 → WP mX11_look Q 145 [some (.ref 0), some (.int l1), some (.int l2), some (.ref 14), some (.int x1)] [] (jG0 sc) h1 (0, 0))
    (v6 : ∀ (x1 : Int32) (h1 : jH), P1 x1 h1 → (l2 : Int32).toInt = 4 → WP mX11_look Q 148 [some (.ref 0), some (.int l1), some (.int l2), some (.ref 14), some (.int x1)] [] (jG0 sc) h1 (0, 0))
    (v7 : ∀ (x1 : Int32) (h1 : jH), P1 x1 h1 → (l2 : Int32).toInt = 5 → WP mX11_look Q 165 [some (.ref 0), some (.int l1), some (.int l2), some (.ref 14), some (.int x1)] [] (jG0 sc) h1 (0, 0))
    (v8 : ∀ (x1 : Int32) (h1 : jH), P1 x1 h1 → (l2 : Int32).toInt = 6 → WP mX11_look Q 173 [some (.ref 0), some (.int l1), some (.int l2), some (.ref 14), some (.int x1)] [] (jG0 sc) h1 (0, 0)) :
    WP mX11_look Q 53 [some (.ref 0), some (.int l1), some (.int l2), some (.ref 14), none] [] (jG0 sc) h (0, 0) := by
  refine j_aload_n (i := 0) rfl dX11_look_53 ?_
  refine j_getR (idx := 47) (ci := 11) (k := 7) (nest := false) (show (11, 47, 11, 7, false) ∈ jFT by decide) rfl (Nat.le_of_ble_eq_true rfl) rfl (a := 69) rfl dX11_look_54 ?_
  refine j_aload_n (i := 0) rfl dX11_look_57 ?_
  refine j_getR (idx := 37) (ci := 11) (k := 4) (nest := false) (show (11, 37, 11, 4, false) ∈ jFT by decide) rfl (Nat.le_of_ble_eq_true rfl) rfl (a := 9) rfl dX11_look_58 ?_
  refine j_getR (idx := 127) (ci := 6) (k := 0) (nest := true) (show (11, 127, 6, 0, true) ∈ jFT by decide) rfl (Nat.le_of_ble_eq_true rfl) rfl (a := 10) rfl dX11_look_61 ?_
  refine j_aload_n (i := 3) rfl dX11_look_64 ?_
  refine j_getR (idx := 219) (ci := 5) (k := 0) (nest := true) (show (11, 219, 5, 0, true) ∈ jFT by decide) rfl (Nat.le_of_ble_eq_true rfl) rfl (a := 15) rfl dX11_look_65 ?_
  refine j_iload_n (i := 1) rfl dX11_look_68 ?_
  refine j_iald (Nat.le_of_ble_eq_true rfl) rfl o1 dX11_look_69 ?_
  refine j_aload_n (i := 3) rfl dX11_look_70 ?_
  refine j_getR (idx := 222) (ci := 5) (k := 1) (nest := true) (show (11, 222, 5, 1, true) ∈ jFT by decide) rfl (Nat.le_of_ble_eq_true rfl) rfl (a := 16) rfl dX11_look_71 ?_
  refine j_iload_n (i := 1) rfl dX11_look_74 ?_
  refine j_iald (Nat.le_of_ble_eq_true rfl) rfl o2 dX11_look_75 ?_
  refine j_callVN (idx := 196) (As := [.ref 10, .int (h 15 l1.toNatClampNeg), .int (h 16 l1.toNatClampNeg)]) (ci := 10) (n := 3) k1 jint_nt (jTbl (jtb3 9 rfl)) sX10_through kX10_through rfl ⟨rfl, by decide +kernel, by decide +kernel, by decide +kernel⟩ rfl ⟨by decide, by decide⟩ (Nat.le_of_ble_eq_true rfl) rfl (Nat.le_of_ble_eq_true rfl) (Nat.le_of_ble_eq_true rfl) ⟨Nat.zero_le _, Nat.zero_le _⟩ dX11_look_76 (fun r Γ' h1 q => ?_)
  obtain ⟨x1, q0, rfl, p1⟩ := q; cases q0
  refine j_eqst [.int x1] (by rfl) ?_
  refine j_istore (i := 4) dX11_look_79 (Nat.le_of_ble_eq_true rfl) ?_
  refine j_iload_n (i := 2) rfl dX11_look_81 ?_
  refine j_switch (dflt := 99) (lo := 0) (hi := 6) (offs := #[42, 49, 56, 63, 66, 83, 91]) (len := 42) [124, 131, 138, 145, 148, 165, 173] 181 dX11_look_82 (by decide) (by decide) (by decide) (fun c1 => ?_) ?_
  · exact j_le [some (.ref 0), some (.int l1), some (.int l2), some (.ref 14), some (.int x1)] (And.intro rfl (And.intro rfl (And.intro rfl (And.intro rfl (And.intro rfl True.intro))))) (v1 x1 h1 p1 c1)
  · refine ⟨fun q0 => ?_, fun q1 => ?_, fun q2 => ?_, fun q3 => ?_, fun q4 => ?_, fun q5 => ?_, fun q6 => ?_, True.intro⟩
    · exact j_le [some (.ref 0), some (.int l1), some (.int l2), some (.ref 14), some (.int x1)] (And.intro rfl (And.intro rfl (And.intro rfl (And.intro rfl (And.intro rfl True.intro))))) (v2 x1 h1 p1 q0)
    · exact j_le [some (.ref 0), some (.int l1), some (.int l2), some (.ref 14), some (.int x1)] (And.intro rfl (And.intro rfl (And.intro rfl (And.intro rfl (And.intro rfl True.intro))))) (v3 x1 h1 p1 q1)
    · exact j_le [some (.ref 0), some (.int l1), some (.int l2), some (.ref 14), some (.int x1)] (And.intro rfl (And.intro rfl (And.intro rfl (And.intro rfl (And.intro rfl True.intro))))) (v4 x1 h1 p1 q2)
    · exact j_le [some (.ref 0), some (.int l1), some (.int l2), some (.ref 14), some (.int x1)] (And.intro rfl (And.intro rfl (And.intro rfl (And.intro rfl (And.intro rfl True.intro))))) (v5 x1 h1 p1 q3)
    · exact j_le [some (.ref 0), some (.int l1), some (.int l2), some (.ref 14), some (.int x1)] (And.intro rfl (And.intro rfl (And.intro rfl (And.intro rfl (And.intro rfl True.intro))))) (v6 x1 h1 p1 q4)
    · exact j_le [some (.ref 0), some (.int l1), some (.int l2), some (.ref 14), some (.int x1)] (And.intro rfl (And.intro rfl (And.intro rfl (And.intro rfl (And.intro rfl True.intro))))) (v7 x1 h1 p1 q5)
    · exact j_le [some (.ref 0), some (.int l1), some (.int l2), some (.ref 14), some (.int x1)] (And.intro rfl (And.intro rfl (And.intro rfl (And.intro rfl (And.intro rfl True.intro))))) (v8 x1 h1 p1 q6)
set_option maxRecDepth 100000 in
theorem bX11_look_124 {sc : Nat × (Nat → Int32)} {h : jH} {Q : jQ} {l1 l2 l4 : Int32}
    (o1 : vp_in l1 12)
    (v1 : Q (.inl (some (.int (h 15 l1.toNatClampNeg)))) (jG0 sc) h) :
    WP mX11_look Q 124 [some (.ref 0), some (.int l1), some (.int l2), some (.ref 14), some (.int l4)] [] (jG0 sc) h (0, 0) := by
  refine j_aload_n (i := 3) rfl dX11_look_124 ?_
  refine j_getR (idx := 219) (ci := 5) (k := 0) (nest := true) (show (11, 219, 5, 0, true) ∈ jFT by decide) rfl (Nat.le_of_ble_eq_true rfl) rfl (a := 15) rfl dX11_look_125 ?_
  refine j_iload_n (i := 1) rfl dX11_look_128 ?_
  refine j_iald (Nat.le_of_ble_eq_true rfl) rfl o1 dX11_look_129 ?_
  exact j_iret rfl rfl (Nat.zero_le _) (Nat.zero_le _) dX11_look_130 v1
set_option maxRecDepth 100000 in
theorem bX11_look_131 {sc : Nat × (Nat → Int32)} {h : jH} {Q : jQ} {l1 l2 l4 : Int32}
    (o1 : vp_in l1 12)
    (v1 : Q (.inl (some (.int (h 16 l1.toNatClampNeg)))) (jG0 sc) h) :
    WP mX11_look Q 131 [some (.ref 0), some (.int l1), some (.int l2), some (.ref 14), some (.int l4)] [] (jG0 sc) h (0, 0) := by
  refine j_aload_n (i := 3) rfl dX11_look_131 ?_
  refine j_getR (idx := 222) (ci := 5) (k := 1) (nest := true) (show (11, 222, 5, 1, true) ∈ jFT by decide) rfl (Nat.le_of_ble_eq_true rfl) rfl (a := 16) rfl dX11_look_132 ?_
  refine j_iload_n (i := 1) rfl dX11_look_135 ?_
  refine j_iald (Nat.le_of_ble_eq_true rfl) rfl o1 dX11_look_136 ?_
  exact j_iret rfl rfl (Nat.zero_le _) (Nat.zero_le _) dX11_look_137 v1
set_option maxRecDepth 100000 in
theorem bX11_look_138 {sc : Nat × (Nat → Int32)} {h : jH} {Q : jQ} {l1 l2 l4 : Int32}
    (o1 : vp_in l1 12)
    (v1 : Q (.inl (some (.int (h 17 l1.toNatClampNeg)))) (jG0 sc) h) :
    WP mX11_look Q 138 [some (.ref 0), some (.int l1), some (.int l2), some (.ref 14), some (.int l4)] [] (jG0 sc) h (0, 0) := by
  refine j_aload_n (i := 3) rfl dX11_look_138 ?_
  refine j_getR (idx := 225) (ci := 5) (k := 2) (nest := true) (show (11, 225, 5, 2, true) ∈ jFT by decide) rfl (Nat.le_of_ble_eq_true rfl) rfl (a := 17) rfl dX11_look_139 ?_
  refine j_iload_n (i := 1) rfl dX11_look_142 ?_
  refine j_iald (Nat.le_of_ble_eq_true rfl) rfl o1 dX11_look_143 ?_
  exact j_iret rfl rfl (Nat.zero_le _) (Nat.zero_le _) dX11_look_144 v1
set_option maxRecDepth 100000 in
theorem bX11_look_145 {sc : Nat × (Nat → Int32)} {h : jH} {Q : jQ} {l1 l2 l4 : Int32}
    (v1 : Q (.inl (some (.int l4))) (jG0 sc) h) :
    WP mX11_look Q 145 [some (.ref 0), some (.int l1), some (.int l2), some (.ref 14), some (.int l4)] [] (jG0 sc) h (0, 0) := by
  refine j_iload (i := 4) rfl dX11_look_145 ?_
  exact j_iret rfl rfl (Nat.zero_le _) (Nat.zero_le _) dX11_look_147 v1
set_option maxRecDepth 100000 in
theorem bX11_look_148 {sc : Nat × (Nat → Int32)} {h : jH} {Q : jQ} {l1 l2 l4 : Int32}
    (o1 : vp_in l1 12)
    (v1 : ¬ l4 = (h 17 l1.toNatClampNeg) → WP mX11_look Q 163 [some (.ref 0), some (.int l1), some (.int l2), some (.ref 14), some (.int l4)] [] (jG0 sc) h (0, 0))
    (v2 : l4 = (h 17 l1.toNatClampNeg) → WP mX11_look Q 159 [some (.ref 0), some (.int l1), some (.int l2), some (.ref 14), some (.int l4)] [] (jG0 sc) h (0, 0)) :
    WP mX11_look Q 148 [some (.ref 0), some (.int l1), some (.int l2), some (.ref 14), some (.int l4)] [] (jG0 sc) h (0, 0) := by
  refine j_iload (i := 4) rfl dX11_look_148 ?_
  refine j_aload_n (i := 3) rfl dX11_look_150 ?_
  refine j_getR (idx := 225) (ci := 5) (k := 2) (nest := true) (show (11, 225, 5, 2, true) ∈ jFT by decide) rfl (Nat.le_of_ble_eq_true rfl) rfl (a := 17) rfl dX11_look_151 ?_
  refine j_iload_n (i := 1) rfl dX11_look_154 ?_
  refine j_iald (Nat.le_of_ble_eq_true rfl) rfl o1 dX11_look_155 ?_
  refine j_icmp_ne (off := 7) 163 dX11_look_156 (by decide) (fun c1 => ?_) (fun c1 => ?_)
  · exact j_le [some (.ref 0), some (.int l1), some (.int l2), some (.ref 14), some (.int l4)] (And.intro rfl (And.intro rfl (And.intro rfl (And.intro rfl (And.intro rfl True.intro))))) (v1 c1)
  · exact j_le [some (.ref 0), some (.int l1), some (.int l2), some (.ref 14), some (.int l4)] (And.intro rfl (And.intro rfl (And.intro rfl (And.intro rfl (And.intro rfl True.intro))))) (v2 c1)
set_option maxRecDepth 100000 in
theorem bX11_look_159 {sc : Nat × (Nat → Int32)} {h : jH} {Q : jQ} {l1 l2 l4 : Int32}
    (v1 : WP mX11_look Q 164 [some (.ref 0), some (.int l1), some (.int l2), some (.ref 14), some (.int l4)] [.int 1] (jG0 sc) h (0, 0)) :
    WP mX11_look Q 159 [some (.ref 0), some (.int l1), some (.int l2), some (.ref 14), some (.int l4)] [] (jG0 sc) h (0, 0) := by
  refine j_iconst (n := 1) 1 (by decide) dX11_look_159 ?_
  refine j_goto (off := 4) 164 dX11_look_160 (by decide) ?_
  exact j_le [some (.ref 0), some (.int l1), some (.int l2), some (.ref 14), some (.int l4)] (And.intro rfl (And.intro rfl (And.intro rfl (And.intro rfl (And.intro rfl True.intro))))) v1
set_option maxRecDepth 100000 in
theorem bX11_look_163 {sc : Nat × (Nat → Int32)} {h : jH} {Q : jQ} {l1 l2 l4 : Int32}
    (v1 : WP mX11_look Q 164 [some (.ref 0), some (.int l1), some (.int l2), some (.ref 14), some (.int l4)] [.int 0] (jG0 sc) h (0, 0)) :
    WP mX11_look Q 163 [some (.ref 0), some (.int l1), some (.int l2), some (.ref 14), some (.int l4)] [] (jG0 sc) h (0, 0) := by
  refine j_iconst (n := 0) 0 (by decide) dX11_look_163 ?_
  exact j_le [some (.ref 0), some (.int l1), some (.int l2), some (.ref 14), some (.int l4)] (And.intro rfl (And.intro rfl (And.intro rfl (And.intro rfl (And.intro rfl True.intro))))) v1
set_option maxRecDepth 100000 in
theorem bX11_look_164 {sc : Nat × (Nat → Int32)} {h : jH} {Q : jQ} {l1 l2 l4 s0 : Int32}
    (v1 : Q (.inl (some (.int s0))) (jG0 sc) h) :
    WP mX11_look Q 164 [some (.ref 0), some (.int l1), some (.int l2), some (.ref 14), some (.int l4)] [.int s0] (jG0 sc) h (0, 0) := by
  exact j_iret rfl rfl (Nat.zero_le _) (Nat.zero_le _) dX11_look_164 v1
set_option maxRecDepth 100000 in
theorem bX11_look_165 {sc : Nat × (Nat → Int32)} {h : jH} {Q : jQ} {l1 l2 l4 : Int32}
    (v1 : Q (.inl (some (.int (h 69 8)))) (jG0 sc) h) :
    WP mX11_look Q 165 [some (.ref 0), some (.int l1), some (.int l2), some (.ref 14), some (.int l4)] [] (jG0 sc) h (0, 0) := by
  refine j_aload_n (i := 0) rfl dX11_look_165 ?_
  refine j_getR (idx := 47) (ci := 11) (k := 7) (nest := false) (show (11, 47, 11, 7, false) ∈ jFT by decide) rfl (Nat.le_of_ble_eq_true rfl) rfl (a := 69) rfl dX11_look_166 ?_
  refine j_getI (idx := 228) (ci := 10) (k := 8) (nest := true) (show (11, 228, 10, 8, true) ∈ jFT by decide) rfl (Nat.le_of_ble_eq_true rfl) rfl dX11_look_169 ?_
  exact j_iret rfl rfl (Nat.zero_le _) (Nat.zero_le _) dX11_look_172 v1
set_option maxRecDepth 100000 in
theorem bX11_look_173 {sc : Nat × (Nat → Int32)} {h : jH} {Q : jQ} {l1 l2 l4 : Int32}
    (v1 : Q (.inl (some (.int (h 69 9)))) (jG0 sc) h) :
    WP mX11_look Q 173 [some (.ref 0), some (.int l1), some (.int l2), some (.ref 14), some (.int l4)] [] (jG0 sc) h (0, 0) := by
  refine j_aload_n (i := 0) rfl dX11_look_173 ?_
  refine j_getR (idx := 47) (ci := 11) (k := 7) (nest := false) (show (11, 47, 11, 7, false) ∈ jFT by decide) rfl (Nat.le_of_ble_eq_true rfl) rfl (a := 69) rfl dX11_look_174 ?_
  refine j_getI (idx := 231) (ci := 10) (k := 9) (nest := true) (show (11, 231, 10, 9, true) ∈ jFT by decide) rfl (Nat.le_of_ble_eq_true rfl) rfl dX11_look_177 ?_
  exact j_iret rfl rfl (Nat.zero_le _) (Nat.zero_le _) dX11_look_180 v1
set_option maxRecDepth 100000 in
theorem bX11_look_181 {sc : Nat × (Nat → Int32)} {h : jH} {Q : jQ} {l1 l2 l4 : Int32}
    (v1 : Q (.inr "java/util/NoSuchElementException") (jG0 sc) h) :
    WP mX11_look Q 181 [some (.ref 0), some (.int l1), some (.int l2), some (.ref 14), some (.int l4)] [] (jG0 sc) h (0, 0) := by
  exact j_thr_NSE (is := 236) "no such what" 31 (by decide +kernel) rfl rfl (by decide) (by decide) (Nat.le_of_ble_eq_true rfl) dX11_look_181 dX11_look_184 dX11_look_185 dX11_look_187 dX11_look_190 v1
set_option maxRecDepth 100000 in
theorem rX11_look_0 {sc : Nat × (Nat → Int32)} {h : jH} {Q : jQ} {l1 l2 : Int32} {P1 : Int32 → jH → Prop} {P2 : Int32 → jH → Prop}
    (v1 : l1 < 0 → Q (.inr "java/lang/IndexOutOfBoundsException") (jG0 sc) h)
    (v2 : ¬ l1 < 0 → (h 14 3) ≤ l1 → Q (.inr "java/lang/IndexOutOfBoundsException") (jG0 sc) h)
    (k1 : ¬ l1 < 0 → ¬ (h 14 3) ≤ l1 → l1 < 12 → JM mX11_hasBody [.ref 0] (jG0 sc) h (jint sc P1))
    (o1 : ¬ l1 < 0 → ¬ (h 14 3) ≤ l1 → l1 < 12 → ∀ (x1 : Int32) (h1 : jH), P1 x1 h1 → ¬ x1 = 0 → vp_in l1 12)
    (k2 : ¬ l1 < 0 → ¬ (h 14 3) ≤ l1 → l1 < 12 → ∀ (x1 : Int32) (h1 : jH), P1 x1 h1 → ¬ x1 = 0 → JM mX10_through [.ref 69, .ref 10, .int (h1 15 l1.toNatClampNeg), .int (h1 16 l1.toNatClampNeg)] (jG0 sc) h1 (jint sc P2))
    (v3 : ¬ l1 < 0 → ¬ (h 14 3) ≤ l1 → l1 < 12 → ∀ (x1 : Int32) (h1 : jH), P1 x1 h1 → ¬ x1 = 0 → ∀ (x2 : Int32) (h2 : jH), P2 x2 h2 → ((l2 : Int32).toInt < 0 ∨ 6 < (l2 : Int32).toInt) → Q (.inr "java/util/NoSuchElementException") (jG0 sc) h2)
    (o2 : ¬ l1 < 0 → ¬ (h 14 3) ≤ l1 → l1 < 12 → ∀ (x1 : Int32) (h1 : jH), P1 x1 h1 → ¬ x1 = 0 → ∀ (x2 : Int32) (h2 : jH), P2 x2 h2 → (l2 : Int32).toInt = 0 → vp_in l1 12)
    (v4 : ¬ l1 < 0 → ¬ (h 14 3) ≤ l1 → l1 < 12 → ∀ (x1 : Int32) (h1 : jH), P1 x1 h1 → ¬ x1 = 0 → ∀ (x2 : Int32) (h2 : jH), P2 x2 h2 → (l2 : Int32).toInt = 0 → Q (.inl (some (.int (h2 15 l1.toNatClampNeg)))) (jG0 sc) h2)
    (o3 : ¬ l1 < 0 → ¬ (h 14 3) ≤ l1 → l1 < 12 → ∀ (x1 : Int32) (h1 : jH), P1 x1 h1 → ¬ x1 = 0 → ∀ (x2 : Int32) (h2 : jH), P2 x2 h2 → (l2 : Int32).toInt = 1 → vp_in l1 12)
    (v5 : ¬ l1 < 0 → ¬ (h 14 3) ≤ l1 → l1 < 12 → ∀ (x1 : Int32) (h1 : jH), P1 x1 h1 → ¬ x1 = 0 → ∀ (x2 : Int32) (h2 : jH), P2 x2 h2 → (l2 : Int32).toInt = 1 → Q (.inl (some (.int (h2 16 l1.toNatClampNeg)))) (jG0 sc) h2)
    (o4 : ¬ l1 < 0 → ¬ (h 14 3) ≤ l1 → l1 < 12 → ∀ (x1 : Int32) (h1 : jH), P1 x1 h1 → ¬ x1 = 0 → ∀ (x2 : Int32) (h2 : jH), P2 x2 h2 → (l2 : Int32).toInt = 2 → vp_in l1 12)
    (v6 : ¬ l1 < 0 → ¬ (h 14 3) ≤ l1 → l1 < 12 → ∀ (x1 : Int32) (h1 : jH), P1 x1 h1 → ¬ x1 = 0 → ∀ (x2 : Int32) (h2 : jH), P2 x2 h2 → (l2 : Int32).toInt = 2 → Q (.inl (some (.int (h2 17 l1.toNatClampNeg)))) (jG0 sc) h2)
    (v7 : ¬ l1 < 0 → ¬ (h 14 3) ≤ l1 → l1 < 12 → ∀ (x1 : Int32) (h1 : jH), P1 x1 h1 → ¬ x1 = 0 → ∀ (x2 : Int32) (h2 : jH), P2 x2 h2 → (l2 : Int32).toInt = 3 → Q (.inl (some (.int x2))) (jG0 sc) h2)
    (o5 : ¬ l1 < 0 → ¬ (h 14 3) ≤ l1 → l1 < 12 → ∀ (x1 : Int32) (h1 : jH), P1 x1 h1 → ¬ x1 = 0 → ∀ (x2 : Int32) (h2 : jH), P2 x2 h2 → (l2 : Int32).toInt = 4 → vp_in l1 12)
    (v8 : ¬ l1 < 0 → ¬ (h 14 3) ≤ l1 → l1 < 12 → ∀ (x1 : Int32) (h1 : jH), P1 x1 h1 → ¬ x1 = 0 → ∀ (x2 : Int32) (h2 : jH), P2 x2 h2 → (l2 : Int32).toInt = 4 → ¬ x2 = (h2 17 l1.toNatClampNeg) → Q (.inl (some (.int 0))) (jG0 sc) h2)
    (v9 : ¬ l1 < 0 → ¬ (h 14 3) ≤ l1 → l1 < 12 → ∀ (x1 : Int32) (h1 : jH), P1 x1 h1 → ¬ x1 = 0 → ∀ (x2 : Int32) (h2 : jH), P2 x2 h2 → (l2 : Int32).toInt = 4 → x2 = (h2 17 l1.toNatClampNeg) → Q (.inl (some (.int 1))) (jG0 sc) h2)
    (v10 : ¬ l1 < 0 → ¬ (h 14 3) ≤ l1 → l1 < 12 → ∀ (x1 : Int32) (h1 : jH), P1 x1 h1 → ¬ x1 = 0 → ∀ (x2 : Int32) (h2 : jH), P2 x2 h2 → (l2 : Int32).toInt = 5 → Q (.inl (some (.int (h2 69 8)))) (jG0 sc) h2)
    (v11 : ¬ l1 < 0 → ¬ (h 14 3) ≤ l1 → l1 < 12 → ∀ (x1 : Int32) (h1 : jH), P1 x1 h1 → ¬ x1 = 0 → ∀ (x2 : Int32) (h2 : jH), P2 x2 h2 → (l2 : Int32).toInt = 6 → Q (.inl (some (.int (h2 69 9)))) (jG0 sc) h2)
    (v12 : ¬ l1 < 0 → ¬ (h 14 3) ≤ l1 → l1 < 12 → ∀ (x1 : Int32) (h1 : jH), P1 x1 h1 → x1 = 0 → Q (.inr "java/lang/IllegalStateException") (jG0 sc) h1)
    (v13 : ¬ l1 < 0 → ¬ (h 14 3) ≤ l1 → ¬ l1 < 12 → Q (.inr "java/lang/IndexOutOfBoundsException") (jG0 sc) h) :
    WP mX11_look Q 0 [some (.ref 0), some (.int l1), some (.int l2), none, none] [] (jG0 sc) h (0, 0) := by
  exact (bX11_look_0 (fun c1 => (bX11_look_26 (v1 c1))) (fun c1 => (bX11_look_12 (fun c2 => (bX11_look_26 (v2 c1 c2))) (fun c2 => (bX11_look_20 (fun c3 => (bX11_look_36 (k1 c1 c2 c3) (fun x1 h1 p1 c4 => (bX11_look_53 (o1 c1 c2 c3 x1 h1 p1 c4) (o1 c1 c2 c3 x1 h1 p1 c4) (k2 c1 c2 c3 x1 h1 p1 c4) (fun x2 h2 p2 c5 => (bX11_look_181 (v3 c1 c2 c3 x1 h1 p1 c4 x2 h2 p2 c5))) (fun x2 h2 p2 q0 => (bX11_look_124 (o2 c1 c2 c3 x1 h1 p1 c4 x2 h2 p2 q0) (v4 c1 c2 c3 x1 h1 p1 c4 x2 h2 p2 q0))) (fun x2 h2 p2 q1 => (bX11_look_131 (o3 c1 c2 c3 x1 h1 p1 c4 x2 h2 p2 q1) (v5 c1 c2 c3 x1 h1 p1 c4 x2 h2 p2 q1))) (fun x2 h2 p2 q2 => (bX11_look_138 (o4 c1 c2 c3 x1 h1 p1 c4 x2 h2 p2 q2) (v6 c1 c2 c3 x1 h1 p1 c4 x2 h2 p2 q2))) (fun x2 h2 p2 q3 => (bX11_look_145 (v7 c1 c2 c3 x1 h1 p1 c4 x2 h2 p2 q3))) (fun x2 h2 p2 q4 => (bX11_look_148 (o5 c1 c2 c3 x1 h1 p1 c4 x2 h2 p2 q4) (fun c6 => (bX11_look_163 (bX11_look_164 (v8 c1 c2 c3 x1 h1 p1 c4 x2 h2 p2 q4 c6)))) (fun c6 => (bX11_look_159 (bX11_look_164 (v9 c1 c2 c3 x1 h1 p1 c4 x2 h2 p2 q4 c6)))))) (fun x2 h2 p2 q5 => (bX11_look_165 (v10 c1 c2 c3 x1 h1 p1 c4 x2 h2 p2 q5))) (fun x2 h2 p2 q6 => (bX11_look_173 (v11 c1 c2 c3 x1 h1 p1 c4 x2 h2 p2 q6))))) (fun x1 h1 p1 c4 => (bX11_look_43 (v12 c1 c2 c3 x1 h1 p1 c4))))) (fun c3 => (bX11_look_26 (v13 c1 c2 c3))))))))
theorem dX11_done_0 : decode (mC mX11_done) 0 = .ok (.iload_n 1, 1) := by decide +kernel
theorem dX11_done_1 : decode (mC mX11_done) 1 = .ok (.ifCond .lt 17, 3) := by decide +kernel
theorem dX11_done_4 : decode (mC mX11_done) 4 = .ok (.iload_n 1, 1) := by decide +kernel
theorem dX11_done_5 : decode (mC mX11_done) 5 = .ok (.aload_n 0, 1) := by decide +kernel
theorem dX11_done_6 : decode (mC mX11_done) 6 = .ok (.getfield 37, 3) := by decide +kernel
theorem dX11_done_9 : decode (mC mX11_done) 9 = .ok (.getfield 127, 3) := by decide +kernel
theorem dX11_done_12 : decode (mC mX11_done) 12 = .ok (.getfield 136, 3) := by decide +kernel
theorem dX11_done_15 : decode (mC mX11_done) 15 = .ok (.if_icmp .lt 13, 3) := by decide +kernel
theorem dX11_done_18 : decode (mC mX11_done) 18 = .ok (.new 208, 3) := by decide +kernel
theorem dX11_done_21 : decode (mC mX11_done) 21 = .ok (.dup, 1) := by decide +kernel
theorem dX11_done_22 : decode (mC mX11_done) 22 = .ok (.ldc 239, 2) := by decide +kernel
theorem dX11_done_24 : decode (mC mX11_done) 24 = .ok (.invokespecial 212, 3) := by decide +kernel
theorem dX11_done_27 : decode (mC mX11_done) 27 = .ok (.athrow, 1) := by decide +kernel
theorem dX11_done_28 : decode (mC mX11_done) 28 = .ok (.aload_n 0, 1) := by decide +kernel
theorem dX11_done_29 : decode (mC mX11_done) 29 = .ok (.getfield 54, 3) := by decide +kernel
theorem dX11_done_32 : decode (mC mX11_done) 32 = .ok (.aload_n 0, 1) := by decide +kernel
theorem dX11_done_33 : decode (mC mX11_done) 33 = .ok (.getfield 37, 3) := by decide +kernel
theorem dX11_done_36 : decode (mC mX11_done) 36 = .ok (.getfield 127, 3) := by decide +kernel
theorem dX11_done_39 : decode (mC mX11_done) 39 = .ok (.aload_n 0, 1) := by decide +kernel
theorem dX11_done_40 : decode (mC mX11_done) 40 = .ok (.getfield 37, 3) := by decide +kernel
theorem dX11_done_43 : decode (mC mX11_done) 43 = .ok (.getfield 169, 3) := by decide +kernel
theorem dX11_done_46 : decode (mC mX11_done) 46 = .ok (.aload_n 0, 1) := by decide +kernel
theorem dX11_done_47 : decode (mC mX11_done) 47 = .ok (.getfield 47, 3) := by decide +kernel
theorem dX11_done_50 : decode (mC mX11_done) 50 = .ok (.invokevirtual 241, 3) := by decide +kernel
theorem dX11_done_53 : decode (mC mX11_done) 53 = .ok (.aload_n 0, 1) := by decide +kernel
theorem dX11_done_54 : decode (mC mX11_done) 54 = .ok (.getfield 54, 3) := by decide +kernel
theorem dX11_done_57 : decode (mC mX11_done) 57 = .ok (.iload_n 1, 1) := by decide +kernel
theorem dX11_done_58 : decode (mC mX11_done) 58 = .ok (.iload_n 2, 1) := by decide +kernel
theorem dX11_done_59 : decode (mC mX11_done) 59 = .ok (.ifCond .eq 13, 3) := by decide +kernel
theorem dX11_done_62 : decode (mC mX11_done) 62 = .ok (.aload_n 0, 1) := by decide +kernel
theorem dX11_done_63 : decode (mC mX11_done) 63 = .ok (.getfield 54, 3) := by decide +kernel
theorem dX11_done_66 : decode (mC mX11_done) 66 = .ok (.getfield 244, 3) := by decide +kernel
theorem dX11_done_69 : decode (mC mX11_done) 69 = .ok (.goto 10, 3) := by decide +kernel
theorem dX11_done_72 : decode (mC mX11_done) 72 = .ok (.aload_n 0, 1) := by decide +kernel
theorem dX11_done_73 : decode (mC mX11_done) 73 = .ok (.getfield 54, 3) := by decide +kernel
theorem dX11_done_76 : decode (mC mX11_done) 76 = .ok (.getfield 247, 3) := by decide +kernel
theorem dX11_done_79 : decode (mC mX11_done) 79 = .ok (.invokevirtual 250, 3) := by decide +kernel
theorem dX11_done_82 : decode (mC mX11_done) 82 = .ok (.ireturn, 1) := by decide +kernel
set_option maxRecDepth 100000 in
theorem bX11_done_0 {sc : Nat × (Nat → Int32)} {h : jH} {Q : jQ} {l1 l2 : Int32}
    (v1 : l1 < 0 → WP mX11_done Q 18 [some (.ref 0), some (.int l1), some (.int l2)] [] (jG0 sc) h (0, 0))
    (v2 : ¬ l1 < 0 → WP mX11_done Q 4 [some (.ref 0), some (.int l1), some (.int l2)] [] (jG0 sc) h (0, 0)) :
    WP mX11_done Q 0 [some (.ref 0), some (.int l1), some (.int l2)] [] (jG0 sc) h (0, 0) := by
  refine j_iload_n (i := 1) rfl dX11_done_0 ?_
  refine j_if_lt (off := 17) 18 dX11_done_1 (by decide) (fun c1 => ?_) (fun c1 => ?_)
  · exact j_le [some (.ref 0), some (.int l1), some (.int l2)] (And.intro rfl (And.intro rfl (And.intro rfl True.intro))) (v1 c1)
  · exact j_le [some (.ref 0), some (.int l1), some (.int l2)] (And.intro rfl (And.intro rfl (And.intro rfl True.intro))) (v2 c1)
set_option maxRecDepth 100000 in
theorem bX11_done_4 {sc : Nat × (Nat → Int32)} {h : jH} {Q : jQ} {l1 l2 : Int32}
    (v1 : l1 < (h 10 1) → WP mX11_done Q 28 [some (.ref 0), some (.int l1), some (.int l2)] [] (jG0 sc) h (0, 0))
    (v2 : ¬ l1 < (h 10 1) → WP mX11_done Q 18 [some (.ref 0), some (.int l1), some (.int l2)] [] (jG0 sc) h (0, 0)) :
    WP mX11_done Q 4 [some (.ref 0), some (.int l1), some (.int l2)] [] (jG0 sc) h (0, 0) := by
  refine j_iload_n (i := 1) rfl dX11_done_4 ?_
  refine j_aload_n (i := 0) rfl dX11_done_5 ?_
  refine j_getR (idx := 37) (ci := 11) (k := 4) (nest := false) (show (11, 37, 11, 4, false) ∈ jFT by decide) rfl (Nat.le_of_ble_eq_true rfl) rfl (a := 9) rfl dX11_done_6 ?_
  refine j_getR (idx := 127) (ci := 6) (k := 0) (nest := true) (show (11, 127, 6, 0, true) ∈ jFT by decide) rfl (Nat.le_of_ble_eq_true rfl) rfl (a := 10) rfl dX11_done_9 ?_
  refine j_getI (idx := 136) (ci := 4) (k := 1) (nest := true) (show (11, 136, 4, 1, true) ∈ jFT by decide) rfl (Nat.le_of_ble_eq_true rfl) rfl dX11_done_12 ?_
  refine j_icmp_lt (off := 13) 28 dX11_done_15 (by decide) (fun c1 => ?_) (fun c1 => ?_)
  · exact j_le [some (.ref 0), some (.int l1), some (.int l2)] (And.intro rfl (And.intro rfl (And.intro rfl True.intro))) (v1 c1)
  · exact j_le [some (.ref 0), some (.int l1), some (.int l2)] (And.intro rfl (And.intro rfl (And.intro rfl True.intro))) (v2 c1)
set_option maxRecDepth 100000 in
theorem bX11_done_18 {sc : Nat × (Nat → Int32)} {h : jH} {Q : jQ} {l1 l2 : Int32}
    (v1 : Q (.inr "java/lang/IndexOutOfBoundsException") (jG0 sc) h) :
    WP mX11_done Q 18 [some (.ref 0), some (.int l1), some (.int l2)] [] (jG0 sc) h (0, 0) := by
  exact j_thr_IOB (is := 239) "no such LINE" 32 (by decide +kernel) rfl rfl (by decide) (by decide) (Nat.le_of_ble_eq_true rfl) dX11_done_18 dX11_done_21 dX11_done_22 dX11_done_24 dX11_done_27 v1
set_option maxRecDepth 100000 in
theorem bX11_done_28 {sc : Nat × (Nat → Int32)} {h : jH} {Q : jQ} {l1 l2 : Int32} {P1 : jH → Prop}
    (k1 : JM mX7_of [.ref 72, .ref 10, .ref 14, .ref 69] (jG0 sc) h (jvoid sc P1))
    (v1 : ∀ h1 : jH, P1 h1 → l2 = 0 → WP mX11_done Q 72 [some (.ref 0), some (.int l1), some (.int l2)] [.int l1, .ref 72] (jG0 sc) h1 (0, 0))
    (v2 : ∀ h1 : jH, P1 h1 → ¬ l2 = 0 → WP mX11_done Q 62 [some (.ref 0), some (.int l1), some (.int l2)] [.int l1, .ref 72] (jG0 sc) h1 (0, 0)) :
    WP mX11_done Q 28 [some (.ref 0), some (.int l1), some (.int l2)] [] (jG0 sc) h (0, 0) := by
  refine j_aload_n (i := 0) rfl dX11_done_28 ?_
  refine j_getR (idx := 54) (ci := 11) (k := 8) (nest := false) (show (11, 54, 11, 8, false) ∈ jFT by decide) rfl (Nat.le_of_ble_eq_true rfl) rfl (a := 72) rfl dX11_done_29 ?_
  refine j_aload_n (i := 0) rfl dX11_done_32 ?_
  refine j_getR (idx := 37) (ci := 11) (k := 4) (nest := false) (show (11, 37, 11, 4, false) ∈ jFT by decide) rfl (Nat.le_of_ble_eq_true rfl) rfl (a := 9) rfl dX11_done_33 ?_
  refine j_getR (idx := 127) (ci := 6) (k := 0) (nest := true) (show (11, 127, 6, 0, true) ∈ jFT by decide) rfl (Nat.le_of_ble_eq_true rfl) rfl (a := 10) rfl dX11_done_36 ?_
  refine j_aload_n (i := 0) rfl dX11_done_39 ?_
  refine j_getR (idx := 37) (ci := 11) (k := 4) (nest := false) (show (11, 37, 11, 4, false) ∈ jFT by decide) rfl (Nat.le_of_ble_eq_true rfl) rfl (a := 9) rfl dX11_done_40 ?_
  refine j_getR (idx := 169) (ci := 6) (k := 2) (nest := true) (show (11, 169, 6, 2, true) ∈ jFT by decide) rfl (Nat.le_of_ble_eq_true rfl) rfl (a := 14) rfl dX11_done_43 ?_
  refine j_aload_n (i := 0) rfl dX11_done_46 ?_
  refine j_getR (idx := 47) (ci := 11) (k := 7) (nest := false) (show (11, 47, 11, 7, false) ∈ jFT by decide) rfl (Nat.le_of_ble_eq_true rfl) rfl (a := 69) rfl dX11_done_47 ?_
  refine j_callVN (idx := 241) (As := [.ref 10, .ref 14, .ref 69]) (ci := 7) (n := 3) k1 jvoid_nt (jTbl (jtb5 71 rfl)) sX7_of kX7_of rfl ⟨rfl, by decide +kernel, by decide +kernel, by decide +kernel⟩ rfl ⟨by decide, by decide⟩ (Nat.le_of_ble_eq_true rfl) rfl (Nat.le_of_ble_eq_true rfl) (Nat.le_of_ble_eq_true rfl) ⟨Nat.zero_le _, Nat.zero_le _⟩ dX11_done_50 (fun r Γ' h1 q => ?_)
  obtain ⟨q0, rfl, p1⟩ := q; cases q0
  refine j_eqst [] (by rfl) ?_
  refine j_aload_n (i := 0) rfl dX11_done_53 ?_
  refine j_getR (idx := 54) (ci := 11) (k := 8) (nest := false) (show (11, 54, 11, 8, false) ∈ jFT by decide) rfl (Nat.le_of_ble_eq_true rfl) rfl (a := 72) rfl dX11_done_54 ?_
  refine j_iload_n (i := 1) rfl dX11_done_57 ?_
  refine j_iload_n (i := 2) rfl dX11_done_58 ?_
  refine j_if_eq (off := 13) 72 dX11_done_59 (by decide) (fun c1 => ?_) (fun c1 => ?_)
  · exact j_le [some (.ref 0), some (.int l1), some (.int l2)] (And.intro rfl (And.intro rfl (And.intro rfl True.intro))) (v1 h1 p1 c1)
  · exact j_le [some (.ref 0), some (.int l1), some (.int l2)] (And.intro rfl (And.intro rfl (And.intro rfl True.intro))) (v2 h1 p1 c1)
set_option maxRecDepth 100000 in
theorem bX11_done_62 {sc : Nat × (Nat → Int32)} {h : jH} {Q : jQ} {l1 l2 s0 : Int32}
    (v1 : WP mX11_done Q 79 [some (.ref 0), some (.int l1), some (.int l2)] [.int (h 72 3), .int s0, .ref 72] (jG0 sc) h (0, 0)) :
    WP mX11_done Q 62 [some (.ref 0), some (.int l1), some (.int l2)] [.int s0, .ref 72] (jG0 sc) h (0, 0) := by
  refine j_aload_n (i := 0) rfl dX11_done_62 ?_
  refine j_getR (idx := 54) (ci := 11) (k := 8) (nest := false) (show (11, 54, 11, 8, false) ∈ jFT by decide) rfl (Nat.le_of_ble_eq_true rfl) rfl (a := 72) rfl dX11_done_63 ?_
  refine j_getI (idx := 244) (ci := 7) (k := 3) (nest := true) (show (11, 244, 7, 3, true) ∈ jFT by decide) rfl (Nat.le_of_ble_eq_true rfl) rfl dX11_done_66 ?_
  refine j_goto (off := 10) 79 dX11_done_69 (by decide) ?_
  exact j_le [some (.ref 0), some (.int l1), some (.int l2)] (And.intro rfl (And.intro rfl (And.intro rfl True.intro))) v1
set_option maxRecDepth 100000 in
theorem bX11_done_72 {sc : Nat × (Nat → Int32)} {h : jH} {Q : jQ} {l1 l2 s0 : Int32}
    (v1 : WP mX11_done Q 79 [some (.ref 0), some (.int l1), some (.int l2)] [.int (h 72 2), .int s0, .ref 72] (jG0 sc) h (0, 0)) :
    WP mX11_done Q 72 [some (.ref 0), some (.int l1), some (.int l2)] [.int s0, .ref 72] (jG0 sc) h (0, 0) := by
  refine j_aload_n (i := 0) rfl dX11_done_72 ?_
  refine j_getR (idx := 54) (ci := 11) (k := 8) (nest := false) (show (11, 54, 11, 8, false) ∈ jFT by decide) rfl (Nat.le_of_ble_eq_true rfl) rfl (a := 72) rfl dX11_done_73 ?_
  refine j_getI (idx := 247) (ci := 7) (k := 2) (nest := true) (show (11, 247, 7, 2, true) ∈ jFT by decide) rfl (Nat.le_of_ble_eq_true rfl) rfl dX11_done_76 ?_
  exact j_le [some (.ref 0), some (.int l1), some (.int l2)] (And.intro rfl (And.intro rfl (And.intro rfl True.intro))) v1
set_option maxRecDepth 100000 in
theorem bX11_done_79 {sc : Nat × (Nat → Int32)} {h : jH} {Q : jQ} {l1 l2 s0 s1 : Int32} {P1 : Int32 → jH → Prop}
    (k1 : JM mX7_doneIn [.ref 72, .int s1, .int s0] (jG0 sc) h (jint sc P1))
    (v1 : ∀ (x1 : Int32) (h1 : jH), P1 x1 h1 → Q (.inl (some (.int x1))) (jG0 sc) h1) :
    WP mX11_done Q 79 [some (.ref 0), some (.int l1), some (.int l2)] [.int s0, .int s1, .ref 72] (jG0 sc) h (0, 0) := by
  refine j_callVN (idx := 250) (As := [.int s1, .int s0]) (ci := 7) (n := 2) k1 jint_nt (jTbl (jtb5 76 rfl)) sX7_doneIn kX7_doneIn rfl ⟨rfl, by decide +kernel, by decide +kernel, by decide +kernel⟩ rfl ⟨by decide, by decide⟩ (Nat.le_of_ble_eq_true rfl) rfl (Nat.le_of_ble_eq_true rfl) (Nat.le_of_ble_eq_true rfl) ⟨Nat.zero_le _, Nat.zero_le _⟩ dX11_done_79 (fun r Γ' h1 q => ?_)
  obtain ⟨x1, q0, rfl, p1⟩ := q; cases q0
  refine j_eqst [.int x1] (by rfl) ?_
  exact j_iret rfl rfl (Nat.zero_le _) (Nat.zero_le _) dX11_done_82 (v1 x1 h1 p1)
set_option maxRecDepth 100000 in
theorem rX11_done_0 {sc : Nat × (Nat → Int32)} {h : jH} {Q : jQ} {l1 l2 : Int32} {P1 : jH → Prop} {P2 : Int32 → jH → Prop} {P3 : Int32 → jH → Prop}
    (v1 : l1 < 0 → Q (.inr "java/lang/IndexOutOfBoundsException") (jG0 sc) h)
    (k1 : ¬ l1 < 0 → l1 < (h 10 1) → JM mX7_of [.ref 72, .ref 10, .ref 14, .ref 69] (jG0 sc) h (jvoid sc P1))
    (k2 : ¬ l1 < 0 → l1 < (h 10 1) → ∀ h1 : jH, P1 h1 → l2 = 0 → JM mX7_doneIn [.ref 72, .int l1, .int (h1 72 2)] (jG0 sc) h1 (jint sc P2))
    (v2 : ¬ l1 < 0 → l1 < (h 10 1) → ∀ h1 : jH, P1 h1 → l2 = 0 → ∀ (x2 : Int32) (h2 : jH), P2 x2 h2 → Q (.inl (some (.int x2))) (jG0 sc) h2)
    (k3 : ¬ l1 < 0 → l1 < (h 10 1) → ∀ h1 : jH, P1 h1 → ¬ l2 = 0 → JM mX7_doneIn [.ref 72, .int l1, .int (h1 72 3)] (jG0 sc) h1 (jint sc P3))
    (v3 : ¬ l1 < 0 → l1 < (h 10 1) → ∀ h1 : jH, P1 h1 → ¬ l2 = 0 → ∀ (x3 : Int32) (h3 : jH), P3 x3 h3 → Q (.inl (some (.int x3))) (jG0 sc) h3)
    (v4 : ¬ l1 < 0 → ¬ l1 < (h 10 1) → Q (.inr "java/lang/IndexOutOfBoundsException") (jG0 sc) h) :
    WP mX11_done Q 0 [some (.ref 0), some (.int l1), some (.int l2)] [] (jG0 sc) h (0, 0) := by
  exact (bX11_done_0 (fun c1 => (bX11_done_18 (v1 c1))) (fun c1 => (bX11_done_4 (fun c2 => (bX11_done_28 (k1 c1 c2) (fun h1 p1 c3 => (bX11_done_72 (bX11_done_79 (k2 c1 c2 h1 p1 c3) (fun x2 h2 p2 => (v2 c1 c2 h1 p1 c3 x2 h2 p2))))) (fun h1 p1 c3 => (bX11_done_62 (bX11_done_79 (k3 c1 c2 h1 p1 c3) (fun x3 h3 p3 => (v3 c1 c2 h1 p1 c3 x3 h3 p3))))))) (fun c2 => (bX11_done_18 (v4 c1 c2))))))
theorem dX11_where_0 : decode (mC mX11_where) 0 = .ok (.aload_n 0, 1) := by decide +kernel
theorem dX11_where_1 : decode (mC mX11_where) 1 = .ok (.invokevirtual 213, 3) := by decide +kernel
theorem dX11_where_4 : decode (mC mX11_where) 4 = .ok (.ifCond .ne 13, 3) := by decide +kernel
theorem dX11_where_7 : decode (mC mX11_where) 7 = .ok (.new 203, 3) := by decide +kernel
theorem dX11_where_10 : decode (mC mX11_where) 10 = .ok (.dup, 1) := by decide +kernel
theorem dX11_where_11 : decode (mC mX11_where) 11 = .ok (.ldc 217, 2) := by decide +kernel
theorem dX11_where_13 : decode (mC mX11_where) 13 = .ok (.invokespecial 207, 3) := by decide +kernel
theorem dX11_where_16 : decode (mC mX11_where) 16 = .ok (.athrow, 1) := by decide +kernel
theorem dX11_where_17 : decode (mC mX11_where) 17 = .ok (.iload_n 1, 1) := by decide +kernel
theorem dX11_where_18 : decode (mC mX11_where) 18 = .ok (.ifCond .lt 8, 3) := by decide +kernel
theorem dX11_where_21 : decode (mC mX11_where) 21 = .ok (.iload_n 1, 1) := by decide +kernel
theorem dX11_where_22 : decode (mC mX11_where) 22 = .ok (.iconst 2, 1) := by decide +kernel
theorem dX11_where_23 : decode (mC mX11_where) 23 = .ok (.if_icmp .le 13, 3) := by decide +kernel
theorem dX11_where_26 : decode (mC mX11_where) 26 = .ok (.new 234, 3) := by decide +kernel
theorem dX11_where_29 : decode (mC mX11_where) 29 = .ok (.dup, 1) := by decide +kernel
theorem dX11_where_30 : decode (mC mX11_where) 30 = .ok (.ldc 236, 2) := by decide +kernel
theorem dX11_where_32 : decode (mC mX11_where) 32 = .ok (.invokespecial 238, 3) := by decide +kernel
theorem dX11_where_35 : decode (mC mX11_where) 35 = .ok (.athrow, 1) := by decide +kernel
theorem dX11_where_36 : decode (mC mX11_where) 36 = .ok (.aload_n 0, 1) := by decide +kernel
theorem dX11_where_37 : decode (mC mX11_where) 37 = .ok (.getfield 54, 3) := by decide +kernel
theorem dX11_where_40 : decode (mC mX11_where) 40 = .ok (.aload_n 0, 1) := by decide +kernel
theorem dX11_where_41 : decode (mC mX11_where) 41 = .ok (.getfield 37, 3) := by decide +kernel
theorem dX11_where_44 : decode (mC mX11_where) 44 = .ok (.getfield 127, 3) := by decide +kernel
theorem dX11_where_47 : decode (mC mX11_where) 47 = .ok (.aload_n 0, 1) := by decide +kernel
theorem dX11_where_48 : decode (mC mX11_where) 48 = .ok (.getfield 37, 3) := by decide +kernel
theorem dX11_where_51 : decode (mC mX11_where) 51 = .ok (.getfield 169, 3) := by decide +kernel
theorem dX11_where_54 : decode (mC mX11_where) 54 = .ok (.aload_n 0, 1) := by decide +kernel
theorem dX11_where_55 : decode (mC mX11_where) 55 = .ok (.getfield 47, 3) := by decide +kernel
theorem dX11_where_58 : decode (mC mX11_where) 58 = .ok (.invokevirtual 241, 3) := by decide +kernel
theorem dX11_where_61 : decode (mC mX11_where) 61 = .ok (.aload_n 0, 1) := by decide +kernel
theorem dX11_where_62 : decode (mC mX11_where) 62 = .ok (.getfield 54, 3) := by decide +kernel
theorem dX11_where_65 : decode (mC mX11_where) 65 = .ok (.getfield 244, 3) := by decide +kernel
theorem dX11_where_68 : decode (mC mX11_where) 68 = .ok (.ifCond .ne 5, 3) := by decide +kernel
theorem dX11_where_71 : decode (mC mX11_where) 71 = .ok (.iconst 0, 1) := by decide +kernel
theorem dX11_where_72 : decode (mC mX11_where) 72 = .ok (.ireturn, 1) := by decide +kernel
theorem dX11_where_73 : decode (mC mX11_where) 73 = .ok (.iload_n 1, 1) := by decide +kernel
theorem dX11_where_74 : decode (mC mX11_where) 74 = .ok (.ifCond .ne 8, 3) := by decide +kernel
theorem dX11_where_77 : decode (mC mX11_where) 77 = .ok (.aload_n 0, 1) := by decide +kernel
theorem dX11_where_78 : decode (mC mX11_where) 78 = .ok (.invokevirtual 254, 3) := by decide +kernel
theorem dX11_where_81 : decode (mC mX11_where) 81 = .ok (.ireturn, 1) := by decide +kernel
theorem dX11_where_82 : decode (mC mX11_where) 82 = .ok (.iload_n 1, 1) := by decide +kernel
theorem dX11_where_83 : decode (mC mX11_where) 83 = .ok (.iconst 1, 1) := by decide +kernel
theorem dX11_where_84 : decode (mC mX11_where) 84 = .ok (.if_icmp .ne 8, 3) := by decide +kernel
theorem dX11_where_87 : decode (mC mX11_where) 87 = .ok (.aload_n 0, 1) := by decide +kernel
theorem dX11_where_88 : decode (mC mX11_where) 88 = .ok (.invokevirtual 258, 3) := by decide +kernel
theorem dX11_where_91 : decode (mC mX11_where) 91 = .ok (.ireturn, 1) := by decide +kernel
theorem dX11_where_92 : decode (mC mX11_where) 92 = .ok (.aload_n 0, 1) := by decide +kernel
theorem dX11_where_93 : decode (mC mX11_where) 93 = .ok (.invokevirtual 254, 3) := by decide +kernel
theorem dX11_where_96 : decode (mC mX11_where) 96 = .ok (.aload_n 0, 1) := by decide +kernel
theorem dX11_where_97 : decode (mC mX11_where) 97 = .ok (.invokevirtual 258, 3) := by decide +kernel
theorem dX11_where_100 : decode (mC mX11_where) 100 = .ok (.iand, 1) := by decide +kernel
theorem dX11_where_101 : decode (mC mX11_where) 101 = .ok (.aload_n 0, 1) := by decide +kernel
theorem dX11_where_102 : decode (mC mX11_where) 102 = .ok (.getfield 54, 3) := by decide +kernel
theorem dX11_where_105 : decode (mC mX11_where) 105 = .ok (.invokevirtual 261, 3) := by decide +kernel
theorem dX11_where_108 : decode (mC mX11_where) 108 = .ok (.iand, 1) := by decide +kernel
theorem dX11_where_109 : decode (mC mX11_where) 109 = .ok (.ireturn, 1) := by decide +kernel
set_option maxRecDepth 100000 in
theorem bX11_where_0 {sc : Nat × (Nat → Int32)} {h : jH} {Q : jQ} {l1 : Int32} {P1 : Int32 → jH → Prop}
    (k1 : JM mX11_hasBody [.ref 0] (jG0 sc) h (jint sc P1))
    (v1 : ∀ (x1 : Int32) (h1 : jH), P1 x1 h1 → ¬ x1 = 0 → WP mX11_where Q 17 [some (.ref 0), some (.int l1)] [] (jG0 sc) h1 (0, 0))
    (v2 : ∀ (x1 : Int32) (h1 : jH), P1 x1 h1 → x1 = 0 → WP mX11_where Q 7 [some (.ref 0), some (.int l1)] [] (jG0 sc) h1 (0, 0)) :
    WP mX11_where Q 0 [some (.ref 0), some (.int l1)] [] (jG0 sc) h (0, 0) := by
  refine j_aload_n (i := 0) rfl dX11_where_0 ?_
  refine j_callV (idx := 213) (As := []) (ci := 11) (n := 0) k1 jint_nt (jlkT (jtb3 180 rfl) rfl) sX11_hasBody kX11_hasBody rfl ⟨rfl, by decide +kernel, by decide +kernel, by decide +kernel⟩ rfl ⟨by decide, by decide⟩ (Nat.le_of_ble_eq_true rfl) rfl (Nat.le_of_ble_eq_true rfl) (Nat.le_of_ble_eq_true rfl) ⟨Nat.zero_le _, Nat.zero_le _⟩ dX11_where_1 (fun r Γ' h1 q => ?_)
  obtain ⟨x1, q0, rfl, p1⟩ := q; cases q0
  refine j_eqst [.int x1] (by rfl) ?_
  refine j_if_ne (off := 13) 17 dX11_where_4 (by decide) (fun c1 => ?_) (fun c1 => ?_)
  · exact j_le [some (.ref 0), some (.int l1)] (And.intro rfl (And.intro rfl True.intro)) (v1 x1 h1 p1 c1)
  · exact j_le [some (.ref 0), some (.int l1)] (And.intro rfl (And.intro rfl True.intro)) (v2 x1 h1 p1 c1)
set_option maxRecDepth 100000 in
theorem bX11_where_7 {sc : Nat × (Nat → Int32)} {h : jH} {Q : jQ} {l1 : Int32}
    (v1 : Q (.inr "java/lang/IllegalStateException") (jG0 sc) h) :
    WP mX11_where Q 7 [some (.ref 0), some (.int l1)] [] (jG0 sc) h (0, 0) := by
  exact j_thr_ISE (is := 217) "there is no BODY" 30 (by decide +kernel) rfl rfl (by decide) (by decide) (Nat.le_of_ble_eq_true rfl) dX11_where_7 dX11_where_10 dX11_where_11 dX11_where_13 dX11_where_16 v1
set_option maxRecDepth 100000 in
theorem bX11_where_17 {sc : Nat × (Nat → Int32)} {h : jH} {Q : jQ} {l1 : Int32}
    (v1 : l1 < 0 → WP mX11_where Q 26 [some (.ref 0), some (.int l1)] [] (jG0 sc) h (0, 0))
    (v2 : ¬ l1 < 0 → WP mX11_where Q 21 [some (.ref 0), some (.int l1)] [] (jG0 sc) h (0, 0)) :
    WP mX11_where Q 17 [some (.ref 0), some (.int l1)] [] (jG0 sc) h (0, 0) := by
  refine j_iload_n (i := 1) rfl dX11_where_17 ?_
  refine j_if_lt (off := 8) 26 dX11_where_18 (by decide) (fun c1 => ?_) (fun c1 => ?_)
  · exact j_le [some (.ref 0), some (.int l1)] (And.intro rfl (And.intro rfl True.intro)) (v1 c1)
  · exact j_le [some (.ref 0), some (.int l1)] (And.intro rfl (And.intro rfl True.intro)) (v2 c1)
set_option maxRecDepth 100000 in
theorem bX11_where_21 {sc : Nat × (Nat → Int32)} {h : jH} {Q : jQ} {l1 : Int32}
    (v1 : l1 ≤ 2 → WP mX11_where Q 36 [some (.ref 0), some (.int l1)] [] (jG0 sc) h (0, 0))
    (v2 : ¬ l1 ≤ 2 → WP mX11_where Q 26 [some (.ref 0), some (.int l1)] [] (jG0 sc) h (0, 0)) :
    WP mX11_where Q 21 [some (.ref 0), some (.int l1)] [] (jG0 sc) h (0, 0) := by
  refine j_iload_n (i := 1) rfl dX11_where_21 ?_
  refine j_iconst (n := 2) 2 (by decide) dX11_where_22 ?_
  refine j_icmp_le (off := 13) 36 dX11_where_23 (by decide) (fun c1 => ?_) (fun c1 => ?_)
  · exact j_le [some (.ref 0), some (.int l1)] (And.intro rfl (And.intro rfl True.intro)) (v1 c1)
  · exact j_le [some (.ref 0), some (.int l1)] (And.intro rfl (And.intro rfl True.intro)) (v2 c1)
set_option maxRecDepth 100000 in
theorem bX11_where_26 {sc : Nat × (Nat → Int32)} {h : jH} {Q : jQ} {l1 : Int32}
    (v1 : Q (.inr "java/util/NoSuchElementException") (jG0 sc) h) :
    WP mX11_where Q 26 [some (.ref 0), some (.int l1)] [] (jG0 sc) h (0, 0) := by
  exact j_thr_NSE (is := 236) "no such what" 31 (by decide +kernel) rfl rfl (by decide) (by decide) (Nat.le_of_ble_eq_true rfl) dX11_where_26 dX11_where_29 dX11_where_30 dX11_where_32 dX11_where_35 v1
set_option maxRecDepth 100000 in
theorem bX11_where_36 {sc : Nat × (Nat → Int32)} {h : jH} {Q : jQ} {l1 : Int32} {P1 : jH → Prop}
    (k1 : JM mX7_of [.ref 72, .ref 10, .ref 14, .ref 69] (jG0 sc) h (jvoid sc P1))
    (v1 : ∀ h1 : jH, P1 h1 → ¬ (h1 72 3) = 0 → WP mX11_where Q 73 [some (.ref 0), some (.int l1)] [] (jG0 sc) h1 (0, 0))
    (v2 : ∀ h1 : jH, P1 h1 → (h1 72 3) = 0 → WP mX11_where Q 71 [some (.ref 0), some (.int l1)] [] (jG0 sc) h1 (0, 0)) :
    WP mX11_where Q 36 [some (.ref 0), some (.int l1)] [] (jG0 sc) h (0, 0) := by
  refine j_aload_n (i := 0) rfl dX11_where_36 ?_
  refine j_getR (idx := 54) (ci := 11) (k := 8) (nest := false) (show (11, 54, 11, 8, false) ∈ jFT by decide) rfl (Nat.le_of_ble_eq_true rfl) rfl (a := 72) rfl dX11_where_37 ?_
  refine j_aload_n (i := 0) rfl dX11_where_40 ?_
  refine j_getR (idx := 37) (ci := 11) (k := 4) (nest := false) (show (11, 37, 11, 4, false) ∈ jFT by decide) rfl (Nat.le_of_ble_eq_true rfl) rfl (a := 9) rfl dX11_where_41 ?_
  refine j_getR (idx := 127) (ci := 6) (k := 0) (nest := true) (show (11, 127, 6, 0, true) ∈ jFT by decide) rfl (Nat.le_of_ble_eq_true rfl) rfl (a := 10) rfl dX11_where_44 ?_
  refine j_aload_n (i := 0) rfl dX11_where_47 ?_
  refine j_getR (idx := 37) (ci := 11) (k := 4) (nest := false) (show (11, 37, 11, 4, false) ∈ jFT by decide) rfl (Nat.le_of_ble_eq_true rfl) rfl (a := 9) rfl dX11_where_48 ?_
  refine j_getR (idx := 169) (ci := 6) (k := 2) (nest := true) (show (11, 169, 6, 2, true) ∈ jFT by decide) rfl (Nat.le_of_ble_eq_true rfl) rfl (a := 14) rfl dX11_where_51 ?_
  refine j_aload_n (i := 0) rfl dX11_where_54 ?_
  refine j_getR (idx := 47) (ci := 11) (k := 7) (nest := false) (show (11, 47, 11, 7, false) ∈ jFT by decide) rfl (Nat.le_of_ble_eq_true rfl) rfl (a := 69) rfl dX11_where_55 ?_
  refine j_callVN (idx := 241) (As := [.ref 10, .ref 14, .ref 69]) (ci := 7) (n := 3) k1 jvoid_nt (jTbl (jtb5 71 rfl)) sX7_of kX7_of rfl ⟨rfl, by decide +kernel, by decide +kernel, by decide +kernel⟩ rfl ⟨by decide, by decide⟩ (Nat.le_of_ble_eq_true rfl) rfl (Nat.le_of_ble_eq_true rfl) (Nat.le_of_ble_eq_true rfl) ⟨Nat.zero_le _, Nat.zero_le _⟩ dX11_where_58 (fun r Γ' h1 q => ?_)
  obtain ⟨q0, rfl, p1⟩ := q; cases q0
  refine j_eqst [] (by rfl) ?_
  refine j_aload_n (i := 0) rfl dX11_where_61 ?_
  refine j_getR (idx := 54) (ci := 11) (k := 8) (nest := false) (show (11, 54, 11, 8, false) ∈ jFT by decide) rfl (Nat.le_of_ble_eq_true rfl) rfl (a := 72) rfl dX11_where_62 ?_
  refine j_getI (idx := 244) (ci := 7) (k := 3) (nest := true) (show (11, 244, 7, 3, true) ∈ jFT by decide) rfl (Nat.le_of_ble_eq_true rfl) rfl dX11_where_65 ?_
  refine j_if_ne (off := 5) 73 dX11_where_68 (by decide) (fun c1 => ?_) (fun c1 => ?_)
  · exact j_le [some (.ref 0), some (.int l1)] (And.intro rfl (And.intro rfl True.intro)) (v1 h1 p1 c1)
  · exact j_le [some (.ref 0), some (.int l1)] (And.intro rfl (And.intro rfl True.intro)) (v2 h1 p1 c1)
set_option maxRecDepth 100000 in
theorem bX11_where_71 {sc : Nat × (Nat → Int32)} {h : jH} {Q : jQ} {l1 : Int32}
    (v1 : Q (.inl (some (.int 0))) (jG0 sc) h) :
    WP mX11_where Q 71 [some (.ref 0), some (.int l1)] [] (jG0 sc) h (0, 0) := by
  refine j_iconst (n := 0) 0 (by decide) dX11_where_71 ?_
  exact j_iret rfl rfl (Nat.zero_le _) (Nat.zero_le _) dX11_where_72 v1
set_option maxRecDepth 100000 in
theorem bX11_where_73 {sc : Nat × (Nat → Int32)} {h : jH} {Q : jQ} {l1 : Int32}
    (v1 : ¬ l1 = 0 → WP mX11_where Q 82 [some (.ref 0), some (.int l1)] [] (jG0 sc) h (0, 0))
    (v2 : l1 = 0 → WP mX11_where Q 77 [some (.ref 0), some (.int l1)] [] (jG0 sc) h (0, 0)) :
    WP mX11_where Q 73 [some (.ref 0), some (.int l1)] [] (jG0 sc) h (0, 0) := by
  refine j_iload_n (i := 1) rfl dX11_where_73 ?_
  refine j_if_ne (off := 8) 82 dX11_where_74 (by decide) (fun c1 => ?_) (fun c1 => ?_)
  · exact j_le [some (.ref 0), some (.int l1)] (And.intro rfl (And.intro rfl True.intro)) (v1 c1)
  · exact j_le [some (.ref 0), some (.int l1)] (And.intro rfl (And.intro rfl True.intro)) (v2 c1)
set_option maxRecDepth 100000 in
theorem bX11_where_77 {sc : Nat × (Nat → Int32)} {h : jH} {Q : jQ} {l1 : Int32} {P1 : Int32 → jH → Prop}
    (k1 : JM mX11_blameBits [.ref 0] (jG0 sc) h (jint sc P1))
    (v1 : ∀ (x1 : Int32) (h1 : jH), P1 x1 h1 → Q (.inl (some (.int x1))) (jG0 sc) h1) :
    WP mX11_where Q 77 [some (.ref 0), some (.int l1)] [] (jG0 sc) h (0, 0) := by
  refine j_aload_n (i := 0) rfl dX11_where_77 ?_
  refine j_callV (idx := 254) (As := []) (ci := 11) (n := 0) k1 jint_nt (jlkT (jtb5 87 rfl) rfl) sX11_blameBits kX11_blameBits rfl ⟨rfl, by decide +kernel, by decide +kernel, by decide +kernel⟩ rfl ⟨by decide, by decide⟩ (Nat.le_of_ble_eq_true rfl) rfl (Nat.le_of_ble_eq_true rfl) (Nat.le_of_ble_eq_true rfl) ⟨Nat.zero_le _, Nat.zero_le _⟩ dX11_where_78 (fun r Γ' h1 q => ?_)
  obtain ⟨x1, q0, rfl, p1⟩ := q; cases q0
  refine j_eqst [.int x1] (by rfl) ?_
  exact j_iret rfl rfl (Nat.zero_le _) (Nat.zero_le _) dX11_where_81 (v1 x1 h1 p1)
set_option maxRecDepth 100000 in
theorem bX11_where_82 {sc : Nat × (Nat → Int32)} {h : jH} {Q : jQ} {l1 : Int32}
    (v1 : ¬ l1 = 1 → WP mX11_where Q 92 [some (.ref 0), some (.int l1)] [] (jG0 sc) h (0, 0))
    (v2 : l1 = 1 → WP mX11_where Q 87 [some (.ref 0), some (.int l1)] [] (jG0 sc) h (0, 0)) :
    WP mX11_where Q 82 [some (.ref 0), some (.int l1)] [] (jG0 sc) h (0, 0) := by
  refine j_iload_n (i := 1) rfl dX11_where_82 ?_
  refine j_iconst (n := 1) 1 (by decide) dX11_where_83 ?_
  refine j_icmp_ne (off := 8) 92 dX11_where_84 (by decide) (fun c1 => ?_) (fun c1 => ?_)
  · exact j_le [some (.ref 0), some (.int l1)] (And.intro rfl (And.intro rfl True.intro)) (v1 c1)
  · exact j_le [some (.ref 0), some (.int l1)] (And.intro rfl (And.intro rfl True.intro)) (v2 c1)
set_option maxRecDepth 100000 in
theorem bX11_where_87 {sc : Nat × (Nat → Int32)} {h : jH} {Q : jQ} {l1 : Int32} {P1 : Int32 → jH → Prop}
    (k1 : JM mX11_freeBits [.ref 0] (jG0 sc) h (jint sc P1))
    (v1 : ∀ (x1 : Int32) (h1 : jH), P1 x1 h1 → Q (.inl (some (.int x1))) (jG0 sc) h1) :
    WP mX11_where Q 87 [some (.ref 0), some (.int l1)] [] (jG0 sc) h (0, 0) := by
  refine j_aload_n (i := 0) rfl dX11_where_87 ?_
  refine j_callV (idx := 258) (As := []) (ci := 11) (n := 0) k1 jint_nt (jlkT (jtb5 91 rfl) rfl) sX11_freeBits kX11_freeBits rfl ⟨rfl, by decide +kernel, by decide +kernel, by decide +kernel⟩ rfl ⟨by decide, by decide⟩ (Nat.le_of_ble_eq_true rfl) rfl (Nat.le_of_ble_eq_true rfl) (Nat.le_of_ble_eq_true rfl) ⟨Nat.zero_le _, Nat.zero_le _⟩ dX11_where_88 (fun r Γ' h1 q => ?_)
  obtain ⟨x1, q0, rfl, p1⟩ := q; cases q0
  refine j_eqst [.int x1] (by rfl) ?_
  exact j_iret rfl rfl (Nat.zero_le _) (Nat.zero_le _) dX11_where_91 (v1 x1 h1 p1)
set_option maxRecDepth 100000 in
theorem bX11_where_92 {sc : Nat × (Nat → Int32)} {h : jH} {Q : jQ} {l1 : Int32} {P1 : Int32 → jH → Prop} {P2 : Int32 → jH → Prop} {P3 : Int32 → jH → Prop}
    (k1 : JM mX11_blameBits [.ref 0] (jG0 sc) h (jint sc P1))
    (k2 : ∀ (x1 : Int32) (h1 : jH), P1 x1 h1 → JM mX11_freeBits [.ref 0] (jG0 sc) h1 (jint sc P2))
    (k3 : ∀ (x1 : Int32) (h1 : jH), P1 x1 h1 → ∀ (x2 : Int32) (h2 : jH), P2 x2 h2 → JM mX7_sharedSlice [.ref 72] (jG0 sc) h2 (jint sc P3))
    (v1 : ∀ (x1 : Int32) (h1 : jH), P1 x1 h1 → ∀ (x2 : Int32) (h2 : jH), P2 x2 h2 → ∀ (x3 : Int32) (h3 : jH), P3 x3 h3 → Q (.inl (some (.int ((x1 &&& x2) &&& x3)))) (jG0 sc) h3) :
    WP mX11_where Q 92 [some (.ref 0), some (.int l1)] [] (jG0 sc) h (0, 0) := by
  refine j_aload_n (i := 0) rfl dX11_where_92 ?_
  refine j_callV (idx := 254) (As := []) (ci := 11) (n := 0) k1 jint_nt (jlkT (jtb5 87 rfl) rfl) sX11_blameBits kX11_blameBits rfl ⟨rfl, by decide +kernel, by decide +kernel, by decide +kernel⟩ rfl ⟨by decide, by decide⟩ (Nat.le_of_ble_eq_true rfl) rfl (Nat.le_of_ble_eq_true rfl) (Nat.le_of_ble_eq_true rfl) ⟨Nat.zero_le _, Nat.zero_le _⟩ dX11_where_93 (fun r Γ' h1 q => ?_)
  obtain ⟨x1, q0, rfl, p1⟩ := q; cases q0
  refine j_eqst [.int x1] (by rfl) ?_
  refine j_aload_n (i := 0) rfl dX11_where_96 ?_
  refine j_callV (idx := 258) (As := []) (ci := 11) (n := 0) (k2 x1 h1 p1) jint_nt (jlkT (jtb5 91 rfl) rfl) sX11_freeBits kX11_freeBits rfl ⟨rfl, by decide +kernel, by decide +kernel, by decide +kernel⟩ rfl ⟨by decide, by decide⟩ (Nat.le_of_ble_eq_true rfl) rfl (Nat.le_of_ble_eq_true rfl) (Nat.le_of_ble_eq_true rfl) ⟨Nat.zero_le _, Nat.zero_le _⟩ dX11_where_97 (fun r Γ' h2 q => ?_)
  obtain ⟨x2, q0, rfl, p2⟩ := q; cases q0
  refine j_eqst [.int x2, .int x1] (by rfl) ?_
  refine j_iand dX11_where_100 ?_
  refine j_aload_n (i := 0) rfl dX11_where_101 ?_
  refine j_getR (idx := 54) (ci := 11) (k := 8) (nest := false) (show (11, 54, 11, 8, false) ∈ jFT by decide) rfl (Nat.le_of_ble_eq_true rfl) rfl (a := 72) rfl dX11_where_102 ?_
  refine j_callVN (idx := 261) (As := []) (ci := 7) (n := 0) (k3 x1 h1 p1 x2 h2 p2) jint_nt (jTbl (jtb5 101 rfl)) sX7_sharedSlice kX7_sharedSlice rfl ⟨rfl, by decide +kernel, by decide +kernel, by decide +kernel⟩ rfl ⟨by decide, by decide⟩ (Nat.le_of_ble_eq_true rfl) rfl (Nat.le_of_ble_eq_true rfl) (Nat.le_of_ble_eq_true rfl) ⟨Nat.zero_le _, Nat.zero_le _⟩ dX11_where_105 (fun r Γ' h3 q => ?_)
  obtain ⟨x3, q0, rfl, p3⟩ := q; cases q0
  refine j_eqst [.int x3, .int (x1 &&& x2)] (by rfl) ?_
  refine j_iand dX11_where_108 ?_
  exact j_iret rfl rfl (Nat.zero_le _) (Nat.zero_le _) dX11_where_109 (v1 x1 h1 p1 x2 h2 p2 x3 h3 p3)
set_option maxRecDepth 100000 in
theorem rX11_where_0 {sc : Nat × (Nat → Int32)} {h : jH} {Q : jQ} {l1 : Int32} {P1 : Int32 → jH → Prop} {P2 : jH → Prop} {P3 : Int32 → jH → Prop} {P4 : Int32 → jH → Prop} {P5 : Int32 → jH → Prop} {P6 : Int32 → jH → Prop} {P7 : Int32 → jH → Prop}
    (k1 : JM mX11_hasBody [.ref 0] (jG0 sc) h (jint sc P1))
    (v1 : ∀ (x1 : Int32) (h1 : jH), P1 x1 h1 → ¬ x1 = 0 → l1 < 0 → Q (.inr "java/util/NoSuchElementException") (jG0 sc) h1)
    (k2 : ∀ (x1 : Int32) (h1 : jH), P1 x1 h1 → ¬ x1 = 0 → ¬ l1 < 0 → l1 ≤ 2 → JM mX7_of [.ref 72, .ref 10, .ref 14, .ref 69] (jG0 sc) h1 (jvoid sc P2))
    (k3 : ∀ (x1 : Int32) (h1 : jH), P1 x1 h1 → ¬ x1 = 0 → ¬ l1 < 0 → l1 ≤ 2 → ∀ h2 : jH, P2 h2 → ¬ (h2 72 3) = 0 → ¬ l1 = 0 → ¬ l1 = 1 → JM mX11_blameBits [.ref 0] (jG0 sc) h2 (jint sc P3))
    (k4 : ∀ (x1 : Int32) (h1 : jH), P1 x1 h1 → ¬ x1 = 0 → ¬ l1 < 0 → l1 ≤ 2 → ∀ h2 : jH, P2 h2 → ¬ (h2 72 3) = 0 → ¬ l1 = 0 → ¬ l1 = 1 → ∀ (x3 : Int32) (h3 : jH), P3 x3 h3 → JM mX11_freeBits [.ref 0] (jG0 sc) h3 (jint sc P4))
    (k5 : ∀ (x1 : Int32) (h1 : jH), P1 x1 h1 → ¬ x1 = 0 → ¬ l1 < 0 → l1 ≤ 2 → ∀ h2 : jH, P2 h2 → ¬ (h2 72 3) = 0 → ¬ l1 = 0 → ¬ l1 = 1 → ∀ (x3 : Int32) (h3 : jH), P3 x3 h3 → ∀ (x4 : Int32) (h4 : jH), P4 x4 h4 → JM mX7_sharedSlice [.ref 72] (jG0 sc) h4 (jint sc P5))
    (v2 : ∀ (x1 : Int32) (h1 : jH), P1 x1 h1 → ¬ x1 = 0 → ¬ l1 < 0 → l1 ≤ 2 → ∀ h2 : jH, P2 h2 → ¬ (h2 72 3) = 0 → ¬ l1 = 0 → ¬ l1 = 1 → ∀ (x3 : Int32) (h3 : jH), P3 x3 h3 → ∀ (x4 : Int32) (h4 : jH), P4 x4 h4 → ∀ (x5 : Int32) (h5 : jH), P5 x5 h5 → Q (.inl (some (.int ((x3 &&& x4) &&& x5)))) (jG0 sc) h5)
    (k6 : ∀ (x1 : Int32) (h1 : jH), P1 x1 h1 → ¬ x1 = 0 → ¬ l1 < 0 → l1 ≤ 2 → ∀ h2 : jH, P2 h2 → ¬ (h2 72 3) = 0 → ¬ l1 = 0 → l1 = 1 → JM mX11_freeBits [.ref 0] (jG0 sc) h2 (jint sc P6))
    (v3 : ∀ (x1 : Int32) (h1 : jH), P1 x1 h1 → ¬ x1 = 0 → ¬ l1 < 0 → l1 ≤ 2 → ∀ h2 : jH, P2 h2 → ¬ (h2 72 3) = 0 → ¬ l1 = 0 → l1 = 1 → ∀ (x6 : Int32) (h6 : jH), P6 x6 h6 → Q (.inl (some (.int x6))) (jG0 sc) h6)
    (k7 : ∀ (x1 : Int32) (h1 : jH), P1 x1 h1 → ¬ x1 = 0 → ¬ l1 < 0 → l1 ≤ 2 → ∀ h2 : jH, P2 h2 → ¬ (h2 72 3) = 0 → l1 = 0 → JM mX11_blameBits [.ref 0] (jG0 sc) h2 (jint sc P7))
    (v4 : ∀ (x1 : Int32) (h1 : jH), P1 x1 h1 → ¬ x1 = 0 → ¬ l1 < 0 → l1 ≤ 2 → ∀ h2 : jH, P2 h2 → ¬ (h2 72 3) = 0 → l1 = 0 → ∀ (x7 : Int32) (h7 : jH), P7 x7 h7 → Q (.inl (some (.int x7))) (jG0 sc) h7)
    (v5 : ∀ (x1 : Int32) (h1 : jH), P1 x1 h1 → ¬ x1 = 0 → ¬ l1 < 0 → l1 ≤ 2 → ∀ h2 : jH, P2 h2 → (h2 72 3) = 0 → Q (.inl (some (.int 0))) (jG0 sc) h2)
    (v6 : ∀ (x1 : Int32) (h1 : jH), P1 x1 h1 → ¬ x1 = 0 → ¬ l1 < 0 → ¬ l1 ≤ 2 → Q (.inr "java/util/NoSuchElementException") (jG0 sc) h1)
    (v7 : ∀ (x1 : Int32) (h1 : jH), P1 x1 h1 → x1 = 0 → Q (.inr "java/lang/IllegalStateException") (jG0 sc) h1) :
    WP mX11_where Q 0 [some (.ref 0), some (.int l1)] [] (jG0 sc) h (0, 0) := by
  exact (bX11_where_0 k1 (fun x1 h1 p1 c1 => (bX11_where_17 (fun c2 => (bX11_where_26 (v1 x1 h1 p1 c1 c2))) (fun c2 => (bX11_where_21 (fun c3 => (bX11_where_36 (k2 x1 h1 p1 c1 c2 c3) (fun h2 p2 c4 => (bX11_where_73 (fun c5 => (bX11_where_82 (fun c6 => (bX11_where_92 (k3 x1 h1 p1 c1 c2 c3 h2 p2 c4 c5 c6) (fun x3 h3 p3 => (k4 x1 h1 p1 c1 c2 c3 h2 p2 c4 c5 c6 x3 h3 p3)) (fun x3 h3 p3 x4 h4 p4 => (k5 x1 h1 p1 c1 c2 c3 h2 p2 c4 c5 c6 x3 h3 p3 x4 h4 p4)) (fun x3 h3 p3 x4 h4 p4 x5 h5 p5 => (v2 x1 h1 p1 c1 c2 c3 h2 p2 c4 c5 c6 x3 h3 p3 x4 h4 p4 x5 h5 p5)))) (fun c6 => (bX11_where_87 (k6 x1 h1 p1 c1 c2 c3 h2 p2 c4 c5 c6) (fun x6 h6 p6 => (v3 x1 h1 p1 c1 c2 c3 h2 p2 c4 c5 c6 x6 h6 p6)))))) (fun c5 => (bX11_where_77 (k7 x1 h1 p1 c1 c2 c3 h2 p2 c4 c5) (fun x7 h7 p7 => (v4 x1 h1 p1 c1 c2 c3 h2 p2 c4 c5 x7 h7 p7)))))) (fun h2 p2 c4 => (bX11_where_71 (v5 x1 h1 p1 c1 c2 c3 h2 p2 c4))))) (fun c3 => (bX11_where_26 (v6 x1 h1 p1 c1 c2 c3))))))) (fun x1 h1 p1 c1 => (bX11_where_7 (v7 x1 h1 p1 c1))))
theorem dX11_blameBits_0 : decode (mC mX11_blameBits) 0 = .ok (.iconst (-1), 1) := by decide +kernel
theorem dX11_blameBits_1 : decode (mC mX11_blameBits) 1 = .ok (.istore_n 1, 1) := by decide +kernel
theorem dX11_blameBits_2 : decode (mC mX11_blameBits) 2 = .ok (.iconst 0, 1) := by decide +kernel
theorem dX11_blameBits_3 : decode (mC mX11_blameBits) 3 = .ok (.istore_n 2, 1) := by decide +kernel
theorem dX11_blameBits_4 : decode (mC mX11_blameBits) 4 = .ok (.iconst 0, 1) := by decide +kernel
theorem dX11_blameBits_5 : decode (mC mX11_blameBits) 5 = .ok (.istore_n 3, 1) := by decide +kernel
theorem dX11_blameBits_6 : decode (mC mX11_blameBits) 6 = .ok (.iconst 0, 1) := by decide +kernel
theorem dX11_blameBits_7 : decode (mC mX11_blameBits) 7 = .ok (.istore 4, 2) := by decide +kernel
theorem dX11_blameBits_9 : decode (mC mX11_blameBits) 9 = .ok (.iload 4, 2) := by decide +kernel
theorem dX11_blameBits_11 : decode (mC mX11_blameBits) 11 = .ok (.aload_n 0, 1) := by decide +kernel
theorem dX11_blameBits_12 : decode (mC mX11_blameBits) 12 = .ok (.getfield 37, 3) := by decide +kernel
theorem dX11_blameBits_15 : decode (mC mX11_blameBits) 15 = .ok (.getfield 127, 3) := by decide +kernel
theorem dX11_blameBits_18 : decode (mC mX11_blameBits) 18 = .ok (.getfield 136, 3) := by decide +kernel
theorem dX11_blameBits_21 : decode (mC mX11_blameBits) 21 = .ok (.if_icmp .ge 90, 3) := by decide +kernel
theorem dX11_blameBits_24 : decode (mC mX11_blameBits) 24 = .ok (.aload_n 0, 1) := by decide +kernel
theorem dX11_blameBits_25 : decode (mC mX11_blameBits) 25 = .ok (.getfield 54, 3) := by decide +kernel
theorem dX11_blameBits_28 : decode (mC mX11_blameBits) 28 = .ok (.iload 4, 2) := by decide +kernel
theorem dX11_blameBits_30 : decode (mC mX11_blameBits) 30 = .ok (.aload_n 0, 1) := by decide +kernel
theorem dX11_blameBits_31 : decode (mC mX11_blameBits) 31 = .ok (.getfield 54, 3) := by decide +kernel
theorem dX11_blameBits_34 : decode (mC mX11_blameBits) 34 = .ok (.getfield 244, 3) := by decide +kernel
theorem dX11_blameBits_37 : decode (mC mX11_blameBits) 37 = .ok (.invokevirtual 250, 3) := by decide +kernel
theorem dX11_blameBits_40 : decode (mC mX11_blameBits) 40 = .ok (.istore 5, 2) := by decide +kernel
theorem dX11_blameBits_42 : decode (mC mX11_blameBits) 42 = .ok (.aload_n 0, 1) := by decide +kernel
theorem dX11_blameBits_43 : decode (mC mX11_blameBits) 43 = .ok (.getfield 54, 3) := by decide +kernel
theorem dX11_blameBits_46 : decode (mC mX11_blameBits) 46 = .ok (.iload 4, 2) := by decide +kernel
theorem dX11_blameBits_48 : decode (mC mX11_blameBits) 48 = .ok (.aload_n 0, 1) := by decide +kernel
theorem dX11_blameBits_49 : decode (mC mX11_blameBits) 49 = .ok (.getfield 54, 3) := by decide +kernel
theorem dX11_blameBits_52 : decode (mC mX11_blameBits) 52 = .ok (.getfield 247, 3) := by decide +kernel
theorem dX11_blameBits_55 : decode (mC mX11_blameBits) 55 = .ok (.invokevirtual 250, 3) := by decide +kernel
theorem dX11_blameBits_58 : decode (mC mX11_blameBits) 58 = .ok (.istore 6, 2) := by decide +kernel
theorem dX11_blameBits_60 : decode (mC mX11_blameBits) 60 = .ok (.iload 5, 2) := by decide +kernel
theorem dX11_blameBits_62 : decode (mC mX11_blameBits) 62 = .ok (.iload_n 1, 1) := by decide +kernel
theorem dX11_blameBits_63 : decode (mC mX11_blameBits) 63 = .ok (.if_icmp .gt 15, 3) := by decide +kernel
theorem dX11_blameBits_66 : decode (mC mX11_blameBits) 66 = .ok (.iload 5, 2) := by decide +kernel
theorem dX11_blameBits_68 : decode (mC mX11_blameBits) 68 = .ok (.iload_n 1, 1) := by decide +kernel
theorem dX11_blameBits_69 : decode (mC mX11_blameBits) 69 = .ok (.if_icmp .ne 17, 3) := by decide +kernel
theorem dX11_blameBits_72 : decode (mC mX11_blameBits) 72 = .ok (.iload 6, 2) := by decide +kernel
theorem dX11_blameBits_74 : decode (mC mX11_blameBits) 74 = .ok (.iload_n 2, 1) := by decide +kernel
theorem dX11_blameBits_75 : decode (mC mX11_blameBits) 75 = .ok (.if_icmp .ge 11, 3) := by decide +kernel
theorem dX11_blameBits_78 : decode (mC mX11_blameBits) 78 = .ok (.iload 5, 2) := by decide +kernel
theorem dX11_blameBits_80 : decode (mC mX11_blameBits) 80 = .ok (.istore_n 1, 1) := by decide +kernel
theorem dX11_blameBits_81 : decode (mC mX11_blameBits) 81 = .ok (.iload 6, 2) := by decide +kernel
theorem dX11_blameBits_83 : decode (mC mX11_blameBits) 83 = .ok (.istore_n 2, 1) := by decide +kernel
theorem dX11_blameBits_84 : decode (mC mX11_blameBits) 84 = .ok (.iconst 0, 1) := by decide +kernel
theorem dX11_blameBits_85 : decode (mC mX11_blameBits) 85 = .ok (.istore_n 3, 1) := by decide +kernel
theorem dX11_blameBits_86 : decode (mC mX11_blameBits) 86 = .ok (.iload 5, 2) := by decide +kernel
theorem dX11_blameBits_88 : decode (mC mX11_blameBits) 88 = .ok (.iload_n 1, 1) := by decide +kernel
theorem dX11_blameBits_89 : decode (mC mX11_blameBits) 89 = .ok (.if_icmp .ne 16, 3) := by decide +kernel
theorem dX11_blameBits_92 : decode (mC mX11_blameBits) 92 = .ok (.iload 6, 2) := by decide +kernel
theorem dX11_blameBits_94 : decode (mC mX11_blameBits) 94 = .ok (.iload_n 2, 1) := by decide +kernel
theorem dX11_blameBits_95 : decode (mC mX11_blameBits) 95 = .ok (.if_icmp .ne 10, 3) := by decide +kernel
theorem dX11_blameBits_98 : decode (mC mX11_blameBits) 98 = .ok (.iload_n 3, 1) := by decide +kernel
theorem dX11_blameBits_99 : decode (mC mX11_blameBits) 99 = .ok (.iconst 1, 1) := by decide +kernel
theorem dX11_blameBits_100 : decode (mC mX11_blameBits) 100 = .ok (.iload 4, 2) := by decide +kernel
theorem dX11_blameBits_102 : decode (mC mX11_blameBits) 102 = .ok (.ishl, 1) := by decide +kernel
theorem dX11_blameBits_103 : decode (mC mX11_blameBits) 103 = .ok (.ior, 1) := by decide +kernel
theorem dX11_blameBits_104 : decode (mC mX11_blameBits) 104 = .ok (.istore_n 3, 1) := by decide +kernel
theorem dX11_blameBits_105 : decode (mC mX11_blameBits) 105 = .ok (.iinc 4 1, 3) := by decide +kernel
theorem dX11_blameBits_108 : decode (mC mX11_blameBits) 108 = .ok (.goto (-99), 3) := by decide +kernel
theorem dX11_blameBits_111 : decode (mC mX11_blameBits) 111 = .ok (.iload_n 3, 1) := by decide +kernel
theorem dX11_blameBits_112 : decode (mC mX11_blameBits) 112 = .ok (.ireturn, 1) := by decide +kernel
set_option maxRecDepth 100000 in
theorem bX11_blameBits_0 {sc : Nat × (Nat → Int32)} {h : jH} {Q : jQ}
    (v1 : WP mX11_blameBits Q 9 [some (.ref 0), some (.int (-1)), some (.int 0), some (.int 0), some (.int 0), none, none] [] (jG0 sc) h (0, 0)) :
    WP mX11_blameBits Q 0 [some (.ref 0), none, none, none, none, none, none] [] (jG0 sc) h (0, 0) := by
  refine j_iconst (n := (-1)) (-1) (by decide) dX11_blameBits_0 ?_
  refine j_istore_n (i := 1) dX11_blameBits_1 (Nat.le_of_ble_eq_true rfl) ?_
  refine j_iconst (n := 0) 0 (by decide) dX11_blameBits_2 ?_
  refine j_istore_n (i := 2) dX11_blameBits_3 (Nat.le_of_ble_eq_true rfl) ?_
  refine j_iconst (n := 0) 0 (by decide) dX11_blameBits_4 ?_
  refine j_istore_n (i := 3) dX11_blameBits_5 (Nat.le_of_ble_eq_true rfl) ?_
  refine j_iconst (n := 0) 0 (by decide) dX11_blameBits_6 ?_
  refine j_istore (i := 4) dX11_blameBits_7 (Nat.le_of_ble_eq_true rfl) ?_
  exact j_le [some (.ref 0), some (.int (-1)), some (.int 0), some (.int 0), some (.int 0), none, none] (And.intro rfl (And.intro rfl (And.intro rfl (And.intro rfl (And.intro rfl True.intro))))) v1
set_option maxRecDepth 100000 in
theorem bX11_blameBits_9 {sc : Nat × (Nat → Int32)} {h : jH} {Q : jQ} {l1 l2 l3 l4 : Int32}
    (v1 : (h 10 1) ≤ l4 → WP mX11_blameBits Q 111 [some (.ref 0), some (.int l1), some (.int l2), some (.int l3), some (.int l4), none, none] [] (jG0 sc) h (0, 0))
    (v2 : ¬ (h 10 1) ≤ l4 → WP mX11_blameBits Q 24 [some (.ref 0), some (.int l1), some (.int l2), some (.int l3), some (.int l4), none, none] [] (jG0 sc) h (0, 0)) :
    WP mX11_blameBits Q 9 [some (.ref 0), some (.int l1), some (.int l2), some (.int l3), some (.int l4), none, none] [] (jG0 sc) h (0, 0) := by
  refine j_iload (i := 4) rfl dX11_blameBits_9 ?_
  refine j_aload_n (i := 0) rfl dX11_blameBits_11 ?_
  refine j_getR (idx := 37) (ci := 11) (k := 4) (nest := false) (show (11, 37, 11, 4, false) ∈ jFT by decide) rfl (Nat.le_of_ble_eq_true rfl) rfl (a := 9) rfl dX11_blameBits_12 ?_
  refine j_getR (idx := 127) (ci := 6) (k := 0) (nest := true) (show (11, 127, 6, 0, true) ∈ jFT by decide) rfl (Nat.le_of_ble_eq_true rfl) rfl (a := 10) rfl dX11_blameBits_15 ?_
  refine j_getI (idx := 136) (ci := 4) (k := 1) (nest := true) (show (11, 136, 4, 1, true) ∈ jFT by decide) rfl (Nat.le_of_ble_eq_true rfl) rfl dX11_blameBits_18 ?_
  refine j_icmp_ge (off := 90) 111 dX11_blameBits_21 (by decide) (fun c1 => ?_) (fun c1 => ?_)
  · exact j_le [some (.ref 0), some (.int l1), some (.int l2), some (.int l3), some (.int l4), none, none] (And.intro rfl (And.intro rfl (And.intro rfl (And.intro rfl (And.intro rfl True.intro))))) (v1 c1)
  · exact j_le [some (.ref 0), some (.int l1), some (.int l2), some (.int l3), some (.int l4), none, none] (And.intro rfl (And.intro rfl (And.intro rfl (And.intro rfl (And.intro rfl True.intro))))) (v2 c1)
set_option maxRecDepth 100000 in
theorem bX11_blameBits_24 {sc : Nat × (Nat → Int32)} {h : jH} {Q : jQ} {l1 l2 l3 l4 : Int32} {P1 : Int32 → jH → Prop} {P2 : Int32 → jH → Prop}
    (k1 : JM mX7_doneIn [.ref 72, .int l4, .int (h 72 3)] (jG0 sc) h (jint sc P1))
    (k2 : ∀ (x1 : Int32) (h1 : jH), P1 x1 h1 → JM mX7_doneIn [.ref 72, .int l4, .int (h1 72 2)] (jG0 sc) h1 (jint sc P2))
    (v1 : ∀ (x1 : Int32) (h1 : jH), P1 x1 h1 → ∀ (x2 : Int32) (h2 : jH), P2 x2 h2 → WP mX11_blameBits Q 62 [some (.ref 0), some (.int l1), some (.int l2), some (.int l3), some (.int l4), some (.int x1), some (.int x2)] [.int x1] (jG0 sc) h2 (0, 0)) :
    WP mX11_blameBits Q 24 [some (.ref 0), some (.int l1), some (.int l2), some (.int l3), some (.int l4), none, none] [] (jG0 sc) h (0, 0) := by
  refine j_aload_n (i := 0) rfl dX11_blameBits_24 ?_
  refine j_getR (idx := 54) (ci := 11) (k := 8) (nest := false) (show (11, 54, 11, 8, false) ∈ jFT by decide) rfl (Nat.le_of_ble_eq_true rfl) rfl (a := 72) rfl dX11_blameBits_25 ?_
  refine j_iload (i := 4) rfl dX11_blameBits_28 ?_
  refine j_aload_n (i := 0) rfl dX11_blameBits_30 ?_
  refine j_getR (idx := 54) (ci := 11) (k := 8) (nest := false) (show (11, 54, 11, 8, false) ∈ jFT by decide) rfl (Nat.le_of_ble_eq_true rfl) rfl (a := 72) rfl dX11_blameBits_31 ?_
  refine j_getI (idx := 244) (ci := 7) (k := 3) (nest := true) (show (11, 244, 7, 3, true) ∈ jFT by decide) rfl (Nat.le_of_ble_eq_true rfl) rfl dX11_blameBits_34 ?_
  refine j_callVN (idx := 250) (As := [.int l4, .int (h 72 3)]) (ci := 7) (n := 2) k1 jint_nt (jTbl (jtb5 76 rfl)) sX7_doneIn kX7_doneIn rfl ⟨rfl, by decide +kernel, by decide +kernel, by decide +kernel⟩ rfl ⟨by decide, by decide⟩ (Nat.le_of_ble_eq_true rfl) rfl (Nat.le_of_ble_eq_true rfl) (Nat.le_of_ble_eq_true rfl) ⟨Nat.zero_le _, Nat.zero_le _⟩ dX11_blameBits_37 (fun r Γ' h1 q => ?_)
  obtain ⟨x1, q0, rfl, p1⟩ := q; cases q0
  refine j_eqst [.int x1] (by rfl) ?_
  refine j_istore (i := 5) dX11_blameBits_40 (Nat.le_of_ble_eq_true rfl) ?_
  refine j_aload_n (i := 0) rfl dX11_blameBits_42 ?_
  refine j_getR (idx := 54) (ci := 11) (k := 8) (nest := false) (show (11, 54, 11, 8, false) ∈ jFT by decide) rfl (Nat.le_of_ble_eq_true rfl) rfl (a := 72) rfl dX11_blameBits_43 ?_
  refine j_iload (i := 4) rfl dX11_blameBits_46 ?_
  refine j_aload_n (i := 0) rfl dX11_blameBits_48 ?_
  refine j_getR (idx := 54) (ci := 11) (k := 8) (nest := false) (show (11, 54, 11, 8, false) ∈ jFT by decide) rfl (Nat.le_of_ble_eq_true rfl) rfl (a := 72) rfl dX11_blameBits_49 ?_
  refine j_getI (idx := 247) (ci := 7) (k := 2) (nest := true) (show (11, 247, 7, 2, true) ∈ jFT by decide) rfl (Nat.le_of_ble_eq_true rfl) rfl dX11_blameBits_52 ?_
  refine j_callVN (idx := 250) (As := [.int l4, .int (h1 72 2)]) (ci := 7) (n := 2) (k2 x1 h1 p1) jint_nt (jTbl (jtb5 76 rfl)) sX7_doneIn kX7_doneIn rfl ⟨rfl, by decide +kernel, by decide +kernel, by decide +kernel⟩ rfl ⟨by decide, by decide⟩ (Nat.le_of_ble_eq_true rfl) rfl (Nat.le_of_ble_eq_true rfl) (Nat.le_of_ble_eq_true rfl) ⟨Nat.zero_le _, Nat.zero_le _⟩ dX11_blameBits_55 (fun r Γ' h2 q => ?_)
  obtain ⟨x2, q0, rfl, p2⟩ := q; cases q0
  refine j_eqst [.int x2] (by rfl) ?_
  refine j_istore (i := 6) dX11_blameBits_58 (Nat.le_of_ble_eq_true rfl) ?_
  refine j_iload (i := 5) rfl dX11_blameBits_60 ?_
  exact j_le [some (.ref 0), some (.int l1), some (.int l2), some (.int l3), some (.int l4), some (.int x1), some (.int x2)] (And.intro rfl (And.intro rfl (And.intro rfl (And.intro rfl (And.intro rfl (And.intro rfl (And.intro rfl True.intro))))))) (v1 x1 h1 p1 x2 h2 p2)
set_option maxRecDepth 100000 in
theorem bX11_blameBits_62 {sc : Nat × (Nat → Int32)} {h : jH} {Q : jQ} {l1 l2 l3 l4 l5 l6 s0 : Int32}
    (v1 : l1 < s0 → WP mX11_blameBits Q 78 [some (.ref 0), some (.int l1), some (.int l2), some (.int l3), some (.int l4), some (.int l5), some (.int l6)] [] (jG0 sc) h (0, 0))
    (v2 : ¬ l1 < s0 → WP mX11_blameBits Q 66 [some (.ref 0), some (.int l1), some (.int l2), some (.int l3), some (.int l4), some (.int l5), some (.int l6)] [] (jG0 sc) h (0, 0)) :
    WP mX11_blameBits Q 62 [some (.ref 0), some (.int l1), some (.int l2), some (.int l3), some (.int l4), some (.int l5), some (.int l6)] [.int s0] (jG0 sc) h (0, 0) := by
  refine j_iload_n (i := 1) rfl dX11_blameBits_62 ?_
  refine j_icmp_gt (off := 15) 78 dX11_blameBits_63 (by decide) (fun c1 => ?_) (fun c1 => ?_)
  · exact j_le [some (.ref 0), some (.int l1), some (.int l2), some (.int l3), some (.int l4), some (.int l5), some (.int l6)] (And.intro rfl (And.intro rfl (And.intro rfl (And.intro rfl (And.intro rfl (And.intro rfl (And.intro rfl True.intro))))))) (v1 c1)
  · exact j_le [some (.ref 0), some (.int l1), some (.int l2), some (.int l3), some (.int l4), some (.int l5), some (.int l6)] (And.intro rfl (And.intro rfl (And.intro rfl (And.intro rfl (And.intro rfl (And.intro rfl (And.intro rfl True.intro))))))) (v2 c1)
set_option maxRecDepth 100000 in
theorem bX11_blameBits_66 {sc : Nat × (Nat → Int32)} {h : jH} {Q : jQ} {l1 l2 l3 l4 l5 l6 : Int32}
    (v1 : ¬ l5 = l1 → WP mX11_blameBits Q 86 [some (.ref 0), some (.int l1), some (.int l2), some (.int l3), some (.int l4), some (.int l5), some (.int l6)] [] (jG0 sc) h (0, 0))
    (v2 : l5 = l1 → WP mX11_blameBits Q 72 [some (.ref 0), some (.int l1), some (.int l2), some (.int l3), some (.int l4), some (.int l5), some (.int l6)] [] (jG0 sc) h (0, 0)) :
    WP mX11_blameBits Q 66 [some (.ref 0), some (.int l1), some (.int l2), some (.int l3), some (.int l4), some (.int l5), some (.int l6)] [] (jG0 sc) h (0, 0) := by
  refine j_iload (i := 5) rfl dX11_blameBits_66 ?_
  refine j_iload_n (i := 1) rfl dX11_blameBits_68 ?_
  refine j_icmp_ne (off := 17) 86 dX11_blameBits_69 (by decide) (fun c1 => ?_) (fun c1 => ?_)
  · exact j_le [some (.ref 0), some (.int l1), some (.int l2), some (.int l3), some (.int l4), some (.int l5), some (.int l6)] (And.intro rfl (And.intro rfl (And.intro rfl (And.intro rfl (And.intro rfl (And.intro rfl (And.intro rfl True.intro))))))) (v1 c1)
  · exact j_le [some (.ref 0), some (.int l1), some (.int l2), some (.int l3), some (.int l4), some (.int l5), some (.int l6)] (And.intro rfl (And.intro rfl (And.intro rfl (And.intro rfl (And.intro rfl (And.intro rfl (And.intro rfl True.intro))))))) (v2 c1)
set_option maxRecDepth 100000 in
theorem bX11_blameBits_72 {sc : Nat × (Nat → Int32)} {h : jH} {Q : jQ} {l1 l2 l3 l4 l5 l6 : Int32}
    (v1 : l2 ≤ l6 → WP mX11_blameBits Q 86 [some (.ref 0), some (.int l1), some (.int l2), some (.int l3), some (.int l4), some (.int l5), some (.int l6)] [] (jG0 sc) h (0, 0))
    (v2 : ¬ l2 ≤ l6 → WP mX11_blameBits Q 78 [some (.ref 0), some (.int l1), some (.int l2), some (.int l3), some (.int l4), some (.int l5), some (.int l6)] [] (jG0 sc) h (0, 0)) :
    WP mX11_blameBits Q 72 [some (.ref 0), some (.int l1), some (.int l2), some (.int l3), some (.int l4), some (.int l5), some (.int l6)] [] (jG0 sc) h (0, 0) := by
  refine j_iload (i := 6) rfl dX11_blameBits_72 ?_
  refine j_iload_n (i := 2) rfl dX11_blameBits_74 ?_
  refine j_icmp_ge (off := 11) 86 dX11_blameBits_75 (by decide) (fun c1 => ?_) (fun c1 => ?_)
  · exact j_le [some (.ref 0), some (.int l1), some (.int l2), some (.int l3), some (.int l4), some (.int l5), some (.int l6)] (And.intro rfl (And.intro rfl (And.intro rfl (And.intro rfl (And.intro rfl (And.intro rfl (And.intro rfl True.intro))))))) (v1 c1)
  · exact j_le [some (.ref 0), some (.int l1), some (.int l2), some (.int l3), some (.int l4), some (.int l5), some (.int l6)] (And.intro rfl (And.intro rfl (And.intro rfl (And.intro rfl (And.intro rfl (And.intro rfl (And.intro rfl True.intro))))))) (v2 c1)
set_option maxRecDepth 100000 in
theorem bX11_blameBits_78 {sc : Nat × (Nat → Int32)} {h : jH} {Q : jQ} {l1 l2 l3 l4 l5 l6 : Int32}
    (v1 : WP mX11_blameBits Q 86 [some (.ref 0), some (.int l5), some (.int l6), some (.int 0), some (.int l4), some (.int l5), some (.int l6)] [] (jG0 sc) h (0, 0)) :
    WP mX11_blameBits Q 78 [some (.ref 0), some (.int l1), some (.int l2), some (.int l3), some (.int l4), some (.int l5), some (.int l6)] [] (jG0 sc) h (0, 0) := by
  refine j_iload (i := 5) rfl dX11_blameBits_78 ?_
  refine j_istore_n (i := 1) dX11_blameBits_80 (Nat.le_of_ble_eq_true rfl) ?_
  refine j_iload (i := 6) rfl dX11_blameBits_81 ?_
  refine j_istore_n (i := 2) dX11_blameBits_83 (Nat.le_of_ble_eq_true rfl) ?_
  refine j_iconst (n := 0) 0 (by decide) dX11_blameBits_84 ?_
  refine j_istore_n (i := 3) dX11_blameBits_85 (Nat.le_of_ble_eq_true rfl) ?_
  exact j_le [some (.ref 0), some (.int l5), some (.int l6), some (.int 0), some (.int l4), some (.int l5), some (.int l6)] (And.intro rfl (And.intro rfl (And.intro rfl (And.intro rfl (And.intro rfl (And.intro rfl (And.intro rfl True.intro))))))) v1
set_option maxRecDepth 100000 in
theorem bX11_blameBits_86 {sc : Nat × (Nat → Int32)} {h : jH} {Q : jQ} {l1 l2 l3 l4 l5 l6 : Int32}
    (v1 : ¬ l5 = l1 → WP mX11_blameBits Q 105 [some (.ref 0), some (.int l1), some (.int l2), some (.int l3), some (.int l4), some (.int l5), some (.int l6)] [] (jG0 sc) h (0, 0))
    (v2 : l5 = l1 → WP mX11_blameBits Q 92 [some (.ref 0), some (.int l1), some (.int l2), some (.int l3), some (.int l4), some (.int l5), some (.int l6)] [] (jG0 sc) h (0, 0)) :
    WP mX11_blameBits Q 86 [some (.ref 0), some (.int l1), some (.int l2), some (.int l3), some (.int l4), some (.int l5), some (.int l6)] [] (jG0 sc) h (0, 0) := by
  refine j_iload (i := 5) rfl dX11_blameBits_86 ?_
  refine j_iload_n (i := 1) rfl dX11_blameBits_88 ?_
  refine j_icmp_ne (off := 16) 105 dX11_blameBits_89 (by decide) (fun c1 => ?_) (fun c1 => ?_)
  · exact j_le [some (.ref 0), some (.int l1), some (.int l2), some (.int l3), some (.int l4), some (.int l5), some (.int l6)] (And.intro rfl (And.intro rfl (And.intro rfl (And.intro rfl (And.intro rfl (And.intro rfl (And.intro rfl True.intro))))))) (v1 c1)
  · exact j_le [some (.ref 0), some (.int l1), some (.int l2), some (.int l3), some (.int l4), some (.int l5), some (.int l6)] (And.intro rfl (And.intro rfl (And.intro rfl (And.intro rfl (And.intro rfl (And.intro rfl (And.intro rfl True.intro))))))) (v2 c1)
set_option maxRecDepth 100000 in
theorem bX11_blameBits_92 {sc : Nat × (Nat → Int32)} {h : jH} {Q : jQ} {l1 l2 l3 l4 l5 l6 : Int32}
    (v1 : ¬ l6 = l2 → WP mX11_blameBits Q 105 [some (.ref 0), some (.int l1), some (.int l2), some (.int l3), some (.int l4), some (.int l5), some (.int l6)] [] (jG0 sc) h (0, 0))
    (v2 : l6 = l2 → WP mX11_blameBits Q 98 [some (.ref 0), some (.int l1), some (.int l2), some (.int l3), some (.int l4), some (.int l5), some (.int l6)] [] (jG0 sc) h (0, 0)) :
    WP mX11_blameBits Q 92 [some (.ref 0), some (.int l1), some (.int l2), some (.int l3), some (.int l4), some (.int l5), some (.int l6)] [] (jG0 sc) h (0, 0) := by
  refine j_iload (i := 6) rfl dX11_blameBits_92 ?_
  refine j_iload_n (i := 2) rfl dX11_blameBits_94 ?_
  refine j_icmp_ne (off := 10) 105 dX11_blameBits_95 (by decide) (fun c1 => ?_) (fun c1 => ?_)
  · exact j_le [some (.ref 0), some (.int l1), some (.int l2), some (.int l3), some (.int l4), some (.int l5), some (.int l6)] (And.intro rfl (And.intro rfl (And.intro rfl (And.intro rfl (And.intro rfl (And.intro rfl (And.intro rfl True.intro))))))) (v1 c1)
  · exact j_le [some (.ref 0), some (.int l1), some (.int l2), some (.int l3), some (.int l4), some (.int l5), some (.int l6)] (And.intro rfl (And.intro rfl (And.intro rfl (And.intro rfl (And.intro rfl (And.intro rfl (And.intro rfl True.intro))))))) (v2 c1)
set_option maxRecDepth 100000 in
theorem bX11_blameBits_98 {sc : Nat × (Nat → Int32)} {h : jH} {Q : jQ} {l1 l2 l3 l4 l5 l6 : Int32}
    (v1 : WP mX11_blameBits Q 105 [some (.ref 0), some (.int l1), some (.int l2), some (.int (l3 ||| ((1 : Int32) <<< (l4 &&& 31)))), some (.int l4), some (.int l5), some (.int l6)] [] (jG0 sc) h (0, 0)) :
    WP mX11_blameBits Q 98 [some (.ref 0), some (.int l1), some (.int l2), some (.int l3), some (.int l4), some (.int l5), some (.int l6)] [] (jG0 sc) h (0, 0) := by
  refine j_iload_n (i := 3) rfl dX11_blameBits_98 ?_
  refine j_iconst (n := 1) 1 (by decide) dX11_blameBits_99 ?_
  refine j_iload (i := 4) rfl dX11_blameBits_100 ?_
  refine j_ishl dX11_blameBits_102 ?_
  refine j_ior dX11_blameBits_103 ?_
  refine j_istore_n (i := 3) dX11_blameBits_104 (Nat.le_of_ble_eq_true rfl) ?_
  exact j_le [some (.ref 0), some (.int l1), some (.int l2), some (.int (l3 ||| ((1 : Int32) <<< (l4 &&& 31)))), some (.int l4), some (.int l5), some (.int l6)] (And.intro rfl (And.intro rfl (And.intro rfl (And.intro rfl (And.intro rfl (And.intro rfl (And.intro rfl True.intro))))))) v1
set_option maxRecDepth 100000 in
theorem bX11_blameBits_105 {sc : Nat × (Nat → Int32)} {h : jH} {Q : jQ} {l1 l2 l3 l4 l5 l6 : Int32}
    (v1 : WP mX11_blameBits Q 9 [some (.ref 0), some (.int l1), some (.int l2), some (.int l3), some (.int (l4 + 1)), none, none] [] (jG0 sc) h (0, 0)) :
    WP mX11_blameBits Q 105 [some (.ref 0), some (.int l1), some (.int l2), some (.int l3), some (.int l4), some (.int l5), some (.int l6)] [] (jG0 sc) h (0, 0) := by
  refine j_iinc (i := 4) (n := 1) rfl dX11_blameBits_105 (Nat.le_of_ble_eq_true rfl) ?_
  refine j_eqlv [some (.ref 0), some (.int l1), some (.int l2), some (.int l3), some (.int (l4 + 1)), some (.int l5), some (.int l6)] rfl ?_
  refine j_goto (off := -99) 9 dX11_blameBits_108 (by decide) ?_
  exact j_le [some (.ref 0), some (.int l1), some (.int l2), some (.int l3), some (.int (l4 + 1)), none, none] (And.intro rfl (And.intro rfl (And.intro rfl (And.intro rfl (And.intro rfl True.intro))))) v1
set_option maxRecDepth 100000 in
theorem bX11_blameBits_111 {sc : Nat × (Nat → Int32)} {h : jH} {Q : jQ} {l1 l2 l3 l4 : Int32}
    (v1 : Q (.inl (some (.int l3))) (jG0 sc) h) :
    WP mX11_blameBits Q 111 [some (.ref 0), some (.int l1), some (.int l2), some (.int l3), some (.int l4), none, none] [] (jG0 sc) h (0, 0) := by
  refine j_iload_n (i := 3) rfl dX11_blameBits_111 ?_
  exact j_iret rfl rfl (Nat.zero_le _) (Nat.zero_le _) dX11_blameBits_112 v1
set_option maxRecDepth 100000 in
theorem rX11_blameBits_0 {sc : Nat × (Nat → Int32)} {h : jH} {Q : jQ}
    (v1 : WP mX11_blameBits Q 9 [some (.ref 0), some (.int (-1)), some (.int 0), some (.int 0), some (.int 0), none, none] [] (jG0 sc) h (0, 0)) :
    WP mX11_blameBits Q 0 [some (.ref 0), none, none, none, none, none, none] [] (jG0 sc) h (0, 0) := by
  exact (bX11_blameBits_0 v1)
set_option maxRecDepth 100000 in
theorem rX11_blameBits_9 {sc : Nat × (Nat → Int32)} {h : jH} {Q : jQ} {l1 l2 l3 l4 : Int32} {P1 : Int32 → jH → Prop} {P2 : Int32 → jH → Prop}
    (v1 : (h 10 1) ≤ l4 → Q (.inl (some (.int l3))) (jG0 sc) h)
    (k1 : ¬ (h 10 1) ≤ l4 → JM mX7_doneIn [.ref 72, .int l4, .int (h 72 3)] (jG0 sc) h (jint sc P1))
    (k2 : ¬ (h 10 1) ≤ l4 → ∀ (x1 : Int32) (h1 : jH), P1 x1 h1 → JM mX7_doneIn [.ref 72, .int l4, .int (h1 72 2)] (jG0 sc) h1 (jint sc P2))
    (v2 : ¬ (h 10 1) ≤ l4 → ∀ (x1 : Int32) (h1 : jH), P1 x1 h1 → ∀ (x2 : Int32) (h2 : jH), P2 x2 h2 → l1 < x1 → ¬ x1 = x1 → WP mX11_blameBits Q 9 [some (.ref 0), some (.int x1), some (.int x2), some (.int 0), some (.int (l4 + 1)), none, none] [] (jG0 sc) h2 (0, 0))
    (v3 : ¬ (h 10 1) ≤ l4 → ∀ (x1 : Int32) (h1 : jH), P1 x1 h1 → ∀ (x2 : Int32) (h2 : jH), P2 x2 h2 → l1 < x1 → x1 = x1 → ¬ x2 = x2 → WP mX11_blameBits Q 9 [some (.ref 0), some (.int x1), some (.int x2), some (.int 0), some (.int (l4 + 1)), none, none] [] (jG0 sc) h2 (0, 0))
    (v4 : ¬ (h 10 1) ≤ l4 → ∀ (x1 : Int32) (h1 : jH), P1 x1 h1 → ∀ (x2 : Int32) (h2 : jH), P2 x2 h2 → l1 < x1 → x1 = x1 → x2 = x2 → WP mX11_blameBits Q 9 [some (.ref 0), some (.int x1), some (.int x2), some (.int (0 ||| ((1 : Int32) <<< (l4 &&& 31)))), some (.int (l4 + 1)), none, none] [] (jG0 sc) h2 (0, 0))
    (v5 : ¬ (h 10 1) ≤ l4 → ∀ (x1 : Int32) (h1 : jH), P1 x1 h1 → ∀ (x2 : Int32) (h2 : jH), P2 x2 h2 → ¬ l1 < x1 → ¬ x1 = l1 → ¬ x1 = l1 → WP mX11_blameBits Q 9 [some (.ref 0), some (.int l1), some (.int l2), some (.int l3), some (.int (l4 + 1)), none, none] [] (jG0 sc) h2 (0, 0))
    (v6 : ¬ (h 10 1) ≤ l4 → ∀ (x1 : Int32) (h1 : jH), P1 x1 h1 → ∀ (x2 : Int32) (h2 : jH), P2 x2 h2 → ¬ l1 < x1 → ¬ x1 = l1 → x1 = l1 → ¬ x2 = l2 → WP mX11_blameBits Q 9 [some (.ref 0), some (.int l1), some (.int l2), some (.int l3), some (.int (l4 + 1)), none, none] [] (jG0 sc) h2 (0, 0))
    (v7 : ¬ (h 10 1) ≤ l4 → ∀ (x1 : Int32) (h1 : jH), P1 x1 h1 → ∀ (x2 : Int32) (h2 : jH), P2 x2 h2 → ¬ l1 < x1 → ¬ x1 = l1 → x1 = l1 → x2 = l2 → WP mX11_blameBits Q 9 [some (.ref 0), some (.int l1), some (.int l2), some (.int (l3 ||| ((1 : Int32) <<< (l4 &&& 31)))), some (.int (l4 + 1)), none, none] [] (jG0 sc) h2 (0, 0))
    (v8 : ¬ (h 10 1) ≤ l4 → ∀ (x1 : Int32) (h1 : jH), P1 x1 h1 → ∀ (x2 : Int32) (h2 : jH), P2 x2 h2 → ¬ l1 < x1 → x1 = l1 → l2 ≤ x2 → ¬ x1 = l1 → WP mX11_blameBits Q 9 [some (.ref 0), some (.int l1), some (.int l2), some (.int l3), some (.int (l4 + 1)), none, none] [] (jG0 sc) h2 (0, 0))
    (v9 : ¬ (h 10 1) ≤ l4 → ∀ (x1 : Int32) (h1 : jH), P1 x1 h1 → ∀ (x2 : Int32) (h2 : jH), P2 x2 h2 → ¬ l1 < x1 → x1 = l1 → l2 ≤ x2 → x1 = l1 → ¬ x2 = l2 → WP mX11_blameBits Q 9 [some (.ref 0), some (.int l1), some (.int l2), some (.int l3), some (.int (l4 + 1)), none, none] [] (jG0 sc) h2 (0, 0))
    (v10 : ¬ (h 10 1) ≤ l4 → ∀ (x1 : Int32) (h1 : jH), P1 x1 h1 → ∀ (x2 : Int32) (h2 : jH), P2 x2 h2 → ¬ l1 < x1 → x1 = l1 → l2 ≤ x2 → x1 = l1 → x2 = l2 → WP mX11_blameBits Q 9 [some (.ref 0), some (.int l1), some (.int l2), some (.int (l3 ||| ((1 : Int32) <<< (l4 &&& 31)))), some (.int (l4 + 1)), none, none] [] (jG0 sc) h2 (0, 0))
    (v11 : ¬ (h 10 1) ≤ l4 → ∀ (x1 : Int32) (h1 : jH), P1 x1 h1 → ∀ (x2 : Int32) (h2 : jH), P2 x2 h2 → ¬ l1 < x1 → x1 = l1 → ¬ l2 ≤ x2 → ¬ x1 = x1 → WP mX11_blameBits Q 9 [some (.ref 0), some (.int x1), some (.int x2), some (.int 0), some (.int (l4 + 1)), none, none] [] (jG0 sc) h2 (0, 0))
    (v12 : ¬ (h 10 1) ≤ l4 → ∀ (x1 : Int32) (h1 : jH), P1 x1 h1 → ∀ (x2 : Int32) (h2 : jH), P2 x2 h2 → ¬ l1 < x1 → x1 = l1 → ¬ l2 ≤ x2 → x1 = x1 → ¬ x2 = x2 → WP mX11_blameBits Q 9 [some (.ref 0), some (.int x1), some (.int x2), some (.int 0), some (.int (l4 + 1)), none, none] [] (jG0 sc) h2 (0, 0))
    (v13 : ¬ (h 10 1) ≤ l4 → ∀ (x1 : Int32) (h1 : jH), P1 x1 h1 → ∀ (x2 : Int32) (h2 : jH), P2 x2 h2 → ¬ l1 < x1 → x1 = l1 → ¬ l2 ≤ x2 → x1 = x1 → x2 = x2 → WP mX11_blameBits Q 9 [some (.ref 0), some (.int x1), some (.int x2), some (.int (0 ||| ((1 : Int32) <<< (l4 &&& 31)))), some (.int (l4 + 1)), none, none] [] (jG0 sc) h2 (0, 0)) :
    WP mX11_blameBits Q 9 [some (.ref 0), some (.int l1), some (.int l2), some (.int l3), some (.int l4), none, none] [] (jG0 sc) h (0, 0) := by
  exact (bX11_blameBits_9 (fun c1 => (bX11_blameBits_111 (v1 c1))) (fun c1 => (bX11_blameBits_24 (k1 c1) (fun x1 h1 p1 => (k2 c1 x1 h1 p1)) (fun x1 h1 p1 x2 h2 p2 => (bX11_blameBits_62 (fun c2 => (bX11_blameBits_78 (bX11_blameBits_86 (fun c3 => (bX11_blameBits_105 (v2 c1 x1 h1 p1 x2 h2 p2 c2 c3))) (fun c3 => (bX11_blameBits_92 (fun c4 => (bX11_blameBits_105 (v3 c1 x1 h1 p1 x2 h2 p2 c2 c3 c4))) (fun c4 => (bX11_blameBits_98 (bX11_blameBits_105 (v4 c1 x1 h1 p1 x2 h2 p2 c2 c3 c4))))))))) (fun c2 => (bX11_blameBits_66 (fun c5 => (bX11_blameBits_86 (fun c6 => (bX11_blameBits_105 (v5 c1 x1 h1 p1 x2 h2 p2 c2 c5 c6))) (fun c6 => (bX11_blameBits_92 (fun c7 => (bX11_blameBits_105 (v6 c1 x1 h1 p1 x2 h2 p2 c2 c5 c6 c7))) (fun c7 => (bX11_blameBits_98 (bX11_blameBits_105 (v7 c1 x1 h1 p1 x2 h2 p2 c2 c5 c6 c7)))))))) (fun c5 => (bX11_blameBits_72 (fun c8 => (bX11_blameBits_86 (fun c9 => (bX11_blameBits_105 (v8 c1 x1 h1 p1 x2 h2 p2 c2 c5 c8 c9))) (fun c9 => (bX11_blameBits_92 (fun c10 => (bX11_blameBits_105 (v9 c1 x1 h1 p1 x2 h2 p2 c2 c5 c8 c9 c10))) (fun c10 => (bX11_blameBits_98 (bX11_blameBits_105 (v10 c1 x1 h1 p1 x2 h2 p2 c2 c5 c8 c9 c10)))))))) (fun c8 => (bX11_blameBits_78 (bX11_blameBits_86 (fun c11 => (bX11_blameBits_105 (v11 c1 x1 h1 p1 x2 h2 p2 c2 c5 c8 c11))) (fun c11 => (bX11_blameBits_92 (fun c12 => (bX11_blameBits_105 (v12 c1 x1 h1 p1 x2 h2 p2 c2 c5 c8 c11 c12))) (fun c12 => (bX11_blameBits_98 (bX11_blameBits_105 (v13 c1 x1 h1 p1 x2 h2 p2 c2 c5 c8 c11 c12))))))))))))))))))
theorem dX11_freeBits_0 : decode (mC mX11_freeBits) 0 = .ok (.iconst 0, 1) := by decide +kernel
theorem dX11_freeBits_1 : decode (mC mX11_freeBits) 1 = .ok (.istore_n 1, 1) := by decide +kernel
theorem dX11_freeBits_2 : decode (mC mX11_freeBits) 2 = .ok (.iconst 0, 1) := by decide +kernel
theorem dX11_freeBits_3 : decode (mC mX11_freeBits) 3 = .ok (.istore_n 2, 1) := by decide +kernel
theorem dX11_freeBits_4 : decode (mC mX11_freeBits) 4 = .ok (.iload_n 2, 1) := by decide +kernel
theorem dX11_freeBits_5 : decode (mC mX11_freeBits) 5 = .ok (.aload_n 0, 1) := by decide +kernel
theorem dX11_freeBits_6 : decode (mC mX11_freeBits) 6 = .ok (.getfield 37, 3) := by decide +kernel
theorem dX11_freeBits_9 : decode (mC mX11_freeBits) 9 = .ok (.getfield 127, 3) := by decide +kernel
theorem dX11_freeBits_12 : decode (mC mX11_freeBits) 12 = .ok (.getfield 136, 3) := by decide +kernel
theorem dX11_freeBits_15 : decode (mC mX11_freeBits) 15 = .ok (.if_icmp .ge 105, 3) := by decide +kernel
theorem dX11_freeBits_18 : decode (mC mX11_freeBits) 18 = .ok (.aload_n 0, 1) := by decide +kernel
theorem dX11_freeBits_19 : decode (mC mX11_freeBits) 19 = .ok (.getfield 37, 3) := by decide +kernel
theorem dX11_freeBits_22 : decode (mC mX11_freeBits) 22 = .ok (.getfield 127, 3) := by decide +kernel
theorem dX11_freeBits_25 : decode (mC mX11_freeBits) 25 = .ok (.iload_n 2, 1) := by decide +kernel
theorem dX11_freeBits_26 : decode (mC mX11_freeBits) 26 = .ok (.invokevirtual 264, 3) := by decide +kernel
theorem dX11_freeBits_29 : decode (mC mX11_freeBits) 29 = .ok (.invokestatic 268, 3) := by decide +kernel
theorem dX11_freeBits_32 : decode (mC mX11_freeBits) 32 = .ok (.ifCond .ne 7, 3) := by decide +kernel
theorem dX11_freeBits_35 : decode (mC mX11_freeBits) 35 = .ok (.iconst 1, 1) := by decide +kernel
theorem dX11_freeBits_36 : decode (mC mX11_freeBits) 36 = .ok (.goto 4, 3) := by decide +kernel
theorem dX11_freeBits_39 : decode (mC mX11_freeBits) 39 = .ok (.iconst 0, 1) := by decide +kernel
theorem dX11_freeBits_40 : decode (mC mX11_freeBits) 40 = .ok (.istore_n 3, 1) := by decide +kernel
theorem dX11_freeBits_41 : decode (mC mX11_freeBits) 41 = .ok (.iconst 0, 1) := by decide +kernel
theorem dX11_freeBits_42 : decode (mC mX11_freeBits) 42 = .ok (.istore 4, 2) := by decide +kernel
theorem dX11_freeBits_44 : decode (mC mX11_freeBits) 44 = .ok (.iload 4, 2) := by decide +kernel
theorem dX11_freeBits_46 : decode (mC mX11_freeBits) 46 = .ok (.aload_n 0, 1) := by decide +kernel
theorem dX11_freeBits_47 : decode (mC mX11_freeBits) 47 = .ok (.getfield 37, 3) := by decide +kernel
theorem dX11_freeBits_50 : decode (mC mX11_freeBits) 50 = .ok (.getfield 169, 3) := by decide +kernel
theorem dX11_freeBits_53 : decode (mC mX11_freeBits) 53 = .ok (.getfield 173, 3) := by decide +kernel
theorem dX11_freeBits_56 : decode (mC mX11_freeBits) 56 = .ok (.if_icmp .ge 44, 3) := by decide +kernel
theorem dX11_freeBits_59 : decode (mC mX11_freeBits) 59 = .ok (.iload_n 3, 1) := by decide +kernel
theorem dX11_freeBits_60 : decode (mC mX11_freeBits) 60 = .ok (.ifCond .eq 40, 3) := by decide +kernel
theorem dX11_freeBits_63 : decode (mC mX11_freeBits) 63 = .ok (.aload_n 0, 1) := by decide +kernel
theorem dX11_freeBits_64 : decode (mC mX11_freeBits) 64 = .ok (.getfield 54, 3) := by decide +kernel
theorem dX11_freeBits_67 : decode (mC mX11_freeBits) 67 = .ok (.getfield 244, 3) := by decide +kernel
theorem dX11_freeBits_70 : decode (mC mX11_freeBits) 70 = .ok (.iload 4, 2) := by decide +kernel
theorem dX11_freeBits_72 : decode (mC mX11_freeBits) 72 = .ok (.ishr, 1) := by decide +kernel
theorem dX11_freeBits_73 : decode (mC mX11_freeBits) 73 = .ok (.iconst 1, 1) := by decide +kernel
theorem dX11_freeBits_74 : decode (mC mX11_freeBits) 74 = .ok (.iand, 1) := by decide +kernel
theorem dX11_freeBits_75 : decode (mC mX11_freeBits) 75 = .ok (.ifCond .eq 13, 3) := by decide +kernel
theorem dX11_freeBits_78 : decode (mC mX11_freeBits) 78 = .ok (.aload_n 0, 1) := by decide +kernel
theorem dX11_freeBits_79 : decode (mC mX11_freeBits) 79 = .ok (.iload_n 2, 1) := by decide +kernel
theorem dX11_freeBits_80 : decode (mC mX11_freeBits) 80 = .ok (.iload 4, 2) := by decide +kernel
theorem dX11_freeBits_82 : decode (mC mX11_freeBits) 82 = .ok (.invokevirtual 271, 3) := by decide +kernel
theorem dX11_freeBits_85 : decode (mC mX11_freeBits) 85 = .ok (.ifCond .eq 7, 3) := by decide +kernel
theorem dX11_freeBits_88 : decode (mC mX11_freeBits) 88 = .ok (.iconst 1, 1) := by decide +kernel
theorem dX11_freeBits_89 : decode (mC mX11_freeBits) 89 = .ok (.goto 4, 3) := by decide +kernel
theorem dX11_freeBits_92 : decode (mC mX11_freeBits) 92 = .ok (.iconst 0, 1) := by decide +kernel
theorem dX11_freeBits_93 : decode (mC mX11_freeBits) 93 = .ok (.istore_n 3, 1) := by decide +kernel
theorem dX11_freeBits_94 : decode (mC mX11_freeBits) 94 = .ok (.iinc 4 1, 3) := by decide +kernel
theorem dX11_freeBits_97 : decode (mC mX11_freeBits) 97 = .ok (.goto (-53), 3) := by decide +kernel
theorem dX11_freeBits_100 : decode (mC mX11_freeBits) 100 = .ok (.iload_n 1, 1) := by decide +kernel
theorem dX11_freeBits_101 : decode (mC mX11_freeBits) 101 = .ok (.iload_n 3, 1) := by decide +kernel
theorem dX11_freeBits_102 : decode (mC mX11_freeBits) 102 = .ok (.ifCond .eq 9, 3) := by decide +kernel
theorem dX11_freeBits_105 : decode (mC mX11_freeBits) 105 = .ok (.iconst 1, 1) := by decide +kernel
theorem dX11_freeBits_106 : decode (mC mX11_freeBits) 106 = .ok (.iload_n 2, 1) := by decide +kernel
theorem dX11_freeBits_107 : decode (mC mX11_freeBits) 107 = .ok (.ishl, 1) := by decide +kernel
theorem dX11_freeBits_108 : decode (mC mX11_freeBits) 108 = .ok (.goto 4, 3) := by decide +kernel
theorem dX11_freeBits_111 : decode (mC mX11_freeBits) 111 = .ok (.iconst 0, 1) := by decide +kernel
theorem dX11_freeBits_112 : decode (mC mX11_freeBits) 112 = .ok (.ior, 1) := by decide +kernel
theorem dX11_freeBits_113 : decode (mC mX11_freeBits) 113 = .ok (.istore_n 1, 1) := by decide +kernel
theorem dX11_freeBits_114 : decode (mC mX11_freeBits) 114 = .ok (.iinc 2 1, 3) := by decide +kernel
theorem dX11_freeBits_117 : decode (mC mX11_freeBits) 117 = .ok (.goto (-113), 3) := by decide +kernel
theorem dX11_freeBits_120 : decode (mC mX11_freeBits) 120 = .ok (.iload_n 1, 1) := by decide +kernel
theorem dX11_freeBits_121 : decode (mC mX11_freeBits) 121 = .ok (.ireturn, 1) := by decide +kernel
set_option maxRecDepth 100000 in
theorem bX11_freeBits_0 {sc : Nat × (Nat → Int32)} {h : jH} {Q : jQ}
    (v1 : WP mX11_freeBits Q 4 [some (.ref 0), some (.int 0), some (.int 0), none, none] [] (jG0 sc) h (0, 0)) :
    WP mX11_freeBits Q 0 [some (.ref 0), none, none, none, none] [] (jG0 sc) h (0, 0) := by
  refine j_iconst (n := 0) 0 (by decide) dX11_freeBits_0 ?_
  refine j_istore_n (i := 1) dX11_freeBits_1 (Nat.le_of_ble_eq_true rfl) ?_
  refine j_iconst (n := 0) 0 (by decide) dX11_freeBits_2 ?_
  refine j_istore_n (i := 2) dX11_freeBits_3 (Nat.le_of_ble_eq_true rfl) ?_
  exact j_le [some (.ref 0), some (.int 0), some (.int 0), none, none] (And.intro rfl (And.intro rfl (And.intro rfl True.intro))) v1
set_option maxRecDepth 100000 in
theorem bX11_freeBits_4 {sc : Nat × (Nat → Int32)} {h : jH} {Q : jQ} {l1 l2 : Int32}
    (v1 : (h 10 1) ≤ l2 → WP mX11_freeBits Q 120 [some (.ref 0), some (.int l1), some (.int l2), none, none] [] (jG0 sc) h (0, 0))
    (v2 : ¬ (h 10 1) ≤ l2 → WP mX11_freeBits Q 18 [some (.ref 0), some (.int l1), some (.int l2), none, none] [] (jG0 sc) h (0, 0)) :
    WP mX11_freeBits Q 4 [some (.ref 0), some (.int l1), some (.int l2), none, none] [] (jG0 sc) h (0, 0) := by
  refine j_iload_n (i := 2) rfl dX11_freeBits_4 ?_
  refine j_aload_n (i := 0) rfl dX11_freeBits_5 ?_
  refine j_getR (idx := 37) (ci := 11) (k := 4) (nest := false) (show (11, 37, 11, 4, false) ∈ jFT by decide) rfl (Nat.le_of_ble_eq_true rfl) rfl (a := 9) rfl dX11_freeBits_6 ?_
  refine j_getR (idx := 127) (ci := 6) (k := 0) (nest := true) (show (11, 127, 6, 0, true) ∈ jFT by decide) rfl (Nat.le_of_ble_eq_true rfl) rfl (a := 10) rfl dX11_freeBits_9 ?_
  refine j_getI (idx := 136) (ci := 4) (k := 1) (nest := true) (show (11, 136, 4, 1, true) ∈ jFT by decide) rfl (Nat.le_of_ble_eq_true rfl) rfl dX11_freeBits_12 ?_
  refine j_icmp_ge (off := 105) 120 dX11_freeBits_15 (by decide) (fun c1 => ?_) (fun c1 => ?_)
  · exact j_le [some (.ref 0), some (.int l1), some (.int l2), none, none] (And.intro rfl (And.intro rfl (And.intro rfl True.intro))) (v1 c1)
  · exact j_le [some (.ref 0), some (.int l1), some (.int l2), none, none] (And.intro rfl (And.intro rfl (And.intro rfl True.intro))) (v2 c1)
set_option maxRecDepth 100000 in
theorem bX11_freeBits_18 {sc : Nat × (Nat → Int32)} {h : jH} {Q : jQ} {l1 l2 : Int32} {P1 : Int32 → jH → Prop} {P2 : Int32 → jH → Prop}
    (k1 : JM mX4_lineAt [.ref 10, .int l2] (jG0 sc) h (jint sc P1))
    (k2 : ∀ (x1 : Int32) (h1 : jH), P1 x1 h1 → JM mX11_kindOf [.int x1] (jG0 sc) h1 (jint sc P2))
    (v1 : ∀ (x1 : Int32) (h1 : jH), P1 x1 h1 → ∀ (x2 : Int32) (h2 : jH), P2 x2 h2 → ¬ x2 = 0 → WP mX11_freeBits Q 39 [some (.ref 0), some (.int l1), some (.int l2), none, none] [] (jG0 sc) h2 (0, 0))
    (v2 : ∀ (x1 : Int32) (h1 : jH), P1 x1 h1 → ∀ (x2 : Int32) (h2 : jH), P2 x2 h2 → x2 = 0 → WP mX11_freeBits Q 35 [some (.ref 0), some (.int l1), some (.int l2), none, none] [] (jG0 sc) h2 (0, 0)) :
    WP mX11_freeBits Q 18 [some (.ref 0), some (.int l1), some (.int l2), none, none] [] (jG0 sc) h (0, 0) := by
  refine j_aload_n (i := 0) rfl dX11_freeBits_18 ?_
  refine j_getR (idx := 37) (ci := 11) (k := 4) (nest := false) (show (11, 37, 11, 4, false) ∈ jFT by decide) rfl (Nat.le_of_ble_eq_true rfl) rfl (a := 9) rfl dX11_freeBits_19 ?_
  refine j_getR (idx := 127) (ci := 6) (k := 0) (nest := true) (show (11, 127, 6, 0, true) ∈ jFT by decide) rfl (Nat.le_of_ble_eq_true rfl) rfl (a := 10) rfl dX11_freeBits_22 ?_
  refine j_iload_n (i := 2) rfl dX11_freeBits_25 ?_
  refine j_callVN (idx := 264) (As := [.int l2]) (ci := 4) (n := 1) k1 jint_nt (jTbl (jtb5 95 rfl)) sX4_lineAt kX4_lineAt rfl ⟨rfl, by decide +kernel, by decide +kernel, by decide +kernel⟩ rfl ⟨by decide, by decide⟩ (Nat.le_of_ble_eq_true rfl) rfl (Nat.le_of_ble_eq_true rfl) (Nat.le_of_ble_eq_true rfl) ⟨Nat.zero_le _, Nat.zero_le _⟩ dX11_freeBits_26 (fun r Γ' h1 q => ?_)
  obtain ⟨x1, q0, rfl, p1⟩ := q; cases q0
  refine j_eqst [.int x1] (by rfl) ?_
  refine j_callS (idx := 268) (As := [.int x1]) (n := 1) (k2 x1 h1 p1) jint_nt (jlkT (jtb5 96 rfl) rfl) sX11_kindOf kX11_kindOf rfl ⟨by decide +kernel, by decide +kernel, by decide +kernel⟩ rfl ⟨by decide, by decide⟩ (Nat.le_of_ble_eq_true rfl) ⟨Nat.zero_le _, Nat.zero_le _⟩ dX11_freeBits_29 (fun r Γ' h2 q => ?_)
  obtain ⟨x2, q0, rfl, p2⟩ := q; cases q0
  refine j_eqst [.int x2] (by rfl) ?_
  refine j_if_ne (off := 7) 39 dX11_freeBits_32 (by decide) (fun c1 => ?_) (fun c1 => ?_)
  · exact j_le [some (.ref 0), some (.int l1), some (.int l2), none, none] (And.intro rfl (And.intro rfl (And.intro rfl True.intro))) (v1 x1 h1 p1 x2 h2 p2 c1)
  · exact j_le [some (.ref 0), some (.int l1), some (.int l2), none, none] (And.intro rfl (And.intro rfl (And.intro rfl True.intro))) (v2 x1 h1 p1 x2 h2 p2 c1)
set_option maxRecDepth 100000 in
theorem bX11_freeBits_35 {sc : Nat × (Nat → Int32)} {h : jH} {Q : jQ} {l1 l2 : Int32}
    (v1 : WP mX11_freeBits Q 40 [some (.ref 0), some (.int l1), some (.int l2), none, none] [.int 1] (jG0 sc) h (0, 0)) :
    WP mX11_freeBits Q 35 [some (.ref 0), some (.int l1), some (.int l2), none, none] [] (jG0 sc) h (0, 0) := by
  refine j_iconst (n := 1) 1 (by decide) dX11_freeBits_35 ?_
  refine j_goto (off := 4) 40 dX11_freeBits_36 (by decide) ?_
  exact j_le [some (.ref 0), some (.int l1), some (.int l2), none, none] (And.intro rfl (And.intro rfl (And.intro rfl True.intro))) v1
set_option maxRecDepth 100000 in
theorem bX11_freeBits_39 {sc : Nat × (Nat → Int32)} {h : jH} {Q : jQ} {l1 l2 : Int32}
    (v1 : WP mX11_freeBits Q 40 [some (.ref 0), some (.int l1), some (.int l2), none, none] [.int 0] (jG0 sc) h (0, 0)) :
    WP mX11_freeBits Q 39 [some (.ref 0), some (.int l1), some (.int l2), none, none] [] (jG0 sc) h (0, 0) := by
  refine j_iconst (n := 0) 0 (by decide) dX11_freeBits_39 ?_
  exact j_le [some (.ref 0), some (.int l1), some (.int l2), none, none] (And.intro rfl (And.intro rfl (And.intro rfl True.intro))) v1
set_option maxRecDepth 100000 in
theorem bX11_freeBits_40 {sc : Nat × (Nat → Int32)} {h : jH} {Q : jQ} {l1 l2 s0 : Int32}
    (v1 : WP mX11_freeBits Q 44 [some (.ref 0), some (.int l1), some (.int l2), some (.int s0), some (.int 0)] [] (jG0 sc) h (0, 0)) :
    WP mX11_freeBits Q 40 [some (.ref 0), some (.int l1), some (.int l2), none, none] [.int s0] (jG0 sc) h (0, 0) := by
  refine j_istore_n (i := 3) dX11_freeBits_40 (Nat.le_of_ble_eq_true rfl) ?_
  refine j_iconst (n := 0) 0 (by decide) dX11_freeBits_41 ?_
  refine j_istore (i := 4) dX11_freeBits_42 (Nat.le_of_ble_eq_true rfl) ?_
  exact j_le [some (.ref 0), some (.int l1), some (.int l2), some (.int s0), some (.int 0)] (And.intro rfl (And.intro rfl (And.intro rfl (And.intro rfl (And.intro rfl True.intro))))) v1
set_option maxRecDepth 100000 in
theorem bX11_freeBits_44 {sc : Nat × (Nat → Int32)} {h : jH} {Q : jQ} {l1 l2 l3 l4 : Int32}
    (v1 : (h 14 3) ≤ l4 → WP mX11_freeBits Q 100 [some (.ref 0), some (.int l1), some (.int l2), some (.int l3), some (.int l4)] [] (jG0 sc) h (0, 0))
    (v2 : ¬ (h 14 3) ≤ l4 → WP mX11_freeBits Q 59 [some (.ref 0), some (.int l1), some (.int l2), some (.int l3), some (.int l4)] [] (jG0 sc) h (0, 0)) :
    WP mX11_freeBits Q 44 [some (.ref 0), some (.int l1), some (.int l2), some (.int l3), some (.int l4)] [] (jG0 sc) h (0, 0) := by
  refine j_iload (i := 4) rfl dX11_freeBits_44 ?_
  refine j_aload_n (i := 0) rfl dX11_freeBits_46 ?_
  refine j_getR (idx := 37) (ci := 11) (k := 4) (nest := false) (show (11, 37, 11, 4, false) ∈ jFT by decide) rfl (Nat.le_of_ble_eq_true rfl) rfl (a := 9) rfl dX11_freeBits_47 ?_
  refine j_getR (idx := 169) (ci := 6) (k := 2) (nest := true) (show (11, 169, 6, 2, true) ∈ jFT by decide) rfl (Nat.le_of_ble_eq_true rfl) rfl (a := 14) rfl dX11_freeBits_50 ?_
  refine j_getI (idx := 173) (ci := 5) (k := 3) (nest := true) (show (11, 173, 5, 3, true) ∈ jFT by decide) rfl (Nat.le_of_ble_eq_true rfl) rfl dX11_freeBits_53 ?_
  refine j_icmp_ge (off := 44) 100 dX11_freeBits_56 (by decide) (fun c1 => ?_) (fun c1 => ?_)
  · exact j_le [some (.ref 0), some (.int l1), some (.int l2), some (.int l3), some (.int l4)] (And.intro rfl (And.intro rfl (And.intro rfl (And.intro rfl (And.intro rfl True.intro))))) (v1 c1)
  · exact j_le [some (.ref 0), some (.int l1), some (.int l2), some (.int l3), some (.int l4)] (And.intro rfl (And.intro rfl (And.intro rfl (And.intro rfl (And.intro rfl True.intro))))) (v2 c1)
set_option maxRecDepth 100000 in
theorem bX11_freeBits_59 {sc : Nat × (Nat → Int32)} {h : jH} {Q : jQ} {l1 l2 l3 l4 : Int32}
    (v1 : l3 = 0 → WP mX11_freeBits Q 100 [some (.ref 0), some (.int l1), some (.int l2), some (.int l3), some (.int l4)] [] (jG0 sc) h (0, 0))
    (v2 : ¬ l3 = 0 → WP mX11_freeBits Q 63 [some (.ref 0), some (.int l1), some (.int l2), some (.int l3), some (.int l4)] [] (jG0 sc) h (0, 0)) :
    WP mX11_freeBits Q 59 [some (.ref 0), some (.int l1), some (.int l2), some (.int l3), some (.int l4)] [] (jG0 sc) h (0, 0) := by
  refine j_iload_n (i := 3) rfl dX11_freeBits_59 ?_
  refine j_if_eq (off := 40) 100 dX11_freeBits_60 (by decide) (fun c1 => ?_) (fun c1 => ?_)
  · exact j_le [some (.ref 0), some (.int l1), some (.int l2), some (.int l3), some (.int l4)] (And.intro rfl (And.intro rfl (And.intro rfl (And.intro rfl (And.intro rfl True.intro))))) (v1 c1)
  · exact j_le [some (.ref 0), some (.int l1), some (.int l2), some (.int l3), some (.int l4)] (And.intro rfl (And.intro rfl (And.intro rfl (And.intro rfl (And.intro rfl True.intro))))) (v2 c1)
set_option maxRecDepth 100000 in
theorem bX11_freeBits_63 {sc : Nat × (Nat → Int32)} {h : jH} {Q : jQ} {l1 l2 l3 l4 : Int32}
    (v1 : (((h 72 3) >>> (l4 &&& 31)) &&& 1) = 0 → WP mX11_freeBits Q 88 [some (.ref 0), some (.int l1), some (.int l2), some (.int l3), some (.int l4)] [] (jG0 sc) h (0, 0))
    (v2 : ¬ (((h 72 3) >>> (l4 &&& 31)) &&& 1) = 0 → WP mX11_freeBits Q 78 [some (.ref 0), some (.int l1), some (.int l2), some (.int l3), some (.int l4)] [] (jG0 sc) h (0, 0)) :
    WP mX11_freeBits Q 63 [some (.ref 0), some (.int l1), some (.int l2), some (.int l3), some (.int l4)] [] (jG0 sc) h (0, 0) := by
  refine j_aload_n (i := 0) rfl dX11_freeBits_63 ?_
  refine j_getR (idx := 54) (ci := 11) (k := 8) (nest := false) (show (11, 54, 11, 8, false) ∈ jFT by decide) rfl (Nat.le_of_ble_eq_true rfl) rfl (a := 72) rfl dX11_freeBits_64 ?_
  refine j_getI (idx := 244) (ci := 7) (k := 3) (nest := true) (show (11, 244, 7, 3, true) ∈ jFT by decide) rfl (Nat.le_of_ble_eq_true rfl) rfl dX11_freeBits_67 ?_
  refine j_iload (i := 4) rfl dX11_freeBits_70 ?_
  refine j_ishr dX11_freeBits_72 ?_
  refine j_iconst (n := 1) 1 (by decide) dX11_freeBits_73 ?_
  refine j_iand dX11_freeBits_74 ?_
  refine j_if_eq (off := 13) 88 dX11_freeBits_75 (by decide) (fun c1 => ?_) (fun c1 => ?_)
  · exact j_le [some (.ref 0), some (.int l1), some (.int l2), some (.int l3), some (.int l4)] (And.intro rfl (And.intro rfl (And.intro rfl (And.intro rfl (And.intro rfl True.intro))))) (v1 c1)
  · exact j_le [some (.ref 0), some (.int l1), some (.int l2), some (.int l3), some (.int l4)] (And.intro rfl (And.intro rfl (And.intro rfl (And.intro rfl (And.intro rfl True.intro))))) (v2 c1)
set_option maxRecDepth 100000 in
theorem bX11_freeBits_78 {sc : Nat × (Nat → Int32)} {h : jH} {Q : jQ} {l1 l2 l3 l4 : Int32} {P1 : Int32 → jH → Prop}
    (k1 : JM mX11_canFree [.ref 0, .int l2, .int l4] (jG0 sc) h (jint sc P1))
    (v1 : ∀ (x1 : Int32) (h1 : jH), P1 x1 h1 → x1 = 0 → WP mX11_freeBits Q 92 [some (.ref 0), some (.int l1), some (.int l2), some (.int l3), some (.int l4)] [] (jG0 sc) h1 (0, 0))
    (v2 : ∀ (x1 : Int32) (h1 : jH), P1 x1 h1 → ¬ x1 = 0 → WP mX11_freeBits Q 88 [some (.ref 0), some (.int l1), some (.int l2), some (.int l3), some (.int l4)] [] (jG0 sc) h1 (0, 0)) :
    WP mX11_freeBits Q 78 [some (.ref 0), some (.int l1), some (.int l2), some (.int l3), some (.int l4)] [] (jG0 sc) h (0, 0) := by
  refine j_aload_n (i := 0) rfl dX11_freeBits_78 ?_
  refine j_iload_n (i := 2) rfl dX11_freeBits_79 ?_
  refine j_iload (i := 4) rfl dX11_freeBits_80 ?_
  refine j_callV (idx := 271) (As := [.int l2, .int l4]) (ci := 11) (n := 2) k1 jint_nt (jlkT (jtb5 97 rfl) rfl) sX11_canFree kX11_canFree rfl ⟨rfl, by decide +kernel, by decide +kernel, by decide +kernel⟩ rfl ⟨by decide, by decide⟩ (Nat.le_of_ble_eq_true rfl) rfl (Nat.le_of_ble_eq_true rfl) (Nat.le_of_ble_eq_true rfl) ⟨Nat.zero_le _, Nat.zero_le _⟩ dX11_freeBits_82 (fun r Γ' h1 q => ?_)
  obtain ⟨x1, q0, rfl, p1⟩ := q; cases q0
  refine j_eqst [.int x1] (by rfl) ?_
  refine j_if_eq (off := 7) 92 dX11_freeBits_85 (by decide) (fun c1 => ?_) (fun c1 => ?_)
  · exact j_le [some (.ref 0), some (.int l1), some (.int l2), some (.int l3), some (.int l4)] (And.intro rfl (And.intro rfl (And.intro rfl (And.intro rfl (And.intro rfl True.intro))))) (v1 x1 h1 p1 c1)
  · exact j_le [some (.ref 0), some (.int l1), some (.int l2), some (.int l3), some (.int l4)] (And.intro rfl (And.intro rfl (And.intro rfl (And.intro rfl (And.intro rfl True.intro))))) (v2 x1 h1 p1 c1)
set_option maxRecDepth 100000 in
theorem bX11_freeBits_88 {sc : Nat × (Nat → Int32)} {h : jH} {Q : jQ} {l1 l2 l3 l4 : Int32}
    (v1 : WP mX11_freeBits Q 93 [some (.ref 0), some (.int l1), some (.int l2), some (.int l3), some (.int l4)] [.int 1] (jG0 sc) h (0, 0)) :
    WP mX11_freeBits Q 88 [some (.ref 0), some (.int l1), some (.int l2), some (.int l3), some (.int l4)] [] (jG0 sc) h (0, 0) := by
  refine j_iconst (n := 1) 1 (by decide) dX11_freeBits_88 ?_
  refine j_goto (off := 4) 93 dX11_freeBits_89 (by decide) ?_
  exact j_le [some (.ref 0), some (.int l1), some (.int l2), some (.int l3), some (.int l4)] (And.intro rfl (And.intro rfl (And.intro rfl (And.intro rfl (And.intro rfl True.intro))))) v1
set_option maxRecDepth 100000 in
theorem bX11_freeBits_92 {sc : Nat × (Nat → Int32)} {h : jH} {Q : jQ} {l1 l2 l3 l4 : Int32}
    (v1 : WP mX11_freeBits Q 93 [some (.ref 0), some (.int l1), some (.int l2), some (.int l3), some (.int l4)] [.int 0] (jG0 sc) h (0, 0)) :
    WP mX11_freeBits Q 92 [some (.ref 0), some (.int l1), some (.int l2), some (.int l3), some (.int l4)] [] (jG0 sc) h (0, 0) := by
  refine j_iconst (n := 0) 0 (by decide) dX11_freeBits_92 ?_
  exact j_le [some (.ref 0), some (.int l1), some (.int l2), some (.int l3), some (.int l4)] (And.intro rfl (And.intro rfl (And.intro rfl (And.intro rfl (And.intro rfl True.intro))))) v1
set_option maxRecDepth 100000 in
theorem bX11_freeBits_93 {sc : Nat × (Nat → Int32)} {h : jH} {Q : jQ} {l1 l2 l3 l4 s0 : Int32}
    (v1 : WP mX11_freeBits Q 44 [some (.ref 0), some (.int l1), some (.int l2), some (.int s0), some (.int (l4 + 1))] [] (jG0 sc) h (0, 0)) :
    WP mX11_freeBits Q 93 [some (.ref 0), some (.int l1), some (.int l2), some (.int l3), some (.int l4)] [.int s0] (jG0 sc) h (0, 0) := by
  refine j_istore_n (i := 3) dX11_freeBits_93 (Nat.le_of_ble_eq_true rfl) ?_
  refine j_iinc (i := 4) (n := 1) rfl dX11_freeBits_94 (Nat.le_of_ble_eq_true rfl) ?_
  refine j_eqlv [some (.ref 0), some (.int l1), some (.int l2), some (.int s0), some (.int (l4 + 1))] rfl ?_
  refine j_goto (off := -53) 44 dX11_freeBits_97 (by decide) ?_
  exact j_le [some (.ref 0), some (.int l1), some (.int l2), some (.int s0), some (.int (l4 + 1))] (And.intro rfl (And.intro rfl (And.intro rfl (And.intro rfl (And.intro rfl True.intro))))) v1
set_option maxRecDepth 100000 in
theorem bX11_freeBits_100 {sc : Nat × (Nat → Int32)} {h : jH} {Q : jQ} {l1 l2 l3 l4 : Int32}
    (v1 : l3 = 0 → WP mX11_freeBits Q 111 [some (.ref 0), some (.int l1), some (.int l2), some (.int l3), some (.int l4)] [.int l1] (jG0 sc) h (0, 0))
    (v2 : ¬ l3 = 0 → WP mX11_freeBits Q 105 [some (.ref 0), some (.int l1), some (.int l2), some (.int l3), some (.int l4)] [.int l1] (jG0 sc) h (0, 0)) :
    WP mX11_freeBits Q 100 [some (.ref 0), some (.int l1), some (.int l2), some (.int l3), some (.int l4)] [] (jG0 sc) h (0, 0) := by
  refine j_iload_n (i := 1) rfl dX11_freeBits_100 ?_
  refine j_iload_n (i := 3) rfl dX11_freeBits_101 ?_
  refine j_if_eq (off := 9) 111 dX11_freeBits_102 (by decide) (fun c1 => ?_) (fun c1 => ?_)
  · exact j_le [some (.ref 0), some (.int l1), some (.int l2), some (.int l3), some (.int l4)] (And.intro rfl (And.intro rfl (And.intro rfl (And.intro rfl (And.intro rfl True.intro))))) (v1 c1)
  · exact j_le [some (.ref 0), some (.int l1), some (.int l2), some (.int l3), some (.int l4)] (And.intro rfl (And.intro rfl (And.intro rfl (And.intro rfl (And.intro rfl True.intro))))) (v2 c1)
set_option maxRecDepth 100000 in
theorem bX11_freeBits_105 {sc : Nat × (Nat → Int32)} {h : jH} {Q : jQ} {l1 l2 l3 l4 s0 : Int32}
    (v1 : WP mX11_freeBits Q 112 [some (.ref 0), some (.int l1), some (.int l2), some (.int l3), some (.int l4)] [.int ((1 : Int32) <<< (l2 &&& 31)), .int s0] (jG0 sc) h (0, 0)) :
    WP mX11_freeBits Q 105 [some (.ref 0), some (.int l1), some (.int l2), some (.int l3), some (.int l4)] [.int s0] (jG0 sc) h (0, 0) := by
  refine j_iconst (n := 1) 1 (by decide) dX11_freeBits_105 ?_
  refine j_iload_n (i := 2) rfl dX11_freeBits_106 ?_
  refine j_ishl dX11_freeBits_107 ?_
  refine j_goto (off := 4) 112 dX11_freeBits_108 (by decide) ?_
  exact j_le [some (.ref 0), some (.int l1), some (.int l2), some (.int l3), some (.int l4)] (And.intro rfl (And.intro rfl (And.intro rfl (And.intro rfl (And.intro rfl True.intro))))) v1
set_option maxRecDepth 100000 in
theorem bX11_freeBits_111 {sc : Nat × (Nat → Int32)} {h : jH} {Q : jQ} {l1 l2 l3 l4 s0 : Int32}
    (v1 : WP mX11_freeBits Q 112 [some (.ref 0), some (.int l1), some (.int l2), some (.int l3), some (.int l4)] [.int 0, .int s0] (jG0 sc) h (0, 0)) :
    WP mX11_freeBits Q 111 [some (.ref 0), some (.int l1), some (.int l2), some (.int l3), some (.int l4)] [.int s0] (jG0 sc) h (0, 0) := by
  refine j_iconst (n := 0) 0 (by decide) dX11_freeBits_111 ?_
  exact j_le [some (.ref 0), some (.int l1), some (.int l2), some (.int l3), some (.int l4)] (And.intro rfl (And.intro rfl (And.intro rfl (And.intro rfl (And.intro rfl True.intro))))) v1
set_option maxRecDepth 100000 in
theorem bX11_freeBits_112 {sc : Nat × (Nat → Int32)} {h : jH} {Q : jQ} {l1 l2 l3 l4 s0 s1 : Int32}
    (v1 : WP mX11_freeBits Q 4 [some (.ref 0), some (.int (s1 ||| s0)), some (.int (l2 + 1)), none, none] [] (jG0 sc) h (0, 0)) :
    WP mX11_freeBits Q 112 [some (.ref 0), some (.int l1), some (.int l2), some (.int l3), some (.int l4)] [.int s0, .int s1] (jG0 sc) h (0, 0) := by
  refine j_ior dX11_freeBits_112 ?_
  refine j_istore_n (i := 1) dX11_freeBits_113 (Nat.le_of_ble_eq_true rfl) ?_
  refine j_iinc (i := 2) (n := 1) rfl dX11_freeBits_114 (Nat.le_of_ble_eq_true rfl) ?_
  refine j_eqlv [some (.ref 0), some (.int (s1 ||| s0)), some (.int (l2 + 1)), some (.int l3), some (.int l4)] rfl ?_
  refine j_goto (off := -113) 4 dX11_freeBits_117 (by decide) ?_
  exact j_le [some (.ref 0), some (.int (s1 ||| s0)), some (.int (l2 + 1)), none, none] (And.intro rfl (And.intro rfl (And.intro rfl True.intro))) v1
set_option maxRecDepth 100000 in
theorem bX11_freeBits_120 {sc : Nat × (Nat → Int32)} {h : jH} {Q : jQ} {l1 l2 : Int32}
    (v1 : Q (.inl (some (.int l1))) (jG0 sc) h) :
    WP mX11_freeBits Q 120 [some (.ref 0), some (.int l1), some (.int l2), none, none] [] (jG0 sc) h (0, 0) := by
  refine j_iload_n (i := 1) rfl dX11_freeBits_120 ?_
  exact j_iret rfl rfl (Nat.zero_le _) (Nat.zero_le _) dX11_freeBits_121 v1
set_option maxRecDepth 100000 in
theorem rX11_freeBits_0 {sc : Nat × (Nat → Int32)} {h : jH} {Q : jQ}
    (v1 : WP mX11_freeBits Q 4 [some (.ref 0), some (.int 0), some (.int 0), none, none] [] (jG0 sc) h (0, 0)) :
    WP mX11_freeBits Q 0 [some (.ref 0), none, none, none, none] [] (jG0 sc) h (0, 0) := by
  exact (bX11_freeBits_0 v1)
set_option maxRecDepth 100000 in
theorem rX11_freeBits_4 {sc : Nat × (Nat → Int32)} {h : jH} {Q : jQ} {l1 l2 : Int32} {P1 : Int32 → jH → Prop} {P2 : Int32 → jH → Prop}
    (v1 : (h 10 1) ≤ l2 → Q (.inl (some (.int l1))) (jG0 sc) h)
    (k1 : ¬ (h 10 1) ≤ l2 → JM mX4_lineAt [.ref 10, .int l2] (jG0 sc) h (jint sc P1))
    (k2 : ¬ (h 10 1) ≤ l2 → ∀ (x1 : Int32) (h1 : jH), P1 x1 h1 → JM mX11_kindOf [.int x1] (jG0 sc) h1 (jint sc P2))
    (v2 : ¬ (h 10 1) ≤ l2 → ∀ (x1 : Int32) (h1 : jH), P1 x1 h1 → ∀ (x2 : Int32) (h2 : jH), P2 x2 h2 → ¬ x2 = 0 → WP mX11_freeBits Q 44 [some (.ref 0), some (.int l1), some (.int l2), some (.int 0), some (.int 0)] [] (jG0 sc) h2 (0, 0))
    (v3 : ¬ (h 10 1) ≤ l2 → ∀ (x1 : Int32) (h1 : jH), P1 x1 h1 → ∀ (x2 : Int32) (h2 : jH), P2 x2 h2 → x2 = 0 → WP mX11_freeBits Q 44 [some (.ref 0), some (.int l1), some (.int l2), some (.int 1), some (.int 0)] [] (jG0 sc) h2 (0, 0)) :
    WP mX11_freeBits Q 4 [some (.ref 0), some (.int l1), some (.int l2), none, none] [] (jG0 sc) h (0, 0) := by
  exact (bX11_freeBits_4 (fun c1 => (bX11_freeBits_120 (v1 c1))) (fun c1 => (bX11_freeBits_18 (k1 c1) (fun x1 h1 p1 => (k2 c1 x1 h1 p1)) (fun x1 h1 p1 x2 h2 p2 c2 => (bX11_freeBits_39 (bX11_freeBits_40 (v2 c1 x1 h1 p1 x2 h2 p2 c2)))) (fun x1 h1 p1 x2 h2 p2 c2 => (bX11_freeBits_35 (bX11_freeBits_40 (v3 c1 x1 h1 p1 x2 h2 p2 c2)))))))
set_option maxRecDepth 100000 in
theorem rX11_freeBits_44 {sc : Nat × (Nat → Int32)} {h : jH} {Q : jQ} {l1 l2 l3 l4 : Int32} {P1 : Int32 → jH → Prop}
    (v1 : (h 14 3) ≤ l4 → l3 = 0 → WP mX11_freeBits Q 4 [some (.ref 0), some (.int (l1 ||| 0)), some (.int (l2 + 1)), none, none] [] (jG0 sc) h (0, 0))
    (v2 : (h 14 3) ≤ l4 → ¬ l3 = 0 → WP mX11_freeBits Q 4 [some (.ref 0), some (.int (l1 ||| ((1 : Int32) <<< (l2 &&& 31)))), some (.int (l2 + 1)), none, none] [] (jG0 sc) h (0, 0))
    (v3 : ¬ (h 14 3) ≤ l4 → l3 = 0 → l3 = 0 → WP mX11_freeBits Q 4 [some (.ref 0), some (.int (l1 ||| 0)), some (.int (l2 + 1)), none, none] [] (jG0 sc) h (0, 0))
    (v4 : ¬ (h 14 3) ≤ l4 → l3 = 0 → ¬ l3 = 0 → WP mX11_freeBits Q 4 [some (.ref 0), some (.int (l1 ||| ((1 : Int32) <<< (l2 &&& 31)))), some (.int (l2 + 1)), none, none] [] (jG0 sc) h (0, 0))
    (v5 : ¬ (h 14 3) ≤ l4 → ¬ l3 = 0 → (((h 72 3) >>> (l4 &&& 31)) &&& 1) = 0 → WP mX11_freeBits Q 44 [some (.ref 0), some (.int l1), some (.int l2), some (.int 1), some (.int (l4 + 1))] [] (jG0 sc) h (0, 0))
    (k1 : ¬ (h 14 3) ≤ l4 → ¬ l3 = 0 → ¬ (((h 72 3) >>> (l4 &&& 31)) &&& 1) = 0 → JM mX11_canFree [.ref 0, .int l2, .int l4] (jG0 sc) h (jint sc P1))
    (v6 : ¬ (h 14 3) ≤ l4 → ¬ l3 = 0 → ¬ (((h 72 3) >>> (l4 &&& 31)) &&& 1) = 0 → ∀ (x1 : Int32) (h1 : jH), P1 x1 h1 → x1 = 0 → WP mX11_freeBits Q 44 [some (.ref 0), some (.int l1), some (.int l2), some (.int 0), some (.int (l4 + 1))] [] (jG0 sc) h1 (0, 0))
    (v7 : ¬ (h 14 3) ≤ l4 → ¬ l3 = 0 → ¬ (((h 72 3) >>> (l4 &&& 31)) &&& 1) = 0 → ∀ (x1 : Int32) (h1 : jH), P1 x1 h1 → ¬ x1 = 0 → WP mX11_freeBits Q 44 [some (.ref 0), some (.int l1), some (.int l2), some (.int 1), some (.int (l4 + 1))] [] (jG0 sc) h1 (0, 0)) :
    WP mX11_freeBits Q 44 [some (.ref 0), some (.int l1), some (.int l2), some (.int l3), some (.int l4)] [] (jG0 sc) h (0, 0) := by
  exact (bX11_freeBits_44 (fun c1 => (bX11_freeBits_100 (fun c2 => (bX11_freeBits_111 (bX11_freeBits_112 (v1 c1 c2)))) (fun c2 => (bX11_freeBits_105 (bX11_freeBits_112 (v2 c1 c2)))))) (fun c1 => (bX11_freeBits_59 (fun c3 => (bX11_freeBits_100 (fun c4 => (bX11_freeBits_111 (bX11_freeBits_112 (v3 c1 c3 c4)))) (fun c4 => (bX11_freeBits_105 (bX11_freeBits_112 (v4 c1 c3 c4)))))) (fun c3 => (bX11_freeBits_63 (fun c5 => (bX11_freeBits_88 (bX11_freeBits_93 (v5 c1 c3 c5)))) (fun c5 => (bX11_freeBits_78 (k1 c1 c3 c5) (fun x1 h1 p1 c6 => (bX11_freeBits_92 (bX11_freeBits_93 (v6 c1 c3 c5 x1 h1 p1 c6)))) (fun x1 h1 p1 c6 => (bX11_freeBits_88 (bX11_freeBits_93 (v7 c1 c3 c5 x1 h1 p1 c6)))))))))))
theorem dX11_canFree_0 : decode (mC mX11_canFree) 0 = .ok (.aload_n 0, 1) := by decide +kernel
theorem dX11_canFree_1 : decode (mC mX11_canFree) 1 = .ok (.getfield 37, 3) := by decide +kernel
theorem dX11_canFree_4 : decode (mC mX11_canFree) 4 = .ok (.getfield 169, 3) := by decide +kernel
theorem dX11_canFree_7 : decode (mC mX11_canFree) 7 = .ok (.astore_n 3, 1) := by decide +kernel
theorem dX11_canFree_8 : decode (mC mX11_canFree) 8 = .ok (.iload_n 2, 1) := by decide +kernel
theorem dX11_canFree_9 : decode (mC mX11_canFree) 9 = .ok (.ifCond .lt 25, 3) := by decide +kernel
theorem dX11_canFree_12 : decode (mC mX11_canFree) 12 = .ok (.iload_n 2, 1) := by decide +kernel
theorem dX11_canFree_13 : decode (mC mX11_canFree) 13 = .ok (.bipush 12, 2) := by decide +kernel
theorem dX11_canFree_15 : decode (mC mX11_canFree) 15 = .ok (.if_icmp .ge 19, 3) := by decide +kernel
theorem dX11_canFree_18 : decode (mC mX11_canFree) 18 = .ok (.aload_n 0, 1) := by decide +kernel
theorem dX11_canFree_19 : decode (mC mX11_canFree) 19 = .ok (.getfield 54, 3) := by decide +kernel
theorem dX11_canFree_22 : decode (mC mX11_canFree) 22 = .ok (.getfield 275, 3) := by decide +kernel
theorem dX11_canFree_25 : decode (mC mX11_canFree) 25 = .ok (.iload_n 2, 1) := by decide +kernel
theorem dX11_canFree_26 : decode (mC mX11_canFree) 26 = .ok (.iaload, 1) := by decide +kernel
theorem dX11_canFree_27 : decode (mC mX11_canFree) 27 = .ok (.iload_n 1, 1) := by decide +kernel
theorem dX11_canFree_28 : decode (mC mX11_canFree) 28 = .ok (.ishr, 1) := by decide +kernel
theorem dX11_canFree_29 : decode (mC mX11_canFree) 29 = .ok (.iconst 1, 1) := by decide +kernel
theorem dX11_canFree_30 : decode (mC mX11_canFree) 30 = .ok (.iand, 1) := by decide +kernel
theorem dX11_canFree_31 : decode (mC mX11_canFree) 31 = .ok (.ifCond .ne 5, 3) := by decide +kernel
theorem dX11_canFree_34 : decode (mC mX11_canFree) 34 = .ok (.iconst 0, 1) := by decide +kernel
theorem dX11_canFree_35 : decode (mC mX11_canFree) 35 = .ok (.ireturn, 1) := by decide +kernel
theorem dX11_canFree_36 : decode (mC mX11_canFree) 36 = .ok (.iconst 0, 1) := by decide +kernel
theorem dX11_canFree_37 : decode (mC mX11_canFree) 37 = .ok (.istore 4, 2) := by decide +kernel
theorem dX11_canFree_39 : decode (mC mX11_canFree) 39 = .ok (.aload_n 0, 1) := by decide +kernel
theorem dX11_canFree_40 : decode (mC mX11_canFree) 40 = .ok (.getfield 47, 3) := by decide +kernel
theorem dX11_canFree_43 : decode (mC mX11_canFree) 43 = .ok (.iload_n 1, 1) := by decide +kernel
theorem dX11_canFree_44 : decode (mC mX11_canFree) 44 = .ok (.putfield 278, 3) := by decide +kernel
theorem dX11_canFree_47 : decode (mC mX11_canFree) 47 = .ok (.bipush (-20), 2) := by decide +kernel
theorem dX11_canFree_49 : decode (mC mX11_canFree) 49 = .ok (.istore 5, 2) := by decide +kernel
theorem dX11_canFree_51 : decode (mC mX11_canFree) 51 = .ok (.iload 5, 2) := by decide +kernel
theorem dX11_canFree_53 : decode (mC mX11_canFree) 53 = .ok (.bipush 20, 2) := by decide +kernel
theorem dX11_canFree_55 : decode (mC mX11_canFree) 55 = .ok (.if_icmp .gt 65, 3) := by decide +kernel
theorem dX11_canFree_58 : decode (mC mX11_canFree) 58 = .ok (.iload 4, 2) := by decide +kernel
theorem dX11_canFree_60 : decode (mC mX11_canFree) 60 = .ok (.ifCond .ne 60, 3) := by decide +kernel
theorem dX11_canFree_63 : decode (mC mX11_canFree) 63 = .ok (.aload_n 0, 1) := by decide +kernel
theorem dX11_canFree_64 : decode (mC mX11_canFree) 64 = .ok (.getfield 47, 3) := by decide +kernel
theorem dX11_canFree_67 : decode (mC mX11_canFree) 67 = .ok (.iload 5, 2) := by decide +kernel
theorem dX11_canFree_69 : decode (mC mX11_canFree) 69 = .ok (.putfield 281, 3) := by decide +kernel
theorem dX11_canFree_72 : decode (mC mX11_canFree) 72 = .ok (.aload_n 0, 1) := by decide +kernel
theorem dX11_canFree_73 : decode (mC mX11_canFree) 73 = .ok (.getfield 47, 3) := by decide +kernel
theorem dX11_canFree_76 : decode (mC mX11_canFree) 76 = .ok (.aload_n 0, 1) := by decide +kernel
theorem dX11_canFree_77 : decode (mC mX11_canFree) 77 = .ok (.getfield 37, 3) := by decide +kernel
theorem dX11_canFree_80 : decode (mC mX11_canFree) 80 = .ok (.getfield 127, 3) := by decide +kernel
theorem dX11_canFree_83 : decode (mC mX11_canFree) 83 = .ok (.aload_n 3, 1) := by decide +kernel
theorem dX11_canFree_84 : decode (mC mX11_canFree) 84 = .ok (.getfield 219, 3) := by decide +kernel
theorem dX11_canFree_87 : decode (mC mX11_canFree) 87 = .ok (.iload_n 2, 1) := by decide +kernel
theorem dX11_canFree_88 : decode (mC mX11_canFree) 88 = .ok (.iaload, 1) := by decide +kernel
theorem dX11_canFree_89 : decode (mC mX11_canFree) 89 = .ok (.aload_n 3, 1) := by decide +kernel
theorem dX11_canFree_90 : decode (mC mX11_canFree) 90 = .ok (.getfield 222, 3) := by decide +kernel
theorem dX11_canFree_93 : decode (mC mX11_canFree) 93 = .ok (.iload_n 2, 1) := by decide +kernel
theorem dX11_canFree_94 : decode (mC mX11_canFree) 94 = .ok (.iaload, 1) := by decide +kernel
theorem dX11_canFree_95 : decode (mC mX11_canFree) 95 = .ok (.invokevirtual 196, 3) := by decide +kernel
theorem dX11_canFree_98 : decode (mC mX11_canFree) 98 = .ok (.aload_n 3, 1) := by decide +kernel
theorem dX11_canFree_99 : decode (mC mX11_canFree) 99 = .ok (.getfield 225, 3) := by decide +kernel
theorem dX11_canFree_102 : decode (mC mX11_canFree) 102 = .ok (.iload_n 2, 1) := by decide +kernel
theorem dX11_canFree_103 : decode (mC mX11_canFree) 103 = .ok (.iaload, 1) := by decide +kernel
theorem dX11_canFree_104 : decode (mC mX11_canFree) 104 = .ok (.if_icmp .ne 7, 3) := by decide +kernel
theorem dX11_canFree_107 : decode (mC mX11_canFree) 107 = .ok (.iconst 1, 1) := by decide +kernel
theorem dX11_canFree_108 : decode (mC mX11_canFree) 108 = .ok (.goto 4, 3) := by decide +kernel
theorem dX11_canFree_111 : decode (mC mX11_canFree) 111 = .ok (.iconst 0, 1) := by decide +kernel
theorem dX11_canFree_112 : decode (mC mX11_canFree) 112 = .ok (.istore 4, 2) := by decide +kernel
theorem dX11_canFree_114 : decode (mC mX11_canFree) 114 = .ok (.iinc 5 1, 3) := by decide +kernel
theorem dX11_canFree_117 : decode (mC mX11_canFree) 117 = .ok (.goto (-66), 3) := by decide +kernel
theorem dX11_canFree_120 : decode (mC mX11_canFree) 120 = .ok (.aload_n 0, 1) := by decide +kernel
theorem dX11_canFree_121 : decode (mC mX11_canFree) 121 = .ok (.getfield 47, 3) := by decide +kernel
theorem dX11_canFree_124 : decode (mC mX11_canFree) 124 = .ok (.iconst (-1), 1) := by decide +kernel
theorem dX11_canFree_125 : decode (mC mX11_canFree) 125 = .ok (.putfield 278, 3) := by decide +kernel
theorem dX11_canFree_128 : decode (mC mX11_canFree) 128 = .ok (.iload 4, 2) := by decide +kernel
theorem dX11_canFree_130 : decode (mC mX11_canFree) 130 = .ok (.ireturn, 1) := by decide +kernel
set_option maxRecDepth 100000 in
theorem bX11_canFree_0 {sc : Nat × (Nat → Int32)} {h : jH} {Q : jQ} {l1 l2 : Int32}
    (v1 : l2 < 0 → WP mX11_canFree Q 34 [some (.ref 0), some (.int l1), some (.int l2), some (.ref 14), none, none] [] (jG0 sc) h (0, 0))
    (v2 : ¬ l2 < 0 → WP mX11_canFree Q 12 [some (.ref 0), some (.int l1), some (.int l2), some (.ref 14), none, none] [] (jG0 sc) h (0, 0)) :
    WP mX11_canFree Q 0 [some (.ref 0), some (.int l1), some (.int l2), none, none, none] [] (jG0 sc) h (0, 0) := by
  refine j_aload_n (i := 0) rfl dX11_canFree_0 ?_
  refine j_getR (idx := 37) (ci := 11) (k := 4) (nest := false) (show (11, 37, 11, 4, false) ∈ jFT by decide) rfl (Nat.le_of_ble_eq_true rfl) rfl (a := 9) rfl dX11_canFree_1 ?_
  refine j_getR (idx := 169) (ci := 6) (k := 2) (nest := true) (show (11, 169, 6, 2, true) ∈ jFT by decide) rfl (Nat.le_of_ble_eq_true rfl) rfl (a := 14) rfl dX11_canFree_4 ?_
  refine j_astore_n (i := 3) dX11_canFree_7 (Nat.le_of_ble_eq_true rfl) ?_
  refine j_iload_n (i := 2) rfl dX11_canFree_8 ?_
  refine j_if_lt (off := 25) 34 dX11_canFree_9 (by decide) (fun c1 => ?_) (fun c1 => ?_)
  · exact j_le [some (.ref 0), some (.int l1), some (.int l2), some (.ref 14), none, none] (And.intro rfl (And.intro rfl (And.intro rfl (And.intro rfl True.intro)))) (v1 c1)
  · exact j_le [some (.ref 0), some (.int l1), some (.int l2), some (.ref 14), none, none] (And.intro rfl (And.intro rfl (And.intro rfl (And.intro rfl True.intro)))) (v2 c1)
set_option maxRecDepth 100000 in
theorem bX11_canFree_12 {sc : Nat × (Nat → Int32)} {h : jH} {Q : jQ} {l1 l2 : Int32}
    (v1 : 12 ≤ l2 → WP mX11_canFree Q 34 [some (.ref 0), some (.int l1), some (.int l2), some (.ref 14), none, none] [] (jG0 sc) h (0, 0))
    (v2 : ¬ 12 ≤ l2 → WP mX11_canFree Q 18 [some (.ref 0), some (.int l1), some (.int l2), some (.ref 14), none, none] [] (jG0 sc) h (0, 0)) :
    WP mX11_canFree Q 12 [some (.ref 0), some (.int l1), some (.int l2), some (.ref 14), none, none] [] (jG0 sc) h (0, 0) := by
  refine j_iload_n (i := 2) rfl dX11_canFree_12 ?_
  refine j_bipush (n := 12) 12 (by decide) dX11_canFree_13 ?_
  refine j_icmp_ge (off := 19) 34 dX11_canFree_15 (by decide) (fun c1 => ?_) (fun c1 => ?_)
  · exact j_le [some (.ref 0), some (.int l1), some (.int l2), some (.ref 14), none, none] (And.intro rfl (And.intro rfl (And.intro rfl (And.intro rfl True.intro)))) (v1 c1)
  · exact j_le [some (.ref 0), some (.int l1), some (.int l2), some (.ref 14), none, none] (And.intro rfl (And.intro rfl (And.intro rfl (And.intro rfl True.intro)))) (v2 c1)
set_option maxRecDepth 100000 in
theorem bX11_canFree_18 {sc : Nat × (Nat → Int32)} {h : jH} {Q : jQ} {l1 l2 : Int32}
    (o1 : vp_in l2 12)
    (v1 : ¬ (((h 73 l2.toNatClampNeg) >>> (l1 &&& 31)) &&& 1) = 0 → WP mX11_canFree Q 36 [some (.ref 0), some (.int l1), some (.int l2), some (.ref 14), none, none] [] (jG0 sc) h (0, 0))
    (v2 : (((h 73 l2.toNatClampNeg) >>> (l1 &&& 31)) &&& 1) = 0 → WP mX11_canFree Q 34 [some (.ref 0), some (.int l1), some (.int l2), some (.ref 14), none, none] [] (jG0 sc) h (0, 0)) :
    WP mX11_canFree Q 18 [some (.ref 0), some (.int l1), some (.int l2), some (.ref 14), none, none] [] (jG0 sc) h (0, 0) := by
  refine j_aload_n (i := 0) rfl dX11_canFree_18 ?_
  refine j_getR (idx := 54) (ci := 11) (k := 8) (nest := false) (show (11, 54, 11, 8, false) ∈ jFT by decide) rfl (Nat.le_of_ble_eq_true rfl) rfl (a := 72) rfl dX11_canFree_19 ?_
  refine j_getR (idx := 275) (ci := 7) (k := 0) (nest := true) (show (11, 275, 7, 0, true) ∈ jFT by decide) rfl (Nat.le_of_ble_eq_true rfl) rfl (a := 73) rfl dX11_canFree_22 ?_
  refine j_iload_n (i := 2) rfl dX11_canFree_25 ?_
  refine j_iald (Nat.le_of_ble_eq_true rfl) rfl o1 dX11_canFree_26 ?_
  refine j_iload_n (i := 1) rfl dX11_canFree_27 ?_
  refine j_ishr dX11_canFree_28 ?_
  refine j_iconst (n := 1) 1 (by decide) dX11_canFree_29 ?_
  refine j_iand dX11_canFree_30 ?_
  refine j_if_ne (off := 5) 36 dX11_canFree_31 (by decide) (fun c1 => ?_) (fun c1 => ?_)
  · exact j_le [some (.ref 0), some (.int l1), some (.int l2), some (.ref 14), none, none] (And.intro rfl (And.intro rfl (And.intro rfl (And.intro rfl True.intro)))) (v1 c1)
  · exact j_le [some (.ref 0), some (.int l1), some (.int l2), some (.ref 14), none, none] (And.intro rfl (And.intro rfl (And.intro rfl (And.intro rfl True.intro)))) (v2 c1)
set_option maxRecDepth 100000 in
theorem bX11_canFree_34 {sc : Nat × (Nat → Int32)} {h : jH} {Q : jQ} {l1 l2 : Int32}
    (v1 : Q (.inl (some (.int 0))) (jG0 sc) h) :
    WP mX11_canFree Q 34 [some (.ref 0), some (.int l1), some (.int l2), some (.ref 14), none, none] [] (jG0 sc) h (0, 0) := by
  refine j_iconst (n := 0) 0 (by decide) dX11_canFree_34 ?_
  exact j_iret rfl rfl (Nat.zero_le _) (Nat.zero_le _) dX11_canFree_35 v1
set_option maxRecDepth 100000 in
theorem bX11_canFree_36 {sc : Nat × (Nat → Int32)} {h : jH} {Q : jQ} {l1 l2 : Int32}
    (v1 : WP mX11_canFree Q 51 [some (.ref 0), some (.int l1), some (.int l2), some (.ref 14), some (.int 0), some (.int (-20))] [] (jG0 sc) (jput h 69 5 l1) (0, 0)) :
    WP mX11_canFree Q 36 [some (.ref 0), some (.int l1), some (.int l2), some (.ref 14), none, none] [] (jG0 sc) h (0, 0) := by
  refine j_iconst (n := 0) 0 (by decide) dX11_canFree_36 ?_
  refine j_istore (i := 4) dX11_canFree_37 (Nat.le_of_ble_eq_true rfl) ?_
  refine j_aload_n (i := 0) rfl dX11_canFree_39 ?_
  refine j_getR (idx := 47) (ci := 11) (k := 7) (nest := false) (show (11, 47, 11, 7, false) ∈ jFT by decide) rfl (Nat.le_of_ble_eq_true rfl) rfl (a := 69) rfl dX11_canFree_40 ?_
  refine j_iload_n (i := 1) rfl dX11_canFree_43 ?_
  refine j_putI (idx := 278) (ci := 10) (k := 5) (nest := true) (show (11, 278, 10, 5, true) ∈ jFT by decide) rfl rfl rfl rfl (Nat.le_of_ble_eq_true rfl) rfl dX11_canFree_44 ?_
  refine j_bipush (n := (-20)) (-20) (by decide) dX11_canFree_47 ?_
  refine j_istore (i := 5) dX11_canFree_49 (Nat.le_of_ble_eq_true rfl) ?_
  exact j_le [some (.ref 0), some (.int l1), some (.int l2), some (.ref 14), some (.int 0), some (.int (-20))] (And.intro rfl (And.intro rfl (And.intro rfl (And.intro rfl (And.intro rfl (And.intro rfl True.intro)))))) v1
set_option maxRecDepth 100000 in
theorem bX11_canFree_51 {sc : Nat × (Nat → Int32)} {h : jH} {Q : jQ} {l1 l2 l4 l5 : Int32}
    (v1 : 20 < l5 → WP mX11_canFree Q 120 [some (.ref 0), some (.int l1), some (.int l2), some (.ref 14), some (.int l4), some (.int l5)] [] (jG0 sc) h (0, 0))
    (v2 : ¬ 20 < l5 → WP mX11_canFree Q 58 [some (.ref 0), some (.int l1), some (.int l2), some (.ref 14), some (.int l4), some (.int l5)] [] (jG0 sc) h (0, 0)) :
    WP mX11_canFree Q 51 [some (.ref 0), some (.int l1), some (.int l2), some (.ref 14), some (.int l4), some (.int l5)] [] (jG0 sc) h (0, 0) := by
  refine j_iload (i := 5) rfl dX11_canFree_51 ?_
  refine j_bipush (n := 20) 20 (by decide) dX11_canFree_53 ?_
  refine j_icmp_gt (off := 65) 120 dX11_canFree_55 (by decide) (fun c1 => ?_) (fun c1 => ?_)
  · exact j_le [some (.ref 0), some (.int l1), some (.int l2), some (.ref 14), some (.int l4), some (.int l5)] (And.intro rfl (And.intro rfl (And.intro rfl (And.intro rfl (And.intro rfl (And.intro rfl True.intro)))))) (v1 c1)
  · exact j_le [some (.ref 0), some (.int l1), some (.int l2), some (.ref 14), some (.int l4), some (.int l5)] (And.intro rfl (And.intro rfl (And.intro rfl (And.intro rfl (And.intro rfl (And.intro rfl True.intro)))))) (v2 c1)
set_option maxRecDepth 100000 in
theorem bX11_canFree_58 {sc : Nat × (Nat → Int32)} {h : jH} {Q : jQ} {l1 l2 l4 l5 : Int32}
    (v1 : ¬ l4 = 0 → WP mX11_canFree Q 120 [some (.ref 0), some (.int l1), some (.int l2), some (.ref 14), some (.int l4), some (.int l5)] [] (jG0 sc) h (0, 0))
    (v2 : l4 = 0 → WP mX11_canFree Q 63 [some (.ref 0), some (.int l1), some (.int l2), some (.ref 14), some (.int l4), some (.int l5)] [] (jG0 sc) h (0, 0)) :
    WP mX11_canFree Q 58 [some (.ref 0), some (.int l1), some (.int l2), some (.ref 14), some (.int l4), some (.int l5)] [] (jG0 sc) h (0, 0) := by
  refine j_iload (i := 4) rfl dX11_canFree_58 ?_
  refine j_if_ne (off := 60) 120 dX11_canFree_60 (by decide) (fun c1 => ?_) (fun c1 => ?_)
  · exact j_le [some (.ref 0), some (.int l1), some (.int l2), some (.ref 14), some (.int l4), some (.int l5)] (And.intro rfl (And.intro rfl (And.intro rfl (And.intro rfl (And.intro rfl (And.intro rfl True.intro)))))) (v1 c1)
  · exact j_le [some (.ref 0), some (.int l1), some (.int l2), some (.ref 14), some (.int l4), some (.int l5)] (And.intro rfl (And.intro rfl (And.intro rfl (And.intro rfl (And.intro rfl (And.intro rfl True.intro)))))) (v2 c1)
set_option maxRecDepth 100000 in
theorem bX11_canFree_63 {sc : Nat × (Nat → Int32)} {h : jH} {Q : jQ} {l1 l2 l4 l5 : Int32} {P1 : Int32 → jH → Prop}
    (o1 : vp_in l2 12)
    (o2 : vp_in l2 12)
    (k1 : JM mX10_through [.ref 69, .ref 10, .int ((jput h 69 6 l5) 15 l2.toNatClampNeg), .int ((jput h 69 6 l5) 16 l2.toNatClampNeg)] (jG0 sc) (jput h 69 6 l5) (jint sc P1))
    (v1 : ∀ (x1 : Int32) (h1 : jH), P1 x1 h1 → WP mX11_canFree Q 102 [some (.ref 0), some (.int l1), some (.int l2), some (.ref 14), some (.int l4), some (.int l5)] [.ref 17, .int x1] (jG0 sc) h1 (0, 0)) :
    WP mX11_canFree Q 63 [some (.ref 0), some (.int l1), some (.int l2), some (.ref 14), some (.int l4), some (.int l5)] [] (jG0 sc) h (0, 0) := by
  refine j_aload_n (i := 0) rfl dX11_canFree_63 ?_
  refine j_getR (idx := 47) (ci := 11) (k := 7) (nest := false) (show (11, 47, 11, 7, false) ∈ jFT by decide) rfl (Nat.le_of_ble_eq_true rfl) rfl (a := 69) rfl dX11_canFree_64 ?_
  refine j_iload (i := 5) rfl dX11_canFree_67 ?_
  refine j_putI (idx := 281) (ci := 10) (k := 6) (nest := true) (show (11, 281, 10, 6, true) ∈ jFT by decide) rfl rfl rfl rfl (Nat.le_of_ble_eq_true rfl) rfl dX11_canFree_69 ?_
  refine j_aload_n (i := 0) rfl dX11_canFree_72 ?_
  refine j_getR (idx := 47) (ci := 11) (k := 7) (nest := false) (show (11, 47, 11, 7, false) ∈ jFT by decide) rfl (Nat.le_of_ble_eq_true rfl) rfl (a := 69) rfl dX11_canFree_73 ?_
  refine j_aload_n (i := 0) rfl dX11_canFree_76 ?_
  refine j_getR (idx := 37) (ci := 11) (k := 4) (nest := false) (show (11, 37, 11, 4, false) ∈ jFT by decide) rfl (Nat.le_of_ble_eq_true rfl) rfl (a := 9) rfl dX11_canFree_77 ?_
  refine j_getR (idx := 127) (ci := 6) (k := 0) (nest := true) (show (11, 127, 6, 0, true) ∈ jFT by decide) rfl (Nat.le_of_ble_eq_true rfl) rfl (a := 10) rfl dX11_canFree_80 ?_
  refine j_aload_n (i := 3) rfl dX11_canFree_83 ?_
  refine j_getR (idx := 219) (ci := 5) (k := 0) (nest := true) (show (11, 219, 5, 0, true) ∈ jFT by decide) rfl (Nat.le_of_ble_eq_true rfl) rfl (a := 15) rfl dX11_canFree_84 ?_
  refine j_iload_n (i := 2) rfl dX11_canFree_87 ?_
  refine j_iald (Nat.le_of_ble_eq_true rfl) rfl o1 dX11_canFree_88 ?_
  refine j_aload_n (i := 3) rfl dX11_canFree_89 ?_
  refine j_getR (idx := 222) (ci := 5) (k := 1) (nest := true) (show (11, 222, 5, 1, true) ∈ jFT by decide) rfl (Nat.le_of_ble_eq_true rfl) rfl (a := 16) rfl dX11_canFree_90 ?_
  refine j_iload_n (i := 2) rfl dX11_canFree_93 ?_
  refine j_iald (Nat.le_of_ble_eq_true rfl) rfl o2 dX11_canFree_94 ?_
  refine j_callVN (idx := 196) (As := [.ref 10, .int ((jput h 69 6 l5) 15 l2.toNatClampNeg), .int ((jput h 69 6 l5) 16 l2.toNatClampNeg)]) (ci := 10) (n := 3) k1 jint_nt (jTbl (jtb3 9 rfl)) sX10_through kX10_through rfl ⟨rfl, by decide +kernel, by decide +kernel, by decide +kernel⟩ rfl ⟨by decide, by decide⟩ (Nat.le_of_ble_eq_true rfl) rfl (Nat.le_of_ble_eq_true rfl) (Nat.le_of_ble_eq_true rfl) ⟨Nat.zero_le _, Nat.zero_le _⟩ dX11_canFree_95 (fun r Γ' h1 q => ?_)
  obtain ⟨x1, q0, rfl, p1⟩ := q; cases q0
  refine j_eqst [.int x1] (by rfl) ?_
  refine j_aload_n (i := 3) rfl dX11_canFree_98 ?_
  refine j_getR (idx := 225) (ci := 5) (k := 2) (nest := true) (show (11, 225, 5, 2, true) ∈ jFT by decide) rfl (Nat.le_of_ble_eq_true rfl) rfl (a := 17) rfl dX11_canFree_99 ?_
  exact j_le [some (.ref 0), some (.int l1), some (.int l2), some (.ref 14), some (.int l4), some (.int l5)] (And.intro rfl (And.intro rfl (And.intro rfl (And.intro rfl (And.intro rfl (And.intro rfl True.intro)))))) (v1 x1 h1 p1)
set_option maxRecDepth 100000 in
theorem bX11_canFree_102 {sc : Nat × (Nat → Int32)} {h : jH} {Q : jQ} {l1 l2 l4 l5 s1 : Int32}
    (o1 : vp_in l2 12)
    (v1 : ¬ s1 = (h 17 l2.toNatClampNeg) → WP mX11_canFree Q 111 [some (.ref 0), some (.int l1), some (.int l2), some (.ref 14), some (.int l4), some (.int l5)] [] (jG0 sc) h (0, 0))
    (v2 : s1 = (h 17 l2.toNatClampNeg) → WP mX11_canFree Q 107 [some (.ref 0), some (.int l1), some (.int l2), some (.ref 14), some (.int l4), some (.int l5)] [] (jG0 sc) h (0, 0)) :
    WP mX11_canFree Q 102 [some (.ref 0), some (.int l1), some (.int l2), some (.ref 14), some (.int l4), some (.int l5)] [.ref 17, .int s1] (jG0 sc) h (0, 0) := by
  refine j_iload_n (i := 2) rfl dX11_canFree_102 ?_
  refine j_iald (Nat.le_of_ble_eq_true rfl) rfl o1 dX11_canFree_103 ?_
  refine j_icmp_ne (off := 7) 111 dX11_canFree_104 (by decide) (fun c1 => ?_) (fun c1 => ?_)
  · exact j_le [some (.ref 0), some (.int l1), some (.int l2), some (.ref 14), some (.int l4), some (.int l5)] (And.intro rfl (And.intro rfl (And.intro rfl (And.intro rfl (And.intro rfl (And.intro rfl True.intro)))))) (v1 c1)
  · exact j_le [some (.ref 0), some (.int l1), some (.int l2), some (.ref 14), some (.int l4), some (.int l5)] (And.intro rfl (And.intro rfl (And.intro rfl (And.intro rfl (And.intro rfl (And.intro rfl True.intro)))))) (v2 c1)
set_option maxRecDepth 100000 in
theorem bX11_canFree_107 {sc : Nat × (Nat → Int32)} {h : jH} {Q : jQ} {l1 l2 l4 l5 : Int32}
    (v1 : WP mX11_canFree Q 112 [some (.ref 0), some (.int l1), some (.int l2), some (.ref 14), some (.int l4), some (.int l5)] [.int 1] (jG0 sc) h (0, 0)) :
    WP mX11_canFree Q 107 [some (.ref 0), some (.int l1), some (.int l2), some (.ref 14), some (.int l4), some (.int l5)] [] (jG0 sc) h (0, 0) := by
  refine j_iconst (n := 1) 1 (by decide) dX11_canFree_107 ?_
  refine j_goto (off := 4) 112 dX11_canFree_108 (by decide) ?_
  exact j_le [some (.ref 0), some (.int l1), some (.int l2), some (.ref 14), some (.int l4), some (.int l5)] (And.intro rfl (And.intro rfl (And.intro rfl (And.intro rfl (And.intro rfl (And.intro rfl True.intro)))))) v1
set_option maxRecDepth 100000 in
theorem bX11_canFree_111 {sc : Nat × (Nat → Int32)} {h : jH} {Q : jQ} {l1 l2 l4 l5 : Int32}
    (v1 : WP mX11_canFree Q 112 [some (.ref 0), some (.int l1), some (.int l2), some (.ref 14), some (.int l4), some (.int l5)] [.int 0] (jG0 sc) h (0, 0)) :
    WP mX11_canFree Q 111 [some (.ref 0), some (.int l1), some (.int l2), some (.ref 14), some (.int l4), some (.int l5)] [] (jG0 sc) h (0, 0) := by
  refine j_iconst (n := 0) 0 (by decide) dX11_canFree_111 ?_
  exact j_le [some (.ref 0), some (.int l1), some (.int l2), some (.ref 14), some (.int l4), some (.int l5)] (And.intro rfl (And.intro rfl (And.intro rfl (And.intro rfl (And.intro rfl (And.intro rfl True.intro)))))) v1
set_option maxRecDepth 100000 in
theorem bX11_canFree_112 {sc : Nat × (Nat → Int32)} {h : jH} {Q : jQ} {l1 l2 l4 l5 s0 : Int32}
    (v1 : WP mX11_canFree Q 51 [some (.ref 0), some (.int l1), some (.int l2), some (.ref 14), some (.int s0), some (.int (l5 + 1))] [] (jG0 sc) h (0, 0)) :
    WP mX11_canFree Q 112 [some (.ref 0), some (.int l1), some (.int l2), some (.ref 14), some (.int l4), some (.int l5)] [.int s0] (jG0 sc) h (0, 0) := by
  refine j_istore (i := 4) dX11_canFree_112 (Nat.le_of_ble_eq_true rfl) ?_
  refine j_iinc (i := 5) (n := 1) rfl dX11_canFree_114 (Nat.le_of_ble_eq_true rfl) ?_
  refine j_eqlv [some (.ref 0), some (.int l1), some (.int l2), some (.ref 14), some (.int s0), some (.int (l5 + 1))] rfl ?_
  refine j_goto (off := -66) 51 dX11_canFree_117 (by decide) ?_
  exact j_le [some (.ref 0), some (.int l1), some (.int l2), some (.ref 14), some (.int s0), some (.int (l5 + 1))] (And.intro rfl (And.intro rfl (And.intro rfl (And.intro rfl (And.intro rfl (And.intro rfl True.intro)))))) v1
set_option maxRecDepth 100000 in
theorem bX11_canFree_120 {sc : Nat × (Nat → Int32)} {h : jH} {Q : jQ} {l1 l2 l4 l5 : Int32}
    (o1 : l4 = 0 ∨ l4 = 1)
    (v1 : Q (.inl (some (.int l4))) (jG0 sc) (jput h 69 5 (-1))) :
    WP mX11_canFree Q 120 [some (.ref 0), some (.int l1), some (.int l2), some (.ref 14), some (.int l4), some (.int l5)] [] (jG0 sc) h (0, 0) := by
  refine j_aload_n (i := 0) rfl dX11_canFree_120 ?_
  refine j_getR (idx := 47) (ci := 11) (k := 7) (nest := false) (show (11, 47, 11, 7, false) ∈ jFT by decide) rfl (Nat.le_of_ble_eq_true rfl) rfl (a := 69) rfl dX11_canFree_121 ?_
  refine j_iconst (n := (-1)) (-1) (by decide) dX11_canFree_124 ?_
  refine j_putI (idx := 278) (ci := 10) (k := 5) (nest := true) (show (11, 278, 10, 5, true) ∈ jFT by decide) rfl rfl rfl rfl (Nat.le_of_ble_eq_true rfl) rfl dX11_canFree_125 ?_
  refine j_iload (i := 4) rfl dX11_canFree_128 ?_
  exact j_iret rfl (jbn o1) (Nat.zero_le _) (Nat.zero_le _) dX11_canFree_130 v1
set_option maxRecDepth 100000 in
theorem rX11_canFree_0 {sc : Nat × (Nat → Int32)} {h : jH} {Q : jQ} {l1 l2 : Int32}
    (v1 : l2 < 0 → Q (.inl (some (.int 0))) (jG0 sc) h)
    (v2 : ¬ l2 < 0 → 12 ≤ l2 → Q (.inl (some (.int 0))) (jG0 sc) h)
    (o1 : ¬ l2 < 0 → ¬ 12 ≤ l2 → vp_in l2 12)
    (v3 : ¬ l2 < 0 → ¬ 12 ≤ l2 → ¬ (((h 73 l2.toNatClampNeg) >>> (l1 &&& 31)) &&& 1) = 0 → WP mX11_canFree Q 51 [some (.ref 0), some (.int l1), some (.int l2), some (.ref 14), some (.int 0), some (.int (-20))] [] (jG0 sc) (jput h 69 5 l1) (0, 0))
    (v4 : ¬ l2 < 0 → ¬ 12 ≤ l2 → (((h 73 l2.toNatClampNeg) >>> (l1 &&& 31)) &&& 1) = 0 → Q (.inl (some (.int 0))) (jG0 sc) h) :
    WP mX11_canFree Q 0 [some (.ref 0), some (.int l1), some (.int l2), none, none, none] [] (jG0 sc) h (0, 0) := by
  exact (bX11_canFree_0 (fun c1 => (bX11_canFree_34 (v1 c1))) (fun c1 => (bX11_canFree_12 (fun c2 => (bX11_canFree_34 (v2 c1 c2))) (fun c2 => (bX11_canFree_18 (o1 c1 c2) (fun c3 => (bX11_canFree_36 (v3 c1 c2 c3))) (fun c3 => (bX11_canFree_34 (v4 c1 c2 c3))))))))
set_option maxRecDepth 100000 in
theorem rX11_canFree_51 {sc : Nat × (Nat → Int32)} {h : jH} {Q : jQ} {l1 l2 l4 l5 : Int32} {P1 : Int32 → jH → Prop}
    (o1 : 20 < l5 → l4 = 0 ∨ l4 = 1)
    (v1 : 20 < l5 → Q (.inl (some (.int l4))) (jG0 sc) (jput h 69 5 (-1)))
    (o2 : ¬ 20 < l5 → ¬ l4 = 0 → l4 = 0 ∨ l4 = 1)
    (v2 : ¬ 20 < l5 → ¬ l4 = 0 → Q (.inl (some (.int l4))) (jG0 sc) (jput h 69 5 (-1)))
    (o3 : ¬ 20 < l5 → l4 = 0 → vp_in l2 12)
    (k1 : ¬ 20 < l5 → l4 = 0 → JM mX10_through [.ref 69, .ref 10, .int ((jput h 69 6 l5) 15 l2.toNatClampNeg), .int ((jput h 69 6 l5) 16 l2.toNatClampNeg)] (jG0 sc) (jput h 69 6 l5) (jint sc P1))
    (o4 : ¬ 20 < l5 → l4 = 0 → ∀ (x1 : Int32) (h1 : jH), P1 x1 h1 → vp_in l2 12)
    (v3 : ¬ 20 < l5 → l4 = 0 → ∀ (x1 : Int32) (h1 : jH), P1 x1 h1 → ¬ x1 = (h1 17 l2.toNatClampNeg) → WP mX11_canFree Q 51 [some (.ref 0), some (.int l1), some (.int l2), some (.ref 14), some (.int 0), some (.int (l5 + 1))] [] (jG0 sc) h1 (0, 0))
    (v4 : ¬ 20 < l5 → l4 = 0 → ∀ (x1 : Int32) (h1 : jH), P1 x1 h1 → x1 = (h1 17 l2.toNatClampNeg) → WP mX11_canFree Q 51 [some (.ref 0), some (.int l1), some (.int l2), some (.ref 14), some (.int 1), some (.int (l5 + 1))] [] (jG0 sc) h1 (0, 0)) :
    WP mX11_canFree Q 51 [some (.ref 0), some (.int l1), some (.int l2), some (.ref 14), some (.int l4), some (.int l5)] [] (jG0 sc) h (0, 0) := by
  exact (bX11_canFree_51 (fun c1 => (bX11_canFree_120 (o1 c1) (v1 c1))) (fun c1 => (bX11_canFree_58 (fun c2 => (bX11_canFree_120 (o2 c1 c2) (v2 c1 c2))) (fun c2 => (bX11_canFree_63 (o3 c1 c2) (o3 c1 c2) (k1 c1 c2) (fun x1 h1 p1 => (bX11_canFree_102 (o4 c1 c2 x1 h1 p1) (fun c3 => (bX11_canFree_111 (bX11_canFree_112 (v3 c1 c2 x1 h1 p1 c3)))) (fun c3 => (bX11_canFree_107 (bX11_canFree_112 (v4 c1 c2 x1 h1 p1 c3)))))))))))
theorem dX11_mend_0 : decode (mC mX11_mend) 0 = .ok (.iload_n 1, 1) := by decide +kernel
theorem dX11_mend_1 : decode (mC mX11_mend) 1 = .ok (.ifCond .lt 21, 3) := by decide +kernel
theorem dX11_mend_4 : decode (mC mX11_mend) 4 = .ok (.iload_n 1, 1) := by decide +kernel
theorem dX11_mend_5 : decode (mC mX11_mend) 5 = .ok (.aload_n 0, 1) := by decide +kernel
theorem dX11_mend_6 : decode (mC mX11_mend) 6 = .ok (.getfield 61, 3) := by decide +kernel
theorem dX11_mend_9 : decode (mC mX11_mend) 9 = .ok (.getfield 284, 3) := by decide +kernel
theorem dX11_mend_12 : decode (mC mX11_mend) 12 = .ok (.if_icmp .ge 10, 3) := by decide +kernel
theorem dX11_mend_15 : decode (mC mX11_mend) 15 = .ok (.iload_n 1, 1) := by decide +kernel
theorem dX11_mend_16 : decode (mC mX11_mend) 16 = .ok (.sipush 300, 3) := by decide +kernel
theorem dX11_mend_19 : decode (mC mX11_mend) 19 = .ok (.if_icmp .lt 14, 3) := by decide +kernel
theorem dX11_mend_22 : decode (mC mX11_mend) 22 = .ok (.new 208, 3) := by decide +kernel
theorem dX11_mend_25 : decode (mC mX11_mend) 25 = .ok (.dup, 1) := by decide +kernel
theorem dX11_mend_26 : decode (mC mX11_mend) 26 = .ok (.ldc_w 285, 3) := by decide +kernel
theorem dX11_mend_29 : decode (mC mX11_mend) 29 = .ok (.invokespecial 212, 3) := by decide +kernel
theorem dX11_mend_32 : decode (mC mX11_mend) 32 = .ok (.athrow, 1) := by decide +kernel
theorem dX11_mend_33 : decode (mC mX11_mend) 33 = .ok (.iload_n 2, 1) := by decide +kernel
theorem dX11_mend_34 : decode (mC mX11_mend) 34 = .ok (.ifCond .lt 8, 3) := by decide +kernel
theorem dX11_mend_37 : decode (mC mX11_mend) 37 = .ok (.iload_n 2, 1) := by decide +kernel
theorem dX11_mend_38 : decode (mC mX11_mend) 38 = .ok (.iconst 3, 1) := by decide +kernel
theorem dX11_mend_39 : decode (mC mX11_mend) 39 = .ok (.if_icmp .le 13, 3) := by decide +kernel
theorem dX11_mend_42 : decode (mC mX11_mend) 42 = .ok (.new 234, 3) := by decide +kernel
theorem dX11_mend_45 : decode (mC mX11_mend) 45 = .ok (.dup, 1) := by decide +kernel
theorem dX11_mend_46 : decode (mC mX11_mend) 46 = .ok (.ldc 236, 2) := by decide +kernel
theorem dX11_mend_48 : decode (mC mX11_mend) 48 = .ok (.invokespecial 238, 3) := by decide +kernel
theorem dX11_mend_51 : decode (mC mX11_mend) 51 = .ok (.athrow, 1) := by decide +kernel
theorem dX11_mend_52 : decode (mC mX11_mend) 52 = .ok (.iload_n 2, 1) := by decide +kernel
theorem dX11_mend_53 : decode (mC mX11_mend) 53 = .ok (.ifCond .ne 13, 3) := by decide +kernel
theorem dX11_mend_56 : decode (mC mX11_mend) 56 = .ok (.aload_n 0, 1) := by decide +kernel
theorem dX11_mend_57 : decode (mC mX11_mend) 57 = .ok (.getfield 61, 3) := by decide +kernel
theorem dX11_mend_60 : decode (mC mX11_mend) 60 = .ok (.getfield 287, 3) := by decide +kernel
theorem dX11_mend_63 : decode (mC mX11_mend) 63 = .ok (.iload_n 1, 1) := by decide +kernel
theorem dX11_mend_64 : decode (mC mX11_mend) 64 = .ok (.iaload, 1) := by decide +kernel
theorem dX11_mend_65 : decode (mC mX11_mend) 65 = .ok (.ireturn, 1) := by decide +kernel
theorem dX11_mend_66 : decode (mC mX11_mend) 66 = .ok (.iload_n 2, 1) := by decide +kernel
theorem dX11_mend_67 : decode (mC mX11_mend) 67 = .ok (.iconst 1, 1) := by decide +kernel
theorem dX11_mend_68 : decode (mC mX11_mend) 68 = .ok (.if_icmp .ne 13, 3) := by decide +kernel
theorem dX11_mend_71 : decode (mC mX11_mend) 71 = .ok (.aload_n 0, 1) := by decide +kernel
theorem dX11_mend_72 : decode (mC mX11_mend) 72 = .ok (.getfield 61, 3) := by decide +kernel
theorem dX11_mend_75 : decode (mC mX11_mend) 75 = .ok (.getfield 290, 3) := by decide +kernel
theorem dX11_mend_78 : decode (mC mX11_mend) 78 = .ok (.iload_n 1, 1) := by decide +kernel
theorem dX11_mend_79 : decode (mC mX11_mend) 79 = .ok (.iaload, 1) := by decide +kernel
theorem dX11_mend_80 : decode (mC mX11_mend) 80 = .ok (.ireturn, 1) := by decide +kernel
theorem dX11_mend_81 : decode (mC mX11_mend) 81 = .ok (.aload_n 0, 1) := by decide +kernel
theorem dX11_mend_82 : decode (mC mX11_mend) 82 = .ok (.aload_n 0, 1) := by decide +kernel
theorem dX11_mend_83 : decode (mC mX11_mend) 83 = .ok (.getfield 37, 3) := by decide +kernel
theorem dX11_mend_86 : decode (mC mX11_mend) 86 = .ok (.getfield 127, 3) := by decide +kernel
theorem dX11_mend_89 : decode (mC mX11_mend) 89 = .ok (.invokevirtual 293, 3) := by decide +kernel
theorem dX11_mend_92 : decode (mC mX11_mend) 92 = .ok (.istore_n 3, 1) := by decide +kernel
theorem dX11_mend_93 : decode (mC mX11_mend) 93 = .ok (.aload_n 0, 1) := by decide +kernel
theorem dX11_mend_94 : decode (mC mX11_mend) 94 = .ok (.getfield 61, 3) := by decide +kernel
theorem dX11_mend_97 : decode (mC mX11_mend) 97 = .ok (.aload_n 0, 1) := by decide +kernel
theorem dX11_mend_98 : decode (mC mX11_mend) 98 = .ok (.getfield 37, 3) := by decide +kernel
theorem dX11_mend_101 : decode (mC mX11_mend) 101 = .ok (.getfield 127, 3) := by decide +kernel
theorem dX11_mend_104 : decode (mC mX11_mend) 104 = .ok (.iload_n 1, 1) := by decide +kernel
theorem dX11_mend_105 : decode (mC mX11_mend) 105 = .ok (.aload_n 0, 1) := by decide +kernel
theorem dX11_mend_106 : decode (mC mX11_mend) 106 = .ok (.getfield 71, 3) := by decide +kernel
theorem dX11_mend_109 : decode (mC mX11_mend) 109 = .ok (.invokevirtual 192, 3) := by decide +kernel
theorem dX11_mend_112 : decode (mC mX11_mend) 112 = .ok (.pop, 1) := by decide +kernel
theorem dX11_mend_113 : decode (mC mX11_mend) 113 = .ok (.aload_n 0, 1) := by decide +kernel
theorem dX11_mend_114 : decode (mC mX11_mend) 114 = .ok (.aload_n 0, 1) := by decide +kernel
theorem dX11_mend_115 : decode (mC mX11_mend) 115 = .ok (.getfield 71, 3) := by decide +kernel
theorem dX11_mend_118 : decode (mC mX11_mend) 118 = .ok (.invokevirtual 293, 3) := by decide +kernel
theorem dX11_mend_121 : decode (mC mX11_mend) 121 = .ok (.istore 4, 2) := by decide +kernel
theorem dX11_mend_123 : decode (mC mX11_mend) 123 = .ok (.iload_n 2, 1) := by decide +kernel
theorem dX11_mend_124 : decode (mC mX11_mend) 124 = .ok (.iconst 2, 1) := by decide +kernel
theorem dX11_mend_125 : decode (mC mX11_mend) 125 = .ok (.if_icmp .ne 12, 3) := by decide +kernel
theorem dX11_mend_128 : decode (mC mX11_mend) 128 = .ok (.iload 4, 2) := by decide +kernel
theorem dX11_mend_130 : decode (mC mX11_mend) 130 = .ok (.iload_n 3, 1) := by decide +kernel
theorem dX11_mend_131 : decode (mC mX11_mend) 131 = .ok (.iconst (-1), 1) := by decide +kernel
theorem dX11_mend_132 : decode (mC mX11_mend) 132 = .ok (.ixor, 1) := by decide +kernel
theorem dX11_mend_133 : decode (mC mX11_mend) 133 = .ok (.iand, 1) := by decide +kernel
theorem dX11_mend_134 : decode (mC mX11_mend) 134 = .ok (.goto 9, 3) := by decide +kernel
theorem dX11_mend_137 : decode (mC mX11_mend) 137 = .ok (.iload_n 3, 1) := by decide +kernel
theorem dX11_mend_138 : decode (mC mX11_mend) 138 = .ok (.iload 4, 2) := by decide +kernel
theorem dX11_mend_140 : decode (mC mX11_mend) 140 = .ok (.iconst (-1), 1) := by decide +kernel
theorem dX11_mend_141 : decode (mC mX11_mend) 141 = .ok (.ixor, 1) := by decide +kernel
theorem dX11_mend_142 : decode (mC mX11_mend) 142 = .ok (.iand, 1) := by decide +kernel
theorem dX11_mend_143 : decode (mC mX11_mend) 143 = .ok (.invokestatic 297, 3) := by decide +kernel
theorem dX11_mend_146 : decode (mC mX11_mend) 146 = .ok (.ireturn, 1) := by decide +kernel
set_option maxRecDepth 100000 in
theorem bX11_mend_0 {sc : Nat × (Nat → Int32)} {h : jH} {Q : jQ} {l1 l2 : Int32}
    (v1 : l1 < 0 → WP mX11_mend Q 22 [some (.ref 0), some (.int l1), some (.int l2), none, none] [] (jG0 sc) h (0, 0))
    (v2 : ¬ l1 < 0 → WP mX11_mend Q 4 [some (.ref 0), some (.int l1), some (.int l2), none, none] [] (jG0 sc) h (0, 0)) :
    WP mX11_mend Q 0 [some (.ref 0), some (.int l1), some (.int l2), none, none] [] (jG0 sc) h (0, 0) := by
  refine j_iload_n (i := 1) rfl dX11_mend_0 ?_
  refine j_if_lt (off := 21) 22 dX11_mend_1 (by decide) (fun c1 => ?_) (fun c1 => ?_)
  · exact j_le [some (.ref 0), some (.int l1), some (.int l2), none, none] (And.intro rfl (And.intro rfl (And.intro rfl True.intro))) (v1 c1)
  · exact j_le [some (.ref 0), some (.int l1), some (.int l2), none, none] (And.intro rfl (And.intro rfl (And.intro rfl True.intro))) (v2 c1)
set_option maxRecDepth 100000 in
theorem bX11_mend_4 {sc : Nat × (Nat → Int32)} {h : jH} {Q : jQ} {l1 l2 : Int32}
    (v1 : (h 75 6) ≤ l1 → WP mX11_mend Q 22 [some (.ref 0), some (.int l1), some (.int l2), none, none] [] (jG0 sc) h (0, 0))
    (v2 : ¬ (h 75 6) ≤ l1 → WP mX11_mend Q 15 [some (.ref 0), some (.int l1), some (.int l2), none, none] [] (jG0 sc) h (0, 0)) :
    WP mX11_mend Q 4 [some (.ref 0), some (.int l1), some (.int l2), none, none] [] (jG0 sc) h (0, 0) := by
  refine j_iload_n (i := 1) rfl dX11_mend_4 ?_
  refine j_aload_n (i := 0) rfl dX11_mend_5 ?_
  refine j_getR (idx := 61) (ci := 11) (k := 9) (nest := false) (show (11, 61, 11, 9, false) ∈ jFT by decide) rfl (Nat.le_of_ble_eq_true rfl) rfl (a := 75) rfl dX11_mend_6 ?_
  refine j_getI (idx := 284) (ci := 3) (k := 6) (nest := true) (show (11, 284, 3, 6, true) ∈ jFT by decide) rfl (Nat.le_of_ble_eq_true rfl) rfl dX11_mend_9 ?_
  refine j_icmp_ge (off := 10) 22 dX11_mend_12 (by decide) (fun c1 => ?_) (fun c1 => ?_)
  · exact j_le [some (.ref 0), some (.int l1), some (.int l2), none, none] (And.intro rfl (And.intro rfl (And.intro rfl True.intro))) (v1 c1)
  · exact j_le [some (.ref 0), some (.int l1), some (.int l2), none, none] (And.intro rfl (And.intro rfl (And.intro rfl True.intro))) (v2 c1)
set_option maxRecDepth 100000 in
theorem bX11_mend_15 {sc : Nat × (Nat → Int32)} {h : jH} {Q : jQ} {l1 l2 : Int32}
    (v1 : l1 < 300 → WP mX11_mend Q 33 [some (.ref 0), some (.int l1), some (.int l2), none, none] [] (jG0 sc) h (0, 0))
    (v2 : ¬ l1 < 300 → WP mX11_mend Q 22 [some (.ref 0), some (.int l1), some (.int l2), none, none] [] (jG0 sc) h (0, 0)) :
    WP mX11_mend Q 15 [some (.ref 0), some (.int l1), some (.int l2), none, none] [] (jG0 sc) h (0, 0) := by
  refine j_iload_n (i := 1) rfl dX11_mend_15 ?_
  refine j_sipush (n := 300) 300 (by decide) dX11_mend_16 ?_
  refine j_icmp_lt (off := 14) 33 dX11_mend_19 (by decide) (fun c1 => ?_) (fun c1 => ?_)
  · exact j_le [some (.ref 0), some (.int l1), some (.int l2), none, none] (And.intro rfl (And.intro rfl (And.intro rfl True.intro))) (v1 c1)
  · exact j_le [some (.ref 0), some (.int l1), some (.int l2), none, none] (And.intro rfl (And.intro rfl (And.intro rfl True.intro))) (v2 c1)
set_option maxRecDepth 100000 in
theorem bX11_mend_22 {sc : Nat × (Nat → Int32)} {h : jH} {Q : jQ} {l1 l2 : Int32}
    (v1 : Q (.inr "java/lang/IndexOutOfBoundsException") (jG0 sc) h) :
    WP mX11_mend Q 22 [some (.ref 0), some (.int l1), some (.int l2), none, none] [] (jG0 sc) h (0, 0) := by
  exact j_thrW_IOB (is := 285) "no such MEND" 33 (by decide +kernel) rfl rfl (by decide) (by decide) (Nat.le_of_ble_eq_true rfl) dX11_mend_22 dX11_mend_25 dX11_mend_26 dX11_mend_29 dX11_mend_32 v1
set_option maxRecDepth 100000 in
theorem bX11_mend_33 {sc : Nat × (Nat → Int32)} {h : jH} {Q : jQ} {l1 l2 : Int32}
    (v1 : l2 < 0 → WP mX11_mend Q 42 [some (.ref 0), some (.int l1), some (.int l2), none, none] [] (jG0 sc) h (0, 0))
    (v2 : ¬ l2 < 0 → WP mX11_mend Q 37 [some (.ref 0), some (.int l1), some (.int l2), none, none] [] (jG0 sc) h (0, 0)) :
    WP mX11_mend Q 33 [some (.ref 0), some (.int l1), some (.int l2), none, none] [] (jG0 sc) h (0, 0) := by
  refine j_iload_n (i := 2) rfl dX11_mend_33 ?_
  refine j_if_lt (off := 8) 42 dX11_mend_34 (by decide) (fun c1 => ?_) (fun c1 => ?_)
  · exact j_le [some (.ref 0), some (.int l1), some (.int l2), none, none] (And.intro rfl (And.intro rfl (And.intro rfl True.intro))) (v1 c1)
  · exact j_le [some (.ref 0), some (.int l1), some (.int l2), none, none] (And.intro rfl (And.intro rfl (And.intro rfl True.intro))) (v2 c1)
set_option maxRecDepth 100000 in
theorem bX11_mend_37 {sc : Nat × (Nat → Int32)} {h : jH} {Q : jQ} {l1 l2 : Int32}
    (v1 : l2 ≤ 3 → WP mX11_mend Q 52 [some (.ref 0), some (.int l1), some (.int l2), none, none] [] (jG0 sc) h (0, 0))
    (v2 : ¬ l2 ≤ 3 → WP mX11_mend Q 42 [some (.ref 0), some (.int l1), some (.int l2), none, none] [] (jG0 sc) h (0, 0)) :
    WP mX11_mend Q 37 [some (.ref 0), some (.int l1), some (.int l2), none, none] [] (jG0 sc) h (0, 0) := by
  refine j_iload_n (i := 2) rfl dX11_mend_37 ?_
  refine j_iconst (n := 3) 3 (by decide) dX11_mend_38 ?_
  refine j_icmp_le (off := 13) 52 dX11_mend_39 (by decide) (fun c1 => ?_) (fun c1 => ?_)
  · exact j_le [some (.ref 0), some (.int l1), some (.int l2), none, none] (And.intro rfl (And.intro rfl (And.intro rfl True.intro))) (v1 c1)
  · exact j_le [some (.ref 0), some (.int l1), some (.int l2), none, none] (And.intro rfl (And.intro rfl (And.intro rfl True.intro))) (v2 c1)
set_option maxRecDepth 100000 in
theorem bX11_mend_42 {sc : Nat × (Nat → Int32)} {h : jH} {Q : jQ} {l1 l2 : Int32}
    (v1 : Q (.inr "java/util/NoSuchElementException") (jG0 sc) h) :
    WP mX11_mend Q 42 [some (.ref 0), some (.int l1), some (.int l2), none, none] [] (jG0 sc) h (0, 0) := by
  exact j_thr_NSE (is := 236) "no such what" 31 (by decide +kernel) rfl rfl (by decide) (by decide) (Nat.le_of_ble_eq_true rfl) dX11_mend_42 dX11_mend_45 dX11_mend_46 dX11_mend_48 dX11_mend_51 v1
set_option maxRecDepth 100000 in
theorem bX11_mend_52 {sc : Nat × (Nat → Int32)} {h : jH} {Q : jQ} {l1 l2 : Int32}
    (v1 : ¬ l2 = 0 → WP mX11_mend Q 66 [some (.ref 0), some (.int l1), some (.int l2), none, none] [] (jG0 sc) h (0, 0))
    (v2 : l2 = 0 → WP mX11_mend Q 56 [some (.ref 0), some (.int l1), some (.int l2), none, none] [] (jG0 sc) h (0, 0)) :
    WP mX11_mend Q 52 [some (.ref 0), some (.int l1), some (.int l2), none, none] [] (jG0 sc) h (0, 0) := by
  refine j_iload_n (i := 2) rfl dX11_mend_52 ?_
  refine j_if_ne (off := 13) 66 dX11_mend_53 (by decide) (fun c1 => ?_) (fun c1 => ?_)
  · exact j_le [some (.ref 0), some (.int l1), some (.int l2), none, none] (And.intro rfl (And.intro rfl (And.intro rfl True.intro))) (v1 c1)
  · exact j_le [some (.ref 0), some (.int l1), some (.int l2), none, none] (And.intro rfl (And.intro rfl (And.intro rfl True.intro))) (v2 c1)
set_option maxRecDepth 100000 in
theorem bX11_mend_56 {sc : Nat × (Nat → Int32)} {h : jH} {Q : jQ} {l1 l2 : Int32}
    (o1 : vp_in l1 300)
    (v1 : Q (.inl (some (.int (h 76 l1.toNatClampNeg)))) (jG0 sc) h) :
    WP mX11_mend Q 56 [some (.ref 0), some (.int l1), some (.int l2), none, none] [] (jG0 sc) h (0, 0) := by
  refine j_aload_n (i := 0) rfl dX11_mend_56 ?_
  refine j_getR (idx := 61) (ci := 11) (k := 9) (nest := false) (show (11, 61, 11, 9, false) ∈ jFT by decide) rfl (Nat.le_of_ble_eq_true rfl) rfl (a := 75) rfl dX11_mend_57 ?_
  refine j_getR (idx := 287) (ci := 3) (k := 0) (nest := true) (show (11, 287, 3, 0, true) ∈ jFT by decide) rfl (Nat.le_of_ble_eq_true rfl) rfl (a := 76) rfl dX11_mend_60 ?_
  refine j_iload_n (i := 1) rfl dX11_mend_63 ?_
  refine j_iald (Nat.le_of_ble_eq_true rfl) rfl o1 dX11_mend_64 ?_
  exact j_iret rfl rfl (Nat.zero_le _) (Nat.zero_le _) dX11_mend_65 v1
set_option maxRecDepth 100000 in
theorem bX11_mend_66 {sc : Nat × (Nat → Int32)} {h : jH} {Q : jQ} {l1 l2 : Int32}
    (v1 : ¬ l2 = 1 → WP mX11_mend Q 81 [some (.ref 0), some (.int l1), some (.int l2), none, none] [] (jG0 sc) h (0, 0))
    (v2 : l2 = 1 → WP mX11_mend Q 71 [some (.ref 0), some (.int l1), some (.int l2), none, none] [] (jG0 sc) h (0, 0)) :
    WP mX11_mend Q 66 [some (.ref 0), some (.int l1), some (.int l2), none, none] [] (jG0 sc) h (0, 0) := by
  refine j_iload_n (i := 2) rfl dX11_mend_66 ?_
  refine j_iconst (n := 1) 1 (by decide) dX11_mend_67 ?_
  refine j_icmp_ne (off := 13) 81 dX11_mend_68 (by decide) (fun c1 => ?_) (fun c1 => ?_)
  · exact j_le [some (.ref 0), some (.int l1), some (.int l2), none, none] (And.intro rfl (And.intro rfl (And.intro rfl True.intro))) (v1 c1)
  · exact j_le [some (.ref 0), some (.int l1), some (.int l2), none, none] (And.intro rfl (And.intro rfl (And.intro rfl True.intro))) (v2 c1)
set_option maxRecDepth 100000 in
theorem bX11_mend_71 {sc : Nat × (Nat → Int32)} {h : jH} {Q : jQ} {l1 l2 : Int32}
    (o1 : vp_in l1 300)
    (v1 : Q (.inl (some (.int (h 77 l1.toNatClampNeg)))) (jG0 sc) h) :
    WP mX11_mend Q 71 [some (.ref 0), some (.int l1), some (.int l2), none, none] [] (jG0 sc) h (0, 0) := by
  refine j_aload_n (i := 0) rfl dX11_mend_71 ?_
  refine j_getR (idx := 61) (ci := 11) (k := 9) (nest := false) (show (11, 61, 11, 9, false) ∈ jFT by decide) rfl (Nat.le_of_ble_eq_true rfl) rfl (a := 75) rfl dX11_mend_72 ?_
  refine j_getR (idx := 290) (ci := 3) (k := 1) (nest := true) (show (11, 290, 3, 1, true) ∈ jFT by decide) rfl (Nat.le_of_ble_eq_true rfl) rfl (a := 77) rfl dX11_mend_75 ?_
  refine j_iload_n (i := 1) rfl dX11_mend_78 ?_
  refine j_iald (Nat.le_of_ble_eq_true rfl) rfl o1 dX11_mend_79 ?_
  exact j_iret rfl rfl (Nat.zero_le _) (Nat.zero_le _) dX11_mend_80 v1
set_option maxRecDepth 100000 in
theorem bX11_mend_81 {sc : Nat × (Nat → Int32)} {h : jH} {Q : jQ} {l1 l2 : Int32} {P1 : Int32 → jH → Prop} {P2 : Int32 → jH → Prop}
    (k1 : JM mX11_rightBits [.ref 0, .ref 10] (jG0 sc) h (jint sc P1))
    (k2 : ∀ (x1 : Int32) (h1 : jH), P1 x1 h1 → JM mX3_shape [.ref 75, .ref 10, .int l1, .ref 89] (jG0 sc) h1 (jint sc P2))
    (v1 : ∀ (x1 : Int32) (h1 : jH), P1 x1 h1 → ∀ (x2 : Int32) (h2 : jH), P2 x2 h2 → WP mX11_mend Q 114 [some (.ref 0), some (.int l1), some (.int l2), some (.int x1), none] [.ref 0] (jG0 sc) h2 (0, 0)) :
    WP mX11_mend Q 81 [some (.ref 0), some (.int l1), some (.int l2), none, none] [] (jG0 sc) h (0, 0) := by
  refine j_aload_n (i := 0) rfl dX11_mend_81 ?_
  refine j_aload_n (i := 0) rfl dX11_mend_82 ?_
  refine j_getR (idx := 37) (ci := 11) (k := 4) (nest := false) (show (11, 37, 11, 4, false) ∈ jFT by decide) rfl (Nat.le_of_ble_eq_true rfl) rfl (a := 9) rfl dX11_mend_83 ?_
  refine j_getR (idx := 127) (ci := 6) (k := 0) (nest := true) (show (11, 127, 6, 0, true) ∈ jFT by decide) rfl (Nat.le_of_ble_eq_true rfl) rfl (a := 10) rfl dX11_mend_86 ?_
  refine j_callV (idx := 293) (As := [.ref 10]) (ci := 11) (n := 1) k1 jint_nt (jlkT (jtb3 184 rfl) rfl) sX11_rightBits kX11_rightBits rfl ⟨rfl, by decide +kernel, by decide +kernel, by decide +kernel⟩ rfl ⟨by decide, by decide⟩ (Nat.le_of_ble_eq_true rfl) rfl (Nat.le_of_ble_eq_true rfl) (Nat.le_of_ble_eq_true rfl) ⟨Nat.zero_le _, Nat.zero_le _⟩ dX11_mend_89 (fun r Γ' h1 q => ?_)
  obtain ⟨x1, q0, rfl, p1⟩ := q; cases q0
  refine j_eqst [.int x1] (by rfl) ?_
  refine j_istore_n (i := 3) dX11_mend_92 (Nat.le_of_ble_eq_true rfl) ?_
  refine j_aload_n (i := 0) rfl dX11_mend_93 ?_
  refine j_getR (idx := 61) (ci := 11) (k := 9) (nest := false) (show (11, 61, 11, 9, false) ∈ jFT by decide) rfl (Nat.le_of_ble_eq_true rfl) rfl (a := 75) rfl dX11_mend_94 ?_
  refine j_aload_n (i := 0) rfl dX11_mend_97 ?_
  refine j_getR (idx := 37) (ci := 11) (k := 4) (nest := false) (show (11, 37, 11, 4, false) ∈ jFT by decide) rfl (Nat.le_of_ble_eq_true rfl) rfl (a := 9) rfl dX11_mend_98 ?_
  refine j_getR (idx := 127) (ci := 6) (k := 0) (nest := true) (show (11, 127, 6, 0, true) ∈ jFT by decide) rfl (Nat.le_of_ble_eq_true rfl) rfl (a := 10) rfl dX11_mend_101 ?_
  refine j_iload_n (i := 1) rfl dX11_mend_104 ?_
  refine j_aload_n (i := 0) rfl dX11_mend_105 ?_
  refine j_getR (idx := 71) (ci := 11) (k := 11) (nest := false) (show (11, 71, 11, 11, false) ∈ jFT by decide) rfl (Nat.le_of_ble_eq_true rfl) rfl (a := 89) rfl dX11_mend_106 ?_
  refine j_callVN (idx := 192) (As := [.ref 10, .int l1, .ref 89]) (ci := 3) (n := 3) (k2 x1 h1 p1) jint_nt (jTbl (jtb2 199 rfl)) sX3_shape kX3_shape rfl ⟨rfl, by decide +kernel, by decide +kernel, by decide +kernel⟩ rfl ⟨by decide, by decide⟩ (Nat.le_of_ble_eq_true rfl) rfl (Nat.le_of_ble_eq_true rfl) (Nat.le_of_ble_eq_true rfl) ⟨Nat.zero_le _, Nat.zero_le _⟩ dX11_mend_109 (fun r Γ' h2 q => ?_)
  obtain ⟨x2, q0, rfl, p2⟩ := q; cases q0
  refine j_eqst [.int x2] (by rfl) ?_
  refine j_pop rfl dX11_mend_112 ?_
  refine j_aload_n (i := 0) rfl dX11_mend_113 ?_
  exact j_le [some (.ref 0), some (.int l1), some (.int l2), some (.int x1), none] (And.intro rfl (And.intro rfl (And.intro rfl (And.intro rfl True.intro)))) (v1 x1 h1 p1 x2 h2 p2)
set_option maxRecDepth 100000 in
theorem bX11_mend_114 {sc : Nat × (Nat → Int32)} {h : jH} {Q : jQ} {l1 l2 l3 : Int32} {P1 : Int32 → jH → Prop}
    (k1 : JM mX11_rightBits [.ref 0, .ref 89] (jG0 sc) h (jint sc P1))
    (v1 : ∀ (x1 : Int32) (h1 : jH), P1 x1 h1 → ¬ l2 = 2 → WP mX11_mend Q 137 [some (.ref 0), some (.int l1), some (.int l2), some (.int l3), some (.int x1)] [] (jG0 sc) h1 (0, 0))
    (v2 : ∀ (x1 : Int32) (h1 : jH), P1 x1 h1 → l2 = 2 → WP mX11_mend Q 128 [some (.ref 0), some (.int l1), some (.int l2), some (.int l3), some (.int x1)] [] (jG0 sc) h1 (0, 0)) :
    WP mX11_mend Q 114 [some (.ref 0), some (.int l1), some (.int l2), some (.int l3), none] [.ref 0] (jG0 sc) h (0, 0) := by
  refine j_aload_n (i := 0) rfl dX11_mend_114 ?_
  refine j_getR (idx := 71) (ci := 11) (k := 11) (nest := false) (show (11, 71, 11, 11, false) ∈ jFT by decide) rfl (Nat.le_of_ble_eq_true rfl) rfl (a := 89) rfl dX11_mend_115 ?_
  refine j_callV (idx := 293) (As := [.ref 89]) (ci := 11) (n := 1) k1 jint_nt (jlkT (jtb3 184 rfl) rfl) sX11_rightBits kX11_rightBits rfl ⟨rfl, by decide +kernel, by decide +kernel, by decide +kernel⟩ rfl ⟨by decide, by decide⟩ (Nat.le_of_ble_eq_true rfl) rfl (Nat.le_of_ble_eq_true rfl) (Nat.le_of_ble_eq_true rfl) ⟨Nat.zero_le _, Nat.zero_le _⟩ dX11_mend_118 (fun r Γ' h1 q => ?_)
  obtain ⟨x1, q0, rfl, p1⟩ := q; cases q0
  refine j_eqst [.int x1] (by rfl) ?_
  refine j_istore (i := 4) dX11_mend_121 (Nat.le_of_ble_eq_true rfl) ?_
  refine j_iload_n (i := 2) rfl dX11_mend_123 ?_
  refine j_iconst (n := 2) 2 (by decide) dX11_mend_124 ?_
  refine j_icmp_ne (off := 12) 137 dX11_mend_125 (by decide) (fun c1 => ?_) (fun c1 => ?_)
  · exact j_le [some (.ref 0), some (.int l1), some (.int l2), some (.int l3), some (.int x1)] (And.intro rfl (And.intro rfl (And.intro rfl (And.intro rfl (And.intro rfl True.intro))))) (v1 x1 h1 p1 c1)
  · exact j_le [some (.ref 0), some (.int l1), some (.int l2), some (.int l3), some (.int x1)] (And.intro rfl (And.intro rfl (And.intro rfl (And.intro rfl (And.intro rfl True.intro))))) (v2 x1 h1 p1 c1)
set_option maxRecDepth 100000 in
theorem bX11_mend_128 {sc : Nat × (Nat → Int32)} {h : jH} {Q : jQ} {l1 l2 l3 l4 : Int32}
    (v1 : WP mX11_mend Q 143 [some (.ref 0), some (.int l1), some (.int l2), some (.int l3), some (.int l4)] [.int (l4 &&& (l3 ^^^ ((-1) : Int32)))] (jG0 sc) h (0, 0)) :
    WP mX11_mend Q 128 [some (.ref 0), some (.int l1), some (.int l2), some (.int l3), some (.int l4)] [] (jG0 sc) h (0, 0) := by
  refine j_iload (i := 4) rfl dX11_mend_128 ?_
  refine j_iload_n (i := 3) rfl dX11_mend_130 ?_
  refine j_iconst (n := (-1)) (-1) (by decide) dX11_mend_131 ?_
  refine j_ixor dX11_mend_132 ?_
  refine j_iand dX11_mend_133 ?_
  refine j_goto (off := 9) 143 dX11_mend_134 (by decide) ?_
  exact j_le [some (.ref 0), some (.int l1), some (.int l2), some (.int l3), some (.int l4)] (And.intro rfl (And.intro rfl (And.intro rfl (And.intro rfl (And.intro rfl True.intro))))) v1
set_option maxRecDepth 100000 in
theorem bX11_mend_137 {sc : Nat × (Nat → Int32)} {h : jH} {Q : jQ} {l1 l2 l3 l4 : Int32}
    (v1 : WP mX11_mend Q 143 [some (.ref 0), some (.int l1), some (.int l2), some (.int l3), some (.int l4)] [.int (l3 &&& (l4 ^^^ ((-1) : Int32)))] (jG0 sc) h (0, 0)) :
    WP mX11_mend Q 137 [some (.ref 0), some (.int l1), some (.int l2), some (.int l3), some (.int l4)] [] (jG0 sc) h (0, 0) := by
  refine j_iload_n (i := 3) rfl dX11_mend_137 ?_
  refine j_iload (i := 4) rfl dX11_mend_138 ?_
  refine j_iconst (n := (-1)) (-1) (by decide) dX11_mend_140 ?_
  refine j_ixor dX11_mend_141 ?_
  refine j_iand dX11_mend_142 ?_
  exact j_le [some (.ref 0), some (.int l1), some (.int l2), some (.int l3), some (.int l4)] (And.intro rfl (And.intro rfl (And.intro rfl (And.intro rfl (And.intro rfl True.intro))))) v1
set_option maxRecDepth 100000 in
theorem bX11_mend_143 {sc : Nat × (Nat → Int32)} {h : jH} {Q : jQ} {l1 l2 l3 l4 s0 : Int32} {P1 : Int32 → jH → Prop}
    (k1 : JM mJbitCount [.int s0] (jG0 sc) h (jint sc P1))
    (v1 : ∀ (x1 : Int32) (h1 : jH), P1 x1 h1 → Q (.inl (some (.int x1))) (jG0 sc) h1) :
    WP mX11_mend Q 143 [some (.ref 0), some (.int l1), some (.int l2), some (.int l3), some (.int l4)] [.int s0] (jG0 sc) h (0, 0) := by
  refine j_callS (idx := 297) (As := [.int s0]) (n := 1) k1 jint_nt (jlkT (jtb3 188 rfl) rfl) sJbitCount kJbitCount rfl ⟨by decide +kernel, by decide +kernel, by decide +kernel⟩ rfl ⟨by decide, by decide⟩ (Nat.le_of_ble_eq_true rfl) ⟨Nat.zero_le _, Nat.zero_le _⟩ dX11_mend_143 (fun r Γ' h1 q => ?_)
  obtain ⟨x1, q0, rfl, p1⟩ := q; cases q0
  refine j_eqst [.int x1] (by rfl) ?_
  exact j_iret rfl rfl (Nat.zero_le _) (Nat.zero_le _) dX11_mend_146 (v1 x1 h1 p1)
set_option maxRecDepth 100000 in
theorem rX11_mend_0 {sc : Nat × (Nat → Int32)} {h : jH} {Q : jQ} {l1 l2 : Int32} {P1 : Int32 → jH → Prop} {P2 : Int32 → jH → Prop} {P3 : Int32 → jH → Prop} {P4 : Int32 → jH → Prop} {P5 : Int32 → jH → Prop}
    (v1 : l1 < 0 → Q (.inr "java/lang/IndexOutOfBoundsException") (jG0 sc) h)
    (v2 : ¬ l1 < 0 → (h 75 6) ≤ l1 → Q (.inr "java/lang/IndexOutOfBoundsException") (jG0 sc) h)
    (v3 : ¬ l1 < 0 → ¬ (h 75 6) ≤ l1 → l1 < 300 → l2 < 0 → Q (.inr "java/util/NoSuchElementException") (jG0 sc) h)
    (k1 : ¬ l1 < 0 → ¬ (h 75 6) ≤ l1 → l1 < 300 → ¬ l2 < 0 → l2 ≤ 3 → ¬ l2 = 0 → ¬ l2 = 1 → JM mX11_rightBits [.ref 0, .ref 10] (jG0 sc) h (jint sc P1))
    (k2 : ¬ l1 < 0 → ¬ (h 75 6) ≤ l1 → l1 < 300 → ¬ l2 < 0 → l2 ≤ 3 → ¬ l2 = 0 → ¬ l2 = 1 → ∀ (x1 : Int32) (h1 : jH), P1 x1 h1 → JM mX3_shape [.ref 75, .ref 10, .int l1, .ref 89] (jG0 sc) h1 (jint sc P2))
    (k3 : ¬ l1 < 0 → ¬ (h 75 6) ≤ l1 → l1 < 300 → ¬ l2 < 0 → l2 ≤ 3 → ¬ l2 = 0 → ¬ l2 = 1 → ∀ (x1 : Int32) (h1 : jH), P1 x1 h1 → ∀ (x2 : Int32) (h2 : jH), P2 x2 h2 → JM mX11_rightBits [.ref 0, .ref 89] (jG0 sc) h2 (jint sc P3))
    (k4 : ¬ l1 < 0 → ¬ (h 75 6) ≤ l1 → l1 < 300 → ¬ l2 < 0 → l2 ≤ 3 → ¬ l2 = 0 → ¬ l2 = 1 → ∀ (x1 : Int32) (h1 : jH), P1 x1 h1 → ∀ (x2 : Int32) (h2 : jH), P2 x2 h2 → ∀ (x3 : Int32) (h3 : jH), P3 x3 h3 → ¬ l2 = 2 → JM mJbitCount [.int (x1 &&& (x3 ^^^ ((-1) : Int32)))] (jG0 sc) h3 (jint sc P4))
    (v4 : ¬ l1 < 0 → ¬ (h 75 6) ≤ l1 → l1 < 300 → ¬ l2 < 0 → l2 ≤ 3 → ¬ l2 = 0 → ¬ l2 = 1 → ∀ (x1 : Int32) (h1 : jH), P1 x1 h1 → ∀ (x2 : Int32) (h2 : jH), P2 x2 h2 → ∀ (x3 : Int32) (h3 : jH), P3 x3 h3 → ¬ l2 = 2 → ∀ (x4 : Int32) (h4 : jH), P4 x4 h4 → Q (.inl (some (.int x4))) (jG0 sc) h4)
    (k5 : ¬ l1 < 0 → ¬ (h 75 6) ≤ l1 → l1 < 300 → ¬ l2 < 0 → l2 ≤ 3 → ¬ l2 = 0 → ¬ l2 = 1 → ∀ (x1 : Int32) (h1 : jH), P1 x1 h1 → ∀ (x2 : Int32) (h2 : jH), P2 x2 h2 → ∀ (x3 : Int32) (h3 : jH), P3 x3 h3 → l2 = 2 → JM mJbitCount [.int (x3 &&& (x1 ^^^ ((-1) : Int32)))] (jG0 sc) h3 (jint sc P5))
    (v5 : ¬ l1 < 0 → ¬ (h 75 6) ≤ l1 → l1 < 300 → ¬ l2 < 0 → l2 ≤ 3 → ¬ l2 = 0 → ¬ l2 = 1 → ∀ (x1 : Int32) (h1 : jH), P1 x1 h1 → ∀ (x2 : Int32) (h2 : jH), P2 x2 h2 → ∀ (x3 : Int32) (h3 : jH), P3 x3 h3 → l2 = 2 → ∀ (x5 : Int32) (h5 : jH), P5 x5 h5 → Q (.inl (some (.int x5))) (jG0 sc) h5)
    (o1 : ¬ l1 < 0 → ¬ (h 75 6) ≤ l1 → l1 < 300 → ¬ l2 < 0 → l2 ≤ 3 → ¬ l2 = 0 → l2 = 1 → vp_in l1 300)
    (v6 : ¬ l1 < 0 → ¬ (h 75 6) ≤ l1 → l1 < 300 → ¬ l2 < 0 → l2 ≤ 3 → ¬ l2 = 0 → l2 = 1 → Q (.inl (some (.int (h 77 l1.toNatClampNeg)))) (jG0 sc) h)
    (o2 : ¬ l1 < 0 → ¬ (h 75 6) ≤ l1 → l1 < 300 → ¬ l2 < 0 → l2 ≤ 3 → l2 = 0 → vp_in l1 300)
    (v7 : ¬ l1 < 0 → ¬ (h 75 6) ≤ l1 → l1 < 300 → ¬ l2 < 0 → l2 ≤ 3 → l2 = 0 → Q (.inl (some (.int (h 76 l1.toNatClampNeg)))) (jG0 sc) h)
    (v8 : ¬ l1 < 0 → ¬ (h 75 6) ≤ l1 → l1 < 300 → ¬ l2 < 0 → ¬ l2 ≤ 3 → Q (.inr "java/util/NoSuchElementException") (jG0 sc) h)
    (v9 : ¬ l1 < 0 → ¬ (h 75 6) ≤ l1 → ¬ l1 < 300 → Q (.inr "java/lang/IndexOutOfBoundsException") (jG0 sc) h) :
    WP mX11_mend Q 0 [some (.ref 0), some (.int l1), some (.int l2), none, none] [] (jG0 sc) h (0, 0) := by
  exact (bX11_mend_0 (fun c1 => (bX11_mend_22 (v1 c1))) (fun c1 => (bX11_mend_4 (fun c2 => (bX11_mend_22 (v2 c1 c2))) (fun c2 => (bX11_mend_15 (fun c3 => (bX11_mend_33 (fun c4 => (bX11_mend_42 (v3 c1 c2 c3 c4))) (fun c4 => (bX11_mend_37 (fun c5 => (bX11_mend_52 (fun c6 => (bX11_mend_66 (fun c7 => (bX11_mend_81 (k1 c1 c2 c3 c4 c5 c6 c7) (fun x1 h1 p1 => (k2 c1 c2 c3 c4 c5 c6 c7 x1 h1 p1)) (fun x1 h1 p1 x2 h2 p2 => (bX11_mend_114 (k3 c1 c2 c3 c4 c5 c6 c7 x1 h1 p1 x2 h2 p2) (fun x3 h3 p3 c8 => (bX11_mend_137 (bX11_mend_143 (k4 c1 c2 c3 c4 c5 c6 c7 x1 h1 p1 x2 h2 p2 x3 h3 p3 c8) (fun x4 h4 p4 => (v4 c1 c2 c3 c4 c5 c6 c7 x1 h1 p1 x2 h2 p2 x3 h3 p3 c8 x4 h4 p4))))) (fun x3 h3 p3 c8 => (bX11_mend_128 (bX11_mend_143 (k5 c1 c2 c3 c4 c5 c6 c7 x1 h1 p1 x2 h2 p2 x3 h3 p3 c8) (fun x5 h5 p5 => (v5 c1 c2 c3 c4 c5 c6 c7 x1 h1 p1 x2 h2 p2 x3 h3 p3 c8 x5 h5 p5))))))))) (fun c7 => (bX11_mend_71 (o1 c1 c2 c3 c4 c5 c6 c7) (v6 c1 c2 c3 c4 c5 c6 c7))))) (fun c6 => (bX11_mend_56 (o2 c1 c2 c3 c4 c5 c6) (v7 c1 c2 c3 c4 c5 c6))))) (fun c5 => (bX11_mend_42 (v8 c1 c2 c3 c4 c5))))))) (fun c3 => (bX11_mend_22 (v9 c1 c2 c3))))))))
theorem dX11_line_0 : decode (mC mX11_line) 0 = .ok (.iload_n 1, 1) := by decide +kernel
theorem dX11_line_1 : decode (mC mX11_line) 1 = .ok (.iconst (-1), 1) := by decide +kernel
theorem dX11_line_2 : decode (mC mX11_line) 2 = .ok (.if_icmp .eq 29, 3) := by decide +kernel
theorem dX11_line_5 : decode (mC mX11_line) 5 = .ok (.iload_n 1, 1) := by decide +kernel
theorem dX11_line_6 : decode (mC mX11_line) 6 = .ok (.ifCond .lt 14, 3) := by decide +kernel
theorem dX11_line_9 : decode (mC mX11_line) 9 = .ok (.iload_n 1, 1) := by decide +kernel
theorem dX11_line_10 : decode (mC mX11_line) 10 = .ok (.aload_n 0, 1) := by decide +kernel
theorem dX11_line_11 : decode (mC mX11_line) 11 = .ok (.getfield 61, 3) := by decide +kernel
theorem dX11_line_14 : decode (mC mX11_line) 14 = .ok (.getfield 284, 3) := by decide +kernel
theorem dX11_line_17 : decode (mC mX11_line) 17 = .ok (.if_icmp .lt 14, 3) := by decide +kernel
theorem dX11_line_20 : decode (mC mX11_line) 20 = .ok (.new 208, 3) := by decide +kernel
theorem dX11_line_23 : decode (mC mX11_line) 23 = .ok (.dup, 1) := by decide +kernel
theorem dX11_line_24 : decode (mC mX11_line) 24 = .ok (.ldc_w 285, 3) := by decide +kernel
theorem dX11_line_27 : decode (mC mX11_line) 27 = .ok (.invokespecial 212, 3) := by decide +kernel
theorem dX11_line_30 : decode (mC mX11_line) 30 = .ok (.athrow, 1) := by decide +kernel
theorem dX11_line_31 : decode (mC mX11_line) 31 = .ok (.iload_n 2, 1) := by decide +kernel
theorem dX11_line_32 : decode (mC mX11_line) 32 = .ok (.ifCond .lt 17, 3) := by decide +kernel
theorem dX11_line_35 : decode (mC mX11_line) 35 = .ok (.iload_n 2, 1) := by decide +kernel
theorem dX11_line_36 : decode (mC mX11_line) 36 = .ok (.aload_n 0, 1) := by decide +kernel
theorem dX11_line_37 : decode (mC mX11_line) 37 = .ok (.getfield 37, 3) := by decide +kernel
theorem dX11_line_40 : decode (mC mX11_line) 40 = .ok (.getfield 127, 3) := by decide +kernel
theorem dX11_line_43 : decode (mC mX11_line) 43 = .ok (.getfield 136, 3) := by decide +kernel
theorem dX11_line_46 : decode (mC mX11_line) 46 = .ok (.if_icmp .lt 13, 3) := by decide +kernel
theorem dX11_line_49 : decode (mC mX11_line) 49 = .ok (.new 208, 3) := by decide +kernel
theorem dX11_line_52 : decode (mC mX11_line) 52 = .ok (.dup, 1) := by decide +kernel
theorem dX11_line_53 : decode (mC mX11_line) 53 = .ok (.ldc 239, 2) := by decide +kernel
theorem dX11_line_55 : decode (mC mX11_line) 55 = .ok (.invokespecial 212, 3) := by decide +kernel
theorem dX11_line_58 : decode (mC mX11_line) 58 = .ok (.athrow, 1) := by decide +kernel
theorem dX11_line_59 : decode (mC mX11_line) 59 = .ok (.aload_n 0, 1) := by decide +kernel
theorem dX11_line_60 : decode (mC mX11_line) 60 = .ok (.getfield 61, 3) := by decide +kernel
theorem dX11_line_63 : decode (mC mX11_line) 63 = .ok (.aload_n 0, 1) := by decide +kernel
theorem dX11_line_64 : decode (mC mX11_line) 64 = .ok (.getfield 37, 3) := by decide +kernel
theorem dX11_line_67 : decode (mC mX11_line) 67 = .ok (.getfield 127, 3) := by decide +kernel
theorem dX11_line_70 : decode (mC mX11_line) 70 = .ok (.iload_n 1, 1) := by decide +kernel
theorem dX11_line_71 : decode (mC mX11_line) 71 = .ok (.aload_n 0, 1) := by decide +kernel
theorem dX11_line_72 : decode (mC mX11_line) 72 = .ok (.getfield 71, 3) := by decide +kernel
theorem dX11_line_75 : decode (mC mX11_line) 75 = .ok (.invokevirtual 192, 3) := by decide +kernel
theorem dX11_line_78 : decode (mC mX11_line) 78 = .ok (.pop, 1) := by decide +kernel
theorem dX11_line_79 : decode (mC mX11_line) 79 = .ok (.aload_n 0, 1) := by decide +kernel
theorem dX11_line_80 : decode (mC mX11_line) 80 = .ok (.getfield 71, 3) := by decide +kernel
theorem dX11_line_83 : decode (mC mX11_line) 83 = .ok (.iload_n 2, 1) := by decide +kernel
theorem dX11_line_84 : decode (mC mX11_line) 84 = .ok (.invokevirtual 264, 3) := by decide +kernel
theorem dX11_line_87 : decode (mC mX11_line) 87 = .ok (.istore 4, 2) := by decide +kernel
theorem dX11_line_89 : decode (mC mX11_line) 89 = .ok (.iload_n 3, 1) := by decide +kernel
theorem dX11_line_90 : decode (mC mX11_line) 90 = .ok (.tableswitch 74 0 5 #[38, 44, 50, 56, 62, 68], 38) := by decide +kernel
theorem dX11_line_128 : decode (mC mX11_line) 128 = .ok (.iload 4, 2) := by decide +kernel
theorem dX11_line_130 : decode (mC mX11_line) 130 = .ok (.invokestatic 268, 3) := by decide +kernel
theorem dX11_line_133 : decode (mC mX11_line) 133 = .ok (.ireturn, 1) := by decide +kernel
theorem dX11_line_134 : decode (mC mX11_line) 134 = .ok (.iload 4, 2) := by decide +kernel
theorem dX11_line_136 : decode (mC mX11_line) 136 = .ok (.invokestatic 302, 3) := by decide +kernel
theorem dX11_line_139 : decode (mC mX11_line) 139 = .ok (.ireturn, 1) := by decide +kernel
theorem dX11_line_140 : decode (mC mX11_line) 140 = .ok (.iload 4, 2) := by decide +kernel
theorem dX11_line_142 : decode (mC mX11_line) 142 = .ok (.invokestatic 305, 3) := by decide +kernel
theorem dX11_line_145 : decode (mC mX11_line) 145 = .ok (.ireturn, 1) := by decide +kernel
theorem dX11_line_146 : decode (mC mX11_line) 146 = .ok (.iload 4, 2) := by decide +kernel
theorem dX11_line_148 : decode (mC mX11_line) 148 = .ok (.invokestatic 308, 3) := by decide +kernel
theorem dX11_line_151 : decode (mC mX11_line) 151 = .ok (.ireturn, 1) := by decide +kernel
theorem dX11_line_152 : decode (mC mX11_line) 152 = .ok (.iload 4, 2) := by decide +kernel
theorem dX11_line_154 : decode (mC mX11_line) 154 = .ok (.invokestatic 311, 3) := by decide +kernel
theorem dX11_line_157 : decode (mC mX11_line) 157 = .ok (.ireturn, 1) := by decide +kernel
theorem dX11_line_158 : decode (mC mX11_line) 158 = .ok (.iload 4, 2) := by decide +kernel
theorem dX11_line_160 : decode (mC mX11_line) 160 = .ok (.invokestatic 314, 3) := by decide +kernel
theorem dX11_line_163 : decode (mC mX11_line) 163 = .ok (.ireturn, 1) := by decide +kernel
theorem dX11_line_164 : decode (mC mX11_line) 164 = .ok (.new 234, 3) := by decide +kernel
theorem dX11_line_167 : decode (mC mX11_line) 167 = .ok (.dup, 1) := by decide +kernel
theorem dX11_line_168 : decode (mC mX11_line) 168 = .ok (.ldc 236, 2) := by decide +kernel
theorem dX11_line_170 : decode (mC mX11_line) 170 = .ok (.invokespecial 238, 3) := by decide +kernel
theorem dX11_line_173 : decode (mC mX11_line) 173 = .ok (.athrow, 1) := by decide +kernel
set_option maxRecDepth 100000 in
theorem bX11_line_0 {sc : Nat × (Nat → Int32)} {h : jH} {Q : jQ} {l1 l2 l3 : Int32}
    (v1 : l1 = (-1) → WP mX11_line Q 31 [some (.ref 0), some (.int l1), some (.int l2), some (.int l3), none] [] (jG0 sc) h (0, 0))
    (v2 : ¬ l1 = (-1) → WP mX11_line Q 5 [some (.ref 0), some (.int l1), some (.int l2), some (.int l3), none] [] (jG0 sc) h (0, 0)) :
    WP mX11_line Q 0 [some (.ref 0), some (.int l1), some (.int l2), some (.int l3), none] [] (jG0 sc) h (0, 0) := by
  refine j_iload_n (i := 1) rfl dX11_line_0 ?_
  refine j_iconst (n := (-1)) (-1) (by decide) dX11_line_1 ?_
  refine j_icmp_eq (off := 29) 31 dX11_line_2 (by decide) (fun c1 => ?_) (fun c1 => ?_)
  · exact j_le [some (.ref 0), some (.int l1), some (.int l2), some (.int l3), none] (And.intro rfl (And.intro rfl (And.intro rfl (And.intro rfl True.intro)))) (v1 c1)
  · exact j_le [some (.ref 0), some (.int l1), some (.int l2), some (.int l3), none] (And.intro rfl (And.intro rfl (And.intro rfl (And.intro rfl True.intro)))) (v2 c1)
set_option maxRecDepth 100000 in
theorem bX11_line_5 {sc : Nat × (Nat → Int32)} {h : jH} {Q : jQ} {l1 l2 l3 : Int32}
    (v1 : l1 < 0 → WP mX11_line Q 20 [some (.ref 0), some (.int l1), some (.int l2), some (.int l3), none] [] (jG0 sc) h (0, 0))
    (v2 : ¬ l1 < 0 → WP mX11_line Q 9 [some (.ref 0), some (.int l1), some (.int l2), some (.int l3), none] [] (jG0 sc) h (0, 0)) :
    WP mX11_line Q 5 [some (.ref 0), some (.int l1), some (.int l2), some (.int l3), none] [] (jG0 sc) h (0, 0) := by
  refine j_iload_n (i := 1) rfl dX11_line_5 ?_
  refine j_if_lt (off := 14) 20 dX11_line_6 (by decide) (fun c1 => ?_) (fun c1 => ?_)
  · exact j_le [some (.ref 0), some (.int l1), some (.int l2), some (.int l3), none] (And.intro rfl (And.intro rfl (And.intro rfl (And.intro rfl True.intro)))) (v1 c1)
  · exact j_le [some (.ref 0), some (.int l1), some (.int l2), some (.int l3), none] (And.intro rfl (And.intro rfl (And.intro rfl (And.intro rfl True.intro)))) (v2 c1)
set_option maxRecDepth 100000 in
theorem bX11_line_9 {sc : Nat × (Nat → Int32)} {h : jH} {Q : jQ} {l1 l2 l3 : Int32}
    (v1 : l1 < (h 75 6) → WP mX11_line Q 31 [some (.ref 0), some (.int l1), some (.int l2), some (.int l3), none] [] (jG0 sc) h (0, 0))
    (v2 : ¬ l1 < (h 75 6) → WP mX11_line Q 20 [some (.ref 0), some (.int l1), some (.int l2), some (.int l3), none] [] (jG0 sc) h (0, 0)) :
    WP mX11_line Q 9 [some (.ref 0), some (.int l1), some (.int l2), some (.int l3), none] [] (jG0 sc) h (0, 0) := by
  refine j_iload_n (i := 1) rfl dX11_line_9 ?_
  refine j_aload_n (i := 0) rfl dX11_line_10 ?_
  refine j_getR (idx := 61) (ci := 11) (k := 9) (nest := false) (show (11, 61, 11, 9, false) ∈ jFT by decide) rfl (Nat.le_of_ble_eq_true rfl) rfl (a := 75) rfl dX11_line_11 ?_
  refine j_getI (idx := 284) (ci := 3) (k := 6) (nest := true) (show (11, 284, 3, 6, true) ∈ jFT by decide) rfl (Nat.le_of_ble_eq_true rfl) rfl dX11_line_14 ?_
  refine j_icmp_lt (off := 14) 31 dX11_line_17 (by decide) (fun c1 => ?_) (fun c1 => ?_)
  · exact j_le [some (.ref 0), some (.int l1), some (.int l2), some (.int l3), none] (And.intro rfl (And.intro rfl (And.intro rfl (And.intro rfl True.intro)))) (v1 c1)
  · exact j_le [some (.ref 0), some (.int l1), some (.int l2), some (.int l3), none] (And.intro rfl (And.intro rfl (And.intro rfl (And.intro rfl True.intro)))) (v2 c1)
set_option maxRecDepth 100000 in
theorem bX11_line_20 {sc : Nat × (Nat → Int32)} {h : jH} {Q : jQ} {l1 l2 l3 : Int32}
    (v1 : Q (.inr "java/lang/IndexOutOfBoundsException") (jG0 sc) h) :
    WP mX11_line Q 20 [some (.ref 0), some (.int l1), some (.int l2), some (.int l3), none] [] (jG0 sc) h (0, 0) := by
  exact j_thrW_IOB (is := 285) "no such MEND" 33 (by decide +kernel) rfl rfl (by decide) (by decide) (Nat.le_of_ble_eq_true rfl) dX11_line_20 dX11_line_23 dX11_line_24 dX11_line_27 dX11_line_30 v1
set_option maxRecDepth 100000 in
theorem bX11_line_31 {sc : Nat × (Nat → Int32)} {h : jH} {Q : jQ} {l1 l2 l3 : Int32}
    (v1 : l2 < 0 → WP mX11_line Q 49 [some (.ref 0), some (.int l1), some (.int l2), some (.int l3), none] [] (jG0 sc) h (0, 0))
    (v2 : ¬ l2 < 0 → WP mX11_line Q 35 [some (.ref 0), some (.int l1), some (.int l2), some (.int l3), none] [] (jG0 sc) h (0, 0)) :
    WP mX11_line Q 31 [some (.ref 0), some (.int l1), some (.int l2), some (.int l3), none] [] (jG0 sc) h (0, 0) := by
  refine j_iload_n (i := 2) rfl dX11_line_31 ?_
  refine j_if_lt (off := 17) 49 dX11_line_32 (by decide) (fun c1 => ?_) (fun c1 => ?_)
  · exact j_le [some (.ref 0), some (.int l1), some (.int l2), some (.int l3), none] (And.intro rfl (And.intro rfl (And.intro rfl (And.intro rfl True.intro)))) (v1 c1)
  · exact j_le [some (.ref 0), some (.int l1), some (.int l2), some (.int l3), none] (And.intro rfl (And.intro rfl (And.intro rfl (And.intro rfl True.intro)))) (v2 c1)
set_option maxRecDepth 100000 in
theorem bX11_line_35 {sc : Nat × (Nat → Int32)} {h : jH} {Q : jQ} {l1 l2 l3 : Int32}
    (v1 : l2 < (h 10 1) → WP mX11_line Q 59 [some (.ref 0), some (.int l1), some (.int l2), some (.int l3), none] [] (jG0 sc) h (0, 0))
    (v2 : ¬ l2 < (h 10 1) → WP mX11_line Q 49 [some (.ref 0), some (.int l1), some (.int l2), some (.int l3), none] [] (jG0 sc) h (0, 0)) :
    WP mX11_line Q 35 [some (.ref 0), some (.int l1), some (.int l2), some (.int l3), none] [] (jG0 sc) h (0, 0) := by
  refine j_iload_n (i := 2) rfl dX11_line_35 ?_
  refine j_aload_n (i := 0) rfl dX11_line_36 ?_
  refine j_getR (idx := 37) (ci := 11) (k := 4) (nest := false) (show (11, 37, 11, 4, false) ∈ jFT by decide) rfl (Nat.le_of_ble_eq_true rfl) rfl (a := 9) rfl dX11_line_37 ?_
  refine j_getR (idx := 127) (ci := 6) (k := 0) (nest := true) (show (11, 127, 6, 0, true) ∈ jFT by decide) rfl (Nat.le_of_ble_eq_true rfl) rfl (a := 10) rfl dX11_line_40 ?_
  refine j_getI (idx := 136) (ci := 4) (k := 1) (nest := true) (show (11, 136, 4, 1, true) ∈ jFT by decide) rfl (Nat.le_of_ble_eq_true rfl) rfl dX11_line_43 ?_
  refine j_icmp_lt (off := 13) 59 dX11_line_46 (by decide) (fun c1 => ?_) (fun c1 => ?_)
  · exact j_le [some (.ref 0), some (.int l1), some (.int l2), some (.int l3), none] (And.intro rfl (And.intro rfl (And.intro rfl (And.intro rfl True.intro)))) (v1 c1)
  · exact j_le [some (.ref 0), some (.int l1), some (.int l2), some (.int l3), none] (And.intro rfl (And.intro rfl (And.intro rfl (And.intro rfl True.intro)))) (v2 c1)
set_option maxRecDepth 100000 in
theorem bX11_line_49 {sc : Nat × (Nat → Int32)} {h : jH} {Q : jQ} {l1 l2 l3 : Int32}
    (v1 : Q (.inr "java/lang/IndexOutOfBoundsException") (jG0 sc) h) :
    WP mX11_line Q 49 [some (.ref 0), some (.int l1), some (.int l2), some (.int l3), none] [] (jG0 sc) h (0, 0) := by
  exact j_thr_IOB (is := 239) "no such LINE" 32 (by decide +kernel) rfl rfl (by decide) (by decide) (Nat.le_of_ble_eq_true rfl) dX11_line_49 dX11_line_52 dX11_line_53 dX11_line_55 dX11_line_58 v1
set_option maxRecDepth 100000 in
theorem bX11_line_59 {sc : Nat × (Nat → Int32)} {h : jH} {Q : jQ} {l1 l2 l3 : Int32} {P1 : Int32 → jH → Prop} {P2 : Int32 → jH → Prop}
    (k1 : JM mX3_shape [.ref 75, .ref 10, .int l1, .ref 89] (jG0 sc) h (jint sc P1))
    (k2 : ∀ (x1 : Int32) (h1 : jH), P1 x1 h1 → JM mX4_lineAt [.ref 89, .int l2] (jG0 sc) h1 (jint sc P2))
    (v1 : ∀ (x1 : Int32) (h1 : jH), P1 x1 h1 → ∀ (x2 : Int32) (h2 : jH), P2 x2 h2 → ((l3 : Int32).toInt < 0 ∨ 5 < (l3 : Int32).toInt) → WP mX11_line Q 164 [some (.ref 0), some (.int l1), some (.int l2), some (.int l3), some (.int x2)] [] (jG0 sc) h2 (0, 0))
    (v2 : ∀ (x1 : Int32) (h1 : jH), P1 x1 h1 → ∀ (x2 : Int32) (h2 : jH), P2 x2 h2 → (l3 : Int32).toInt = 0 → WP mX11_line Q 128 [some (.ref 0), some (.int l1), some (.int l2), some (.int l3), some (.int x2)] [] (jG0 sc) h2 (0, 0))
    (v3 : ∀ (x1 : Int32) (h1 : jH), P1 x1 h1 → ∀ (x2 : Int32) (h2 : jH), P2 x2 h2 → (l3 : Int32).toInt = 1 → WP mX11_line Q 134 [some (.ref 0), some (.int l1), some (.int l2), some (.int l3), some (.int x2)] [] (jG0 sc) h2 (0, 0))
    (v4 : ∀ (x1 : Int32) (h1 : jH), P1 x1 h1 → ∀ (x2 : Int32) (h2 : jH), P2 x2 h2 → (l3 : Int32).toInt = 2 → WP mX11_line Q 140 [some (.ref 0), some (.int l1), some (.int l2), some (.int l3), some (.int x2)] [] (jG0 sc) h2 (0, 0))
    (v5 : ∀ (x1 : Int32) (h1 : jH), P1 x1 h1 → ∀ (x2 : Int32) (h2 : jH), P2 x2 h2 → (l3 : Int32).toInt = 3 → WP mX11_line Q 146 [some (.ref 0), some (.int l1), some (.int l2), some (.int l3), some (.int x2)] [] (jG0 sc) h2 (0, 0))
    (v6 : ∀ (x1 : Int32) (h1 : jH), P1 x1 h1 → ∀ (x2 : Int32) (h2 : jH), P2 x2 h2 → (l3 : Int32).toInt = 4 → WP mX11_line Q 152 [some (.ref 0), some (.int l1), some (.int l2), some (.int l3), some (.int x2)] [] (jG0 sc) h2 (0, 0))
    (v7 : ∀ (x1 : Int32) (h1 : jH), P1 x1 h1 → ∀ (x2 : Int32) (h2 : jH), P2 x2 h2 → (l3 : Int32).toInt = 5 → WP mX11_line Q 158 [some (.ref 0), some (.int l1), some (.int l2), some (.int l3), some (.int x2)] [] (jG0 sc) h2 (0, 0)) :
    WP mX11_line Q 59 [some (.ref 0), some (.int l1), some (.int l2), some (.int l3), none] [] (jG0 sc) h (0, 0) := by
  refine j_aload_n (i := 0) rfl dX11_line_59 ?_
  refine j_getR (idx := 61) (ci := 11) (k := 9) (nest := false) (show (11, 61, 11, 9, false) ∈ jFT by decide) rfl (Nat.le_of_ble_eq_true rfl) rfl (a := 75) rfl dX11_line_60 ?_
  refine j_aload_n (i := 0) rfl dX11_line_63 ?_
  refine j_getR (idx := 37) (ci := 11) (k := 4) (nest := false) (show (11, 37, 11, 4, false) ∈ jFT by decide) rfl (Nat.le_of_ble_eq_true rfl) rfl (a := 9) rfl dX11_line_64 ?_
  refine j_getR (idx := 127) (ci := 6) (k := 0) (nest := true) (show (11, 127, 6, 0, true) ∈ jFT by decide) rfl (Nat.le_of_ble_eq_true rfl) rfl (a := 10) rfl dX11_line_67 ?_
  refine j_iload_n (i := 1) rfl dX11_line_70 ?_
  refine j_aload_n (i := 0) rfl dX11_line_71 ?_
  refine j_getR (idx := 71) (ci := 11) (k := 11) (nest := false) (show (11, 71, 11, 11, false) ∈ jFT by decide) rfl (Nat.le_of_ble_eq_true rfl) rfl (a := 89) rfl dX11_line_72 ?_
  refine j_callVN (idx := 192) (As := [.ref 10, .int l1, .ref 89]) (ci := 3) (n := 3) k1 jint_nt (jTbl (jtb2 199 rfl)) sX3_shape kX3_shape rfl ⟨rfl, by decide +kernel, by decide +kernel, by decide +kernel⟩ rfl ⟨by decide, by decide⟩ (Nat.le_of_ble_eq_true rfl) rfl (Nat.le_of_ble_eq_true rfl) (Nat.le_of_ble_eq_true rfl) ⟨Nat.zero_le _, Nat.zero_le _⟩ dX11_line_75 (fun r Γ' h1 q => ?_)
  obtain ⟨x1, q0, rfl, p1⟩ := q; cases q0
  refine j_eqst [.int x1] (by rfl) ?_
  refine j_pop rfl dX11_line_78 ?_
  refine j_aload_n (i := 0) rfl dX11_line_79 ?_
  refine j_getR (idx := 71) (ci := 11) (k := 11) (nest := false) (show (11, 71, 11, 11, false) ∈ jFT by decide) rfl (Nat.le_of_ble_eq_true rfl) rfl (a := 89) rfl dX11_line_80 ?_
  refine j_iload_n (i := 2) rfl dX11_line_83 ?_
  refine j_callVN (idx := 264) (As := [.int l2]) (ci := 4) (n := 1) (k2 x1 h1 p1) jint_nt (jTbl (jtb5 95 rfl)) sX4_lineAt kX4_lineAt rfl ⟨rfl, by decide +kernel, by decide +kernel, by decide +kernel⟩ rfl ⟨by decide, by decide⟩ (Nat.le_of_ble_eq_true rfl) rfl (Nat.le_of_ble_eq_true rfl) (Nat.le_of_ble_eq_true rfl) ⟨Nat.zero_le _, Nat.zero_le _⟩ dX11_line_84 (fun r Γ' h2 q => ?_)
  obtain ⟨x2, q0, rfl, p2⟩ := q; cases q0
  refine j_eqst [.int x2] (by rfl) ?_
  refine j_istore (i := 4) dX11_line_87 (Nat.le_of_ble_eq_true rfl) ?_
  refine j_iload_n (i := 3) rfl dX11_line_89 ?_
  refine j_switch (dflt := 74) (lo := 0) (hi := 5) (offs := #[38, 44, 50, 56, 62, 68]) (len := 38) [128, 134, 140, 146, 152, 158] 164 dX11_line_90 (by decide) (by decide) (by decide) (fun c1 => ?_) ?_
  · exact j_le [some (.ref 0), some (.int l1), some (.int l2), some (.int l3), some (.int x2)] (And.intro rfl (And.intro rfl (And.intro rfl (And.intro rfl (And.intro rfl True.intro))))) (v1 x1 h1 p1 x2 h2 p2 c1)
  · refine ⟨fun q0 => ?_, fun q1 => ?_, fun q2 => ?_, fun q3 => ?_, fun q4 => ?_, fun q5 => ?_, True.intro⟩
    · exact j_le [some (.ref 0), some (.int l1), some (.int l2), some (.int l3), some (.int x2)] (And.intro rfl (And.intro rfl (And.intro rfl (And.intro rfl (And.intro rfl True.intro))))) (v2 x1 h1 p1 x2 h2 p2 q0)
    · exact j_le [some (.ref 0), some (.int l1), some (.int l2), some (.int l3), some (.int x2)] (And.intro rfl (And.intro rfl (And.intro rfl (And.intro rfl (And.intro rfl True.intro))))) (v3 x1 h1 p1 x2 h2 p2 q1)
    · exact j_le [some (.ref 0), some (.int l1), some (.int l2), some (.int l3), some (.int x2)] (And.intro rfl (And.intro rfl (And.intro rfl (And.intro rfl (And.intro rfl True.intro))))) (v4 x1 h1 p1 x2 h2 p2 q2)
    · exact j_le [some (.ref 0), some (.int l1), some (.int l2), some (.int l3), some (.int x2)] (And.intro rfl (And.intro rfl (And.intro rfl (And.intro rfl (And.intro rfl True.intro))))) (v5 x1 h1 p1 x2 h2 p2 q3)
    · exact j_le [some (.ref 0), some (.int l1), some (.int l2), some (.int l3), some (.int x2)] (And.intro rfl (And.intro rfl (And.intro rfl (And.intro rfl (And.intro rfl True.intro))))) (v6 x1 h1 p1 x2 h2 p2 q4)
    · exact j_le [some (.ref 0), some (.int l1), some (.int l2), some (.int l3), some (.int x2)] (And.intro rfl (And.intro rfl (And.intro rfl (And.intro rfl (And.intro rfl True.intro))))) (v7 x1 h1 p1 x2 h2 p2 q5)
set_option maxRecDepth 100000 in
theorem bX11_line_128 {sc : Nat × (Nat → Int32)} {h : jH} {Q : jQ} {l1 l2 l3 l4 : Int32} {P1 : Int32 → jH → Prop}
    (k1 : JM mX11_kindOf [.int l4] (jG0 sc) h (jint sc P1))
    (v1 : ∀ (x1 : Int32) (h1 : jH), P1 x1 h1 → Q (.inl (some (.int x1))) (jG0 sc) h1) :
    WP mX11_line Q 128 [some (.ref 0), some (.int l1), some (.int l2), some (.int l3), some (.int l4)] [] (jG0 sc) h (0, 0) := by
  refine j_iload (i := 4) rfl dX11_line_128 ?_
  refine j_callS (idx := 268) (As := [.int l4]) (n := 1) k1 jint_nt (jlkT (jtb5 96 rfl) rfl) sX11_kindOf kX11_kindOf rfl ⟨by decide +kernel, by decide +kernel, by decide +kernel⟩ rfl ⟨by decide, by decide⟩ (Nat.le_of_ble_eq_true rfl) ⟨Nat.zero_le _, Nat.zero_le _⟩ dX11_line_130 (fun r Γ' h1 q => ?_)
  obtain ⟨x1, q0, rfl, p1⟩ := q; cases q0
  refine j_eqst [.int x1] (by rfl) ?_
  exact j_iret rfl rfl (Nat.zero_le _) (Nat.zero_le _) dX11_line_133 (v1 x1 h1 p1)
set_option maxRecDepth 100000 in
theorem bX11_line_134 {sc : Nat × (Nat → Int32)} {h : jH} {Q : jQ} {l1 l2 l3 l4 : Int32} {P1 : Int32 → jH → Prop}
    (k1 : JM mX11_madeOf [.int l4] (jG0 sc) h (jint sc P1))
    (v1 : ∀ (x1 : Int32) (h1 : jH), P1 x1 h1 → Q (.inl (some (.int x1))) (jG0 sc) h1) :
    WP mX11_line Q 134 [some (.ref 0), some (.int l1), some (.int l2), some (.int l3), some (.int l4)] [] (jG0 sc) h (0, 0) := by
  refine j_iload (i := 4) rfl dX11_line_134 ?_
  refine j_callS (idx := 302) (As := [.int l4]) (n := 1) k1 jint_nt (jlkT (jtb5 120 rfl) rfl) sX11_madeOf kX11_madeOf rfl ⟨by decide +kernel, by decide +kernel, by decide +kernel⟩ rfl ⟨by decide, by decide⟩ (Nat.le_of_ble_eq_true rfl) ⟨Nat.zero_le _, Nat.zero_le _⟩ dX11_line_136 (fun r Γ' h1 q => ?_)
  obtain ⟨x1, q0, rfl, p1⟩ := q; cases q0
  refine j_eqst [.int x1] (by rfl) ?_
  exact j_iret rfl rfl (Nat.zero_le _) (Nat.zero_le _) dX11_line_139 (v1 x1 h1 p1)
set_option maxRecDepth 100000 in
theorem bX11_line_140 {sc : Nat × (Nat → Int32)} {h : jH} {Q : jQ} {l1 l2 l3 l4 : Int32} {P1 : Int32 → jH → Prop}
    (k1 : JM mX11_firstOf [.int l4] (jG0 sc) h (jint sc P1))
    (v1 : ∀ (x1 : Int32) (h1 : jH), P1 x1 h1 → Q (.inl (some (.int x1))) (jG0 sc) h1) :
    WP mX11_line Q 140 [some (.ref 0), some (.int l1), some (.int l2), some (.int l3), some (.int l4)] [] (jG0 sc) h (0, 0) := by
  refine j_iload (i := 4) rfl dX11_line_140 ?_
  refine j_callS (idx := 305) (As := [.int l4]) (n := 1) k1 jint_nt (jlkT (jtb5 121 rfl) rfl) sX11_firstOf kX11_firstOf rfl ⟨by decide +kernel, by decide +kernel, by decide +kernel⟩ rfl ⟨by decide, by decide⟩ (Nat.le_of_ble_eq_true rfl) ⟨Nat.zero_le _, Nat.zero_le _⟩ dX11_line_142 (fun r Γ' h1 q => ?_)
  obtain ⟨x1, q0, rfl, p1⟩ := q; cases q0
  refine j_eqst [.int x1] (by rfl) ?_
  exact j_iret rfl rfl (Nat.zero_le _) (Nat.zero_le _) dX11_line_145 (v1 x1 h1 p1)
set_option maxRecDepth 100000 in
theorem bX11_line_146 {sc : Nat × (Nat → Int32)} {h : jH} {Q : jQ} {l1 l2 l3 l4 : Int32} {P1 : Int32 → jH → Prop}
    (k1 : JM mX11_signOf [.int l4] (jG0 sc) h (jint sc P1))
    (v1 : ∀ (x1 : Int32) (h1 : jH), P1 x1 h1 → Q (.inl (some (.int x1))) (jG0 sc) h1) :
    WP mX11_line Q 146 [some (.ref 0), some (.int l1), some (.int l2), some (.int l3), some (.int l4)] [] (jG0 sc) h (0, 0) := by
  refine j_iload (i := 4) rfl dX11_line_146 ?_
  refine j_callS (idx := 308) (As := [.int l4]) (n := 1) k1 jint_nt (jlkT (jtb5 122 rfl) rfl) sX11_signOf kX11_signOf rfl ⟨by decide +kernel, by decide +kernel, by decide +kernel⟩ rfl ⟨by decide, by decide⟩ (Nat.le_of_ble_eq_true rfl) ⟨Nat.zero_le _, Nat.zero_le _⟩ dX11_line_148 (fun r Γ' h1 q => ?_)
  obtain ⟨x1, q0, rfl, p1⟩ := q; cases q0
  refine j_eqst [.int x1] (by rfl) ?_
  exact j_iret rfl rfl (Nat.zero_le _) (Nat.zero_le _) dX11_line_151 (v1 x1 h1 p1)
set_option maxRecDepth 100000 in
theorem bX11_line_152 {sc : Nat × (Nat → Int32)} {h : jH} {Q : jQ} {l1 l2 l3 l4 : Int32} {P1 : Int32 → jH → Prop}
    (k1 : JM mX11_secondOf [.int l4] (jG0 sc) h (jint sc P1))
    (v1 : ∀ (x1 : Int32) (h1 : jH), P1 x1 h1 → Q (.inl (some (.int x1))) (jG0 sc) h1) :
    WP mX11_line Q 152 [some (.ref 0), some (.int l1), some (.int l2), some (.int l3), some (.int l4)] [] (jG0 sc) h (0, 0) := by
  refine j_iload (i := 4) rfl dX11_line_152 ?_
  refine j_callS (idx := 311) (As := [.int l4]) (n := 1) k1 jint_nt (jlkT (jtb5 123 rfl) rfl) sX11_secondOf kX11_secondOf rfl ⟨by decide +kernel, by decide +kernel, by decide +kernel⟩ rfl ⟨by decide, by decide⟩ (Nat.le_of_ble_eq_true rfl) ⟨Nat.zero_le _, Nat.zero_le _⟩ dX11_line_154 (fun r Γ' h1 q => ?_)
  obtain ⟨x1, q0, rfl, p1⟩ := q; cases q0
  refine j_eqst [.int x1] (by rfl) ?_
  exact j_iret rfl rfl (Nat.zero_le _) (Nat.zero_le _) dX11_line_157 (v1 x1 h1 p1)
set_option maxRecDepth 100000 in
theorem bX11_line_158 {sc : Nat × (Nat → Int32)} {h : jH} {Q : jQ} {l1 l2 l3 l4 : Int32} {P1 : Int32 → jH → Prop}
    (k1 : JM mX11_countOf [.int l4] (jG0 sc) h (jint sc P1))
    (v1 : ∀ (x1 : Int32) (h1 : jH), P1 x1 h1 → Q (.inl (some (.int x1))) (jG0 sc) h1) :
    WP mX11_line Q 158 [some (.ref 0), some (.int l1), some (.int l2), some (.int l3), some (.int l4)] [] (jG0 sc) h (0, 0) := by
  refine j_iload (i := 4) rfl dX11_line_158 ?_
  refine j_callS (idx := 314) (As := [.int l4]) (n := 1) k1 jint_nt (jlkT (jtb5 124 rfl) rfl) sX11_countOf kX11_countOf rfl ⟨by decide +kernel, by decide +kernel, by decide +kernel⟩ rfl ⟨by decide, by decide⟩ (Nat.le_of_ble_eq_true rfl) ⟨Nat.zero_le _, Nat.zero_le _⟩ dX11_line_160 (fun r Γ' h1 q => ?_)
  obtain ⟨x1, q0, rfl, p1⟩ := q; cases q0
  refine j_eqst [.int x1] (by rfl) ?_
  exact j_iret rfl rfl (Nat.zero_le _) (Nat.zero_le _) dX11_line_163 (v1 x1 h1 p1)
set_option maxRecDepth 100000 in
theorem bX11_line_164 {sc : Nat × (Nat → Int32)} {h : jH} {Q : jQ} {l1 l2 l3 l4 : Int32}
    (v1 : Q (.inr "java/util/NoSuchElementException") (jG0 sc) h) :
    WP mX11_line Q 164 [some (.ref 0), some (.int l1), some (.int l2), some (.int l3), some (.int l4)] [] (jG0 sc) h (0, 0) := by
  exact j_thr_NSE (is := 236) "no such what" 31 (by decide +kernel) rfl rfl (by decide) (by decide) (Nat.le_of_ble_eq_true rfl) dX11_line_164 dX11_line_167 dX11_line_168 dX11_line_170 dX11_line_173 v1
set_option maxRecDepth 100000 in
theorem rX11_line_0 {sc : Nat × (Nat → Int32)} {h : jH} {Q : jQ} {l1 l2 l3 : Int32} {P1 : Int32 → jH → Prop} {P2 : Int32 → jH → Prop} {P3 : Int32 → jH → Prop} {P4 : Int32 → jH → Prop} {P5 : Int32 → jH → Prop} {P6 : Int32 → jH → Prop} {P7 : Int32 → jH → Prop} {P8 : Int32 → jH → Prop} {P9 : Int32 → jH → Prop} {P10 : Int32 → jH → Prop} {P11 : Int32 → jH → Prop} {P12 : Int32 → jH → Prop} {P13 : Int32 → jH → Prop} {P14 : Int32 → jH → Prop} {P15 : Int32 → jH → Prop} {P16 : Int32 → jH → Prop}
    (v1 : l1 = (-1) → l2 < 0 → Q (.inr "java/lang/IndexOutOfBoundsException") (jG0 sc) h)
    (k1 : l1 = (-1) → ¬ l2 < 0 → l2 < (h 10 1) → JM mX3_shape [.ref 75, .ref 10, .int l1, .ref 89] (jG0 sc) h (jint sc P1))
    (k2 : l1 = (-1) → ¬ l2 < 0 → l2 < (h 10 1) → ∀ (x1 : Int32) (h1 : jH), P1 x1 h1 → JM mX4_lineAt [.ref 89, .int l2] (jG0 sc) h1 (jint sc P2))
    (v2 : l1 = (-1) → ¬ l2 < 0 → l2 < (h 10 1) → ∀ (x1 : Int32) (h1 : jH), P1 x1 h1 → ∀ (x2 : Int32) (h2 : jH), P2 x2 h2 → ((l3 : Int32).toInt < 0 ∨ 5 < (l3 : Int32).toInt) → Q (.inr "java/util/NoSuchElementException") (jG0 sc) h2)
    (k3 : l1 = (-1) → ¬ l2 < 0 → l2 < (h 10 1) → ∀ (x1 : Int32) (h1 : jH), P1 x1 h1 → ∀ (x2 : Int32) (h2 : jH), P2 x2 h2 → (l3 : Int32).toInt = 0 → JM mX11_kindOf [.int x2] (jG0 sc) h2 (jint sc P3))
    (v3 : l1 = (-1) → ¬ l2 < 0 → l2 < (h 10 1) → ∀ (x1 : Int32) (h1 : jH), P1 x1 h1 → ∀ (x2 : Int32) (h2 : jH), P2 x2 h2 → (l3 : Int32).toInt = 0 → ∀ (x3 : Int32) (h3 : jH), P3 x3 h3 → Q (.inl (some (.int x3))) (jG0 sc) h3)
    (k4 : l1 = (-1) → ¬ l2 < 0 → l2 < (h 10 1) → ∀ (x1 : Int32) (h1 : jH), P1 x1 h1 → ∀ (x2 : Int32) (h2 : jH), P2 x2 h2 → (l3 : Int32).toInt = 1 → JM mX11_madeOf [.int x2] (jG0 sc) h2 (jint sc P4))
    (v4 : l1 = (-1) → ¬ l2 < 0 → l2 < (h 10 1) → ∀ (x1 : Int32) (h1 : jH), P1 x1 h1 → ∀ (x2 : Int32) (h2 : jH), P2 x2 h2 → (l3 : Int32).toInt = 1 → ∀ (x4 : Int32) (h4 : jH), P4 x4 h4 → Q (.inl (some (.int x4))) (jG0 sc) h4)
    (k5 : l1 = (-1) → ¬ l2 < 0 → l2 < (h 10 1) → ∀ (x1 : Int32) (h1 : jH), P1 x1 h1 → ∀ (x2 : Int32) (h2 : jH), P2 x2 h2 → (l3 : Int32).toInt = 2 → JM mX11_firstOf [.int x2] (jG0 sc) h2 (jint sc P5))
    (v5 : l1 = (-1) → ¬ l2 < 0 → l2 < (h 10 1) → ∀ (x1 : Int32) (h1 : jH), P1 x1 h1 → ∀ (x2 : Int32) (h2 : jH), P2 x2 h2 → (l3 : Int32).toInt = 2 → ∀ (x5 : Int32) (h5 : jH), P5 x5 h5 → Q (.inl (some (.int x5))) (jG0 sc) h5)
    (k6 : l1 = (-1) → ¬ l2 < 0 → l2 < (h 10 1) → ∀ (x1 : Int32) (h1 : jH), P1 x1 h1 → ∀ (x2 : Int32) (h2 : jH), P2 x2 h2 → (l3 : Int32).toInt = 3 → JM mX11_signOf [.int x2] (jG0 sc) h2 (jint sc P6))
    (v6 : l1 = (-1) → ¬ l2 < 0 → l2 < (h 10 1) → ∀ (x1 : Int32) (h1 : jH), P1 x1 h1 → ∀ (x2 : Int32) (h2 : jH), P2 x2 h2 → (l3 : Int32).toInt = 3 → ∀ (x6 : Int32) (h6 : jH), P6 x6 h6 → Q (.inl (some (.int x6))) (jG0 sc) h6)
    (k7 : l1 = (-1) → ¬ l2 < 0 → l2 < (h 10 1) → ∀ (x1 : Int32) (h1 : jH), P1 x1 h1 → ∀ (x2 : Int32) (h2 : jH), P2 x2 h2 → (l3 : Int32).toInt = 4 → JM mX11_secondOf [.int x2] (jG0 sc) h2 (jint sc P7))
    (v7 : l1 = (-1) → ¬ l2 < 0 → l2 < (h 10 1) → ∀ (x1 : Int32) (h1 : jH), P1 x1 h1 → ∀ (x2 : Int32) (h2 : jH), P2 x2 h2 → (l3 : Int32).toInt = 4 → ∀ (x7 : Int32) (h7 : jH), P7 x7 h7 → Q (.inl (some (.int x7))) (jG0 sc) h7)
    (k8 : l1 = (-1) → ¬ l2 < 0 → l2 < (h 10 1) → ∀ (x1 : Int32) (h1 : jH), P1 x1 h1 → ∀ (x2 : Int32) (h2 : jH), P2 x2 h2 → (l3 : Int32).toInt = 5 → JM mX11_countOf [.int x2] (jG0 sc) h2 (jint sc P8))
    (v8 : l1 = (-1) → ¬ l2 < 0 → l2 < (h 10 1) → ∀ (x1 : Int32) (h1 : jH), P1 x1 h1 → ∀ (x2 : Int32) (h2 : jH), P2 x2 h2 → (l3 : Int32).toInt = 5 → ∀ (x8 : Int32) (h8 : jH), P8 x8 h8 → Q (.inl (some (.int x8))) (jG0 sc) h8)
    (v9 : l1 = (-1) → ¬ l2 < 0 → ¬ l2 < (h 10 1) → Q (.inr "java/lang/IndexOutOfBoundsException") (jG0 sc) h)
    (v10 : ¬ l1 = (-1) → l1 < 0 → Q (.inr "java/lang/IndexOutOfBoundsException") (jG0 sc) h)
    (v11 : ¬ l1 = (-1) → ¬ l1 < 0 → l1 < (h 75 6) → l2 < 0 → Q (.inr "java/lang/IndexOutOfBoundsException") (jG0 sc) h)
    (k9 : ¬ l1 = (-1) → ¬ l1 < 0 → l1 < (h 75 6) → ¬ l2 < 0 → l2 < (h 10 1) → JM mX3_shape [.ref 75, .ref 10, .int l1, .ref 89] (jG0 sc) h (jint sc P9))
    (k10 : ¬ l1 = (-1) → ¬ l1 < 0 → l1 < (h 75 6) → ¬ l2 < 0 → l2 < (h 10 1) → ∀ (x9 : Int32) (h9 : jH), P9 x9 h9 → JM mX4_lineAt [.ref 89, .int l2] (jG0 sc) h9 (jint sc P10))
    (v12 : ¬ l1 = (-1) → ¬ l1 < 0 → l1 < (h 75 6) → ¬ l2 < 0 → l2 < (h 10 1) → ∀ (x9 : Int32) (h9 : jH), P9 x9 h9 → ∀ (x10 : Int32) (h10 : jH), P10 x10 h10 → ((l3 : Int32).toInt < 0 ∨ 5 < (l3 : Int32).toInt) → Q (.inr "java/util/NoSuchElementException") (jG0 sc) h10)
    (k11 : ¬ l1 = (-1) → ¬ l1 < 0 → l1 < (h 75 6) → ¬ l2 < 0 → l2 < (h 10 1) → ∀ (x9 : Int32) (h9 : jH), P9 x9 h9 → ∀ (x10 : Int32) (h10 : jH), P10 x10 h10 → (l3 : Int32).toInt = 0 → JM mX11_kindOf [.int x10] (jG0 sc) h10 (jint sc P11))
    (v13 : ¬ l1 = (-1) → ¬ l1 < 0 → l1 < (h 75 6) → ¬ l2 < 0 → l2 < (h 10 1) → ∀ (x9 : Int32) (h9 : jH), P9 x9 h9 → ∀ (x10 : Int32) (h10 : jH), P10 x10 h10 → (l3 : Int32).toInt = 0 → ∀ (x11 : Int32) (h11 : jH), P11 x11 h11 → Q (.inl (some (.int x11))) (jG0 sc) h11)
    (k12 : ¬ l1 = (-1) → ¬ l1 < 0 → l1 < (h 75 6) → ¬ l2 < 0 → l2 < (h 10 1) → ∀ (x9 : Int32) (h9 : jH), P9 x9 h9 → ∀ (x10 : Int32) (h10 : jH), P10 x10 h10 → (l3 : Int32).toInt = 1 → JM mX11_madeOf [.int x10] (jG0 sc) h10 (jint sc P12))
    (v14 : ¬ l1 = (-1) → ¬ l1 < 0 → l1 < (h 75 6) → ¬ l2 < 0 → l2 < (h 10 1) → ∀ (x9 : Int32) (h9 : jH), P9 x9 h9 → ∀ (x10 : Int32) (h10 : jH), P10 x10 h10 → (l3 : Int32).toInt = 1 → ∀ (x12 : Int32) (h12 : jH), P12 x12 h12 → Q (.inl (some (.int x12))) (jG0 sc) h12)
    (k13 : ¬ l1 = (-1) → ¬ l1 < 0 → l1 < (h 75 6) → ¬ l2 < 0 → l2 < (h 10 1) → ∀ (x9 : Int32) (h9 : jH), P9 x9 h9 → ∀ (x10 : Int32) (h10 : jH), P10 x10 h10 → (l3 : Int32).toInt = 2 → JM mX11_firstOf [.int x10] (jG0 sc) h10 (jint sc P13))
    (v15 : ¬ l1 = (-1) → ¬ l1 < 0 → l1 < (h 75 6) → ¬ l2 < 0 → l2 < (h 10 1) → ∀ (x9 : Int32) (h9 : jH), P9 x9 h9 → ∀ (x10 : Int32) (h10 : jH), P10 x10 h10 → (l3 : Int32).toInt = 2 → ∀ (x13 : Int32) (h13 : jH), P13 x13 h13 → Q (.inl (some (.int x13))) (jG0 sc) h13)
    (k14 : ¬ l1 = (-1) → ¬ l1 < 0 → l1 < (h 75 6) → ¬ l2 < 0 → l2 < (h 10 1) → ∀ (x9 : Int32) (h9 : jH), P9 x9 h9 → ∀ (x10 : Int32) (h10 : jH), P10 x10 h10 → (l3 : Int32).toInt = 3 → JM mX11_signOf [.int x10] (jG0 sc) h10 (jint sc P14))
    (v16 : ¬ l1 = (-1) → ¬ l1 < 0 → l1 < (h 75 6) → ¬ l2 < 0 → l2 < (h 10 1) → ∀ (x9 : Int32) (h9 : jH), P9 x9 h9 → ∀ (x10 : Int32) (h10 : jH), P10 x10 h10 → (l3 : Int32).toInt = 3 → ∀ (x14 : Int32) (h14 : jH), P14 x14 h14 → Q (.inl (some (.int x14))) (jG0 sc) h14)
    (k15 : ¬ l1 = (-1) → ¬ l1 < 0 → l1 < (h 75 6) → ¬ l2 < 0 → l2 < (h 10 1) → ∀ (x9 : Int32) (h9 : jH), P9 x9 h9 → ∀ (x10 : Int32) (h10 : jH), P10 x10 h10 → (l3 : Int32).toInt = 4 → JM mX11_secondOf [.int x10] (jG0 sc) h10 (jint sc P15))
    (v17 : ¬ l1 = (-1) → ¬ l1 < 0 → l1 < (h 75 6) → ¬ l2 < 0 → l2 < (h 10 1) → ∀ (x9 : Int32) (h9 : jH), P9 x9 h9 → ∀ (x10 : Int32) (h10 : jH), P10 x10 h10 → (l3 : Int32).toInt = 4 → ∀ (x15 : Int32) (h15 : jH), P15 x15 h15 → Q (.inl (some (.int x15))) (jG0 sc) h15)
    (k16 : ¬ l1 = (-1) → ¬ l1 < 0 → l1 < (h 75 6) → ¬ l2 < 0 → l2 < (h 10 1) → ∀ (x9 : Int32) (h9 : jH), P9 x9 h9 → ∀ (x10 : Int32) (h10 : jH), P10 x10 h10 → (l3 : Int32).toInt = 5 → JM mX11_countOf [.int x10] (jG0 sc) h10 (jint sc P16))
    (v18 : ¬ l1 = (-1) → ¬ l1 < 0 → l1 < (h 75 6) → ¬ l2 < 0 → l2 < (h 10 1) → ∀ (x9 : Int32) (h9 : jH), P9 x9 h9 → ∀ (x10 : Int32) (h10 : jH), P10 x10 h10 → (l3 : Int32).toInt = 5 → ∀ (x16 : Int32) (h16 : jH), P16 x16 h16 → Q (.inl (some (.int x16))) (jG0 sc) h16)
    (v19 : ¬ l1 = (-1) → ¬ l1 < 0 → l1 < (h 75 6) → ¬ l2 < 0 → ¬ l2 < (h 10 1) → Q (.inr "java/lang/IndexOutOfBoundsException") (jG0 sc) h)
    (v20 : ¬ l1 = (-1) → ¬ l1 < 0 → ¬ l1 < (h 75 6) → Q (.inr "java/lang/IndexOutOfBoundsException") (jG0 sc) h) :
    WP mX11_line Q 0 [some (.ref 0), some (.int l1), some (.int l2), some (.int l3), none] [] (jG0 sc) h (0, 0) := by
  exact (bX11_line_0 (fun c1 => (bX11_line_31 (fun c2 => (bX11_line_49 (v1 c1 c2))) (fun c2 => (bX11_line_35 (fun c3 => (bX11_line_59 (k1 c1 c2 c3) (fun x1 h1 p1 => (k2 c1 c2 c3 x1 h1 p1)) (fun x1 h1 p1 x2 h2 p2 c4 => (bX11_line_164 (v2 c1 c2 c3 x1 h1 p1 x2 h2 p2 c4))) (fun x1 h1 p1 x2 h2 p2 q0 => (bX11_line_128 (k3 c1 c2 c3 x1 h1 p1 x2 h2 p2 q0) (fun x3 h3 p3 => (v3 c1 c2 c3 x1 h1 p1 x2 h2 p2 q0 x3 h3 p3)))) (fun x1 h1 p1 x2 h2 p2 q1 => (bX11_line_134 (k4 c1 c2 c3 x1 h1 p1 x2 h2 p2 q1) (fun x4 h4 p4 => (v4 c1 c2 c3 x1 h1 p1 x2 h2 p2 q1 x4 h4 p4)))) (fun x1 h1 p1 x2 h2 p2 q2 => (bX11_line_140 (k5 c1 c2 c3 x1 h1 p1 x2 h2 p2 q2) (fun x5 h5 p5 => (v5 c1 c2 c3 x1 h1 p1 x2 h2 p2 q2 x5 h5 p5)))) (fun x1 h1 p1 x2 h2 p2 q3 => (bX11_line_146 (k6 c1 c2 c3 x1 h1 p1 x2 h2 p2 q3) (fun x6 h6 p6 => (v6 c1 c2 c3 x1 h1 p1 x2 h2 p2 q3 x6 h6 p6)))) (fun x1 h1 p1 x2 h2 p2 q4 => (bX11_line_152 (k7 c1 c2 c3 x1 h1 p1 x2 h2 p2 q4) (fun x7 h7 p7 => (v7 c1 c2 c3 x1 h1 p1 x2 h2 p2 q4 x7 h7 p7)))) (fun x1 h1 p1 x2 h2 p2 q5 => (bX11_line_158 (k8 c1 c2 c3 x1 h1 p1 x2 h2 p2 q5) (fun x8 h8 p8 => (v8 c1 c2 c3 x1 h1 p1 x2 h2 p2 q5 x8 h8 p8)))))) (fun c3 => (bX11_line_49 (v9 c1 c2 c3))))))) (fun c1 => (bX11_line_5 (fun c5 => (bX11_line_20 (v10 c1 c5))) (fun c5 => (bX11_line_9 (fun c6 => (bX11_line_31 (fun c7 => (bX11_line_49 (v11 c1 c5 c6 c7))) (fun c7 => (bX11_line_35 (fun c8 => (bX11_line_59 (k9 c1 c5 c6 c7 c8) (fun x9 h9 p9 => (k10 c1 c5 c6 c7 c8 x9 h9 p9)) (fun x9 h9 p9 x10 h10 p10 c9 => (bX11_line_164 (v12 c1 c5 c6 c7 c8 x9 h9 p9 x10 h10 p10 c9))) (fun x9 h9 p9 x10 h10 p10 q0 => (bX11_line_128 (k11 c1 c5 c6 c7 c8 x9 h9 p9 x10 h10 p10 q0) (fun x11 h11 p11 => (v13 c1 c5 c6 c7 c8 x9 h9 p9 x10 h10 p10 q0 x11 h11 p11)))) (fun x9 h9 p9 x10 h10 p10 q1 => (bX11_line_134 (k12 c1 c5 c6 c7 c8 x9 h9 p9 x10 h10 p10 q1) (fun x12 h12 p12 => (v14 c1 c5 c6 c7 c8 x9 h9 p9 x10 h10 p10 q1 x12 h12 p12)))) (fun x9 h9 p9 x10 h10 p10 q2 => (bX11_line_140 (k13 c1 c5 c6 c7 c8 x9 h9 p9 x10 h10 p10 q2) (fun x13 h13 p13 => (v15 c1 c5 c6 c7 c8 x9 h9 p9 x10 h10 p10 q2 x13 h13 p13)))) (fun x9 h9 p9 x10 h10 p10 q3 => (bX11_line_146 (k14 c1 c5 c6 c7 c8 x9 h9 p9 x10 h10 p10 q3) (fun x14 h14 p14 => (v16 c1 c5 c6 c7 c8 x9 h9 p9 x10 h10 p10 q3 x14 h14 p14)))) (fun x9 h9 p9 x10 h10 p10 q4 => (bX11_line_152 (k15 c1 c5 c6 c7 c8 x9 h9 p9 x10 h10 p10 q4) (fun x15 h15 p15 => (v17 c1 c5 c6 c7 c8 x9 h9 p9 x10 h10 p10 q4 x15 h15 p15)))) (fun x9 h9 p9 x10 h10 p10 q5 => (bX11_line_158 (k16 c1 c5 c6 c7 c8 x9 h9 p9 x10 h10 p10 q5) (fun x16 h16 p16 => (v18 c1 c5 c6 c7 c8 x9 h9 p9 x10 h10 p10 q5 x16 h16 p16)))))) (fun c8 => (bX11_line_49 (v19 c1 c5 c6 c7 c8))))))) (fun c6 => (bX11_line_20 (v20 c1 c5 c6))))))))
theorem dX11_tries_0 : decode (mC mX11_tries) 0 = .ok (.iload_n 1, 1) := by decide +kernel
theorem dX11_tries_1 : decode (mC mX11_tries) 1 = .ok (.ifCond .lt 10, 3) := by decide +kernel
theorem dX11_tries_4 : decode (mC mX11_tries) 4 = .ok (.iload_n 1, 1) := by decide +kernel
theorem dX11_tries_5 : decode (mC mX11_tries) 5 = .ok (.sipush 400, 3) := by decide +kernel
theorem dX11_tries_8 : decode (mC mX11_tries) 8 = .ok (.if_icmp .le 14, 3) := by decide +kernel
theorem dX11_tries_11 : decode (mC mX11_tries) 11 = .ok (.new 110, 3) := by decide +kernel
theorem dX11_tries_14 : decode (mC mX11_tries) 14 = .ok (.dup, 1) := by decide +kernel
theorem dX11_tries_15 : decode (mC mX11_tries) 15 = .ok (.ldc_w 317, 3) := by decide +kernel
theorem dX11_tries_18 : decode (mC mX11_tries) 18 = .ok (.invokespecial 114, 3) := by decide +kernel
theorem dX11_tries_21 : decode (mC mX11_tries) 21 = .ok (.athrow, 1) := by decide +kernel
theorem dX11_tries_22 : decode (mC mX11_tries) 22 = .ok (.aload_n 0, 1) := by decide +kernel
theorem dX11_tries_23 : decode (mC mX11_tries) 23 = .ok (.invokevirtual 213, 3) := by decide +kernel
theorem dX11_tries_26 : decode (mC mX11_tries) 26 = .ok (.ifCond .ne 13, 3) := by decide +kernel
theorem dX11_tries_29 : decode (mC mX11_tries) 29 = .ok (.new 203, 3) := by decide +kernel
theorem dX11_tries_32 : decode (mC mX11_tries) 32 = .ok (.dup, 1) := by decide +kernel
theorem dX11_tries_33 : decode (mC mX11_tries) 33 = .ok (.ldc 217, 2) := by decide +kernel
theorem dX11_tries_35 : decode (mC mX11_tries) 35 = .ok (.invokespecial 207, 3) := by decide +kernel
theorem dX11_tries_38 : decode (mC mX11_tries) 38 = .ok (.athrow, 1) := by decide +kernel
theorem dX11_tries_39 : decode (mC mX11_tries) 39 = .ok (.aload_n 0, 1) := by decide +kernel
theorem dX11_tries_40 : decode (mC mX11_tries) 40 = .ok (.getfield 37, 3) := by decide +kernel
theorem dX11_tries_43 : decode (mC mX11_tries) 43 = .ok (.getfield 151, 3) := by decide +kernel
theorem dX11_tries_46 : decode (mC mX11_tries) 46 = .ok (.astore_n 2, 1) := by decide +kernel
theorem dX11_tries_47 : decode (mC mX11_tries) 47 = .ok (.iconst 0, 1) := by decide +kernel
theorem dX11_tries_48 : decode (mC mX11_tries) 48 = .ok (.istore_n 3, 1) := by decide +kernel
theorem dX11_tries_49 : decode (mC mX11_tries) 49 = .ok (.iload_n 3, 1) := by decide +kernel
theorem dX11_tries_50 : decode (mC mX11_tries) 50 = .ok (.iload_n 1, 1) := by decide +kernel
theorem dX11_tries_51 : decode (mC mX11_tries) 51 = .ok (.if_icmp .ge 48, 3) := by decide +kernel
theorem dX11_tries_54 : decode (mC mX11_tries) 54 = .ok (.aload_n 0, 1) := by decide +kernel
theorem dX11_tries_55 : decode (mC mX11_tries) 55 = .ok (.getfield 61, 3) := by decide +kernel
theorem dX11_tries_58 : decode (mC mX11_tries) 58 = .ok (.aload_n 0, 1) := by decide +kernel
theorem dX11_tries_59 : decode (mC mX11_tries) 59 = .ok (.getfield 37, 3) := by decide +kernel
theorem dX11_tries_62 : decode (mC mX11_tries) 62 = .ok (.getfield 127, 3) := by decide +kernel
theorem dX11_tries_65 : decode (mC mX11_tries) 65 = .ok (.aload_n 2, 1) := by decide +kernel
theorem dX11_tries_66 : decode (mC mX11_tries) 66 = .ok (.getfield 319, 3) := by decide +kernel
theorem dX11_tries_69 : decode (mC mX11_tries) 69 = .ok (.aload_n 0, 1) := by decide +kernel
theorem dX11_tries_70 : decode (mC mX11_tries) 70 = .ok (.getfield 71, 3) := by decide +kernel
theorem dX11_tries_73 : decode (mC mX11_tries) 73 = .ok (.invokevirtual 192, 3) := by decide +kernel
theorem dX11_tries_76 : decode (mC mX11_tries) 76 = .ok (.ifCond .ne 5, 3) := by decide +kernel
theorem dX11_tries_79 : decode (mC mX11_tries) 79 = .ok (.iload_n 3, 1) := by decide +kernel
theorem dX11_tries_80 : decode (mC mX11_tries) 80 = .ok (.ireturn, 1) := by decide +kernel
theorem dX11_tries_81 : decode (mC mX11_tries) 81 = .ok (.aload_n 2, 1) := by decide +kernel
theorem dX11_tries_82 : decode (mC mX11_tries) 82 = .ok (.aload_n 0, 1) := by decide +kernel
theorem dX11_tries_83 : decode (mC mX11_tries) 83 = .ok (.aload_n 0, 1) := by decide +kernel
theorem dX11_tries_84 : decode (mC mX11_tries) 84 = .ok (.getfield 71, 3) := by decide +kernel
theorem dX11_tries_87 : decode (mC mX11_tries) 87 = .ok (.invokevirtual 322, 3) := by decide +kernel
theorem dX11_tries_90 : decode (mC mX11_tries) 90 = .ok (.invokevirtual 325, 3) := by decide +kernel
theorem dX11_tries_93 : decode (mC mX11_tries) 93 = .ok (.iinc 3 1, 3) := by decide +kernel
theorem dX11_tries_96 : decode (mC mX11_tries) 96 = .ok (.goto (-47), 3) := by decide +kernel
theorem dX11_tries_99 : decode (mC mX11_tries) 99 = .ok (.iload_n 1, 1) := by decide +kernel
theorem dX11_tries_100 : decode (mC mX11_tries) 100 = .ok (.ireturn, 1) := by decide +kernel
set_option maxRecDepth 100000 in
theorem bX11_tries_0 {sc : Nat × (Nat → Int32)} {h : jH} {Q : jQ} {l1 : Int32}
    (v1 : l1 < 0 → WP mX11_tries Q 11 [some (.ref 0), some (.int l1), none, none] [] (jG0 sc) h (0, 0))
    (v2 : ¬ l1 < 0 → WP mX11_tries Q 4 [some (.ref 0), some (.int l1), none, none] [] (jG0 sc) h (0, 0)) :
    WP mX11_tries Q 0 [some (.ref 0), some (.int l1), none, none] [] (jG0 sc) h (0, 0) := by
  refine j_iload_n (i := 1) rfl dX11_tries_0 ?_
  refine j_if_lt (off := 10) 11 dX11_tries_1 (by decide) (fun c1 => ?_) (fun c1 => ?_)
  · exact j_le [some (.ref 0), some (.int l1), none, none] (And.intro rfl (And.intro rfl True.intro)) (v1 c1)
  · exact j_le [some (.ref 0), some (.int l1), none, none] (And.intro rfl (And.intro rfl True.intro)) (v2 c1)
set_option maxRecDepth 100000 in
theorem bX11_tries_4 {sc : Nat × (Nat → Int32)} {h : jH} {Q : jQ} {l1 : Int32}
    (v1 : l1 ≤ 400 → WP mX11_tries Q 22 [some (.ref 0), some (.int l1), none, none] [] (jG0 sc) h (0, 0))
    (v2 : ¬ l1 ≤ 400 → WP mX11_tries Q 11 [some (.ref 0), some (.int l1), none, none] [] (jG0 sc) h (0, 0)) :
    WP mX11_tries Q 4 [some (.ref 0), some (.int l1), none, none] [] (jG0 sc) h (0, 0) := by
  refine j_iload_n (i := 1) rfl dX11_tries_4 ?_
  refine j_sipush (n := 400) 400 (by decide) dX11_tries_5 ?_
  refine j_icmp_le (off := 14) 22 dX11_tries_8 (by decide) (fun c1 => ?_) (fun c1 => ?_)
  · exact j_le [some (.ref 0), some (.int l1), none, none] (And.intro rfl (And.intro rfl True.intro)) (v1 c1)
  · exact j_le [some (.ref 0), some (.int l1), none, none] (And.intro rfl (And.intro rfl True.intro)) (v2 c1)
set_option maxRecDepth 100000 in
theorem bX11_tries_11 {sc : Nat × (Nat → Int32)} {h : jH} {Q : jQ} {l1 : Int32}
    (v1 : Q (.inr "java/lang/IllegalArgumentException") (jG0 sc) h) :
    WP mX11_tries Q 11 [some (.ref 0), some (.int l1), none, none] [] (jG0 sc) h (0, 0) := by
  exact j_thrW_IAE (is := 317) "not 0 to 400" 34 (by decide +kernel) rfl rfl (by decide) (by decide) (Nat.le_of_ble_eq_true rfl) dX11_tries_11 dX11_tries_14 dX11_tries_15 dX11_tries_18 dX11_tries_21 v1
set_option maxRecDepth 100000 in
theorem bX11_tries_22 {sc : Nat × (Nat → Int32)} {h : jH} {Q : jQ} {l1 : Int32} {P1 : Int32 → jH → Prop}
    (k1 : JM mX11_hasBody [.ref 0] (jG0 sc) h (jint sc P1))
    (v1 : ∀ (x1 : Int32) (h1 : jH), P1 x1 h1 → ¬ x1 = 0 → WP mX11_tries Q 39 [some (.ref 0), some (.int l1), none, none] [] (jG0 sc) h1 (0, 0))
    (v2 : ∀ (x1 : Int32) (h1 : jH), P1 x1 h1 → x1 = 0 → WP mX11_tries Q 29 [some (.ref 0), some (.int l1), none, none] [] (jG0 sc) h1 (0, 0)) :
    WP mX11_tries Q 22 [some (.ref 0), some (.int l1), none, none] [] (jG0 sc) h (0, 0) := by
  refine j_aload_n (i := 0) rfl dX11_tries_22 ?_
  refine j_callV (idx := 213) (As := []) (ci := 11) (n := 0) k1 jint_nt (jlkT (jtb3 180 rfl) rfl) sX11_hasBody kX11_hasBody rfl ⟨rfl, by decide +kernel, by decide +kernel, by decide +kernel⟩ rfl ⟨by decide, by decide⟩ (Nat.le_of_ble_eq_true rfl) rfl (Nat.le_of_ble_eq_true rfl) (Nat.le_of_ble_eq_true rfl) ⟨Nat.zero_le _, Nat.zero_le _⟩ dX11_tries_23 (fun r Γ' h1 q => ?_)
  obtain ⟨x1, q0, rfl, p1⟩ := q; cases q0
  refine j_eqst [.int x1] (by rfl) ?_
  refine j_if_ne (off := 13) 39 dX11_tries_26 (by decide) (fun c1 => ?_) (fun c1 => ?_)
  · exact j_le [some (.ref 0), some (.int l1), none, none] (And.intro rfl (And.intro rfl True.intro)) (v1 x1 h1 p1 c1)
  · exact j_le [some (.ref 0), some (.int l1), none, none] (And.intro rfl (And.intro rfl True.intro)) (v2 x1 h1 p1 c1)
set_option maxRecDepth 100000 in
theorem bX11_tries_29 {sc : Nat × (Nat → Int32)} {h : jH} {Q : jQ} {l1 : Int32}
    (v1 : Q (.inr "java/lang/IllegalStateException") (jG0 sc) h) :
    WP mX11_tries Q 29 [some (.ref 0), some (.int l1), none, none] [] (jG0 sc) h (0, 0) := by
  exact j_thr_ISE (is := 217) "there is no BODY" 30 (by decide +kernel) rfl rfl (by decide) (by decide) (Nat.le_of_ble_eq_true rfl) dX11_tries_29 dX11_tries_32 dX11_tries_33 dX11_tries_35 dX11_tries_38 v1
set_option maxRecDepth 100000 in
theorem bX11_tries_39 {sc : Nat × (Nat → Int32)} {h : jH} {Q : jQ} {l1 : Int32}
    (v1 : WP mX11_tries Q 49 [some (.ref 0), some (.int l1), some (.ref 20), some (.int 0)] [] (jG0 sc) h (0, 0)) :
    WP mX11_tries Q 39 [some (.ref 0), some (.int l1), none, none] [] (jG0 sc) h (0, 0) := by
  refine j_aload_n (i := 0) rfl dX11_tries_39 ?_
  refine j_getR (idx := 37) (ci := 11) (k := 4) (nest := false) (show (11, 37, 11, 4, false) ∈ jFT by decide) rfl (Nat.le_of_ble_eq_true rfl) rfl (a := 9) rfl dX11_tries_40 ?_
  refine j_getR (idx := 151) (ci := 6) (k := 4) (nest := true) (show (11, 151, 6, 4, true) ∈ jFT by decide) rfl (Nat.le_of_ble_eq_true rfl) rfl (a := 20) rfl dX11_tries_43 ?_
  refine j_astore_n (i := 2) dX11_tries_46 (Nat.le_of_ble_eq_true rfl) ?_
  refine j_iconst (n := 0) 0 (by decide) dX11_tries_47 ?_
  refine j_istore_n (i := 3) dX11_tries_48 (Nat.le_of_ble_eq_true rfl) ?_
  exact j_le [some (.ref 0), some (.int l1), some (.ref 20), some (.int 0)] (And.intro rfl (And.intro rfl (And.intro rfl (And.intro rfl True.intro)))) v1
set_option maxRecDepth 100000 in
theorem bX11_tries_49 {sc : Nat × (Nat → Int32)} {h : jH} {Q : jQ} {l1 l3 : Int32}
    (v1 : l1 ≤ l3 → WP mX11_tries Q 99 [some (.ref 0), some (.int l1), some (.ref 20), some (.int l3)] [] (jG0 sc) h (0, 0))
    (v2 : ¬ l1 ≤ l3 → WP mX11_tries Q 54 [some (.ref 0), some (.int l1), some (.ref 20), some (.int l3)] [] (jG0 sc) h (0, 0)) :
    WP mX11_tries Q 49 [some (.ref 0), some (.int l1), some (.ref 20), some (.int l3)] [] (jG0 sc) h (0, 0) := by
  refine j_iload_n (i := 3) rfl dX11_tries_49 ?_
  refine j_iload_n (i := 1) rfl dX11_tries_50 ?_
  refine j_icmp_ge (off := 48) 99 dX11_tries_51 (by decide) (fun c1 => ?_) (fun c1 => ?_)
  · exact j_le [some (.ref 0), some (.int l1), some (.ref 20), some (.int l3)] (And.intro rfl (And.intro rfl (And.intro rfl (And.intro rfl True.intro)))) (v1 c1)
  · exact j_le [some (.ref 0), some (.int l1), some (.ref 20), some (.int l3)] (And.intro rfl (And.intro rfl (And.intro rfl (And.intro rfl True.intro)))) (v2 c1)
set_option maxRecDepth 100000 in
theorem bX11_tries_54 {sc : Nat × (Nat → Int32)} {h : jH} {Q : jQ} {l1 l3 : Int32} {P1 : Int32 → jH → Prop}
    (k1 : JM mX3_shape [.ref 75, .ref 10, .int (h 20 2), .ref 89] (jG0 sc) h (jint sc P1))
    (v1 : ∀ (x1 : Int32) (h1 : jH), P1 x1 h1 → ¬ x1 = 0 → WP mX11_tries Q 81 [some (.ref 0), some (.int l1), some (.ref 20), some (.int l3)] [] (jG0 sc) h1 (0, 0))
    (v2 : ∀ (x1 : Int32) (h1 : jH), P1 x1 h1 → x1 = 0 → WP mX11_tries Q 79 [some (.ref 0), some (.int l1), some (.ref 20), some (.int l3)] [] (jG0 sc) h1 (0, 0)) :
    WP mX11_tries Q 54 [some (.ref 0), some (.int l1), some (.ref 20), some (.int l3)] [] (jG0 sc) h (0, 0) := by
  refine j_aload_n (i := 0) rfl dX11_tries_54 ?_
  refine j_getR (idx := 61) (ci := 11) (k := 9) (nest := false) (show (11, 61, 11, 9, false) ∈ jFT by decide) rfl (Nat.le_of_ble_eq_true rfl) rfl (a := 75) rfl dX11_tries_55 ?_
  refine j_aload_n (i := 0) rfl dX11_tries_58 ?_
  refine j_getR (idx := 37) (ci := 11) (k := 4) (nest := false) (show (11, 37, 11, 4, false) ∈ jFT by decide) rfl (Nat.le_of_ble_eq_true rfl) rfl (a := 9) rfl dX11_tries_59 ?_
  refine j_getR (idx := 127) (ci := 6) (k := 0) (nest := true) (show (11, 127, 6, 0, true) ∈ jFT by decide) rfl (Nat.le_of_ble_eq_true rfl) rfl (a := 10) rfl dX11_tries_62 ?_
  refine j_aload_n (i := 2) rfl dX11_tries_65 ?_
  refine j_getI (idx := 319) (ci := 9) (k := 2) (nest := true) (show (11, 319, 9, 2, true) ∈ jFT by decide) rfl (Nat.le_of_ble_eq_true rfl) rfl dX11_tries_66 ?_
  refine j_aload_n (i := 0) rfl dX11_tries_69 ?_
  refine j_getR (idx := 71) (ci := 11) (k := 11) (nest := false) (show (11, 71, 11, 11, false) ∈ jFT by decide) rfl (Nat.le_of_ble_eq_true rfl) rfl (a := 89) rfl dX11_tries_70 ?_
  refine j_callVN (idx := 192) (As := [.ref 10, .int (h 20 2), .ref 89]) (ci := 3) (n := 3) k1 jint_nt (jTbl (jtb2 199 rfl)) sX3_shape kX3_shape rfl ⟨rfl, by decide +kernel, by decide +kernel, by decide +kernel⟩ rfl ⟨by decide, by decide⟩ (Nat.le_of_ble_eq_true rfl) rfl (Nat.le_of_ble_eq_true rfl) (Nat.le_of_ble_eq_true rfl) ⟨Nat.zero_le _, Nat.zero_le _⟩ dX11_tries_73 (fun r Γ' h1 q => ?_)
  obtain ⟨x1, q0, rfl, p1⟩ := q; cases q0
  refine j_eqst [.int x1] (by rfl) ?_
  refine j_if_ne (off := 5) 81 dX11_tries_76 (by decide) (fun c1 => ?_) (fun c1 => ?_)
  · exact j_le [some (.ref 0), some (.int l1), some (.ref 20), some (.int l3)] (And.intro rfl (And.intro rfl (And.intro rfl (And.intro rfl True.intro)))) (v1 x1 h1 p1 c1)
  · exact j_le [some (.ref 0), some (.int l1), some (.ref 20), some (.int l3)] (And.intro rfl (And.intro rfl (And.intro rfl (And.intro rfl True.intro)))) (v2 x1 h1 p1 c1)
set_option maxRecDepth 100000 in
theorem bX11_tries_79 {sc : Nat × (Nat → Int32)} {h : jH} {Q : jQ} {l1 l3 : Int32}
    (v1 : Q (.inl (some (.int l3))) (jG0 sc) h) :
    WP mX11_tries Q 79 [some (.ref 0), some (.int l1), some (.ref 20), some (.int l3)] [] (jG0 sc) h (0, 0) := by
  refine j_iload_n (i := 3) rfl dX11_tries_79 ?_
  exact j_iret rfl rfl (Nat.zero_le _) (Nat.zero_le _) dX11_tries_80 v1
set_option maxRecDepth 100000 in
theorem bX11_tries_81 {sc : Nat × (Nat → Int32)} {h : jH} {Q : jQ} {l1 l3 : Int32} {P1 : Int32 → jH → Prop} {P2 : jH → Prop}
    (k1 : JM mX11_firstWrong [.ref 0, .ref 89] (jG0 sc) h (jint sc P1))
    (k2 : ∀ (x1 : Int32) (h1 : jH), P1 x1 h1 → JM mX9_add [.ref 20, .int x1] (jG0 sc) h1 (jvoid sc P2))
    (v1 : ∀ (x1 : Int32) (h1 : jH), P1 x1 h1 → ∀ h2 : jH, P2 h2 → WP mX11_tries Q 49 [some (.ref 0), some (.int l1), some (.ref 20), some (.int (l3 + 1))] [] (jG0 sc) h2 (0, 0)) :
    WP mX11_tries Q 81 [some (.ref 0), some (.int l1), some (.ref 20), some (.int l3)] [] (jG0 sc) h (0, 0) := by
  refine j_aload_n (i := 2) rfl dX11_tries_81 ?_
  refine j_aload_n (i := 0) rfl dX11_tries_82 ?_
  refine j_aload_n (i := 0) rfl dX11_tries_83 ?_
  refine j_getR (idx := 71) (ci := 11) (k := 11) (nest := false) (show (11, 71, 11, 11, false) ∈ jFT by decide) rfl (Nat.le_of_ble_eq_true rfl) rfl (a := 89) rfl dX11_tries_84 ?_
  refine j_callV (idx := 322) (As := [.ref 89]) (ci := 11) (n := 1) k1 jint_nt (jlkT (jtb5 133 rfl) rfl) sX11_firstWrong kX11_firstWrong rfl ⟨rfl, by decide +kernel, by decide +kernel, by decide +kernel⟩ rfl ⟨by decide, by decide⟩ (Nat.le_of_ble_eq_true rfl) rfl (Nat.le_of_ble_eq_true rfl) (Nat.le_of_ble_eq_true rfl) ⟨Nat.zero_le _, Nat.zero_le _⟩ dX11_tries_87 (fun r Γ' h1 q => ?_)
  obtain ⟨x1, q0, rfl, p1⟩ := q; cases q0
  refine j_eqst [.int x1, .ref 20] (by rfl) ?_
  refine j_callVN (idx := 325) (As := [.int x1]) (ci := 9) (n := 1) (k2 x1 h1 p1) jvoid_nt (jTbl (jtb5 137 rfl)) sX9_add kX9_add rfl ⟨rfl, by decide +kernel, by decide +kernel, by decide +kernel⟩ rfl ⟨by decide, by decide⟩ (Nat.le_of_ble_eq_true rfl) rfl (Nat.le_of_ble_eq_true rfl) (Nat.le_of_ble_eq_true rfl) ⟨Nat.zero_le _, Nat.zero_le _⟩ dX11_tries_90 (fun r Γ' h2 q => ?_)
  obtain ⟨q0, rfl, p2⟩ := q; cases q0
  refine j_eqst [] (by rfl) ?_
  refine j_iinc (i := 3) (n := 1) rfl dX11_tries_93 (Nat.le_of_ble_eq_true rfl) ?_
  refine j_eqlv [some (.ref 0), some (.int l1), some (.ref 20), some (.int (l3 + 1))] rfl ?_
  refine j_goto (off := -47) 49 dX11_tries_96 (by decide) ?_
  exact j_le [some (.ref 0), some (.int l1), some (.ref 20), some (.int (l3 + 1))] (And.intro rfl (And.intro rfl (And.intro rfl (And.intro rfl True.intro)))) (v1 x1 h1 p1 h2 p2)
set_option maxRecDepth 100000 in
theorem bX11_tries_99 {sc : Nat × (Nat → Int32)} {h : jH} {Q : jQ} {l1 l3 : Int32}
    (v1 : Q (.inl (some (.int l1))) (jG0 sc) h) :
    WP mX11_tries Q 99 [some (.ref 0), some (.int l1), some (.ref 20), some (.int l3)] [] (jG0 sc) h (0, 0) := by
  refine j_iload_n (i := 1) rfl dX11_tries_99 ?_
  exact j_iret rfl rfl (Nat.zero_le _) (Nat.zero_le _) dX11_tries_100 v1
set_option maxRecDepth 100000 in
theorem rX11_tries_0 {sc : Nat × (Nat → Int32)} {h : jH} {Q : jQ} {l1 : Int32} {P1 : Int32 → jH → Prop}
    (v1 : l1 < 0 → Q (.inr "java/lang/IllegalArgumentException") (jG0 sc) h)
    (k1 : ¬ l1 < 0 → l1 ≤ 400 → JM mX11_hasBody [.ref 0] (jG0 sc) h (jint sc P1))
    (v2 : ¬ l1 < 0 → l1 ≤ 400 → ∀ (x1 : Int32) (h1 : jH), P1 x1 h1 → ¬ x1 = 0 → WP mX11_tries Q 49 [some (.ref 0), some (.int l1), some (.ref 20), some (.int 0)] [] (jG0 sc) h1 (0, 0))
    (v3 : ¬ l1 < 0 → l1 ≤ 400 → ∀ (x1 : Int32) (h1 : jH), P1 x1 h1 → x1 = 0 → Q (.inr "java/lang/IllegalStateException") (jG0 sc) h1)
    (v4 : ¬ l1 < 0 → ¬ l1 ≤ 400 → Q (.inr "java/lang/IllegalArgumentException") (jG0 sc) h) :
    WP mX11_tries Q 0 [some (.ref 0), some (.int l1), none, none] [] (jG0 sc) h (0, 0) := by
  exact (bX11_tries_0 (fun c1 => (bX11_tries_11 (v1 c1))) (fun c1 => (bX11_tries_4 (fun c2 => (bX11_tries_22 (k1 c1 c2) (fun x1 h1 p1 c3 => (bX11_tries_39 (v2 c1 c2 x1 h1 p1 c3))) (fun x1 h1 p1 c3 => (bX11_tries_29 (v3 c1 c2 x1 h1 p1 c3))))) (fun c2 => (bX11_tries_11 (v4 c1 c2))))))
set_option maxRecDepth 100000 in
theorem rX11_tries_49 {sc : Nat × (Nat → Int32)} {h : jH} {Q : jQ} {l1 l3 : Int32} {P1 : Int32 → jH → Prop} {P2 : Int32 → jH → Prop} {P3 : jH → Prop}
    (v1 : l1 ≤ l3 → Q (.inl (some (.int l1))) (jG0 sc) h)
    (k1 : ¬ l1 ≤ l3 → JM mX3_shape [.ref 75, .ref 10, .int (h 20 2), .ref 89] (jG0 sc) h (jint sc P1))
    (k2 : ¬ l1 ≤ l3 → ∀ (x1 : Int32) (h1 : jH), P1 x1 h1 → ¬ x1 = 0 → JM mX11_firstWrong [.ref 0, .ref 89] (jG0 sc) h1 (jint sc P2))
    (k3 : ¬ l1 ≤ l3 → ∀ (x1 : Int32) (h1 : jH), P1 x1 h1 → ¬ x1 = 0 → ∀ (x2 : Int32) (h2 : jH), P2 x2 h2 → JM mX9_add [.ref 20, .int x2] (jG0 sc) h2 (jvoid sc P3))
    (v2 : ¬ l1 ≤ l3 → ∀ (x1 : Int32) (h1 : jH), P1 x1 h1 → ¬ x1 = 0 → ∀ (x2 : Int32) (h2 : jH), P2 x2 h2 → ∀ h3 : jH, P3 h3 → WP mX11_tries Q 49 [some (.ref 0), some (.int l1), some (.ref 20), some (.int (l3 + 1))] [] (jG0 sc) h3 (0, 0))
    (v3 : ¬ l1 ≤ l3 → ∀ (x1 : Int32) (h1 : jH), P1 x1 h1 → x1 = 0 → Q (.inl (some (.int l3))) (jG0 sc) h1) :
    WP mX11_tries Q 49 [some (.ref 0), some (.int l1), some (.ref 20), some (.int l3)] [] (jG0 sc) h (0, 0) := by
  exact (bX11_tries_49 (fun c1 => (bX11_tries_99 (v1 c1))) (fun c1 => (bX11_tries_54 (k1 c1) (fun x1 h1 p1 c2 => (bX11_tries_81 (k2 c1 x1 h1 p1 c2) (fun x2 h2 p2 => (k3 c1 x1 h1 p1 c2 x2 h2 p2)) (fun x2 h2 p2 h3 p3 => (v2 c1 x1 h1 p1 c2 x2 h2 p2 h3 p3)))) (fun x1 h1 p1 c2 => (bX11_tries_79 (v3 c1 x1 h1 p1 c2))))))
theorem dX11_alive_0 : decode (mC mX11_alive) 0 = .ok (.aload_n 0, 1) := by decide +kernel
theorem dX11_alive_1 : decode (mC mX11_alive) 1 = .ok (.iload_n 1, 1) := by decide +kernel
theorem dX11_alive_2 : decode (mC mX11_alive) 2 = .ok (.invokevirtual 326, 3) := by decide +kernel
theorem dX11_alive_5 : decode (mC mX11_alive) 5 = .ok (.istore_n 3, 1) := by decide +kernel
theorem dX11_alive_6 : decode (mC mX11_alive) 6 = .ok (.iload_n 3, 1) := by decide +kernel
theorem dX11_alive_7 : decode (mC mX11_alive) 7 = .ok (.iconst (-1), 1) := by decide +kernel
theorem dX11_alive_8 : decode (mC mX11_alive) 8 = .ok (.if_icmp .ne 14, 3) := by decide +kernel
theorem dX11_alive_11 : decode (mC mX11_alive) 11 = .ok (.new 208, 3) := by decide +kernel
theorem dX11_alive_14 : decode (mC mX11_alive) 14 = .ok (.dup, 1) := by decide +kernel
theorem dX11_alive_15 : decode (mC mX11_alive) 15 = .ok (.ldc_w 329, 3) := by decide +kernel
theorem dX11_alive_18 : decode (mC mX11_alive) 18 = .ok (.invokespecial 212, 3) := by decide +kernel
theorem dX11_alive_21 : decode (mC mX11_alive) 21 = .ok (.athrow, 1) := by decide +kernel
theorem dX11_alive_22 : decode (mC mX11_alive) 22 = .ok (.iload_n 2, 1) := by decide +kernel
theorem dX11_alive_23 : decode (mC mX11_alive) 23 = .ok (.ifCond .lt 8, 3) := by decide +kernel
theorem dX11_alive_26 : decode (mC mX11_alive) 26 = .ok (.iload_n 2, 1) := by decide +kernel
theorem dX11_alive_27 : decode (mC mX11_alive) 27 = .ok (.iconst 2, 1) := by decide +kernel
theorem dX11_alive_28 : decode (mC mX11_alive) 28 = .ok (.if_icmp .le 13, 3) := by decide +kernel
theorem dX11_alive_31 : decode (mC mX11_alive) 31 = .ok (.new 234, 3) := by decide +kernel
theorem dX11_alive_34 : decode (mC mX11_alive) 34 = .ok (.dup, 1) := by decide +kernel
theorem dX11_alive_35 : decode (mC mX11_alive) 35 = .ok (.ldc 236, 2) := by decide +kernel
theorem dX11_alive_37 : decode (mC mX11_alive) 37 = .ok (.invokespecial 238, 3) := by decide +kernel
theorem dX11_alive_40 : decode (mC mX11_alive) 40 = .ok (.athrow, 1) := by decide +kernel
theorem dX11_alive_41 : decode (mC mX11_alive) 41 = .ok (.iload_n 2, 1) := by decide +kernel
theorem dX11_alive_42 : decode (mC mX11_alive) 42 = .ok (.ifCond .ne 5, 3) := by decide +kernel
theorem dX11_alive_45 : decode (mC mX11_alive) 45 = .ok (.iload_n 3, 1) := by decide +kernel
theorem dX11_alive_46 : decode (mC mX11_alive) 46 = .ok (.ireturn, 1) := by decide +kernel
theorem dX11_alive_47 : decode (mC mX11_alive) 47 = .ok (.aload_n 0, 1) := by decide +kernel
theorem dX11_alive_48 : decode (mC mX11_alive) 48 = .ok (.getfield 61, 3) := by decide +kernel
theorem dX11_alive_51 : decode (mC mX11_alive) 51 = .ok (.iload_n 3, 1) := by decide +kernel
theorem dX11_alive_52 : decode (mC mX11_alive) 52 = .ok (.invokevirtual 331, 3) := by decide +kernel
theorem dX11_alive_55 : decode (mC mX11_alive) 55 = .ok (.pop, 1) := by decide +kernel
theorem dX11_alive_56 : decode (mC mX11_alive) 56 = .ok (.iload_n 2, 1) := by decide +kernel
theorem dX11_alive_57 : decode (mC mX11_alive) 57 = .ok (.iconst 1, 1) := by decide +kernel
theorem dX11_alive_58 : decode (mC mX11_alive) 58 = .ok (.if_icmp .ne 13, 3) := by decide +kernel
theorem dX11_alive_61 : decode (mC mX11_alive) 61 = .ok (.aload_n 0, 1) := by decide +kernel
theorem dX11_alive_62 : decode (mC mX11_alive) 62 = .ok (.getfield 61, 3) := by decide +kernel
theorem dX11_alive_65 : decode (mC mX11_alive) 65 = .ok (.getfield 335, 3) := by decide +kernel
theorem dX11_alive_68 : decode (mC mX11_alive) 68 = .ok (.goto 10, 3) := by decide +kernel
theorem dX11_alive_71 : decode (mC mX11_alive) 71 = .ok (.aload_n 0, 1) := by decide +kernel
theorem dX11_alive_72 : decode (mC mX11_alive) 72 = .ok (.getfield 61, 3) := by decide +kernel
theorem dX11_alive_75 : decode (mC mX11_alive) 75 = .ok (.getfield 338, 3) := by decide +kernel
theorem dX11_alive_78 : decode (mC mX11_alive) 78 = .ok (.ireturn, 1) := by decide +kernel
set_option maxRecDepth 100000 in
theorem bX11_alive_0 {sc : Nat × (Nat → Int32)} {h : jH} {Q : jQ} {l1 l2 : Int32} {P1 : Int32 → jH → Prop}
    (k1 : JM mX11_keptNumber [.ref 0, .int l1] (jG0 sc) h (jint sc P1))
    (v1 : ∀ (x1 : Int32) (h1 : jH), P1 x1 h1 → ¬ x1 = (-1) → WP mX11_alive Q 22 [some (.ref 0), some (.int l1), some (.int l2), some (.int x1)] [] (jG0 sc) h1 (0, 0))
    (v2 : ∀ (x1 : Int32) (h1 : jH), P1 x1 h1 → x1 = (-1) → WP mX11_alive Q 11 [some (.ref 0), some (.int l1), some (.int l2), some (.int x1)] [] (jG0 sc) h1 (0, 0)) :
    WP mX11_alive Q 0 [some (.ref 0), some (.int l1), some (.int l2), none] [] (jG0 sc) h (0, 0) := by
  refine j_aload_n (i := 0) rfl dX11_alive_0 ?_
  refine j_iload_n (i := 1) rfl dX11_alive_1 ?_
  refine j_callV (idx := 326) (As := [.int l1]) (ci := 11) (n := 1) k1 jint_nt (jlkT (jtb2 195 rfl) rfl) sX11_keptNumber kX11_keptNumber rfl ⟨rfl, by decide +kernel, by decide +kernel, by decide +kernel⟩ rfl ⟨by decide, by decide⟩ (Nat.le_of_ble_eq_true rfl) rfl (Nat.le_of_ble_eq_true rfl) (Nat.le_of_ble_eq_true rfl) ⟨Nat.zero_le _, Nat.zero_le _⟩ dX11_alive_2 (fun r Γ' h1 q => ?_)
  obtain ⟨x1, q0, rfl, p1⟩ := q; cases q0
  refine j_eqst [.int x1] (by rfl) ?_
  refine j_istore_n (i := 3) dX11_alive_5 (Nat.le_of_ble_eq_true rfl) ?_
  refine j_iload_n (i := 3) rfl dX11_alive_6 ?_
  refine j_iconst (n := (-1)) (-1) (by decide) dX11_alive_7 ?_
  refine j_icmp_ne (off := 14) 22 dX11_alive_8 (by decide) (fun c1 => ?_) (fun c1 => ?_)
  · exact j_le [some (.ref 0), some (.int l1), some (.int l2), some (.int x1)] (And.intro rfl (And.intro rfl (And.intro rfl (And.intro rfl True.intro)))) (v1 x1 h1 p1 c1)
  · exact j_le [some (.ref 0), some (.int l1), some (.int l2), some (.int x1)] (And.intro rfl (And.intro rfl (And.intro rfl (And.intro rfl True.intro)))) (v2 x1 h1 p1 c1)
set_option maxRecDepth 100000 in
theorem bX11_alive_11 {sc : Nat × (Nat → Int32)} {h : jH} {Q : jQ} {l1 l2 l3 : Int32}
    (v1 : Q (.inr "java/lang/IndexOutOfBoundsException") (jG0 sc) h) :
    WP mX11_alive Q 11 [some (.ref 0), some (.int l1), some (.int l2), some (.int l3)] [] (jG0 sc) h (0, 0) := by
  exact j_thrW_IOB (is := 329) "no such kept ALIVE one" 35 (by decide +kernel) rfl rfl (by decide) (by decide) (Nat.le_of_ble_eq_true rfl) dX11_alive_11 dX11_alive_14 dX11_alive_15 dX11_alive_18 dX11_alive_21 v1
set_option maxRecDepth 100000 in
theorem bX11_alive_22 {sc : Nat × (Nat → Int32)} {h : jH} {Q : jQ} {l1 l2 l3 : Int32}
    (v1 : l2 < 0 → WP mX11_alive Q 31 [some (.ref 0), some (.int l1), some (.int l2), some (.int l3)] [] (jG0 sc) h (0, 0))
    (v2 : ¬ l2 < 0 → WP mX11_alive Q 26 [some (.ref 0), some (.int l1), some (.int l2), some (.int l3)] [] (jG0 sc) h (0, 0)) :
    WP mX11_alive Q 22 [some (.ref 0), some (.int l1), some (.int l2), some (.int l3)] [] (jG0 sc) h (0, 0) := by
  refine j_iload_n (i := 2) rfl dX11_alive_22 ?_
  refine j_if_lt (off := 8) 31 dX11_alive_23 (by decide) (fun c1 => ?_) (fun c1 => ?_)
  · exact j_le [some (.ref 0), some (.int l1), some (.int l2), some (.int l3)] (And.intro rfl (And.intro rfl (And.intro rfl (And.intro rfl True.intro)))) (v1 c1)
  · exact j_le [some (.ref 0), some (.int l1), some (.int l2), some (.int l3)] (And.intro rfl (And.intro rfl (And.intro rfl (And.intro rfl True.intro)))) (v2 c1)
set_option maxRecDepth 100000 in
theorem bX11_alive_26 {sc : Nat × (Nat → Int32)} {h : jH} {Q : jQ} {l1 l2 l3 : Int32}
    (v1 : l2 ≤ 2 → WP mX11_alive Q 41 [some (.ref 0), some (.int l1), some (.int l2), some (.int l3)] [] (jG0 sc) h (0, 0))
    (v2 : ¬ l2 ≤ 2 → WP mX11_alive Q 31 [some (.ref 0), some (.int l1), some (.int l2), some (.int l3)] [] (jG0 sc) h (0, 0)) :
    WP mX11_alive Q 26 [some (.ref 0), some (.int l1), some (.int l2), some (.int l3)] [] (jG0 sc) h (0, 0) := by
  refine j_iload_n (i := 2) rfl dX11_alive_26 ?_
  refine j_iconst (n := 2) 2 (by decide) dX11_alive_27 ?_
  refine j_icmp_le (off := 13) 41 dX11_alive_28 (by decide) (fun c1 => ?_) (fun c1 => ?_)
  · exact j_le [some (.ref 0), some (.int l1), some (.int l2), some (.int l3)] (And.intro rfl (And.intro rfl (And.intro rfl (And.intro rfl True.intro)))) (v1 c1)
  · exact j_le [some (.ref 0), some (.int l1), some (.int l2), some (.int l3)] (And.intro rfl (And.intro rfl (And.intro rfl (And.intro rfl True.intro)))) (v2 c1)
set_option maxRecDepth 100000 in
theorem bX11_alive_31 {sc : Nat × (Nat → Int32)} {h : jH} {Q : jQ} {l1 l2 l3 : Int32}
    (v1 : Q (.inr "java/util/NoSuchElementException") (jG0 sc) h) :
    WP mX11_alive Q 31 [some (.ref 0), some (.int l1), some (.int l2), some (.int l3)] [] (jG0 sc) h (0, 0) := by
  exact j_thr_NSE (is := 236) "no such what" 31 (by decide +kernel) rfl rfl (by decide) (by decide) (Nat.le_of_ble_eq_true rfl) dX11_alive_31 dX11_alive_34 dX11_alive_35 dX11_alive_37 dX11_alive_40 v1
set_option maxRecDepth 100000 in
theorem bX11_alive_41 {sc : Nat × (Nat → Int32)} {h : jH} {Q : jQ} {l1 l2 l3 : Int32}
    (v1 : ¬ l2 = 0 → WP mX11_alive Q 47 [some (.ref 0), some (.int l1), some (.int l2), some (.int l3)] [] (jG0 sc) h (0, 0))
    (v2 : l2 = 0 → WP mX11_alive Q 45 [some (.ref 0), some (.int l1), some (.int l2), some (.int l3)] [] (jG0 sc) h (0, 0)) :
    WP mX11_alive Q 41 [some (.ref 0), some (.int l1), some (.int l2), some (.int l3)] [] (jG0 sc) h (0, 0) := by
  refine j_iload_n (i := 2) rfl dX11_alive_41 ?_
  refine j_if_ne (off := 5) 47 dX11_alive_42 (by decide) (fun c1 => ?_) (fun c1 => ?_)
  · exact j_le [some (.ref 0), some (.int l1), some (.int l2), some (.int l3)] (And.intro rfl (And.intro rfl (And.intro rfl (And.intro rfl True.intro)))) (v1 c1)
  · exact j_le [some (.ref 0), some (.int l1), some (.int l2), some (.int l3)] (And.intro rfl (And.intro rfl (And.intro rfl (And.intro rfl True.intro)))) (v2 c1)
set_option maxRecDepth 100000 in
theorem bX11_alive_45 {sc : Nat × (Nat → Int32)} {h : jH} {Q : jQ} {l1 l2 l3 : Int32}
    (v1 : Q (.inl (some (.int l3))) (jG0 sc) h) :
    WP mX11_alive Q 45 [some (.ref 0), some (.int l1), some (.int l2), some (.int l3)] [] (jG0 sc) h (0, 0) := by
  refine j_iload_n (i := 3) rfl dX11_alive_45 ?_
  exact j_iret rfl rfl (Nat.zero_le _) (Nat.zero_le _) dX11_alive_46 v1
set_option maxRecDepth 100000 in
theorem bX11_alive_47 {sc : Nat × (Nat → Int32)} {h : jH} {Q : jQ} {l1 l2 l3 : Int32} {P1 : Int32 → jH → Prop}
    (k1 : JM mX3_part [.ref 75, .int l3] (jG0 sc) h (jint sc P1))
    (v1 : ∀ (x1 : Int32) (h1 : jH), P1 x1 h1 → ¬ l2 = 1 → WP mX11_alive Q 71 [some (.ref 0), some (.int l1), some (.int l2), some (.int l3)] [] (jG0 sc) h1 (0, 0))
    (v2 : ∀ (x1 : Int32) (h1 : jH), P1 x1 h1 → l2 = 1 → WP mX11_alive Q 61 [some (.ref 0), some (.int l1), some (.int l2), some (.int l3)] [] (jG0 sc) h1 (0, 0)) :
    WP mX11_alive Q 47 [some (.ref 0), some (.int l1), some (.int l2), some (.int l3)] [] (jG0 sc) h (0, 0) := by
  refine j_aload_n (i := 0) rfl dX11_alive_47 ?_
  refine j_getR (idx := 61) (ci := 11) (k := 9) (nest := false) (show (11, 61, 11, 9, false) ∈ jFT by decide) rfl (Nat.le_of_ble_eq_true rfl) rfl (a := 75) rfl dX11_alive_48 ?_
  refine j_iload_n (i := 3) rfl dX11_alive_51 ?_
  refine j_callVN (idx := 331) (As := [.int l3]) (ci := 3) (n := 1) k1 jint_nt (jTbl (jtb5 153 rfl)) sX3_part kX3_part rfl ⟨rfl, by decide +kernel, by decide +kernel, by decide +kernel⟩ rfl ⟨by decide, by decide⟩ (Nat.le_of_ble_eq_true rfl) rfl (Nat.le_of_ble_eq_true rfl) (Nat.le_of_ble_eq_true rfl) ⟨Nat.zero_le _, Nat.zero_le _⟩ dX11_alive_52 (fun r Γ' h1 q => ?_)
  obtain ⟨x1, q0, rfl, p1⟩ := q; cases q0
  refine j_eqst [.int x1] (by rfl) ?_
  refine j_pop rfl dX11_alive_55 ?_
  refine j_iload_n (i := 2) rfl dX11_alive_56 ?_
  refine j_iconst (n := 1) 1 (by decide) dX11_alive_57 ?_
  refine j_icmp_ne (off := 13) 71 dX11_alive_58 (by decide) (fun c1 => ?_) (fun c1 => ?_)
  · exact j_le [some (.ref 0), some (.int l1), some (.int l2), some (.int l3)] (And.intro rfl (And.intro rfl (And.intro rfl (And.intro rfl True.intro)))) (v1 x1 h1 p1 c1)
  · exact j_le [some (.ref 0), some (.int l1), some (.int l2), some (.int l3)] (And.intro rfl (And.intro rfl (And.intro rfl (And.intro rfl True.intro)))) (v2 x1 h1 p1 c1)
set_option maxRecDepth 100000 in
theorem bX11_alive_61 {sc : Nat × (Nat → Int32)} {h : jH} {Q : jQ} {l1 l2 l3 : Int32}
    (v1 : WP mX11_alive Q 78 [some (.ref 0), some (.int l1), some (.int l2), some (.int l3)] [.int (h 75 7)] (jG0 sc) h (0, 0)) :
    WP mX11_alive Q 61 [some (.ref 0), some (.int l1), some (.int l2), some (.int l3)] [] (jG0 sc) h (0, 0) := by
  refine j_aload_n (i := 0) rfl dX11_alive_61 ?_
  refine j_getR (idx := 61) (ci := 11) (k := 9) (nest := false) (show (11, 61, 11, 9, false) ∈ jFT by decide) rfl (Nat.le_of_ble_eq_true rfl) rfl (a := 75) rfl dX11_alive_62 ?_
  refine j_getI (idx := 335) (ci := 3) (k := 7) (nest := true) (show (11, 335, 3, 7, true) ∈ jFT by decide) rfl (Nat.le_of_ble_eq_true rfl) rfl dX11_alive_65 ?_
  refine j_goto (off := 10) 78 dX11_alive_68 (by decide) ?_
  exact j_le [some (.ref 0), some (.int l1), some (.int l2), some (.int l3)] (And.intro rfl (And.intro rfl (And.intro rfl (And.intro rfl True.intro)))) v1
set_option maxRecDepth 100000 in
theorem bX11_alive_71 {sc : Nat × (Nat → Int32)} {h : jH} {Q : jQ} {l1 l2 l3 : Int32}
    (v1 : WP mX11_alive Q 78 [some (.ref 0), some (.int l1), some (.int l2), some (.int l3)] [.int (h 75 8)] (jG0 sc) h (0, 0)) :
    WP mX11_alive Q 71 [some (.ref 0), some (.int l1), some (.int l2), some (.int l3)] [] (jG0 sc) h (0, 0) := by
  refine j_aload_n (i := 0) rfl dX11_alive_71 ?_
  refine j_getR (idx := 61) (ci := 11) (k := 9) (nest := false) (show (11, 61, 11, 9, false) ∈ jFT by decide) rfl (Nat.le_of_ble_eq_true rfl) rfl (a := 75) rfl dX11_alive_72 ?_
  refine j_getI (idx := 338) (ci := 3) (k := 8) (nest := true) (show (11, 338, 3, 8, true) ∈ jFT by decide) rfl (Nat.le_of_ble_eq_true rfl) rfl dX11_alive_75 ?_
  exact j_le [some (.ref 0), some (.int l1), some (.int l2), some (.int l3)] (And.intro rfl (And.intro rfl (And.intro rfl (And.intro rfl True.intro)))) v1
set_option maxRecDepth 100000 in
theorem bX11_alive_78 {sc : Nat × (Nat → Int32)} {h : jH} {Q : jQ} {l1 l2 l3 s0 : Int32}
    (v1 : Q (.inl (some (.int s0))) (jG0 sc) h) :
    WP mX11_alive Q 78 [some (.ref 0), some (.int l1), some (.int l2), some (.int l3)] [.int s0] (jG0 sc) h (0, 0) := by
  exact j_iret rfl rfl (Nat.zero_le _) (Nat.zero_le _) dX11_alive_78 v1
set_option maxRecDepth 100000 in
theorem rX11_alive_0 {sc : Nat × (Nat → Int32)} {h : jH} {Q : jQ} {l1 l2 : Int32} {P1 : Int32 → jH → Prop} {P2 : Int32 → jH → Prop}
    (k1 : JM mX11_keptNumber [.ref 0, .int l1] (jG0 sc) h (jint sc P1))
    (v1 : ∀ (x1 : Int32) (h1 : jH), P1 x1 h1 → ¬ x1 = (-1) → l2 < 0 → Q (.inr "java/util/NoSuchElementException") (jG0 sc) h1)
    (k2 : ∀ (x1 : Int32) (h1 : jH), P1 x1 h1 → ¬ x1 = (-1) → ¬ l2 < 0 → l2 ≤ 2 → ¬ l2 = 0 → JM mX3_part [.ref 75, .int x1] (jG0 sc) h1 (jint sc P2))
    (v2 : ∀ (x1 : Int32) (h1 : jH), P1 x1 h1 → ¬ x1 = (-1) → ¬ l2 < 0 → l2 ≤ 2 → ¬ l2 = 0 → ∀ (x2 : Int32) (h2 : jH), P2 x2 h2 → ¬ l2 = 1 → Q (.inl (some (.int (h2 75 8)))) (jG0 sc) h2)
    (v3 : ∀ (x1 : Int32) (h1 : jH), P1 x1 h1 → ¬ x1 = (-1) → ¬ l2 < 0 → l2 ≤ 2 → ¬ l2 = 0 → ∀ (x2 : Int32) (h2 : jH), P2 x2 h2 → l2 = 1 → Q (.inl (some (.int (h2 75 7)))) (jG0 sc) h2)
    (v4 : ∀ (x1 : Int32) (h1 : jH), P1 x1 h1 → ¬ x1 = (-1) → ¬ l2 < 0 → l2 ≤ 2 → l2 = 0 → Q (.inl (some (.int x1))) (jG0 sc) h1)
    (v5 : ∀ (x1 : Int32) (h1 : jH), P1 x1 h1 → ¬ x1 = (-1) → ¬ l2 < 0 → ¬ l2 ≤ 2 → Q (.inr "java/util/NoSuchElementException") (jG0 sc) h1)
    (v6 : ∀ (x1 : Int32) (h1 : jH), P1 x1 h1 → x1 = (-1) → Q (.inr "java/lang/IndexOutOfBoundsException") (jG0 sc) h1) :
    WP mX11_alive Q 0 [some (.ref 0), some (.int l1), some (.int l2), none] [] (jG0 sc) h (0, 0) := by
  exact (bX11_alive_0 k1 (fun x1 h1 p1 c1 => (bX11_alive_22 (fun c2 => (bX11_alive_31 (v1 x1 h1 p1 c1 c2))) (fun c2 => (bX11_alive_26 (fun c3 => (bX11_alive_41 (fun c4 => (bX11_alive_47 (k2 x1 h1 p1 c1 c2 c3 c4) (fun x2 h2 p2 c5 => (bX11_alive_71 (bX11_alive_78 (v2 x1 h1 p1 c1 c2 c3 c4 x2 h2 p2 c5)))) (fun x2 h2 p2 c5 => (bX11_alive_61 (bX11_alive_78 (v3 x1 h1 p1 c1 c2 c3 c4 x2 h2 p2 c5)))))) (fun c4 => (bX11_alive_45 (v4 x1 h1 p1 c1 c2 c3 c4))))) (fun c3 => (bX11_alive_31 (v5 x1 h1 p1 c1 c2 c3))))))) (fun x1 h1 p1 c1 => (bX11_alive_11 (v6 x1 h1 p1 c1))))
theorem dX11_aliveEnds_0 : decode (mC mX11_aliveEnds) 0 = .ok (.aload_n 0, 1) := by decide +kernel
theorem dX11_aliveEnds_1 : decode (mC mX11_aliveEnds) 1 = .ok (.iload_n 1, 1) := by decide +kernel
theorem dX11_aliveEnds_2 : decode (mC mX11_aliveEnds) 2 = .ok (.invokevirtual 326, 3) := by decide +kernel
theorem dX11_aliveEnds_5 : decode (mC mX11_aliveEnds) 5 = .ok (.istore 4, 2) := by decide +kernel
theorem dX11_aliveEnds_7 : decode (mC mX11_aliveEnds) 7 = .ok (.iload 4, 2) := by decide +kernel
theorem dX11_aliveEnds_9 : decode (mC mX11_aliveEnds) 9 = .ok (.iconst (-1), 1) := by decide +kernel
theorem dX11_aliveEnds_10 : decode (mC mX11_aliveEnds) 10 = .ok (.if_icmp .ne 14, 3) := by decide +kernel
theorem dX11_aliveEnds_13 : decode (mC mX11_aliveEnds) 13 = .ok (.new 208, 3) := by decide +kernel
theorem dX11_aliveEnds_16 : decode (mC mX11_aliveEnds) 16 = .ok (.dup, 1) := by decide +kernel
theorem dX11_aliveEnds_17 : decode (mC mX11_aliveEnds) 17 = .ok (.ldc_w 329, 3) := by decide +kernel
theorem dX11_aliveEnds_20 : decode (mC mX11_aliveEnds) 20 = .ok (.invokespecial 212, 3) := by decide +kernel
theorem dX11_aliveEnds_23 : decode (mC mX11_aliveEnds) 23 = .ok (.athrow, 1) := by decide +kernel
theorem dX11_aliveEnds_24 : decode (mC mX11_aliveEnds) 24 = .ok (.aload_n 0, 1) := by decide +kernel
theorem dX11_aliveEnds_25 : decode (mC mX11_aliveEnds) 25 = .ok (.getfield 61, 3) := by decide +kernel
theorem dX11_aliveEnds_28 : decode (mC mX11_aliveEnds) 28 = .ok (.aload_n 0, 1) := by decide +kernel
theorem dX11_aliveEnds_29 : decode (mC mX11_aliveEnds) 29 = .ok (.getfield 37, 3) := by decide +kernel
theorem dX11_aliveEnds_32 : decode (mC mX11_aliveEnds) 32 = .ok (.getfield 127, 3) := by decide +kernel
theorem dX11_aliveEnds_35 : decode (mC mX11_aliveEnds) 35 = .ok (.iload 4, 2) := by decide +kernel
theorem dX11_aliveEnds_37 : decode (mC mX11_aliveEnds) 37 = .ok (.aload_n 0, 1) := by decide +kernel
theorem dX11_aliveEnds_38 : decode (mC mX11_aliveEnds) 38 = .ok (.getfield 71, 3) := by decide +kernel
theorem dX11_aliveEnds_41 : decode (mC mX11_aliveEnds) 41 = .ok (.invokevirtual 192, 3) := by decide +kernel
theorem dX11_aliveEnds_44 : decode (mC mX11_aliveEnds) 44 = .ok (.pop, 1) := by decide +kernel
theorem dX11_aliveEnds_45 : decode (mC mX11_aliveEnds) 45 = .ok (.aload_n 0, 1) := by decide +kernel
theorem dX11_aliveEnds_46 : decode (mC mX11_aliveEnds) 46 = .ok (.getfield 47, 3) := by decide +kernel
theorem dX11_aliveEnds_49 : decode (mC mX11_aliveEnds) 49 = .ok (.aload_n 0, 1) := by decide +kernel
theorem dX11_aliveEnds_50 : decode (mC mX11_aliveEnds) 50 = .ok (.getfield 71, 3) := by decide +kernel
theorem dX11_aliveEnds_53 : decode (mC mX11_aliveEnds) 53 = .ok (.iload_n 2, 1) := by decide +kernel
theorem dX11_aliveEnds_54 : decode (mC mX11_aliveEnds) 54 = .ok (.iload_n 3, 1) := by decide +kernel
theorem dX11_aliveEnds_55 : decode (mC mX11_aliveEnds) 55 = .ok (.invokevirtual 196, 3) := by decide +kernel
theorem dX11_aliveEnds_58 : decode (mC mX11_aliveEnds) 58 = .ok (.ireturn, 1) := by decide +kernel
set_option maxRecDepth 100000 in
theorem bX11_aliveEnds_0 {sc : Nat × (Nat → Int32)} {h : jH} {Q : jQ} {l1 l2 l3 : Int32} {P1 : Int32 → jH → Prop}
    (k1 : JM mX11_keptNumber [.ref 0, .int l1] (jG0 sc) h (jint sc P1))
    (v1 : ∀ (x1 : Int32) (h1 : jH), P1 x1 h1 → ¬ x1 = (-1) → WP mX11_aliveEnds Q 24 [some (.ref 0), some (.int l1), some (.int l2), some (.int l3), some (.int x1)] [] (jG0 sc) h1 (0, 0))
    (v2 : ∀ (x1 : Int32) (h1 : jH), P1 x1 h1 → x1 = (-1) → WP mX11_aliveEnds Q 13 [some (.ref 0), some (.int l1), some (.int l2), some (.int l3), some (.int x1)] [] (jG0 sc) h1 (0, 0)) :
    WP mX11_aliveEnds Q 0 [some (.ref 0), some (.int l1), some (.int l2), some (.int l3), none] [] (jG0 sc) h (0, 0) := by
  refine j_aload_n (i := 0) rfl dX11_aliveEnds_0 ?_
  refine j_iload_n (i := 1) rfl dX11_aliveEnds_1 ?_
  refine j_callV (idx := 326) (As := [.int l1]) (ci := 11) (n := 1) k1 jint_nt (jlkT (jtb2 195 rfl) rfl) sX11_keptNumber kX11_keptNumber rfl ⟨rfl, by decide +kernel, by decide +kernel, by decide +kernel⟩ rfl ⟨by decide, by decide⟩ (Nat.le_of_ble_eq_true rfl) rfl (Nat.le_of_ble_eq_true rfl) (Nat.le_of_ble_eq_true rfl) ⟨Nat.zero_le _, Nat.zero_le _⟩ dX11_aliveEnds_2 (fun r Γ' h1 q => ?_)
  obtain ⟨x1, q0, rfl, p1⟩ := q; cases q0
  refine j_eqst [.int x1] (by rfl) ?_
  refine j_istore (i := 4) dX11_aliveEnds_5 (Nat.le_of_ble_eq_true rfl) ?_
  refine j_iload (i := 4) rfl dX11_aliveEnds_7 ?_
  refine j_iconst (n := (-1)) (-1) (by decide) dX11_aliveEnds_9 ?_
  refine j_icmp_ne (off := 14) 24 dX11_aliveEnds_10 (by decide) (fun c1 => ?_) (fun c1 => ?_)
  · exact j_le [some (.ref 0), some (.int l1), some (.int l2), some (.int l3), some (.int x1)] (And.intro rfl (And.intro rfl (And.intro rfl (And.intro rfl (And.intro rfl True.intro))))) (v1 x1 h1 p1 c1)
  · exact j_le [some (.ref 0), some (.int l1), some (.int l2), some (.int l3), some (.int x1)] (And.intro rfl (And.intro rfl (And.intro rfl (And.intro rfl (And.intro rfl True.intro))))) (v2 x1 h1 p1 c1)
set_option maxRecDepth 100000 in
theorem bX11_aliveEnds_13 {sc : Nat × (Nat → Int32)} {h : jH} {Q : jQ} {l1 l2 l3 l4 : Int32}
    (v1 : Q (.inr "java/lang/IndexOutOfBoundsException") (jG0 sc) h) :
    WP mX11_aliveEnds Q 13 [some (.ref 0), some (.int l1), some (.int l2), some (.int l3), some (.int l4)] [] (jG0 sc) h (0, 0) := by
  exact j_thrW_IOB (is := 329) "no such kept ALIVE one" 35 (by decide +kernel) rfl rfl (by decide) (by decide) (Nat.le_of_ble_eq_true rfl) dX11_aliveEnds_13 dX11_aliveEnds_16 dX11_aliveEnds_17 dX11_aliveEnds_20 dX11_aliveEnds_23 v1
set_option maxRecDepth 100000 in
theorem bX11_aliveEnds_24 {sc : Nat × (Nat → Int32)} {h : jH} {Q : jQ} {l1 l2 l3 l4 : Int32} {P1 : Int32 → jH → Prop} {P2 : Int32 → jH → Prop}
    (k1 : JM mX3_shape [.ref 75, .ref 10, .int l4, .ref 89] (jG0 sc) h (jint sc P1))
    (k2 : ∀ (x1 : Int32) (h1 : jH), P1 x1 h1 → JM mX10_through [.ref 69, .ref 89, .int l2, .int l3] (jG0 sc) h1 (jint sc P2))
    (v1 : ∀ (x1 : Int32) (h1 : jH), P1 x1 h1 → ∀ (x2 : Int32) (h2 : jH), P2 x2 h2 → WP mX11_aliveEnds Q 58 [some (.ref 0), some (.int l1), some (.int l2), some (.int l3), some (.int l4)] [.int x2] (jG0 sc) h2 (0, 0)) :
    WP mX11_aliveEnds Q 24 [some (.ref 0), some (.int l1), some (.int l2), some (.int l3), some (.int l4)] [] (jG0 sc) h (0, 0) := by
  refine j_aload_n (i := 0) rfl dX11_aliveEnds_24 ?_
  refine j_getR (idx := 61) (ci := 11) (k := 9) (nest := false) (show (11, 61, 11, 9, false) ∈ jFT by decide) rfl (Nat.le_of_ble_eq_true rfl) rfl (a := 75) rfl dX11_aliveEnds_25 ?_
  refine j_aload_n (i := 0) rfl dX11_aliveEnds_28 ?_
  refine j_getR (idx := 37) (ci := 11) (k := 4) (nest := false) (show (11, 37, 11, 4, false) ∈ jFT by decide) rfl (Nat.le_of_ble_eq_true rfl) rfl (a := 9) rfl dX11_aliveEnds_29 ?_
  refine j_getR (idx := 127) (ci := 6) (k := 0) (nest := true) (show (11, 127, 6, 0, true) ∈ jFT by decide) rfl (Nat.le_of_ble_eq_true rfl) rfl (a := 10) rfl dX11_aliveEnds_32 ?_
  refine j_iload (i := 4) rfl dX11_aliveEnds_35 ?_
  refine j_aload_n (i := 0) rfl dX11_aliveEnds_37 ?_
  refine j_getR (idx := 71) (ci := 11) (k := 11) (nest := false) (show (11, 71, 11, 11, false) ∈ jFT by decide) rfl (Nat.le_of_ble_eq_true rfl) rfl (a := 89) rfl dX11_aliveEnds_38 ?_
  refine j_callVN (idx := 192) (As := [.ref 10, .int l4, .ref 89]) (ci := 3) (n := 3) k1 jint_nt (jTbl (jtb2 199 rfl)) sX3_shape kX3_shape rfl ⟨rfl, by decide +kernel, by decide +kernel, by decide +kernel⟩ rfl ⟨by decide, by decide⟩ (Nat.le_of_ble_eq_true rfl) rfl (Nat.le_of_ble_eq_true rfl) (Nat.le_of_ble_eq_true rfl) ⟨Nat.zero_le _, Nat.zero_le _⟩ dX11_aliveEnds_41 (fun r Γ' h1 q => ?_)
  obtain ⟨x1, q0, rfl, p1⟩ := q; cases q0
  refine j_eqst [.int x1] (by rfl) ?_
  refine j_pop rfl dX11_aliveEnds_44 ?_
  refine j_aload_n (i := 0) rfl dX11_aliveEnds_45 ?_
  refine j_getR (idx := 47) (ci := 11) (k := 7) (nest := false) (show (11, 47, 11, 7, false) ∈ jFT by decide) rfl (Nat.le_of_ble_eq_true rfl) rfl (a := 69) rfl dX11_aliveEnds_46 ?_
  refine j_aload_n (i := 0) rfl dX11_aliveEnds_49 ?_
  refine j_getR (idx := 71) (ci := 11) (k := 11) (nest := false) (show (11, 71, 11, 11, false) ∈ jFT by decide) rfl (Nat.le_of_ble_eq_true rfl) rfl (a := 89) rfl dX11_aliveEnds_50 ?_
  refine j_iload_n (i := 2) rfl dX11_aliveEnds_53 ?_
  refine j_iload_n (i := 3) rfl dX11_aliveEnds_54 ?_
  refine j_callVN (idx := 196) (As := [.ref 89, .int l2, .int l3]) (ci := 10) (n := 3) (k2 x1 h1 p1) jint_nt (jTbl (jtb3 9 rfl)) sX10_through kX10_through rfl ⟨rfl, by decide +kernel, by decide +kernel, by decide +kernel⟩ rfl ⟨by decide, by decide⟩ (Nat.le_of_ble_eq_true rfl) rfl (Nat.le_of_ble_eq_true rfl) (Nat.le_of_ble_eq_true rfl) ⟨Nat.zero_le _, Nat.zero_le _⟩ dX11_aliveEnds_55 (fun r Γ' h2 q => ?_)
  obtain ⟨x2, q0, rfl, p2⟩ := q; cases q0
  refine j_eqst [.int x2] (by rfl) ?_
  exact j_le [some (.ref 0), some (.int l1), some (.int l2), some (.int l3), some (.int l4)] (And.intro rfl (And.intro rfl (And.intro rfl (And.intro rfl (And.intro rfl True.intro))))) (v1 x1 h1 p1 x2 h2 p2)
set_option maxRecDepth 100000 in
theorem bX11_aliveEnds_58 {sc : Nat × (Nat → Int32)} {h : jH} {Q : jQ} {l1 l2 l3 l4 s0 : Int32}
    (v1 : Q (.inl (some (.int s0))) (jG0 sc) h) :
    WP mX11_aliveEnds Q 58 [some (.ref 0), some (.int l1), some (.int l2), some (.int l3), some (.int l4)] [.int s0] (jG0 sc) h (0, 0) := by
  exact j_iret rfl rfl (Nat.zero_le _) (Nat.zero_le _) dX11_aliveEnds_58 v1
set_option maxRecDepth 100000 in
theorem rX11_aliveEnds_0 {sc : Nat × (Nat → Int32)} {h : jH} {Q : jQ} {l1 l2 l3 : Int32} {P1 : Int32 → jH → Prop} {P2 : Int32 → jH → Prop} {P3 : Int32 → jH → Prop}
    (k1 : JM mX11_keptNumber [.ref 0, .int l1] (jG0 sc) h (jint sc P1))
    (k2 : ∀ (x1 : Int32) (h1 : jH), P1 x1 h1 → ¬ x1 = (-1) → JM mX3_shape [.ref 75, .ref 10, .int x1, .ref 89] (jG0 sc) h1 (jint sc P2))
    (k3 : ∀ (x1 : Int32) (h1 : jH), P1 x1 h1 → ¬ x1 = (-1) → ∀ (x2 : Int32) (h2 : jH), P2 x2 h2 → JM mX10_through [.ref 69, .ref 89, .int l2, .int l3] (jG0 sc) h2 (jint sc P3))
    (v1 : ∀ (x1 : Int32) (h1 : jH), P1 x1 h1 → ¬ x1 = (-1) → ∀ (x2 : Int32) (h2 : jH), P2 x2 h2 → ∀ (x3 : Int32) (h3 : jH), P3 x3 h3 → Q (.inl (some (.int x3))) (jG0 sc) h3)
    (v2 : ∀ (x1 : Int32) (h1 : jH), P1 x1 h1 → x1 = (-1) → Q (.inr "java/lang/IndexOutOfBoundsException") (jG0 sc) h1) :
    WP mX11_aliveEnds Q 0 [some (.ref 0), some (.int l1), some (.int l2), some (.int l3), none] [] (jG0 sc) h (0, 0) := by
  exact (bX11_aliveEnds_0 k1 (fun x1 h1 p1 c1 => (bX11_aliveEnds_24 (k2 x1 h1 p1 c1) (fun x2 h2 p2 => (k3 x1 h1 p1 c1 x2 h2 p2)) (fun x2 h2 p2 x3 h3 p3 => (bX11_aliveEnds_58 (v1 x1 h1 p1 c1 x2 h2 p2 x3 h3 p3))))) (fun x1 h1 p1 c1 => (bX11_aliveEnds_13 (v2 x1 h1 p1 c1))))
theorem dX11_keptNumber_0 : decode (mC mX11_keptNumber) 0 = .ok (.aload_n 0, 1) := by decide +kernel
theorem dX11_keptNumber_1 : decode (mC mX11_keptNumber) 1 = .ok (.getfield 37, 3) := by decide +kernel
theorem dX11_keptNumber_4 : decode (mC mX11_keptNumber) 4 = .ok (.getfield 151, 3) := by decide +kernel
theorem dX11_keptNumber_7 : decode (mC mX11_keptNumber) 7 = .ok (.astore_n 2, 1) := by decide +kernel
theorem dX11_keptNumber_8 : decode (mC mX11_keptNumber) 8 = .ok (.iload_n 1, 1) := by decide +kernel
theorem dX11_keptNumber_9 : decode (mC mX11_keptNumber) 9 = .ok (.ifCond .lt 29, 3) := by decide +kernel
theorem dX11_keptNumber_12 : decode (mC mX11_keptNumber) 12 = .ok (.iload_n 1, 1) := by decide +kernel
theorem dX11_keptNumber_13 : decode (mC mX11_keptNumber) 13 = .ok (.aload_n 2, 1) := by decide +kernel
theorem dX11_keptNumber_14 : decode (mC mX11_keptNumber) 14 = .ok (.getfield 187, 3) := by decide +kernel
theorem dX11_keptNumber_17 : decode (mC mX11_keptNumber) 17 = .ok (.if_icmp .ge 21, 3) := by decide +kernel
theorem dX11_keptNumber_20 : decode (mC mX11_keptNumber) 20 = .ok (.iload_n 1, 1) := by decide +kernel
theorem dX11_keptNumber_21 : decode (mC mX11_keptNumber) 21 = .ok (.aload_n 2, 1) := by decide +kernel
theorem dX11_keptNumber_22 : decode (mC mX11_keptNumber) 22 = .ok (.getfield 190, 3) := by decide +kernel
theorem dX11_keptNumber_25 : decode (mC mX11_keptNumber) 25 = .ok (.arraylength, 1) := by decide +kernel
theorem dX11_keptNumber_26 : decode (mC mX11_keptNumber) 26 = .ok (.if_icmp .ge 12, 3) := by decide +kernel
theorem dX11_keptNumber_29 : decode (mC mX11_keptNumber) 29 = .ok (.aload_n 2, 1) := by decide +kernel
theorem dX11_keptNumber_30 : decode (mC mX11_keptNumber) 30 = .ok (.getfield 190, 3) := by decide +kernel
theorem dX11_keptNumber_33 : decode (mC mX11_keptNumber) 33 = .ok (.iload_n 1, 1) := by decide +kernel
theorem dX11_keptNumber_34 : decode (mC mX11_keptNumber) 34 = .ok (.iaload, 1) := by decide +kernel
theorem dX11_keptNumber_35 : decode (mC mX11_keptNumber) 35 = .ok (.goto 4, 3) := by decide +kernel
theorem dX11_keptNumber_38 : decode (mC mX11_keptNumber) 38 = .ok (.iconst (-1), 1) := by decide +kernel
theorem dX11_keptNumber_39 : decode (mC mX11_keptNumber) 39 = .ok (.ireturn, 1) := by decide +kernel
set_option maxRecDepth 100000 in
theorem bX11_keptNumber_0 {sc : Nat × (Nat → Int32)} {h : jH} {Q : jQ} {l1 : Int32}
    (v1 : l1 < 0 → WP mX11_keptNumber Q 38 [some (.ref 0), some (.int l1), some (.ref 20)] [] (jG0 sc) h (0, 0))
    (v2 : ¬ l1 < 0 → WP mX11_keptNumber Q 12 [some (.ref 0), some (.int l1), some (.ref 20)] [] (jG0 sc) h (0, 0)) :
    WP mX11_keptNumber Q 0 [some (.ref 0), some (.int l1), none] [] (jG0 sc) h (0, 0) := by
  refine j_aload_n (i := 0) rfl dX11_keptNumber_0 ?_
  refine j_getR (idx := 37) (ci := 11) (k := 4) (nest := false) (show (11, 37, 11, 4, false) ∈ jFT by decide) rfl (Nat.le_of_ble_eq_true rfl) rfl (a := 9) rfl dX11_keptNumber_1 ?_
  refine j_getR (idx := 151) (ci := 6) (k := 4) (nest := true) (show (11, 151, 6, 4, true) ∈ jFT by decide) rfl (Nat.le_of_ble_eq_true rfl) rfl (a := 20) rfl dX11_keptNumber_4 ?_
  refine j_astore_n (i := 2) dX11_keptNumber_7 (Nat.le_of_ble_eq_true rfl) ?_
  refine j_iload_n (i := 1) rfl dX11_keptNumber_8 ?_
  refine j_if_lt (off := 29) 38 dX11_keptNumber_9 (by decide) (fun c1 => ?_) (fun c1 => ?_)
  · exact j_le [some (.ref 0), some (.int l1), some (.ref 20)] (And.intro rfl (And.intro rfl (And.intro rfl True.intro))) (v1 c1)
  · exact j_le [some (.ref 0), some (.int l1), some (.ref 20)] (And.intro rfl (And.intro rfl (And.intro rfl True.intro))) (v2 c1)
set_option maxRecDepth 100000 in
theorem bX11_keptNumber_12 {sc : Nat × (Nat → Int32)} {h : jH} {Q : jQ} {l1 : Int32}
    (v1 : (h 20 1) ≤ l1 → WP mX11_keptNumber Q 38 [some (.ref 0), some (.int l1), some (.ref 20)] [] (jG0 sc) h (0, 0))
    (v2 : ¬ (h 20 1) ≤ l1 → WP mX11_keptNumber Q 20 [some (.ref 0), some (.int l1), some (.ref 20)] [] (jG0 sc) h (0, 0)) :
    WP mX11_keptNumber Q 12 [some (.ref 0), some (.int l1), some (.ref 20)] [] (jG0 sc) h (0, 0) := by
  refine j_iload_n (i := 1) rfl dX11_keptNumber_12 ?_
  refine j_aload_n (i := 2) rfl dX11_keptNumber_13 ?_
  refine j_getI (idx := 187) (ci := 9) (k := 1) (nest := true) (show (11, 187, 9, 1, true) ∈ jFT by decide) rfl (Nat.le_of_ble_eq_true rfl) rfl dX11_keptNumber_14 ?_
  refine j_icmp_ge (off := 21) 38 dX11_keptNumber_17 (by decide) (fun c1 => ?_) (fun c1 => ?_)
  · exact j_le [some (.ref 0), some (.int l1), some (.ref 20)] (And.intro rfl (And.intro rfl (And.intro rfl True.intro))) (v1 c1)
  · exact j_le [some (.ref 0), some (.int l1), some (.ref 20)] (And.intro rfl (And.intro rfl (And.intro rfl True.intro))) (v2 c1)
set_option maxRecDepth 100000 in
theorem bX11_keptNumber_20 {sc : Nat × (Nat → Int32)} {h : jH} {Q : jQ} {l1 : Int32}
    (v1 : 30 ≤ l1 → WP mX11_keptNumber Q 38 [some (.ref 0), some (.int l1), some (.ref 20)] [] (jG0 sc) h (0, 0))
    (v2 : ¬ 30 ≤ l1 → WP mX11_keptNumber Q 29 [some (.ref 0), some (.int l1), some (.ref 20)] [] (jG0 sc) h (0, 0)) :
    WP mX11_keptNumber Q 20 [some (.ref 0), some (.int l1), some (.ref 20)] [] (jG0 sc) h (0, 0) := by
  refine j_iload_n (i := 1) rfl dX11_keptNumber_20 ?_
  refine j_aload_n (i := 2) rfl dX11_keptNumber_21 ?_
  refine j_getR (idx := 190) (ci := 9) (k := 0) (nest := true) (show (11, 190, 9, 0, true) ∈ jFT by decide) rfl (Nat.le_of_ble_eq_true rfl) rfl (a := 21) rfl dX11_keptNumber_22 ?_
  refine j_alen (Nat.le_of_ble_eq_true rfl) rfl rfl 30 rfl dX11_keptNumber_25 ?_
  refine j_icmp_ge (off := 12) 38 dX11_keptNumber_26 (by decide) (fun c1 => ?_) (fun c1 => ?_)
  · exact j_le [some (.ref 0), some (.int l1), some (.ref 20)] (And.intro rfl (And.intro rfl (And.intro rfl True.intro))) (v1 c1)
  · exact j_le [some (.ref 0), some (.int l1), some (.ref 20)] (And.intro rfl (And.intro rfl (And.intro rfl True.intro))) (v2 c1)
set_option maxRecDepth 100000 in
theorem bX11_keptNumber_29 {sc : Nat × (Nat → Int32)} {h : jH} {Q : jQ} {l1 : Int32}
    (o1 : vp_in l1 30)
    (v1 : WP mX11_keptNumber Q 39 [some (.ref 0), some (.int l1), some (.ref 20)] [.int (h 21 l1.toNatClampNeg)] (jG0 sc) h (0, 0)) :
    WP mX11_keptNumber Q 29 [some (.ref 0), some (.int l1), some (.ref 20)] [] (jG0 sc) h (0, 0) := by
  refine j_aload_n (i := 2) rfl dX11_keptNumber_29 ?_
  refine j_getR (idx := 190) (ci := 9) (k := 0) (nest := true) (show (11, 190, 9, 0, true) ∈ jFT by decide) rfl (Nat.le_of_ble_eq_true rfl) rfl (a := 21) rfl dX11_keptNumber_30 ?_
  refine j_iload_n (i := 1) rfl dX11_keptNumber_33 ?_
  refine j_iald (Nat.le_of_ble_eq_true rfl) rfl o1 dX11_keptNumber_34 ?_
  refine j_goto (off := 4) 39 dX11_keptNumber_35 (by decide) ?_
  exact j_le [some (.ref 0), some (.int l1), some (.ref 20)] (And.intro rfl (And.intro rfl (And.intro rfl True.intro))) v1
set_option maxRecDepth 100000 in
theorem bX11_keptNumber_38 {sc : Nat × (Nat → Int32)} {h : jH} {Q : jQ} {l1 : Int32}
    (v1 : WP mX11_keptNumber Q 39 [some (.ref 0), some (.int l1), some (.ref 20)] [.int (-1)] (jG0 sc) h (0, 0)) :
    WP mX11_keptNumber Q 38 [some (.ref 0), some (.int l1), some (.ref 20)] [] (jG0 sc) h (0, 0) := by
  refine j_iconst (n := (-1)) (-1) (by decide) dX11_keptNumber_38 ?_
  exact j_le [some (.ref 0), some (.int l1), some (.ref 20)] (And.intro rfl (And.intro rfl (And.intro rfl True.intro))) v1
set_option maxRecDepth 100000 in
theorem bX11_keptNumber_39 {sc : Nat × (Nat → Int32)} {h : jH} {Q : jQ} {l1 s0 : Int32}
    (v1 : Q (.inl (some (.int s0))) (jG0 sc) h) :
    WP mX11_keptNumber Q 39 [some (.ref 0), some (.int l1), some (.ref 20)] [.int s0] (jG0 sc) h (0, 0) := by
  exact j_iret rfl rfl (Nat.zero_le _) (Nat.zero_le _) dX11_keptNumber_39 v1
set_option maxRecDepth 100000 in
theorem rX11_keptNumber_0 {sc : Nat × (Nat → Int32)} {h : jH} {Q : jQ} {l1 : Int32}
    (v1 : l1 < 0 → Q (.inl (some (.int (-1)))) (jG0 sc) h)
    (v2 : ¬ l1 < 0 → (h 20 1) ≤ l1 → Q (.inl (some (.int (-1)))) (jG0 sc) h)
    (v3 : ¬ l1 < 0 → ¬ (h 20 1) ≤ l1 → 30 ≤ l1 → Q (.inl (some (.int (-1)))) (jG0 sc) h)
    (o1 : ¬ l1 < 0 → ¬ (h 20 1) ≤ l1 → ¬ 30 ≤ l1 → vp_in l1 30)
    (v4 : ¬ l1 < 0 → ¬ (h 20 1) ≤ l1 → ¬ 30 ≤ l1 → Q (.inl (some (.int (h 21 l1.toNatClampNeg)))) (jG0 sc) h) :
    WP mX11_keptNumber Q 0 [some (.ref 0), some (.int l1), none] [] (jG0 sc) h (0, 0) := by
  exact (bX11_keptNumber_0 (fun c1 => (bX11_keptNumber_38 (bX11_keptNumber_39 (v1 c1)))) (fun c1 => (bX11_keptNumber_12 (fun c2 => (bX11_keptNumber_38 (bX11_keptNumber_39 (v2 c1 c2)))) (fun c2 => (bX11_keptNumber_20 (fun c3 => (bX11_keptNumber_38 (bX11_keptNumber_39 (v3 c1 c2 c3)))) (fun c3 => (bX11_keptNumber_29 (o1 c1 c2 c3) (bX11_keptNumber_39 (v4 c1 c2 c3)))))))))
theorem dX11_rightBits_0 : decode (mC mX11_rightBits) 0 = .ok (.aload_n 0, 1) := by decide +kernel
theorem dX11_rightBits_1 : decode (mC mX11_rightBits) 1 = .ok (.getfield 37, 3) := by decide +kernel
theorem dX11_rightBits_4 : decode (mC mX11_rightBits) 4 = .ok (.getfield 169, 3) := by decide +kernel
theorem dX11_rightBits_7 : decode (mC mX11_rightBits) 7 = .ok (.astore_n 2, 1) := by decide +kernel
theorem dX11_rightBits_8 : decode (mC mX11_rightBits) 8 = .ok (.iconst 0, 1) := by decide +kernel
theorem dX11_rightBits_9 : decode (mC mX11_rightBits) 9 = .ok (.istore_n 3, 1) := by decide +kernel
theorem dX11_rightBits_10 : decode (mC mX11_rightBits) 10 = .ok (.iconst 0, 1) := by decide +kernel
theorem dX11_rightBits_11 : decode (mC mX11_rightBits) 11 = .ok (.istore 4, 2) := by decide +kernel
theorem dX11_rightBits_13 : decode (mC mX11_rightBits) 13 = .ok (.iload 4, 2) := by decide +kernel
theorem dX11_rightBits_15 : decode (mC mX11_rightBits) 15 = .ok (.aload_n 2, 1) := by decide +kernel
theorem dX11_rightBits_16 : decode (mC mX11_rightBits) 16 = .ok (.getfield 173, 3) := by decide +kernel
theorem dX11_rightBits_19 : decode (mC mX11_rightBits) 19 = .ok (.if_icmp .ge 55, 3) := by decide +kernel
theorem dX11_rightBits_22 : decode (mC mX11_rightBits) 22 = .ok (.iload 4, 2) := by decide +kernel
theorem dX11_rightBits_24 : decode (mC mX11_rightBits) 24 = .ok (.bipush 12, 2) := by decide +kernel
theorem dX11_rightBits_26 : decode (mC mX11_rightBits) 26 = .ok (.if_icmp .ge 48, 3) := by decide +kernel
theorem dX11_rightBits_29 : decode (mC mX11_rightBits) 29 = .ok (.aload_n 0, 1) := by decide +kernel
theorem dX11_rightBits_30 : decode (mC mX11_rightBits) 30 = .ok (.getfield 47, 3) := by decide +kernel
theorem dX11_rightBits_33 : decode (mC mX11_rightBits) 33 = .ok (.aload_n 1, 1) := by decide +kernel
theorem dX11_rightBits_34 : decode (mC mX11_rightBits) 34 = .ok (.aload_n 2, 1) := by decide +kernel
theorem dX11_rightBits_35 : decode (mC mX11_rightBits) 35 = .ok (.getfield 219, 3) := by decide +kernel
theorem dX11_rightBits_38 : decode (mC mX11_rightBits) 38 = .ok (.iload 4, 2) := by decide +kernel
theorem dX11_rightBits_40 : decode (mC mX11_rightBits) 40 = .ok (.iaload, 1) := by decide +kernel
theorem dX11_rightBits_41 : decode (mC mX11_rightBits) 41 = .ok (.aload_n 2, 1) := by decide +kernel
theorem dX11_rightBits_42 : decode (mC mX11_rightBits) 42 = .ok (.getfield 222, 3) := by decide +kernel
theorem dX11_rightBits_45 : decode (mC mX11_rightBits) 45 = .ok (.iload 4, 2) := by decide +kernel
theorem dX11_rightBits_47 : decode (mC mX11_rightBits) 47 = .ok (.iaload, 1) := by decide +kernel
theorem dX11_rightBits_48 : decode (mC mX11_rightBits) 48 = .ok (.invokevirtual 196, 3) := by decide +kernel
theorem dX11_rightBits_51 : decode (mC mX11_rightBits) 51 = .ok (.aload_n 2, 1) := by decide +kernel
theorem dX11_rightBits_52 : decode (mC mX11_rightBits) 52 = .ok (.getfield 225, 3) := by decide +kernel
theorem dX11_rightBits_55 : decode (mC mX11_rightBits) 55 = .ok (.iload 4, 2) := by decide +kernel
theorem dX11_rightBits_57 : decode (mC mX11_rightBits) 57 = .ok (.iaload, 1) := by decide +kernel
theorem dX11_rightBits_58 : decode (mC mX11_rightBits) 58 = .ok (.if_icmp .ne 10, 3) := by decide +kernel
theorem dX11_rightBits_61 : decode (mC mX11_rightBits) 61 = .ok (.iload_n 3, 1) := by decide +kernel
theorem dX11_rightBits_62 : decode (mC mX11_rightBits) 62 = .ok (.iconst 1, 1) := by decide +kernel
theorem dX11_rightBits_63 : decode (mC mX11_rightBits) 63 = .ok (.iload 4, 2) := by decide +kernel
theorem dX11_rightBits_65 : decode (mC mX11_rightBits) 65 = .ok (.ishl, 1) := by decide +kernel
theorem dX11_rightBits_66 : decode (mC mX11_rightBits) 66 = .ok (.ior, 1) := by decide +kernel
theorem dX11_rightBits_67 : decode (mC mX11_rightBits) 67 = .ok (.istore_n 3, 1) := by decide +kernel
theorem dX11_rightBits_68 : decode (mC mX11_rightBits) 68 = .ok (.iinc 4 1, 3) := by decide +kernel
theorem dX11_rightBits_71 : decode (mC mX11_rightBits) 71 = .ok (.goto (-58), 3) := by decide +kernel
theorem dX11_rightBits_74 : decode (mC mX11_rightBits) 74 = .ok (.iload_n 3, 1) := by decide +kernel
theorem dX11_rightBits_75 : decode (mC mX11_rightBits) 75 = .ok (.ireturn, 1) := by decide +kernel
set_option maxRecDepth 100000 in
theorem bX11_rightBits_0 {sc : Nat × (Nat → Int32)} {h : jH} {Q : jQ} {a : Nat} (a_h : jI4 a)
    (v1 : WP mX11_rightBits Q 13 [some (.ref 0), some (.ref a), some (.ref 14), some (.int 0), some (.int 0)] [] (jG0 sc) h (0, 0)) :
    WP mX11_rightBits Q 0 [some (.ref 0), some (.ref a), none, none, none] [] (jG0 sc) h (0, 0) := by
  obtain ⟨a_lt1, a_K0, a_R0_0, a_K1, a_L1⟩ := a_h
  have a_lt0 : a + 0 < jN (jG0 sc) := Nat.lt_of_succ_lt a_lt1
  refine j_aload_n (i := 0) rfl dX11_rightBits_0 ?_
  refine j_getR (idx := 37) (ci := 11) (k := 4) (nest := false) (show (11, 37, 11, 4, false) ∈ jFT by decide) rfl (Nat.le_of_ble_eq_true rfl) rfl (a := 9) rfl dX11_rightBits_1 ?_
  refine j_getR (idx := 169) (ci := 6) (k := 2) (nest := true) (show (11, 169, 6, 2, true) ∈ jFT by decide) rfl (Nat.le_of_ble_eq_true rfl) rfl (a := 14) rfl dX11_rightBits_4 ?_
  refine j_astore_n (i := 2) dX11_rightBits_7 (Nat.le_of_ble_eq_true rfl) ?_
  refine j_iconst (n := 0) 0 (by decide) dX11_rightBits_8 ?_
  refine j_istore_n (i := 3) dX11_rightBits_9 (Nat.le_of_ble_eq_true rfl) ?_
  refine j_iconst (n := 0) 0 (by decide) dX11_rightBits_10 ?_
  refine j_istore (i := 4) dX11_rightBits_11 (Nat.le_of_ble_eq_true rfl) ?_
  exact j_le [some (.ref 0), some (.ref a), some (.ref 14), some (.int 0), some (.int 0)] (And.intro rfl (And.intro rfl (And.intro rfl (And.intro rfl (And.intro rfl True.intro))))) v1
set_option maxRecDepth 100000 in
theorem bX11_rightBits_13 {sc : Nat × (Nat → Int32)} {h : jH} {Q : jQ} {a : Nat} {l3 l4 : Int32} (a_h : jI4 a)
    (v1 : (h 14 3) ≤ l4 → WP mX11_rightBits Q 74 [some (.ref 0), some (.ref a), some (.ref 14), some (.int l3), some (.int l4)] [] (jG0 sc) h (0, 0))
    (v2 : ¬ (h 14 3) ≤ l4 → WP mX11_rightBits Q 22 [some (.ref 0), some (.ref a), some (.ref 14), some (.int l3), some (.int l4)] [] (jG0 sc) h (0, 0)) :
    WP mX11_rightBits Q 13 [some (.ref 0), some (.ref a), some (.ref 14), some (.int l3), some (.int l4)] [] (jG0 sc) h (0, 0) := by
  obtain ⟨a_lt1, a_K0, a_R0_0, a_K1, a_L1⟩ := a_h
  have a_lt0 : a + 0 < jN (jG0 sc) := Nat.lt_of_succ_lt a_lt1
  refine j_iload (i := 4) rfl dX11_rightBits_13 ?_
  refine j_aload_n (i := 2) rfl dX11_rightBits_15 ?_
  refine j_getI (idx := 173) (ci := 5) (k := 3) (nest := true) (show (11, 173, 5, 3, true) ∈ jFT by decide) rfl (Nat.le_of_ble_eq_true rfl) rfl dX11_rightBits_16 ?_
  refine j_icmp_ge (off := 55) 74 dX11_rightBits_19 (by decide) (fun c1 => ?_) (fun c1 => ?_)
  · exact j_le [some (.ref 0), some (.ref a), some (.ref 14), some (.int l3), some (.int l4)] (And.intro rfl (And.intro rfl (And.intro rfl (And.intro rfl (And.intro rfl True.intro))))) (v1 c1)
  · exact j_le [some (.ref 0), some (.ref a), some (.ref 14), some (.int l3), some (.int l4)] (And.intro rfl (And.intro rfl (And.intro rfl (And.intro rfl (And.intro rfl True.intro))))) (v2 c1)
set_option maxRecDepth 100000 in
theorem bX11_rightBits_22 {sc : Nat × (Nat → Int32)} {h : jH} {Q : jQ} {a : Nat} {l3 l4 : Int32} (a_h : jI4 a)
    (v1 : 12 ≤ l4 → WP mX11_rightBits Q 74 [some (.ref 0), some (.ref a), some (.ref 14), some (.int l3), some (.int l4)] [] (jG0 sc) h (0, 0))
    (v2 : ¬ 12 ≤ l4 → WP mX11_rightBits Q 29 [some (.ref 0), some (.ref a), some (.ref 14), some (.int l3), some (.int l4)] [] (jG0 sc) h (0, 0)) :
    WP mX11_rightBits Q 22 [some (.ref 0), some (.ref a), some (.ref 14), some (.int l3), some (.int l4)] [] (jG0 sc) h (0, 0) := by
  obtain ⟨a_lt1, a_K0, a_R0_0, a_K1, a_L1⟩ := a_h
  have a_lt0 : a + 0 < jN (jG0 sc) := Nat.lt_of_succ_lt a_lt1
  refine j_iload (i := 4) rfl dX11_rightBits_22 ?_
  refine j_bipush (n := 12) 12 (by decide) dX11_rightBits_24 ?_
  refine j_icmp_ge (off := 48) 74 dX11_rightBits_26 (by decide) (fun c1 => ?_) (fun c1 => ?_)
  · exact j_le [some (.ref 0), some (.ref a), some (.ref 14), some (.int l3), some (.int l4)] (And.intro rfl (And.intro rfl (And.intro rfl (And.intro rfl (And.intro rfl True.intro))))) (v1 c1)
  · exact j_le [some (.ref 0), some (.ref a), some (.ref 14), some (.int l3), some (.int l4)] (And.intro rfl (And.intro rfl (And.intro rfl (And.intro rfl (And.intro rfl True.intro))))) (v2 c1)
set_option maxRecDepth 100000 in
theorem bX11_rightBits_29 {sc : Nat × (Nat → Int32)} {h : jH} {Q : jQ} {a : Nat} {l3 l4 : Int32} {P1 : Int32 → jH → Prop} (a_h : jI4 a)
    (o1 : vp_in l4 12)
    (o2 : vp_in l4 12)
    (k1 : JM mX10_through [.ref 69, .ref a, .int (h 15 l4.toNatClampNeg), .int (h 16 l4.toNatClampNeg)] (jG0 sc) h (jint sc P1))
    (o3 : ∀ (x1 : Int32) (h1 : jH), P1 x1 h1 → vp_in l4 12)
    (v1 : ∀ (x1 : Int32) (h1 : jH), P1 x1 h1 → ¬ x1 = (h1 17 l4.toNatClampNeg) → WP mX11_rightBits Q 68 [some (.ref 0), some (.ref a), some (.ref 14), some (.int l3), some (.int l4)] [] (jG0 sc) h1 (0, 0))
    (v2 : ∀ (x1 : Int32) (h1 : jH), P1 x1 h1 → x1 = (h1 17 l4.toNatClampNeg) → WP mX11_rightBits Q 61 [some (.ref 0), some (.ref a), some (.ref 14), some (.int l3), some (.int l4)] [] (jG0 sc) h1 (0, 0)) :
    WP mX11_rightBits Q 29 [some (.ref 0), some (.ref a), some (.ref 14), some (.int l3), some (.int l4)] [] (jG0 sc) h (0, 0) := by
  obtain ⟨a_lt1, a_K0, a_R0_0, a_K1, a_L1⟩ := a_h
  have a_lt0 : a + 0 < jN (jG0 sc) := Nat.lt_of_succ_lt a_lt1
  refine j_aload_n (i := 0) rfl dX11_rightBits_29 ?_
  refine j_getR (idx := 47) (ci := 11) (k := 7) (nest := false) (show (11, 47, 11, 7, false) ∈ jFT by decide) rfl (Nat.le_of_ble_eq_true rfl) rfl (a := 69) rfl dX11_rightBits_30 ?_
  refine j_aload_n (i := 1) rfl dX11_rightBits_33 ?_
  refine j_aload_n (i := 2) rfl dX11_rightBits_34 ?_
  refine j_getR (idx := 219) (ci := 5) (k := 0) (nest := true) (show (11, 219, 5, 0, true) ∈ jFT by decide) rfl (Nat.le_of_ble_eq_true rfl) rfl (a := 15) rfl dX11_rightBits_35 ?_
  refine j_iload (i := 4) rfl dX11_rightBits_38 ?_
  refine j_iald (Nat.le_of_ble_eq_true rfl) rfl o1 dX11_rightBits_40 ?_
  refine j_aload_n (i := 2) rfl dX11_rightBits_41 ?_
  refine j_getR (idx := 222) (ci := 5) (k := 1) (nest := true) (show (11, 222, 5, 1, true) ∈ jFT by decide) rfl (Nat.le_of_ble_eq_true rfl) rfl (a := 16) rfl dX11_rightBits_42 ?_
  refine j_iload (i := 4) rfl dX11_rightBits_45 ?_
  refine j_iald (Nat.le_of_ble_eq_true rfl) rfl o2 dX11_rightBits_47 ?_
  refine j_callVN (idx := 196) (As := [.ref a, .int (h 15 l4.toNatClampNeg), .int (h 16 l4.toNatClampNeg)]) (ci := 10) (n := 3) k1 jint_nt (jTbl (jtb3 9 rfl)) sX10_through kX10_through rfl ⟨rfl, by decide +kernel, by decide +kernel, by decide +kernel⟩ rfl ⟨by decide, by decide⟩ (Nat.le_of_ble_eq_true rfl) rfl (Nat.le_of_ble_eq_true rfl) (Nat.le_of_ble_eq_true rfl) ⟨Nat.zero_le _, Nat.zero_le _⟩ dX11_rightBits_48 (fun r Γ' h1 q => ?_)
  obtain ⟨x1, q0, rfl, p1⟩ := q; cases q0
  refine j_eqst [.int x1] (by rfl) ?_
  refine j_aload_n (i := 2) rfl dX11_rightBits_51 ?_
  refine j_getR (idx := 225) (ci := 5) (k := 2) (nest := true) (show (11, 225, 5, 2, true) ∈ jFT by decide) rfl (Nat.le_of_ble_eq_true rfl) rfl (a := 17) rfl dX11_rightBits_52 ?_
  refine j_iload (i := 4) rfl dX11_rightBits_55 ?_
  refine j_iald (Nat.le_of_ble_eq_true rfl) rfl (o3 x1 h1 p1) dX11_rightBits_57 ?_
  refine j_icmp_ne (off := 10) 68 dX11_rightBits_58 (by decide) (fun c1 => ?_) (fun c1 => ?_)
  · exact j_le [some (.ref 0), some (.ref a), some (.ref 14), some (.int l3), some (.int l4)] (And.intro rfl (And.intro rfl (And.intro rfl (And.intro rfl (And.intro rfl True.intro))))) (v1 x1 h1 p1 c1)
  · exact j_le [some (.ref 0), some (.ref a), some (.ref 14), some (.int l3), some (.int l4)] (And.intro rfl (And.intro rfl (And.intro rfl (And.intro rfl (And.intro rfl True.intro))))) (v2 x1 h1 p1 c1)
set_option maxRecDepth 100000 in
theorem bX11_rightBits_61 {sc : Nat × (Nat → Int32)} {h : jH} {Q : jQ} {a : Nat} {l3 l4 : Int32} (a_h : jI4 a)
    (v1 : WP mX11_rightBits Q 68 [some (.ref 0), some (.ref a), some (.ref 14), some (.int (l3 ||| ((1 : Int32) <<< (l4 &&& 31)))), some (.int l4)] [] (jG0 sc) h (0, 0)) :
    WP mX11_rightBits Q 61 [some (.ref 0), some (.ref a), some (.ref 14), some (.int l3), some (.int l4)] [] (jG0 sc) h (0, 0) := by
  obtain ⟨a_lt1, a_K0, a_R0_0, a_K1, a_L1⟩ := a_h
  have a_lt0 : a + 0 < jN (jG0 sc) := Nat.lt_of_succ_lt a_lt1
  refine j_iload_n (i := 3) rfl dX11_rightBits_61 ?_
  refine j_iconst (n := 1) 1 (by decide) dX11_rightBits_62 ?_
  refine j_iload (i := 4) rfl dX11_rightBits_63 ?_
  refine j_ishl dX11_rightBits_65 ?_
  refine j_ior dX11_rightBits_66 ?_
  refine j_istore_n (i := 3) dX11_rightBits_67 (Nat.le_of_ble_eq_true rfl) ?_
  exact j_le [some (.ref 0), some (.ref a), some (.ref 14), some (.int (l3 ||| ((1 : Int32) <<< (l4 &&& 31)))), some (.int l4)] (And.intro rfl (And.intro rfl (And.intro rfl (And.intro rfl (And.intro rfl True.intro))))) v1
set_option maxRecDepth 100000 in
theorem bX11_rightBits_68 {sc : Nat × (Nat → Int32)} {h : jH} {Q : jQ} {a : Nat} {l3 l4 : Int32} (a_h : jI4 a)
    (v1 : WP mX11_rightBits Q 13 [some (.ref 0), some (.ref a), some (.ref 14), some (.int l3), some (.int (l4 + 1))] [] (jG0 sc) h (0, 0)) :
    WP mX11_rightBits Q 68 [some (.ref 0), some (.ref a), some (.ref 14), some (.int l3), some (.int l4)] [] (jG0 sc) h (0, 0) := by
  obtain ⟨a_lt1, a_K0, a_R0_0, a_K1, a_L1⟩ := a_h
  have a_lt0 : a + 0 < jN (jG0 sc) := Nat.lt_of_succ_lt a_lt1
  refine j_iinc (i := 4) (n := 1) rfl dX11_rightBits_68 (Nat.le_of_ble_eq_true rfl) ?_
  refine j_eqlv [some (.ref 0), some (.ref a), some (.ref 14), some (.int l3), some (.int (l4 + 1))] rfl ?_
  refine j_goto (off := -58) 13 dX11_rightBits_71 (by decide) ?_
  exact j_le [some (.ref 0), some (.ref a), some (.ref 14), some (.int l3), some (.int (l4 + 1))] (And.intro rfl (And.intro rfl (And.intro rfl (And.intro rfl (And.intro rfl True.intro))))) v1
set_option maxRecDepth 100000 in
theorem bX11_rightBits_74 {sc : Nat × (Nat → Int32)} {h : jH} {Q : jQ} {a : Nat} {l3 l4 : Int32} (a_h : jI4 a)
    (v1 : Q (.inl (some (.int l3))) (jG0 sc) h) :
    WP mX11_rightBits Q 74 [some (.ref 0), some (.ref a), some (.ref 14), some (.int l3), some (.int l4)] [] (jG0 sc) h (0, 0) := by
  obtain ⟨a_lt1, a_K0, a_R0_0, a_K1, a_L1⟩ := a_h
  have a_lt0 : a + 0 < jN (jG0 sc) := Nat.lt_of_succ_lt a_lt1
  refine j_iload_n (i := 3) rfl dX11_rightBits_74 ?_
  exact j_iret rfl rfl (Nat.zero_le _) (Nat.zero_le _) dX11_rightBits_75 v1
set_option maxRecDepth 100000 in
theorem rX11_rightBits_0 {sc : Nat × (Nat → Int32)} {h : jH} {Q : jQ} {a : Nat} (a_h : jI4 a)
    (v1 : WP mX11_rightBits Q 13 [some (.ref 0), some (.ref a), some (.ref 14), some (.int 0), some (.int 0)] [] (jG0 sc) h (0, 0)) :
    WP mX11_rightBits Q 0 [some (.ref 0), some (.ref a), none, none, none] [] (jG0 sc) h (0, 0) := by
  exact (bX11_rightBits_0 a_h v1)
set_option maxRecDepth 100000 in
theorem rX11_rightBits_13 {sc : Nat × (Nat → Int32)} {h : jH} {Q : jQ} {a : Nat} {l3 l4 : Int32} {P1 : Int32 → jH → Prop} (a_h : jI4 a)
    (v1 : (h 14 3) ≤ l4 → Q (.inl (some (.int l3))) (jG0 sc) h)
    (v2 : ¬ (h 14 3) ≤ l4 → 12 ≤ l4 → Q (.inl (some (.int l3))) (jG0 sc) h)
    (o1 : ¬ (h 14 3) ≤ l4 → ¬ 12 ≤ l4 → vp_in l4 12)
    (k1 : ¬ (h 14 3) ≤ l4 → ¬ 12 ≤ l4 → JM mX10_through [.ref 69, .ref a, .int (h 15 l4.toNatClampNeg), .int (h 16 l4.toNatClampNeg)] (jG0 sc) h (jint sc P1))
    (o2 : ¬ (h 14 3) ≤ l4 → ¬ 12 ≤ l4 → ∀ (x1 : Int32) (h1 : jH), P1 x1 h1 → vp_in l4 12)
    (v3 : ¬ (h 14 3) ≤ l4 → ¬ 12 ≤ l4 → ∀ (x1 : Int32) (h1 : jH), P1 x1 h1 → ¬ x1 = (h1 17 l4.toNatClampNeg) → WP mX11_rightBits Q 13 [some (.ref 0), some (.ref a), some (.ref 14), some (.int l3), some (.int (l4 + 1))] [] (jG0 sc) h1 (0, 0))
    (v4 : ¬ (h 14 3) ≤ l4 → ¬ 12 ≤ l4 → ∀ (x1 : Int32) (h1 : jH), P1 x1 h1 → x1 = (h1 17 l4.toNatClampNeg) → WP mX11_rightBits Q 13 [some (.ref 0), some (.ref a), some (.ref 14), some (.int (l3 ||| ((1 : Int32) <<< (l4 &&& 31)))), some (.int (l4 + 1))] [] (jG0 sc) h1 (0, 0)) :
    WP mX11_rightBits Q 13 [some (.ref 0), some (.ref a), some (.ref 14), some (.int l3), some (.int l4)] [] (jG0 sc) h (0, 0) := by
  exact (bX11_rightBits_13 a_h (fun c1 => (bX11_rightBits_74 a_h (v1 c1))) (fun c1 => (bX11_rightBits_22 a_h (fun c2 => (bX11_rightBits_74 a_h (v2 c1 c2))) (fun c2 => (bX11_rightBits_29 a_h (o1 c1 c2) (o1 c1 c2) (k1 c1 c2) (fun x1 h1 p1 => (o2 c1 c2 x1 h1 p1)) (fun x1 h1 p1 c3 => (bX11_rightBits_68 a_h (v3 c1 c2 x1 h1 p1 c3))) (fun x1 h1 p1 c3 => (bX11_rightBits_61 a_h (bX11_rightBits_68 a_h (v4 c1 c2 x1 h1 p1 c3)))))))))
theorem dX11_firstWrong_0 : decode (mC mX11_firstWrong) 0 = .ok (.aload_n 0, 1) := by decide +kernel
theorem dX11_firstWrong_1 : decode (mC mX11_firstWrong) 1 = .ok (.getfield 37, 3) := by decide +kernel
theorem dX11_firstWrong_4 : decode (mC mX11_firstWrong) 4 = .ok (.getfield 169, 3) := by decide +kernel
theorem dX11_firstWrong_7 : decode (mC mX11_firstWrong) 7 = .ok (.astore_n 2, 1) := by decide +kernel
theorem dX11_firstWrong_8 : decode (mC mX11_firstWrong) 8 = .ok (.iconst 0, 1) := by decide +kernel
theorem dX11_firstWrong_9 : decode (mC mX11_firstWrong) 9 = .ok (.istore_n 3, 1) := by decide +kernel
theorem dX11_firstWrong_10 : decode (mC mX11_firstWrong) 10 = .ok (.iload_n 3, 1) := by decide +kernel
theorem dX11_firstWrong_11 : decode (mC mX11_firstWrong) 11 = .ok (.aload_n 2, 1) := by decide +kernel
theorem dX11_firstWrong_12 : decode (mC mX11_firstWrong) 12 = .ok (.getfield 173, 3) := by decide +kernel
theorem dX11_firstWrong_15 : decode (mC mX11_firstWrong) 15 = .ok (.if_icmp .ge 46, 3) := by decide +kernel
theorem dX11_firstWrong_18 : decode (mC mX11_firstWrong) 18 = .ok (.iload_n 3, 1) := by decide +kernel
theorem dX11_firstWrong_19 : decode (mC mX11_firstWrong) 19 = .ok (.bipush 12, 2) := by decide +kernel
theorem dX11_firstWrong_21 : decode (mC mX11_firstWrong) 21 = .ok (.if_icmp .ge 40, 3) := by decide +kernel
theorem dX11_firstWrong_24 : decode (mC mX11_firstWrong) 24 = .ok (.aload_n 0, 1) := by decide +kernel
theorem dX11_firstWrong_25 : decode (mC mX11_firstWrong) 25 = .ok (.getfield 47, 3) := by decide +kernel
theorem dX11_firstWrong_28 : decode (mC mX11_firstWrong) 28 = .ok (.aload_n 1, 1) := by decide +kernel
theorem dX11_firstWrong_29 : decode (mC mX11_firstWrong) 29 = .ok (.aload_n 2, 1) := by decide +kernel
theorem dX11_firstWrong_30 : decode (mC mX11_firstWrong) 30 = .ok (.getfield 219, 3) := by decide +kernel
theorem dX11_firstWrong_33 : decode (mC mX11_firstWrong) 33 = .ok (.iload_n 3, 1) := by decide +kernel
theorem dX11_firstWrong_34 : decode (mC mX11_firstWrong) 34 = .ok (.iaload, 1) := by decide +kernel
theorem dX11_firstWrong_35 : decode (mC mX11_firstWrong) 35 = .ok (.aload_n 2, 1) := by decide +kernel
theorem dX11_firstWrong_36 : decode (mC mX11_firstWrong) 36 = .ok (.getfield 222, 3) := by decide +kernel
theorem dX11_firstWrong_39 : decode (mC mX11_firstWrong) 39 = .ok (.iload_n 3, 1) := by decide +kernel
theorem dX11_firstWrong_40 : decode (mC mX11_firstWrong) 40 = .ok (.iaload, 1) := by decide +kernel
theorem dX11_firstWrong_41 : decode (mC mX11_firstWrong) 41 = .ok (.invokevirtual 196, 3) := by decide +kernel
theorem dX11_firstWrong_44 : decode (mC mX11_firstWrong) 44 = .ok (.aload_n 2, 1) := by decide +kernel
theorem dX11_firstWrong_45 : decode (mC mX11_firstWrong) 45 = .ok (.getfield 225, 3) := by decide +kernel
theorem dX11_firstWrong_48 : decode (mC mX11_firstWrong) 48 = .ok (.iload_n 3, 1) := by decide +kernel
theorem dX11_firstWrong_49 : decode (mC mX11_firstWrong) 49 = .ok (.iaload, 1) := by decide +kernel
theorem dX11_firstWrong_50 : decode (mC mX11_firstWrong) 50 = .ok (.if_icmp .eq 5, 3) := by decide +kernel
theorem dX11_firstWrong_53 : decode (mC mX11_firstWrong) 53 = .ok (.iload_n 3, 1) := by decide +kernel
theorem dX11_firstWrong_54 : decode (mC mX11_firstWrong) 54 = .ok (.ireturn, 1) := by decide +kernel
theorem dX11_firstWrong_55 : decode (mC mX11_firstWrong) 55 = .ok (.iinc 3 1, 3) := by decide +kernel
theorem dX11_firstWrong_58 : decode (mC mX11_firstWrong) 58 = .ok (.goto (-48), 3) := by decide +kernel
theorem dX11_firstWrong_61 : decode (mC mX11_firstWrong) 61 = .ok (.iconst (-1), 1) := by decide +kernel
theorem dX11_firstWrong_62 : decode (mC mX11_firstWrong) 62 = .ok (.ireturn, 1) := by decide +kernel
set_option maxRecDepth 100000 in
theorem bX11_firstWrong_0 {sc : Nat × (Nat → Int32)} {h : jH} {Q : jQ} {a : Nat} (a_h : jI4 a)
    (v1 : WP mX11_firstWrong Q 10 [some (.ref 0), some (.ref a), some (.ref 14), some (.int 0)] [] (jG0 sc) h (0, 0)) :
    WP mX11_firstWrong Q 0 [some (.ref 0), some (.ref a), none, none] [] (jG0 sc) h (0, 0) := by
  obtain ⟨a_lt1, a_K0, a_R0_0, a_K1, a_L1⟩ := a_h
  have a_lt0 : a + 0 < jN (jG0 sc) := Nat.lt_of_succ_lt a_lt1
  refine j_aload_n (i := 0) rfl dX11_firstWrong_0 ?_
  refine j_getR (idx := 37) (ci := 11) (k := 4) (nest := false) (show (11, 37, 11, 4, false) ∈ jFT by decide) rfl (Nat.le_of_ble_eq_true rfl) rfl (a := 9) rfl dX11_firstWrong_1 ?_
  refine j_getR (idx := 169) (ci := 6) (k := 2) (nest := true) (show (11, 169, 6, 2, true) ∈ jFT by decide) rfl (Nat.le_of_ble_eq_true rfl) rfl (a := 14) rfl dX11_firstWrong_4 ?_
  refine j_astore_n (i := 2) dX11_firstWrong_7 (Nat.le_of_ble_eq_true rfl) ?_
  refine j_iconst (n := 0) 0 (by decide) dX11_firstWrong_8 ?_
  refine j_istore_n (i := 3) dX11_firstWrong_9 (Nat.le_of_ble_eq_true rfl) ?_
  exact j_le [some (.ref 0), some (.ref a), some (.ref 14), some (.int 0)] (And.intro rfl (And.intro rfl (And.intro rfl (And.intro rfl True.intro)))) v1
set_option maxRecDepth 100000 in
theorem bX11_firstWrong_10 {sc : Nat × (Nat → Int32)} {h : jH} {Q : jQ} {a : Nat} {l3 : Int32} (a_h : jI4 a)
    (v1 : (h 14 3) ≤ l3 → WP mX11_firstWrong Q 61 [some (.ref 0), some (.ref a), some (.ref 14), some (.int l3)] [] (jG0 sc) h (0, 0))
    (v2 : ¬ (h 14 3) ≤ l3 → WP mX11_firstWrong Q 18 [some (.ref 0), some (.ref a), some (.ref 14), some (.int l3)] [] (jG0 sc) h (0, 0)) :
    WP mX11_firstWrong Q 10 [some (.ref 0), some (.ref a), some (.ref 14), some (.int l3)] [] (jG0 sc) h (0, 0) := by
  obtain ⟨a_lt1, a_K0, a_R0_0, a_K1, a_L1⟩ := a_h
  have a_lt0 : a + 0 < jN (jG0 sc) := Nat.lt_of_succ_lt a_lt1
  refine j_iload_n (i := 3) rfl dX11_firstWrong_10 ?_
  refine j_aload_n (i := 2) rfl dX11_firstWrong_11 ?_
  refine j_getI (idx := 173) (ci := 5) (k := 3) (nest := true) (show (11, 173, 5, 3, true) ∈ jFT by decide) rfl (Nat.le_of_ble_eq_true rfl) rfl dX11_firstWrong_12 ?_
  refine j_icmp_ge (off := 46) 61 dX11_firstWrong_15 (by decide) (fun c1 => ?_) (fun c1 => ?_)
  · exact j_le [some (.ref 0), some (.ref a), some (.ref 14), some (.int l3)] (And.intro rfl (And.intro rfl (And.intro rfl (And.intro rfl True.intro)))) (v1 c1)
  · exact j_le [some (.ref 0), some (.ref a), some (.ref 14), some (.int l3)] (And.intro rfl (And.intro rfl (And.intro rfl (And.intro rfl True.intro)))) (v2 c1)
set_option maxRecDepth 100000 in
theorem bX11_firstWrong_18 {sc : Nat × (Nat → Int32)} {h : jH} {Q : jQ} {a : Nat} {l3 : Int32} (a_h : jI4 a)
    (v1 : 12 ≤ l3 → WP mX11_firstWrong Q 61 [some (.ref 0), some (.ref a), some (.ref 14), some (.int l3)] [] (jG0 sc) h (0, 0))
    (v2 : ¬ 12 ≤ l3 → WP mX11_firstWrong Q 24 [some (.ref 0), some (.ref a), some (.ref 14), some (.int l3)] [] (jG0 sc) h (0, 0)) :
    WP mX11_firstWrong Q 18 [some (.ref 0), some (.ref a), some (.ref 14), some (.int l3)] [] (jG0 sc) h (0, 0) := by
  obtain ⟨a_lt1, a_K0, a_R0_0, a_K1, a_L1⟩ := a_h
  have a_lt0 : a + 0 < jN (jG0 sc) := Nat.lt_of_succ_lt a_lt1
  refine j_iload_n (i := 3) rfl dX11_firstWrong_18 ?_
  refine j_bipush (n := 12) 12 (by decide) dX11_firstWrong_19 ?_
  refine j_icmp_ge (off := 40) 61 dX11_firstWrong_21 (by decide) (fun c1 => ?_) (fun c1 => ?_)
  · exact j_le [some (.ref 0), some (.ref a), some (.ref 14), some (.int l3)] (And.intro rfl (And.intro rfl (And.intro rfl (And.intro rfl True.intro)))) (v1 c1)
  · exact j_le [some (.ref 0), some (.ref a), some (.ref 14), some (.int l3)] (And.intro rfl (And.intro rfl (And.intro rfl (And.intro rfl True.intro)))) (v2 c1)
set_option maxRecDepth 100000 in
theorem bX11_firstWrong_24 {sc : Nat × (Nat → Int32)} {h : jH} {Q : jQ} {a : Nat} {l3 : Int32} {P1 : Int32 → jH → Prop} (a_h : jI4 a)
    (o1 : vp_in l3 12)
    (o2 : vp_in l3 12)
    (k1 : JM mX10_through [.ref 69, .ref a, .int (h 15 l3.toNatClampNeg), .int (h 16 l3.toNatClampNeg)] (jG0 sc) h (jint sc P1))
    (o3 : ∀ (x1 : Int32) (h1 : jH), P1 x1 h1 → vp_in l3 12)
    (v1 : ∀ (x1 : Int32) (h1 : jH), P1 x1 h1 → x1 = (h1 17 l3.toNatClampNeg) → WP mX11_firstWrong Q 55 [some (.ref 0), some (.ref a), some (.ref 14), some (.int l3)] [] (jG0 sc) h1 (0, 0))
    (v2 : ∀ (x1 : Int32) (h1 : jH), P1 x1 h1 → ¬ x1 = (h1 17 l3.toNatClampNeg) → WP mX11_firstWrong Q 53 [some (.ref 0), some (.ref a), some (.ref 14), some (.int l3)] [] (jG0 sc) h1 (0, 0)) :
    WP mX11_firstWrong Q 24 [some (.ref 0), some (.ref a), some (.ref 14), some (.int l3)] [] (jG0 sc) h (0, 0) := by
  obtain ⟨a_lt1, a_K0, a_R0_0, a_K1, a_L1⟩ := a_h
  have a_lt0 : a + 0 < jN (jG0 sc) := Nat.lt_of_succ_lt a_lt1
  refine j_aload_n (i := 0) rfl dX11_firstWrong_24 ?_
  refine j_getR (idx := 47) (ci := 11) (k := 7) (nest := false) (show (11, 47, 11, 7, false) ∈ jFT by decide) rfl (Nat.le_of_ble_eq_true rfl) rfl (a := 69) rfl dX11_firstWrong_25 ?_
  refine j_aload_n (i := 1) rfl dX11_firstWrong_28 ?_
  refine j_aload_n (i := 2) rfl dX11_firstWrong_29 ?_
  refine j_getR (idx := 219) (ci := 5) (k := 0) (nest := true) (show (11, 219, 5, 0, true) ∈ jFT by decide) rfl (Nat.le_of_ble_eq_true rfl) rfl (a := 15) rfl dX11_firstWrong_30 ?_
  refine j_iload_n (i := 3) rfl dX11_firstWrong_33 ?_
  refine j_iald (Nat.le_of_ble_eq_true rfl) rfl o1 dX11_firstWrong_34 ?_
  refine j_aload_n (i := 2) rfl dX11_firstWrong_35 ?_
  refine j_getR (idx := 222) (ci := 5) (k := 1) (nest := true) (show (11, 222, 5, 1, true) ∈ jFT by decide) rfl (Nat.le_of_ble_eq_true rfl) rfl (a := 16) rfl dX11_firstWrong_36 ?_
  refine j_iload_n (i := 3) rfl dX11_firstWrong_39 ?_
  refine j_iald (Nat.le_of_ble_eq_true rfl) rfl o2 dX11_firstWrong_40 ?_
  refine j_callVN (idx := 196) (As := [.ref a, .int (h 15 l3.toNatClampNeg), .int (h 16 l3.toNatClampNeg)]) (ci := 10) (n := 3) k1 jint_nt (jTbl (jtb3 9 rfl)) sX10_through kX10_through rfl ⟨rfl, by decide +kernel, by decide +kernel, by decide +kernel⟩ rfl ⟨by decide, by decide⟩ (Nat.le_of_ble_eq_true rfl) rfl (Nat.le_of_ble_eq_true rfl) (Nat.le_of_ble_eq_true rfl) ⟨Nat.zero_le _, Nat.zero_le _⟩ dX11_firstWrong_41 (fun r Γ' h1 q => ?_)
  obtain ⟨x1, q0, rfl, p1⟩ := q; cases q0
  refine j_eqst [.int x1] (by rfl) ?_
  refine j_aload_n (i := 2) rfl dX11_firstWrong_44 ?_
  refine j_getR (idx := 225) (ci := 5) (k := 2) (nest := true) (show (11, 225, 5, 2, true) ∈ jFT by decide) rfl (Nat.le_of_ble_eq_true rfl) rfl (a := 17) rfl dX11_firstWrong_45 ?_
  refine j_iload_n (i := 3) rfl dX11_firstWrong_48 ?_
  refine j_iald (Nat.le_of_ble_eq_true rfl) rfl (o3 x1 h1 p1) dX11_firstWrong_49 ?_
  refine j_icmp_eq (off := 5) 55 dX11_firstWrong_50 (by decide) (fun c1 => ?_) (fun c1 => ?_)
  · exact j_le [some (.ref 0), some (.ref a), some (.ref 14), some (.int l3)] (And.intro rfl (And.intro rfl (And.intro rfl (And.intro rfl True.intro)))) (v1 x1 h1 p1 c1)
  · exact j_le [some (.ref 0), some (.ref a), some (.ref 14), some (.int l3)] (And.intro rfl (And.intro rfl (And.intro rfl (And.intro rfl True.intro)))) (v2 x1 h1 p1 c1)
set_option maxRecDepth 100000 in
theorem bX11_firstWrong_53 {sc : Nat × (Nat → Int32)} {h : jH} {Q : jQ} {a : Nat} {l3 : Int32} (a_h : jI4 a)
    (v1 : Q (.inl (some (.int l3))) (jG0 sc) h) :
    WP mX11_firstWrong Q 53 [some (.ref 0), some (.ref a), some (.ref 14), some (.int l3)] [] (jG0 sc) h (0, 0) := by
  obtain ⟨a_lt1, a_K0, a_R0_0, a_K1, a_L1⟩ := a_h
  have a_lt0 : a + 0 < jN (jG0 sc) := Nat.lt_of_succ_lt a_lt1
  refine j_iload_n (i := 3) rfl dX11_firstWrong_53 ?_
  exact j_iret rfl rfl (Nat.zero_le _) (Nat.zero_le _) dX11_firstWrong_54 v1
set_option maxRecDepth 100000 in
theorem bX11_firstWrong_55 {sc : Nat × (Nat → Int32)} {h : jH} {Q : jQ} {a : Nat} {l3 : Int32} (a_h : jI4 a)
    (v1 : WP mX11_firstWrong Q 10 [some (.ref 0), some (.ref a), some (.ref 14), some (.int (l3 + 1))] [] (jG0 sc) h (0, 0)) :
    WP mX11_firstWrong Q 55 [some (.ref 0), some (.ref a), some (.ref 14), some (.int l3)] [] (jG0 sc) h (0, 0) := by
  obtain ⟨a_lt1, a_K0, a_R0_0, a_K1, a_L1⟩ := a_h
  have a_lt0 : a + 0 < jN (jG0 sc) := Nat.lt_of_succ_lt a_lt1
  refine j_iinc (i := 3) (n := 1) rfl dX11_firstWrong_55 (Nat.le_of_ble_eq_true rfl) ?_
  refine j_eqlv [some (.ref 0), some (.ref a), some (.ref 14), some (.int (l3 + 1))] rfl ?_
  refine j_goto (off := -48) 10 dX11_firstWrong_58 (by decide) ?_
  exact j_le [some (.ref 0), some (.ref a), some (.ref 14), some (.int (l3 + 1))] (And.intro rfl (And.intro rfl (And.intro rfl (And.intro rfl True.intro)))) v1
set_option maxRecDepth 100000 in
theorem bX11_firstWrong_61 {sc : Nat × (Nat → Int32)} {h : jH} {Q : jQ} {a : Nat} {l3 : Int32} (a_h : jI4 a)
    (v1 : Q (.inl (some (.int (-1)))) (jG0 sc) h) :
    WP mX11_firstWrong Q 61 [some (.ref 0), some (.ref a), some (.ref 14), some (.int l3)] [] (jG0 sc) h (0, 0) := by
  obtain ⟨a_lt1, a_K0, a_R0_0, a_K1, a_L1⟩ := a_h
  have a_lt0 : a + 0 < jN (jG0 sc) := Nat.lt_of_succ_lt a_lt1
  refine j_iconst (n := (-1)) (-1) (by decide) dX11_firstWrong_61 ?_
  exact j_iret rfl rfl (Nat.zero_le _) (Nat.zero_le _) dX11_firstWrong_62 v1
set_option maxRecDepth 100000 in
theorem rX11_firstWrong_0 {sc : Nat × (Nat → Int32)} {h : jH} {Q : jQ} {a : Nat} (a_h : jI4 a)
    (v1 : WP mX11_firstWrong Q 10 [some (.ref 0), some (.ref a), some (.ref 14), some (.int 0)] [] (jG0 sc) h (0, 0)) :
    WP mX11_firstWrong Q 0 [some (.ref 0), some (.ref a), none, none] [] (jG0 sc) h (0, 0) := by
  exact (bX11_firstWrong_0 a_h v1)
set_option maxRecDepth 100000 in
theorem rX11_firstWrong_10 {sc : Nat × (Nat → Int32)} {h : jH} {Q : jQ} {a : Nat} {l3 : Int32} {P1 : Int32 → jH → Prop} (a_h : jI4 a)
    (v1 : (h 14 3) ≤ l3 → Q (.inl (some (.int (-1)))) (jG0 sc) h)
    (v2 : ¬ (h 14 3) ≤ l3 → 12 ≤ l3 → Q (.inl (some (.int (-1)))) (jG0 sc) h)
    (o1 : ¬ (h 14 3) ≤ l3 → ¬ 12 ≤ l3 → vp_in l3 12)
    (k1 : ¬ (h 14 3) ≤ l3 → ¬ 12 ≤ l3 → JM mX10_through [.ref 69, .ref a, .int (h 15 l3.toNatClampNeg), .int (h 16 l3.toNatClampNeg)] (jG0 sc) h (jint sc P1))
    (o2 : ¬ (h 14 3) ≤ l3 → ¬ 12 ≤ l3 → ∀ (x1 : Int32) (h1 : jH), P1 x1 h1 → vp_in l3 12)
    (v3 : ¬ (h 14 3) ≤ l3 → ¬ 12 ≤ l3 → ∀ (x1 : Int32) (h1 : jH), P1 x1 h1 → x1 = (h1 17 l3.toNatClampNeg) → WP mX11_firstWrong Q 10 [some (.ref 0), some (.ref a), some (.ref 14), some (.int (l3 + 1))] [] (jG0 sc) h1 (0, 0))
    (v4 : ¬ (h 14 3) ≤ l3 → ¬ 12 ≤ l3 → ∀ (x1 : Int32) (h1 : jH), P1 x1 h1 → ¬ x1 = (h1 17 l3.toNatClampNeg) → Q (.inl (some (.int l3))) (jG0 sc) h1) :
    WP mX11_firstWrong Q 10 [some (.ref 0), some (.ref a), some (.ref 14), some (.int l3)] [] (jG0 sc) h (0, 0) := by
  exact (bX11_firstWrong_10 a_h (fun c1 => (bX11_firstWrong_61 a_h (v1 c1))) (fun c1 => (bX11_firstWrong_18 a_h (fun c2 => (bX11_firstWrong_61 a_h (v2 c1 c2))) (fun c2 => (bX11_firstWrong_24 a_h (o1 c1 c2) (o1 c1 c2) (k1 c1 c2) (fun x1 h1 p1 => (o2 c1 c2 x1 h1 p1)) (fun x1 h1 p1 c3 => (bX11_firstWrong_55 a_h (v3 c1 c2 x1 h1 p1 c3))) (fun x1 h1 p1 c3 => (bX11_firstWrong_53 a_h (v4 c1 c2 x1 h1 p1 c3))))))))
theorem dX11_teach_0 : decode (mC mX11_teach) 0 = .ok (.iload_n 1, 1) := by decide +kernel
theorem dX11_teach_1 : decode (mC mX11_teach) 1 = .ok (.ifCond .lt 9, 3) := by decide +kernel
theorem dX11_teach_4 : decode (mC mX11_teach) 4 = .ok (.iload_n 1, 1) := by decide +kernel
theorem dX11_teach_5 : decode (mC mX11_teach) 5 = .ok (.bipush 6, 2) := by decide +kernel
theorem dX11_teach_7 : decode (mC mX11_teach) 7 = .ok (.if_icmp .lt 14, 3) := by decide +kernel
theorem dX11_teach_10 : decode (mC mX11_teach) 10 = .ok (.new 110, 3) := by decide +kernel
theorem dX11_teach_13 : decode (mC mX11_teach) 13 = .ok (.dup, 1) := by decide +kernel
theorem dX11_teach_14 : decode (mC mX11_teach) 14 = .ok (.ldc_w 341, 3) := by decide +kernel
theorem dX11_teach_17 : decode (mC mX11_teach) 17 = .ok (.invokespecial 114, 3) := by decide +kernel
theorem dX11_teach_20 : decode (mC mX11_teach) 20 = .ok (.athrow, 1) := by decide +kernel
theorem dX11_teach_21 : decode (mC mX11_teach) 21 = .ok (.aload_n 0, 1) := by decide +kernel
theorem dX11_teach_22 : decode (mC mX11_teach) 22 = .ok (.getfield 37, 3) := by decide +kernel
theorem dX11_teach_25 : decode (mC mX11_teach) 25 = .ok (.getfield 343, 3) := by decide +kernel
theorem dX11_teach_28 : decode (mC mX11_teach) 28 = .ok (.iload_n 1, 1) := by decide +kernel
theorem dX11_teach_29 : decode (mC mX11_teach) 29 = .ok (.dup2, 1) := by decide +kernel
theorem dX11_teach_30 : decode (mC mX11_teach) 30 = .ok (.iaload, 1) := by decide +kernel
theorem dX11_teach_31 : decode (mC mX11_teach) 31 = .ok (.iconst 1, 1) := by decide +kernel
theorem dX11_teach_32 : decode (mC mX11_teach) 32 = .ok (.iadd, 1) := by decide +kernel
theorem dX11_teach_33 : decode (mC mX11_teach) 33 = .ok (.iastore, 1) := by decide +kernel
theorem dX11_teach_34 : decode (mC mX11_teach) 34 = .ok (.aload_n 0, 1) := by decide +kernel
theorem dX11_teach_35 : decode (mC mX11_teach) 35 = .ok (.getfield 37, 3) := by decide +kernel
theorem dX11_teach_38 : decode (mC mX11_teach) 38 = .ok (.getfield 343, 3) := by decide +kernel
theorem dX11_teach_41 : decode (mC mX11_teach) 41 = .ok (.iload_n 1, 1) := by decide +kernel
theorem dX11_teach_42 : decode (mC mX11_teach) 42 = .ok (.iaload, 1) := by decide +kernel
theorem dX11_teach_43 : decode (mC mX11_teach) 43 = .ok (.ireturn, 1) := by decide +kernel
set_option maxRecDepth 100000 in
theorem bX11_teach_0 {sc : Nat × (Nat → Int32)} {h : jH} {Q : jQ} {l1 : Int32}
    (v1 : l1 < 0 → WP mX11_teach Q 10 [some (.ref 0), some (.int l1)] [] (jG0 sc) h (0, 0))
    (v2 : ¬ l1 < 0 → WP mX11_teach Q 4 [some (.ref 0), some (.int l1)] [] (jG0 sc) h (0, 0)) :
    WP mX11_teach Q 0 [some (.ref 0), some (.int l1)] [] (jG0 sc) h (0, 0) := by
  refine j_iload_n (i := 1) rfl dX11_teach_0 ?_
  refine j_if_lt (off := 9) 10 dX11_teach_1 (by decide) (fun c1 => ?_) (fun c1 => ?_)
  · exact j_le [some (.ref 0), some (.int l1)] (And.intro rfl (And.intro rfl True.intro)) (v1 c1)
  · exact j_le [some (.ref 0), some (.int l1)] (And.intro rfl (And.intro rfl True.intro)) (v2 c1)
set_option maxRecDepth 100000 in
theorem bX11_teach_4 {sc : Nat × (Nat → Int32)} {h : jH} {Q : jQ} {l1 : Int32}
    (v1 : l1 < 6 → WP mX11_teach Q 21 [some (.ref 0), some (.int l1)] [] (jG0 sc) h (0, 0))
    (v2 : ¬ l1 < 6 → WP mX11_teach Q 10 [some (.ref 0), some (.int l1)] [] (jG0 sc) h (0, 0)) :
    WP mX11_teach Q 4 [some (.ref 0), some (.int l1)] [] (jG0 sc) h (0, 0) := by
  refine j_iload_n (i := 1) rfl dX11_teach_4 ?_
  refine j_bipush (n := 6) 6 (by decide) dX11_teach_5 ?_
  refine j_icmp_lt (off := 14) 21 dX11_teach_7 (by decide) (fun c1 => ?_) (fun c1 => ?_)
  · exact j_le [some (.ref 0), some (.int l1)] (And.intro rfl (And.intro rfl True.intro)) (v1 c1)
  · exact j_le [some (.ref 0), some (.int l1)] (And.intro rfl (And.intro rfl True.intro)) (v2 c1)
set_option maxRecDepth 100000 in
theorem bX11_teach_10 {sc : Nat × (Nat → Int32)} {h : jH} {Q : jQ} {l1 : Int32}
    (v1 : Q (.inr "java/lang/IllegalArgumentException") (jG0 sc) h) :
    WP mX11_teach Q 10 [some (.ref 0), some (.int l1)] [] (jG0 sc) h (0, 0) := by
  exact j_thrW_IAE (is := 341) "no such form" 36 (by decide +kernel) rfl rfl (by decide) (by decide) (Nat.le_of_ble_eq_true rfl) dX11_teach_10 dX11_teach_13 dX11_teach_14 dX11_teach_17 dX11_teach_20 v1
set_option maxRecDepth 100000 in
theorem bX11_teach_21 {sc : Nat × (Nat → Int32)} {h : jH} {Q : jQ} {l1 : Int32}
    (o1 : vp_in l1 6)
    (o2 : vp_in l1 6)
    (o3 : vp_in l1 6)
    (v1 : Q (.inl (some (.int ((jput h 25 l1.toNatClampNeg ((h 25 l1.toNatClampNeg) + 1)) 25 l1.toNatClampNeg)))) (jG0 sc) (jput h 25 l1.toNatClampNeg ((h 25 l1.toNatClampNeg) + 1))) :
    WP mX11_teach Q 21 [some (.ref 0), some (.int l1)] [] (jG0 sc) h (0, 0) := by
  refine j_aload_n (i := 0) rfl dX11_teach_21 ?_
  refine j_getR (idx := 37) (ci := 11) (k := 4) (nest := false) (show (11, 37, 11, 4, false) ∈ jFT by decide) rfl (Nat.le_of_ble_eq_true rfl) rfl (a := 9) rfl dX11_teach_22 ?_
  refine j_getR (idx := 343) (ci := 6) (k := 5) (nest := true) (show (11, 343, 6, 5, true) ∈ jFT by decide) rfl (Nat.le_of_ble_eq_true rfl) rfl (a := 25) rfl dX11_teach_25 ?_
  refine j_iload_n (i := 1) rfl dX11_teach_28 ?_
  refine j_dup2 rfl rfl dX11_teach_29 ?_
  refine j_iald (Nat.le_of_ble_eq_true rfl) rfl o1 dX11_teach_30 ?_
  refine j_iconst (n := 1) 1 (by decide) dX11_teach_31 ?_
  refine j_iadd dX11_teach_32 ?_
  refine j_iast (Nat.le_of_ble_eq_true rfl) rfl o2 dX11_teach_33 ?_
  refine j_aload_n (i := 0) rfl dX11_teach_34 ?_
  refine j_getR (idx := 37) (ci := 11) (k := 4) (nest := false) (show (11, 37, 11, 4, false) ∈ jFT by decide) rfl (Nat.le_of_ble_eq_true rfl) rfl (a := 9) rfl dX11_teach_35 ?_
  refine j_getR (idx := 343) (ci := 6) (k := 5) (nest := true) (show (11, 343, 6, 5, true) ∈ jFT by decide) rfl (Nat.le_of_ble_eq_true rfl) rfl (a := 25) rfl dX11_teach_38 ?_
  refine j_iload_n (i := 1) rfl dX11_teach_41 ?_
  refine j_iald (Nat.le_of_ble_eq_true rfl) rfl o3 dX11_teach_42 ?_
  exact j_iret rfl rfl (Nat.zero_le _) (Nat.zero_le _) dX11_teach_43 v1
set_option maxRecDepth 100000 in
theorem rX11_teach_0 {sc : Nat × (Nat → Int32)} {h : jH} {Q : jQ} {l1 : Int32}
    (v1 : l1 < 0 → Q (.inr "java/lang/IllegalArgumentException") (jG0 sc) h)
    (o1 : ¬ l1 < 0 → l1 < 6 → vp_in l1 6)
    (v2 : ¬ l1 < 0 → l1 < 6 → Q (.inl (some (.int ((jput h 25 l1.toNatClampNeg ((h 25 l1.toNatClampNeg) + 1)) 25 l1.toNatClampNeg)))) (jG0 sc) (jput h 25 l1.toNatClampNeg ((h 25 l1.toNatClampNeg) + 1)))
    (v3 : ¬ l1 < 0 → ¬ l1 < 6 → Q (.inr "java/lang/IllegalArgumentException") (jG0 sc) h) :
    WP mX11_teach Q 0 [some (.ref 0), some (.int l1)] [] (jG0 sc) h (0, 0) := by
  exact (bX11_teach_0 (fun c1 => (bX11_teach_10 (v1 c1))) (fun c1 => (bX11_teach_4 (fun c2 => (bX11_teach_21 (o1 c1 c2) (o1 c1 c2) (o1 c1 c2) (v2 c1 c2))) (fun c2 => (bX11_teach_10 (v3 c1 c2))))))
theorem dX11_first_0 : decode (mC mX11_first) 0 = .ok (.aload_n 0, 1) := by decide +kernel
theorem dX11_first_1 : decode (mC mX11_first) 1 = .ok (.invokevirtual 213, 3) := by decide +kernel
theorem dX11_first_4 : decode (mC mX11_first) 4 = .ok (.ifCond .ne 13, 3) := by decide +kernel
theorem dX11_first_7 : decode (mC mX11_first) 7 = .ok (.new 203, 3) := by decide +kernel
theorem dX11_first_10 : decode (mC mX11_first) 10 = .ok (.dup, 1) := by decide +kernel
theorem dX11_first_11 : decode (mC mX11_first) 11 = .ok (.ldc 217, 2) := by decide +kernel
theorem dX11_first_13 : decode (mC mX11_first) 13 = .ok (.invokespecial 207, 3) := by decide +kernel
theorem dX11_first_16 : decode (mC mX11_first) 16 = .ok (.athrow, 1) := by decide +kernel
theorem dX11_first_17 : decode (mC mX11_first) 17 = .ok (.iconst 0, 1) := by decide +kernel
theorem dX11_first_18 : decode (mC mX11_first) 18 = .ok (.istore_n 2, 1) := by decide +kernel
theorem dX11_first_19 : decode (mC mX11_first) 19 = .ok (.iconst 0, 1) := by decide +kernel
theorem dX11_first_20 : decode (mC mX11_first) 20 = .ok (.istore_n 3, 1) := by decide +kernel
theorem dX11_first_21 : decode (mC mX11_first) 21 = .ok (.iconst 0, 1) := by decide +kernel
theorem dX11_first_22 : decode (mC mX11_first) 22 = .ok (.istore 4, 2) := by decide +kernel
theorem dX11_first_24 : decode (mC mX11_first) 24 = .ok (.iload 4, 2) := by decide +kernel
theorem dX11_first_26 : decode (mC mX11_first) 26 = .ok (.bipush 6, 2) := by decide +kernel
theorem dX11_first_28 : decode (mC mX11_first) 28 = .ok (.if_icmp .ge 131, 3) := by decide +kernel
theorem dX11_first_31 : decode (mC mX11_first) 31 = .ok (.iload_n 1, 1) := by decide +kernel
theorem dX11_first_32 : decode (mC mX11_first) 32 = .ok (.ifCond .eq 11, 3) := by decide +kernel
theorem dX11_first_35 : decode (mC mX11_first) 35 = .ok (.aload_n 0, 1) := by decide +kernel
theorem dX11_first_36 : decode (mC mX11_first) 36 = .ok (.iload_n 2, 1) := by decide +kernel
theorem dX11_first_37 : decode (mC mX11_first) 37 = .ok (.invokevirtual 346, 3) := by decide +kernel
theorem dX11_first_40 : decode (mC mX11_first) 40 = .ok (.goto 4, 3) := by decide +kernel
theorem dX11_first_43 : decode (mC mX11_first) 43 = .ok (.iconst (-1), 1) := by decide +kernel
theorem dX11_first_44 : decode (mC mX11_first) 44 = .ok (.istore 5, 2) := by decide +kernel
theorem dX11_first_46 : decode (mC mX11_first) 46 = .ok (.iload_n 2, 1) := by decide +kernel
theorem dX11_first_47 : decode (mC mX11_first) 47 = .ok (.iload_n 1, 1) := by decide +kernel
theorem dX11_first_48 : decode (mC mX11_first) 48 = .ok (.ifCond .eq 10, 3) := by decide +kernel
theorem dX11_first_51 : decode (mC mX11_first) 51 = .ok (.iconst 1, 1) := by decide +kernel
theorem dX11_first_52 : decode (mC mX11_first) 52 = .ok (.iload 5, 2) := by decide +kernel
theorem dX11_first_54 : decode (mC mX11_first) 54 = .ok (.ishl, 1) := by decide +kernel
theorem dX11_first_55 : decode (mC mX11_first) 55 = .ok (.goto 4, 3) := by decide +kernel
theorem dX11_first_58 : decode (mC mX11_first) 58 = .ok (.iconst 0, 1) := by decide +kernel
theorem dX11_first_59 : decode (mC mX11_first) 59 = .ok (.ior, 1) := by decide +kernel
theorem dX11_first_60 : decode (mC mX11_first) 60 = .ok (.istore_n 2, 1) := by decide +kernel
theorem dX11_first_61 : decode (mC mX11_first) 61 = .ok (.iconst 0, 1) := by decide +kernel
theorem dX11_first_62 : decode (mC mX11_first) 62 = .ok (.istore 6, 2) := by decide +kernel
theorem dX11_first_64 : decode (mC mX11_first) 64 = .ok (.iload 6, 2) := by decide +kernel
theorem dX11_first_66 : decode (mC mX11_first) 66 = .ok (.aload_n 0, 1) := by decide +kernel
theorem dX11_first_67 : decode (mC mX11_first) 67 = .ok (.getfield 61, 3) := by decide +kernel
theorem dX11_first_70 : decode (mC mX11_first) 70 = .ok (.getfield 284, 3) := by decide +kernel
theorem dX11_first_73 : decode (mC mX11_first) 73 = .ok (.if_icmp .ge 74, 3) := by decide +kernel
theorem dX11_first_76 : decode (mC mX11_first) 76 = .ok (.iload 6, 2) := by decide +kernel
theorem dX11_first_78 : decode (mC mX11_first) 78 = .ok (.sipush 300, 3) := by decide +kernel
theorem dX11_first_81 : decode (mC mX11_first) 81 = .ok (.if_icmp .ge 66, 3) := by decide +kernel
theorem dX11_first_84 : decode (mC mX11_first) 84 = .ok (.iload_n 1, 1) := by decide +kernel
theorem dX11_first_85 : decode (mC mX11_first) 85 = .ok (.ifCond .eq 18, 3) := by decide +kernel
theorem dX11_first_88 : decode (mC mX11_first) 88 = .ok (.aload_n 0, 1) := by decide +kernel
theorem dX11_first_89 : decode (mC mX11_first) 89 = .ok (.getfield 61, 3) := by decide +kernel
theorem dX11_first_92 : decode (mC mX11_first) 92 = .ok (.getfield 287, 3) := by decide +kernel
theorem dX11_first_95 : decode (mC mX11_first) 95 = .ok (.iload 6, 2) := by decide +kernel
theorem dX11_first_97 : decode (mC mX11_first) 97 = .ok (.iaload, 1) := by decide +kernel
theorem dX11_first_98 : decode (mC mX11_first) 98 = .ok (.iload 5, 2) := by decide +kernel
theorem dX11_first_100 : decode (mC mX11_first) 100 = .ok (.if_icmp .ne 41, 3) := by decide +kernel
theorem dX11_first_103 : decode (mC mX11_first) 103 = .ok (.iinc 3 1, 3) := by decide +kernel
theorem dX11_first_106 : decode (mC mX11_first) 106 = .ok (.aload_n 0, 1) := by decide +kernel
theorem dX11_first_107 : decode (mC mX11_first) 107 = .ok (.getfield 61, 3) := by decide +kernel
theorem dX11_first_110 : decode (mC mX11_first) 110 = .ok (.aload_n 0, 1) := by decide +kernel
theorem dX11_first_111 : decode (mC mX11_first) 111 = .ok (.getfield 37, 3) := by decide +kernel
theorem dX11_first_114 : decode (mC mX11_first) 114 = .ok (.getfield 127, 3) := by decide +kernel
theorem dX11_first_117 : decode (mC mX11_first) 117 = .ok (.iload 6, 2) := by decide +kernel
theorem dX11_first_119 : decode (mC mX11_first) 119 = .ok (.aload_n 0, 1) := by decide +kernel
theorem dX11_first_120 : decode (mC mX11_first) 120 = .ok (.getfield 71, 3) := by decide +kernel
theorem dX11_first_123 : decode (mC mX11_first) 123 = .ok (.invokevirtual 192, 3) := by decide +kernel
theorem dX11_first_126 : decode (mC mX11_first) 126 = .ok (.pop, 1) := by decide +kernel
theorem dX11_first_127 : decode (mC mX11_first) 127 = .ok (.aload_n 0, 1) := by decide +kernel
theorem dX11_first_128 : decode (mC mX11_first) 128 = .ok (.aload_n 0, 1) := by decide +kernel
theorem dX11_first_129 : decode (mC mX11_first) 129 = .ok (.getfield 71, 3) := by decide +kernel
theorem dX11_first_132 : decode (mC mX11_first) 132 = .ok (.invokevirtual 322, 3) := by decide +kernel
theorem dX11_first_135 : decode (mC mX11_first) 135 = .ok (.iconst (-1), 1) := by decide +kernel
theorem dX11_first_136 : decode (mC mX11_first) 136 = .ok (.if_icmp .ne 5, 3) := by decide +kernel
theorem dX11_first_139 : decode (mC mX11_first) 139 = .ok (.iload_n 3, 1) := by decide +kernel
theorem dX11_first_140 : decode (mC mX11_first) 140 = .ok (.ireturn, 1) := by decide +kernel
theorem dX11_first_141 : decode (mC mX11_first) 141 = .ok (.iinc 6 1, 3) := by decide +kernel
theorem dX11_first_144 : decode (mC mX11_first) 144 = .ok (.goto (-80), 3) := by decide +kernel
theorem dX11_first_147 : decode (mC mX11_first) 147 = .ok (.iload_n 1, 1) := by decide +kernel
theorem dX11_first_148 : decode (mC mX11_first) 148 = .ok (.ifCond .ne 5, 3) := by decide +kernel
theorem dX11_first_151 : decode (mC mX11_first) 151 = .ok (.iconst (-1), 1) := by decide +kernel
theorem dX11_first_152 : decode (mC mX11_first) 152 = .ok (.ireturn, 1) := by decide +kernel
theorem dX11_first_153 : decode (mC mX11_first) 153 = .ok (.iinc 4 1, 3) := by decide +kernel
theorem dX11_first_156 : decode (mC mX11_first) 156 = .ok (.goto (-132), 3) := by decide +kernel
theorem dX11_first_159 : decode (mC mX11_first) 159 = .ok (.iconst (-1), 1) := by decide +kernel
theorem dX11_first_160 : decode (mC mX11_first) 160 = .ok (.ireturn, 1) := by decide +kernel
set_option maxRecDepth 100000 in
theorem bX11_first_0 {sc : Nat × (Nat → Int32)} {h : jH} {Q : jQ} {l1 : Int32} {P1 : Int32 → jH → Prop}
    (k1 : JM mX11_hasBody [.ref 0] (jG0 sc) h (jint sc P1))
    (v1 : ∀ (x1 : Int32) (h1 : jH), P1 x1 h1 → ¬ x1 = 0 → WP mX11_first Q 17 [some (.ref 0), some (.int l1), none, none, none, none, none] [] (jG0 sc) h1 (0, 0))
    (v2 : ∀ (x1 : Int32) (h1 : jH), P1 x1 h1 → x1 = 0 → WP mX11_first Q 7 [some (.ref 0), some (.int l1), none, none, none, none, none] [] (jG0 sc) h1 (0, 0)) :
    WP mX11_first Q 0 [some (.ref 0), some (.int l1), none, none, none, none, none] [] (jG0 sc) h (0, 0) := by
  refine j_aload_n (i := 0) rfl dX11_first_0 ?_
  refine j_callV (idx := 213) (As := []) (ci := 11) (n := 0) k1 jint_nt (jlkT (jtb3 180 rfl) rfl) sX11_hasBody kX11_hasBody rfl ⟨rfl, by decide +kernel, by decide +kernel, by decide +kernel⟩ rfl ⟨by decide, by decide⟩ (Nat.le_of_ble_eq_true rfl) rfl (Nat.le_of_ble_eq_true rfl) (Nat.le_of_ble_eq_true rfl) ⟨Nat.zero_le _, Nat.zero_le _⟩ dX11_first_1 (fun r Γ' h1 q => ?_)
  obtain ⟨x1, q0, rfl, p1⟩ := q; cases q0
  refine j_eqst [.int x1] (by rfl) ?_
  refine j_if_ne (off := 13) 17 dX11_first_4 (by decide) (fun c1 => ?_) (fun c1 => ?_)
  · exact j_le [some (.ref 0), some (.int l1), none, none, none, none, none] (And.intro rfl (And.intro rfl True.intro)) (v1 x1 h1 p1 c1)
  · exact j_le [some (.ref 0), some (.int l1), none, none, none, none, none] (And.intro rfl (And.intro rfl True.intro)) (v2 x1 h1 p1 c1)
set_option maxRecDepth 100000 in
theorem bX11_first_7 {sc : Nat × (Nat → Int32)} {h : jH} {Q : jQ} {l1 : Int32}
    (v1 : Q (.inr "java/lang/IllegalStateException") (jG0 sc) h) :
    WP mX11_first Q 7 [some (.ref 0), some (.int l1), none, none, none, none, none] [] (jG0 sc) h (0, 0) := by
  exact j_thr_ISE (is := 217) "there is no BODY" 30 (by decide +kernel) rfl rfl (by decide) (by decide) (Nat.le_of_ble_eq_true rfl) dX11_first_7 dX11_first_10 dX11_first_11 dX11_first_13 dX11_first_16 v1
set_option maxRecDepth 100000 in
theorem bX11_first_17 {sc : Nat × (Nat → Int32)} {h : jH} {Q : jQ} {l1 : Int32}
    (v1 : WP mX11_first Q 24 [some (.ref 0), some (.int l1), some (.int 0), some (.int 0), some (.int 0), none, none] [] (jG0 sc) h (0, 0)) :
    WP mX11_first Q 17 [some (.ref 0), some (.int l1), none, none, none, none, none] [] (jG0 sc) h (0, 0) := by
  refine j_iconst (n := 0) 0 (by decide) dX11_first_17 ?_
  refine j_istore_n (i := 2) dX11_first_18 (Nat.le_of_ble_eq_true rfl) ?_
  refine j_iconst (n := 0) 0 (by decide) dX11_first_19 ?_
  refine j_istore_n (i := 3) dX11_first_20 (Nat.le_of_ble_eq_true rfl) ?_
  refine j_iconst (n := 0) 0 (by decide) dX11_first_21 ?_
  refine j_istore (i := 4) dX11_first_22 (Nat.le_of_ble_eq_true rfl) ?_
  exact j_le [some (.ref 0), some (.int l1), some (.int 0), some (.int 0), some (.int 0), none, none] (And.intro rfl (And.intro rfl (And.intro rfl (And.intro rfl (And.intro rfl True.intro))))) v1
set_option maxRecDepth 100000 in
theorem bX11_first_24 {sc : Nat × (Nat → Int32)} {h : jH} {Q : jQ} {l1 l2 l3 l4 : Int32}
    (v1 : 6 ≤ l4 → WP mX11_first Q 159 [some (.ref 0), some (.int l1), some (.int l2), some (.int l3), some (.int l4), none, none] [] (jG0 sc) h (0, 0))
    (v2 : ¬ 6 ≤ l4 → WP mX11_first Q 31 [some (.ref 0), some (.int l1), some (.int l2), some (.int l3), some (.int l4), none, none] [] (jG0 sc) h (0, 0)) :
    WP mX11_first Q 24 [some (.ref 0), some (.int l1), some (.int l2), some (.int l3), some (.int l4), none, none] [] (jG0 sc) h (0, 0) := by
  refine j_iload (i := 4) rfl dX11_first_24 ?_
  refine j_bipush (n := 6) 6 (by decide) dX11_first_26 ?_
  refine j_icmp_ge (off := 131) 159 dX11_first_28 (by decide) (fun c1 => ?_) (fun c1 => ?_)
  · exact j_le [some (.ref 0), some (.int l1), some (.int l2), some (.int l3), some (.int l4), none, none] (And.intro rfl (And.intro rfl (And.intro rfl (And.intro rfl (And.intro rfl True.intro))))) (v1 c1)
  · exact j_le [some (.ref 0), some (.int l1), some (.int l2), some (.int l3), some (.int l4), none, none] (And.intro rfl (And.intro rfl (And.intro rfl (And.intro rfl (And.intro rfl True.intro))))) (v2 c1)
set_option maxRecDepth 100000 in
theorem bX11_first_31 {sc : Nat × (Nat → Int32)} {h : jH} {Q : jQ} {l1 l2 l3 l4 : Int32}
    (v1 : l1 = 0 → WP mX11_first Q 43 [some (.ref 0), some (.int l1), some (.int l2), some (.int l3), some (.int l4), none, none] [] (jG0 sc) h (0, 0))
    (v2 : ¬ l1 = 0 → WP mX11_first Q 35 [some (.ref 0), some (.int l1), some (.int l2), some (.int l3), some (.int l4), none, none] [] (jG0 sc) h (0, 0)) :
    WP mX11_first Q 31 [some (.ref 0), some (.int l1), some (.int l2), some (.int l3), some (.int l4), none, none] [] (jG0 sc) h (0, 0) := by
  refine j_iload_n (i := 1) rfl dX11_first_31 ?_
  refine j_if_eq (off := 11) 43 dX11_first_32 (by decide) (fun c1 => ?_) (fun c1 => ?_)
  · exact j_le [some (.ref 0), some (.int l1), some (.int l2), some (.int l3), some (.int l4), none, none] (And.intro rfl (And.intro rfl (And.intro rfl (And.intro rfl (And.intro rfl True.intro))))) (v1 c1)
  · exact j_le [some (.ref 0), some (.int l1), some (.int l2), some (.int l3), some (.int l4), none, none] (And.intro rfl (And.intro rfl (And.intro rfl (And.intro rfl (And.intro rfl True.intro))))) (v2 c1)
set_option maxRecDepth 100000 in
theorem bX11_first_35 {sc : Nat × (Nat → Int32)} {h : jH} {Q : jQ} {l1 l2 l3 l4 : Int32} {P1 : Int32 → jH → Prop}
    (k1 : JM mX11_mostTaught [.ref 0, .int l2] (jG0 sc) h (jint sc P1))
    (v1 : ∀ (x1 : Int32) (h1 : jH), P1 x1 h1 → WP mX11_first Q 44 [some (.ref 0), some (.int l1), some (.int l2), some (.int l3), some (.int l4), none, none] [.int x1] (jG0 sc) h1 (0, 0)) :
    WP mX11_first Q 35 [some (.ref 0), some (.int l1), some (.int l2), some (.int l3), some (.int l4), none, none] [] (jG0 sc) h (0, 0) := by
  refine j_aload_n (i := 0) rfl dX11_first_35 ?_
  refine j_iload_n (i := 2) rfl dX11_first_36 ?_
  refine j_callV (idx := 346) (As := [.int l2]) (ci := 11) (n := 1) k1 jint_nt (jlkT (jtb5 176 rfl) rfl) sX11_mostTaught kX11_mostTaught rfl ⟨rfl, by decide +kernel, by decide +kernel, by decide +kernel⟩ rfl ⟨by decide, by decide⟩ (Nat.le_of_ble_eq_true rfl) rfl (Nat.le_of_ble_eq_true rfl) (Nat.le_of_ble_eq_true rfl) ⟨Nat.zero_le _, Nat.zero_le _⟩ dX11_first_37 (fun r Γ' h1 q => ?_)
  obtain ⟨x1, q0, rfl, p1⟩ := q; cases q0
  refine j_eqst [.int x1] (by rfl) ?_
  refine j_goto (off := 4) 44 dX11_first_40 (by decide) ?_
  exact j_le [some (.ref 0), some (.int l1), some (.int l2), some (.int l3), some (.int l4), none, none] (And.intro rfl (And.intro rfl (And.intro rfl (And.intro rfl (And.intro rfl True.intro))))) (v1 x1 h1 p1)
set_option maxRecDepth 100000 in
theorem bX11_first_43 {sc : Nat × (Nat → Int32)} {h : jH} {Q : jQ} {l1 l2 l3 l4 : Int32}
    (v1 : WP mX11_first Q 44 [some (.ref 0), some (.int l1), some (.int l2), some (.int l3), some (.int l4), none, none] [.int (-1)] (jG0 sc) h (0, 0)) :
    WP mX11_first Q 43 [some (.ref 0), some (.int l1), some (.int l2), some (.int l3), some (.int l4), none, none] [] (jG0 sc) h (0, 0) := by
  refine j_iconst (n := (-1)) (-1) (by decide) dX11_first_43 ?_
  exact j_le [some (.ref 0), some (.int l1), some (.int l2), some (.int l3), some (.int l4), none, none] (And.intro rfl (And.intro rfl (And.intro rfl (And.intro rfl (And.intro rfl True.intro))))) v1
set_option maxRecDepth 100000 in
theorem bX11_first_44 {sc : Nat × (Nat → Int32)} {h : jH} {Q : jQ} {l1 l2 l3 l4 s0 : Int32}
    (v1 : l1 = 0 → WP mX11_first Q 58 [some (.ref 0), some (.int l1), some (.int l2), some (.int l3), some (.int l4), some (.int s0), none] [.int l2] (jG0 sc) h (0, 0))
    (v2 : ¬ l1 = 0 → WP mX11_first Q 51 [some (.ref 0), some (.int l1), some (.int l2), some (.int l3), some (.int l4), some (.int s0), none] [.int l2] (jG0 sc) h (0, 0)) :
    WP mX11_first Q 44 [some (.ref 0), some (.int l1), some (.int l2), some (.int l3), some (.int l4), none, none] [.int s0] (jG0 sc) h (0, 0) := by
  refine j_istore (i := 5) dX11_first_44 (Nat.le_of_ble_eq_true rfl) ?_
  refine j_iload_n (i := 2) rfl dX11_first_46 ?_
  refine j_iload_n (i := 1) rfl dX11_first_47 ?_
  refine j_if_eq (off := 10) 58 dX11_first_48 (by decide) (fun c1 => ?_) (fun c1 => ?_)
  · exact j_le [some (.ref 0), some (.int l1), some (.int l2), some (.int l3), some (.int l4), some (.int s0), none] (And.intro rfl (And.intro rfl (And.intro rfl (And.intro rfl (And.intro rfl (And.intro rfl True.intro)))))) (v1 c1)
  · exact j_le [some (.ref 0), some (.int l1), some (.int l2), some (.int l3), some (.int l4), some (.int s0), none] (And.intro rfl (And.intro rfl (And.intro rfl (And.intro rfl (And.intro rfl (And.intro rfl True.intro)))))) (v2 c1)
set_option maxRecDepth 100000 in
theorem bX11_first_51 {sc : Nat × (Nat → Int32)} {h : jH} {Q : jQ} {l1 l2 l3 l4 l5 s0 : Int32}
    (v1 : WP mX11_first Q 59 [some (.ref 0), some (.int l1), some (.int l2), some (.int l3), some (.int l4), some (.int l5), none] [.int ((1 : Int32) <<< (l5 &&& 31)), .int s0] (jG0 sc) h (0, 0)) :
    WP mX11_first Q 51 [some (.ref 0), some (.int l1), some (.int l2), some (.int l3), some (.int l4), some (.int l5), none] [.int s0] (jG0 sc) h (0, 0) := by
  refine j_iconst (n := 1) 1 (by decide) dX11_first_51 ?_
  refine j_iload (i := 5) rfl dX11_first_52 ?_
  refine j_ishl dX11_first_54 ?_
  refine j_goto (off := 4) 59 dX11_first_55 (by decide) ?_
  exact j_le [some (.ref 0), some (.int l1), some (.int l2), some (.int l3), some (.int l4), some (.int l5), none] (And.intro rfl (And.intro rfl (And.intro rfl (And.intro rfl (And.intro rfl (And.intro rfl True.intro)))))) v1
set_option maxRecDepth 100000 in
theorem bX11_first_58 {sc : Nat × (Nat → Int32)} {h : jH} {Q : jQ} {l1 l2 l3 l4 l5 s0 : Int32}
    (v1 : WP mX11_first Q 59 [some (.ref 0), some (.int l1), some (.int l2), some (.int l3), some (.int l4), some (.int l5), none] [.int 0, .int s0] (jG0 sc) h (0, 0)) :
    WP mX11_first Q 58 [some (.ref 0), some (.int l1), some (.int l2), some (.int l3), some (.int l4), some (.int l5), none] [.int s0] (jG0 sc) h (0, 0) := by
  refine j_iconst (n := 0) 0 (by decide) dX11_first_58 ?_
  exact j_le [some (.ref 0), some (.int l1), some (.int l2), some (.int l3), some (.int l4), some (.int l5), none] (And.intro rfl (And.intro rfl (And.intro rfl (And.intro rfl (And.intro rfl (And.intro rfl True.intro)))))) v1
set_option maxRecDepth 100000 in
theorem bX11_first_59 {sc : Nat × (Nat → Int32)} {h : jH} {Q : jQ} {l1 l2 l3 l4 l5 s0 s1 : Int32}
    (v1 : WP mX11_first Q 64 [some (.ref 0), some (.int l1), some (.int (s1 ||| s0)), some (.int l3), some (.int l4), some (.int l5), some (.int 0)] [] (jG0 sc) h (0, 0)) :
    WP mX11_first Q 59 [some (.ref 0), some (.int l1), some (.int l2), some (.int l3), some (.int l4), some (.int l5), none] [.int s0, .int s1] (jG0 sc) h (0, 0) := by
  refine j_ior dX11_first_59 ?_
  refine j_istore_n (i := 2) dX11_first_60 (Nat.le_of_ble_eq_true rfl) ?_
  refine j_iconst (n := 0) 0 (by decide) dX11_first_61 ?_
  refine j_istore (i := 6) dX11_first_62 (Nat.le_of_ble_eq_true rfl) ?_
  exact j_le [some (.ref 0), some (.int l1), some (.int (s1 ||| s0)), some (.int l3), some (.int l4), some (.int l5), some (.int 0)] (And.intro rfl (And.intro rfl (And.intro rfl (And.intro rfl (And.intro rfl (And.intro rfl (And.intro rfl True.intro))))))) v1
set_option maxRecDepth 100000 in
theorem bX11_first_64 {sc : Nat × (Nat → Int32)} {h : jH} {Q : jQ} {l1 l2 l3 l4 l5 l6 : Int32}
    (v1 : (h 75 6) ≤ l6 → WP mX11_first Q 147 [some (.ref 0), some (.int l1), some (.int l2), some (.int l3), some (.int l4), some (.int l5), some (.int l6)] [] (jG0 sc) h (0, 0))
    (v2 : ¬ (h 75 6) ≤ l6 → WP mX11_first Q 76 [some (.ref 0), some (.int l1), some (.int l2), some (.int l3), some (.int l4), some (.int l5), some (.int l6)] [] (jG0 sc) h (0, 0)) :
    WP mX11_first Q 64 [some (.ref 0), some (.int l1), some (.int l2), some (.int l3), some (.int l4), some (.int l5), some (.int l6)] [] (jG0 sc) h (0, 0) := by
  refine j_iload (i := 6) rfl dX11_first_64 ?_
  refine j_aload_n (i := 0) rfl dX11_first_66 ?_
  refine j_getR (idx := 61) (ci := 11) (k := 9) (nest := false) (show (11, 61, 11, 9, false) ∈ jFT by decide) rfl (Nat.le_of_ble_eq_true rfl) rfl (a := 75) rfl dX11_first_67 ?_
  refine j_getI (idx := 284) (ci := 3) (k := 6) (nest := true) (show (11, 284, 3, 6, true) ∈ jFT by decide) rfl (Nat.le_of_ble_eq_true rfl) rfl dX11_first_70 ?_
  refine j_icmp_ge (off := 74) 147 dX11_first_73 (by decide) (fun c1 => ?_) (fun c1 => ?_)
  · exact j_le [some (.ref 0), some (.int l1), some (.int l2), some (.int l3), some (.int l4), some (.int l5), some (.int l6)] (And.intro rfl (And.intro rfl (And.intro rfl (And.intro rfl (And.intro rfl (And.intro rfl (And.intro rfl True.intro))))))) (v1 c1)
  · exact j_le [some (.ref 0), some (.int l1), some (.int l2), some (.int l3), some (.int l4), some (.int l5), some (.int l6)] (And.intro rfl (And.intro rfl (And.intro rfl (And.intro rfl (And.intro rfl (And.intro rfl (And.intro rfl True.intro))))))) (v2 c1)
set_option maxRecDepth 100000 in
theorem bX11_first_76 {sc : Nat × (Nat → Int32)} {h : jH} {Q : jQ} {l1 l2 l3 l4 l5 l6 : Int32}
    (v1 : 300 ≤ l6 → WP mX11_first Q 147 [some (.ref 0), some (.int l1), some (.int l2), some (.int l3), some (.int l4), some (.int l5), some (.int l6)] [] (jG0 sc) h (0, 0))
    (v2 : ¬ 300 ≤ l6 → WP mX11_first Q 84 [some (.ref 0), some (.int l1), some (.int l2), some (.int l3), some (.int l4), some (.int l5), some (.int l6)] [] (jG0 sc) h (0, 0)) :
    WP mX11_first Q 76 [some (.ref 0), some (.int l1), some (.int l2), some (.int l3), some (.int l4), some (.int l5), some (.int l6)] [] (jG0 sc) h (0, 0) := by
  refine j_iload (i := 6) rfl dX11_first_76 ?_
  refine j_sipush (n := 300) 300 (by decide) dX11_first_78 ?_
  refine j_icmp_ge (off := 66) 147 dX11_first_81 (by decide) (fun c1 => ?_) (fun c1 => ?_)
  · exact j_le [some (.ref 0), some (.int l1), some (.int l2), some (.int l3), some (.int l4), some (.int l5), some (.int l6)] (And.intro rfl (And.intro rfl (And.intro rfl (And.intro rfl (And.intro rfl (And.intro rfl (And.intro rfl True.intro))))))) (v1 c1)
  · exact j_le [some (.ref 0), some (.int l1), some (.int l2), some (.int l3), some (.int l4), some (.int l5), some (.int l6)] (And.intro rfl (And.intro rfl (And.intro rfl (And.intro rfl (And.intro rfl (And.intro rfl (And.intro rfl True.intro))))))) (v2 c1)
set_option maxRecDepth 100000 in
theorem bX11_first_84 {sc : Nat × (Nat → Int32)} {h : jH} {Q : jQ} {l1 l2 l3 l4 l5 l6 : Int32}
    (v1 : l1 = 0 → WP mX11_first Q 103 [some (.ref 0), some (.int l1), some (.int l2), some (.int l3), some (.int l4), some (.int l5), some (.int l6)] [] (jG0 sc) h (0, 0))
    (v2 : ¬ l1 = 0 → WP mX11_first Q 88 [some (.ref 0), some (.int l1), some (.int l2), some (.int l3), some (.int l4), some (.int l5), some (.int l6)] [] (jG0 sc) h (0, 0)) :
    WP mX11_first Q 84 [some (.ref 0), some (.int l1), some (.int l2), some (.int l3), some (.int l4), some (.int l5), some (.int l6)] [] (jG0 sc) h (0, 0) := by
  refine j_iload_n (i := 1) rfl dX11_first_84 ?_
  refine j_if_eq (off := 18) 103 dX11_first_85 (by decide) (fun c1 => ?_) (fun c1 => ?_)
  · exact j_le [some (.ref 0), some (.int l1), some (.int l2), some (.int l3), some (.int l4), some (.int l5), some (.int l6)] (And.intro rfl (And.intro rfl (And.intro rfl (And.intro rfl (And.intro rfl (And.intro rfl (And.intro rfl True.intro))))))) (v1 c1)
  · exact j_le [some (.ref 0), some (.int l1), some (.int l2), some (.int l3), some (.int l4), some (.int l5), some (.int l6)] (And.intro rfl (And.intro rfl (And.intro rfl (And.intro rfl (And.intro rfl (And.intro rfl (And.intro rfl True.intro))))))) (v2 c1)
set_option maxRecDepth 100000 in
theorem bX11_first_88 {sc : Nat × (Nat → Int32)} {h : jH} {Q : jQ} {l1 l2 l3 l4 l5 l6 : Int32}
    (o1 : vp_in l6 300)
    (v1 : ¬ (h 76 l6.toNatClampNeg) = l5 → WP mX11_first Q 141 [some (.ref 0), some (.int l1), some (.int l2), some (.int l3), some (.int l4), some (.int l5), some (.int l6)] [] (jG0 sc) h (0, 0))
    (v2 : (h 76 l6.toNatClampNeg) = l5 → WP mX11_first Q 103 [some (.ref 0), some (.int l1), some (.int l2), some (.int l3), some (.int l4), some (.int l5), some (.int l6)] [] (jG0 sc) h (0, 0)) :
    WP mX11_first Q 88 [some (.ref 0), some (.int l1), some (.int l2), some (.int l3), some (.int l4), some (.int l5), some (.int l6)] [] (jG0 sc) h (0, 0) := by
  refine j_aload_n (i := 0) rfl dX11_first_88 ?_
  refine j_getR (idx := 61) (ci := 11) (k := 9) (nest := false) (show (11, 61, 11, 9, false) ∈ jFT by decide) rfl (Nat.le_of_ble_eq_true rfl) rfl (a := 75) rfl dX11_first_89 ?_
  refine j_getR (idx := 287) (ci := 3) (k := 0) (nest := true) (show (11, 287, 3, 0, true) ∈ jFT by decide) rfl (Nat.le_of_ble_eq_true rfl) rfl (a := 76) rfl dX11_first_92 ?_
  refine j_iload (i := 6) rfl dX11_first_95 ?_
  refine j_iald (Nat.le_of_ble_eq_true rfl) rfl o1 dX11_first_97 ?_
  refine j_iload (i := 5) rfl dX11_first_98 ?_
  refine j_icmp_ne (off := 41) 141 dX11_first_100 (by decide) (fun c1 => ?_) (fun c1 => ?_)
  · exact j_le [some (.ref 0), some (.int l1), some (.int l2), some (.int l3), some (.int l4), some (.int l5), some (.int l6)] (And.intro rfl (And.intro rfl (And.intro rfl (And.intro rfl (And.intro rfl (And.intro rfl (And.intro rfl True.intro))))))) (v1 c1)
  · exact j_le [some (.ref 0), some (.int l1), some (.int l2), some (.int l3), some (.int l4), some (.int l5), some (.int l6)] (And.intro rfl (And.intro rfl (And.intro rfl (And.intro rfl (And.intro rfl (And.intro rfl (And.intro rfl True.intro))))))) (v2 c1)
set_option maxRecDepth 100000 in
theorem bX11_first_103 {sc : Nat × (Nat → Int32)} {h : jH} {Q : jQ} {l1 l2 l3 l4 l5 l6 : Int32} {P1 : Int32 → jH → Prop} {P2 : Int32 → jH → Prop}
    (k1 : JM mX3_shape [.ref 75, .ref 10, .int l6, .ref 89] (jG0 sc) h (jint sc P1))
    (k2 : ∀ (x1 : Int32) (h1 : jH), P1 x1 h1 → JM mX11_firstWrong [.ref 0, .ref 89] (jG0 sc) h1 (jint sc P2))
    (v1 : ∀ (x1 : Int32) (h1 : jH), P1 x1 h1 → ∀ (x2 : Int32) (h2 : jH), P2 x2 h2 → ¬ x2 = (-1) → WP mX11_first Q 141 [some (.ref 0), some (.int l1), some (.int l2), some (.int (l3 + 1)), some (.int l4), some (.int l5), some (.int l6)] [] (jG0 sc) h2 (0, 0))
    (v2 : ∀ (x1 : Int32) (h1 : jH), P1 x1 h1 → ∀ (x2 : Int32) (h2 : jH), P2 x2 h2 → x2 = (-1) → WP mX11_first Q 139 [some (.ref 0), some (.int l1), some (.int l2), some (.int (l3 + 1)), some (.int l4), some (.int l5), some (.int l6)] [] (jG0 sc) h2 (0, 0)) :
    WP mX11_first Q 103 [some (.ref 0), some (.int l1), some (.int l2), some (.int l3), some (.int l4), some (.int l5), some (.int l6)] [] (jG0 sc) h (0, 0) := by
  refine j_iinc (i := 3) (n := 1) rfl dX11_first_103 (Nat.le_of_ble_eq_true rfl) ?_
  refine j_eqlv [some (.ref 0), some (.int l1), some (.int l2), some (.int (l3 + 1)), some (.int l4), some (.int l5), some (.int l6)] rfl ?_
  refine j_aload_n (i := 0) rfl dX11_first_106 ?_
  refine j_getR (idx := 61) (ci := 11) (k := 9) (nest := false) (show (11, 61, 11, 9, false) ∈ jFT by decide) rfl (Nat.le_of_ble_eq_true rfl) rfl (a := 75) rfl dX11_first_107 ?_
  refine j_aload_n (i := 0) rfl dX11_first_110 ?_
  refine j_getR (idx := 37) (ci := 11) (k := 4) (nest := false) (show (11, 37, 11, 4, false) ∈ jFT by decide) rfl (Nat.le_of_ble_eq_true rfl) rfl (a := 9) rfl dX11_first_111 ?_
  refine j_getR (idx := 127) (ci := 6) (k := 0) (nest := true) (show (11, 127, 6, 0, true) ∈ jFT by decide) rfl (Nat.le_of_ble_eq_true rfl) rfl (a := 10) rfl dX11_first_114 ?_
  refine j_iload (i := 6) rfl dX11_first_117 ?_
  refine j_aload_n (i := 0) rfl dX11_first_119 ?_
  refine j_getR (idx := 71) (ci := 11) (k := 11) (nest := false) (show (11, 71, 11, 11, false) ∈ jFT by decide) rfl (Nat.le_of_ble_eq_true rfl) rfl (a := 89) rfl dX11_first_120 ?_
  refine j_callVN (idx := 192) (As := [.ref 10, .int l6, .ref 89]) (ci := 3) (n := 3) k1 jint_nt (jTbl (jtb2 199 rfl)) sX3_shape kX3_shape rfl ⟨rfl, by decide +kernel, by decide +kernel, by decide +kernel⟩ rfl ⟨by decide, by decide⟩ (Nat.le_of_ble_eq_true rfl) rfl (Nat.le_of_ble_eq_true rfl) (Nat.le_of_ble_eq_true rfl) ⟨Nat.zero_le _, Nat.zero_le _⟩ dX11_first_123 (fun r Γ' h1 q => ?_)
  obtain ⟨x1, q0, rfl, p1⟩ := q; cases q0
  refine j_eqst [.int x1] (by rfl) ?_
  refine j_pop rfl dX11_first_126 ?_
  refine j_aload_n (i := 0) rfl dX11_first_127 ?_
  refine j_aload_n (i := 0) rfl dX11_first_128 ?_
  refine j_getR (idx := 71) (ci := 11) (k := 11) (nest := false) (show (11, 71, 11, 11, false) ∈ jFT by decide) rfl (Nat.le_of_ble_eq_true rfl) rfl (a := 89) rfl dX11_first_129 ?_
  refine j_callV (idx := 322) (As := [.ref 89]) (ci := 11) (n := 1) (k2 x1 h1 p1) jint_nt (jlkT (jtb5 133 rfl) rfl) sX11_firstWrong kX11_firstWrong rfl ⟨rfl, by decide +kernel, by decide +kernel, by decide +kernel⟩ rfl ⟨by decide, by decide⟩ (Nat.le_of_ble_eq_true rfl) rfl (Nat.le_of_ble_eq_true rfl) (Nat.le_of_ble_eq_true rfl) ⟨Nat.zero_le _, Nat.zero_le _⟩ dX11_first_132 (fun r Γ' h2 q => ?_)
  obtain ⟨x2, q0, rfl, p2⟩ := q; cases q0
  refine j_eqst [.int x2] (by rfl) ?_
  refine j_iconst (n := (-1)) (-1) (by decide) dX11_first_135 ?_
  refine j_icmp_ne (off := 5) 141 dX11_first_136 (by decide) (fun c1 => ?_) (fun c1 => ?_)
  · exact j_le [some (.ref 0), some (.int l1), some (.int l2), some (.int (l3 + 1)), some (.int l4), some (.int l5), some (.int l6)] (And.intro rfl (And.intro rfl (And.intro rfl (And.intro rfl (And.intro rfl (And.intro rfl (And.intro rfl True.intro))))))) (v1 x1 h1 p1 x2 h2 p2 c1)
  · exact j_le [some (.ref 0), some (.int l1), some (.int l2), some (.int (l3 + 1)), some (.int l4), some (.int l5), some (.int l6)] (And.intro rfl (And.intro rfl (And.intro rfl (And.intro rfl (And.intro rfl (And.intro rfl (And.intro rfl True.intro))))))) (v2 x1 h1 p1 x2 h2 p2 c1)
set_option maxRecDepth 100000 in
theorem bX11_first_139 {sc : Nat × (Nat → Int32)} {h : jH} {Q : jQ} {l1 l2 l3 l4 l5 l6 : Int32}
    (v1 : Q (.inl (some (.int l3))) (jG0 sc) h) :
    WP mX11_first Q 139 [some (.ref 0), some (.int l1), some (.int l2), some (.int l3), some (.int l4), some (.int l5), some (.int l6)] [] (jG0 sc) h (0, 0) := by
  refine j_iload_n (i := 3) rfl dX11_first_139 ?_
  exact j_iret rfl rfl (Nat.zero_le _) (Nat.zero_le _) dX11_first_140 v1
set_option maxRecDepth 100000 in
theorem bX11_first_141 {sc : Nat × (Nat → Int32)} {h : jH} {Q : jQ} {l1 l2 l3 l4 l5 l6 : Int32}
    (v1 : WP mX11_first Q 64 [some (.ref 0), some (.int l1), some (.int l2), some (.int l3), some (.int l4), some (.int l5), some (.int (l6 + 1))] [] (jG0 sc) h (0, 0)) :
    WP mX11_first Q 141 [some (.ref 0), some (.int l1), some (.int l2), some (.int l3), some (.int l4), some (.int l5), some (.int l6)] [] (jG0 sc) h (0, 0) := by
  refine j_iinc (i := 6) (n := 1) rfl dX11_first_141 (Nat.le_of_ble_eq_true rfl) ?_
  refine j_eqlv [some (.ref 0), some (.int l1), some (.int l2), some (.int l3), some (.int l4), some (.int l5), some (.int (l6 + 1))] rfl ?_
  refine j_goto (off := -80) 64 dX11_first_144 (by decide) ?_
  exact j_le [some (.ref 0), some (.int l1), some (.int l2), some (.int l3), some (.int l4), some (.int l5), some (.int (l6 + 1))] (And.intro rfl (And.intro rfl (And.intro rfl (And.intro rfl (And.intro rfl (And.intro rfl (And.intro rfl True.intro))))))) v1
set_option maxRecDepth 100000 in
theorem bX11_first_147 {sc : Nat × (Nat → Int32)} {h : jH} {Q : jQ} {l1 l2 l3 l4 l5 l6 : Int32}
    (v1 : ¬ l1 = 0 → WP mX11_first Q 153 [some (.ref 0), some (.int l1), some (.int l2), some (.int l3), some (.int l4), some (.int l5), some (.int l6)] [] (jG0 sc) h (0, 0))
    (v2 : l1 = 0 → WP mX11_first Q 151 [some (.ref 0), some (.int l1), some (.int l2), some (.int l3), some (.int l4), some (.int l5), some (.int l6)] [] (jG0 sc) h (0, 0)) :
    WP mX11_first Q 147 [some (.ref 0), some (.int l1), some (.int l2), some (.int l3), some (.int l4), some (.int l5), some (.int l6)] [] (jG0 sc) h (0, 0) := by
  refine j_iload_n (i := 1) rfl dX11_first_147 ?_
  refine j_if_ne (off := 5) 153 dX11_first_148 (by decide) (fun c1 => ?_) (fun c1 => ?_)
  · exact j_le [some (.ref 0), some (.int l1), some (.int l2), some (.int l3), some (.int l4), some (.int l5), some (.int l6)] (And.intro rfl (And.intro rfl (And.intro rfl (And.intro rfl (And.intro rfl (And.intro rfl (And.intro rfl True.intro))))))) (v1 c1)
  · exact j_le [some (.ref 0), some (.int l1), some (.int l2), some (.int l3), some (.int l4), some (.int l5), some (.int l6)] (And.intro rfl (And.intro rfl (And.intro rfl (And.intro rfl (And.intro rfl (And.intro rfl (And.intro rfl True.intro))))))) (v2 c1)
set_option maxRecDepth 100000 in
theorem bX11_first_151 {sc : Nat × (Nat → Int32)} {h : jH} {Q : jQ} {l1 l2 l3 l4 l5 l6 : Int32}
    (v1 : Q (.inl (some (.int (-1)))) (jG0 sc) h) :
    WP mX11_first Q 151 [some (.ref 0), some (.int l1), some (.int l2), some (.int l3), some (.int l4), some (.int l5), some (.int l6)] [] (jG0 sc) h (0, 0) := by
  refine j_iconst (n := (-1)) (-1) (by decide) dX11_first_151 ?_
  exact j_iret rfl rfl (Nat.zero_le _) (Nat.zero_le _) dX11_first_152 v1
set_option maxRecDepth 100000 in
theorem bX11_first_153 {sc : Nat × (Nat → Int32)} {h : jH} {Q : jQ} {l1 l2 l3 l4 l5 l6 : Int32}
    (v1 : WP mX11_first Q 24 [some (.ref 0), some (.int l1), some (.int l2), some (.int l3), some (.int (l4 + 1)), none, none] [] (jG0 sc) h (0, 0)) :
    WP mX11_first Q 153 [some (.ref 0), some (.int l1), some (.int l2), some (.int l3), some (.int l4), some (.int l5), some (.int l6)] [] (jG0 sc) h (0, 0) := by
  refine j_iinc (i := 4) (n := 1) rfl dX11_first_153 (Nat.le_of_ble_eq_true rfl) ?_
  refine j_eqlv [some (.ref 0), some (.int l1), some (.int l2), some (.int l3), some (.int (l4 + 1)), some (.int l5), some (.int l6)] rfl ?_
  refine j_goto (off := -132) 24 dX11_first_156 (by decide) ?_
  exact j_le [some (.ref 0), some (.int l1), some (.int l2), some (.int l3), some (.int (l4 + 1)), none, none] (And.intro rfl (And.intro rfl (And.intro rfl (And.intro rfl (And.intro rfl True.intro))))) v1
set_option maxRecDepth 100000 in
theorem bX11_first_159 {sc : Nat × (Nat → Int32)} {h : jH} {Q : jQ} {l1 l2 l3 l4 : Int32}
    (v1 : Q (.inl (some (.int (-1)))) (jG0 sc) h) :
    WP mX11_first Q 159 [some (.ref 0), some (.int l1), some (.int l2), some (.int l3), some (.int l4), none, none] [] (jG0 sc) h (0, 0) := by
  refine j_iconst (n := (-1)) (-1) (by decide) dX11_first_159 ?_
  exact j_iret rfl rfl (Nat.zero_le _) (Nat.zero_le _) dX11_first_160 v1
set_option maxRecDepth 100000 in
theorem rX11_first_0 {sc : Nat × (Nat → Int32)} {h : jH} {Q : jQ} {l1 : Int32} {P1 : Int32 → jH → Prop}
    (k1 : JM mX11_hasBody [.ref 0] (jG0 sc) h (jint sc P1))
    (v1 : ∀ (x1 : Int32) (h1 : jH), P1 x1 h1 → ¬ x1 = 0 → WP mX11_first Q 24 [some (.ref 0), some (.int l1), some (.int 0), some (.int 0), some (.int 0), none, none] [] (jG0 sc) h1 (0, 0))
    (v2 : ∀ (x1 : Int32) (h1 : jH), P1 x1 h1 → x1 = 0 → Q (.inr "java/lang/IllegalStateException") (jG0 sc) h1) :
    WP mX11_first Q 0 [some (.ref 0), some (.int l1), none, none, none, none, none] [] (jG0 sc) h (0, 0) := by
  exact (bX11_first_0 k1 (fun x1 h1 p1 c1 => (bX11_first_17 (v1 x1 h1 p1 c1))) (fun x1 h1 p1 c1 => (bX11_first_7 (v2 x1 h1 p1 c1))))
set_option maxRecDepth 100000 in
theorem rX11_first_24 {sc : Nat × (Nat → Int32)} {h : jH} {Q : jQ} {l1 l2 l3 l4 : Int32} {P1 : Int32 → jH → Prop}
    (v1 : 6 ≤ l4 → Q (.inl (some (.int (-1)))) (jG0 sc) h)
    (v2 : ¬ 6 ≤ l4 → l1 = 0 → l1 = 0 → WP mX11_first Q 64 [some (.ref 0), some (.int l1), some (.int (l2 ||| 0)), some (.int l3), some (.int l4), some (.int (-1)), some (.int 0)] [] (jG0 sc) h (0, 0))
    (v3 : ¬ 6 ≤ l4 → l1 = 0 → ¬ l1 = 0 → WP mX11_first Q 64 [some (.ref 0), some (.int l1), some (.int (l2 ||| ((1 : Int32) <<< ((-1) &&& 31)))), some (.int l3), some (.int l4), some (.int (-1)), some (.int 0)] [] (jG0 sc) h (0, 0))
    (k1 : ¬ 6 ≤ l4 → ¬ l1 = 0 → JM mX11_mostTaught [.ref 0, .int l2] (jG0 sc) h (jint sc P1))
    (v4 : ¬ 6 ≤ l4 → ¬ l1 = 0 → ∀ (x1 : Int32) (h1 : jH), P1 x1 h1 → l1 = 0 → WP mX11_first Q 64 [some (.ref 0), some (.int l1), some (.int (l2 ||| 0)), some (.int l3), some (.int l4), some (.int x1), some (.int 0)] [] (jG0 sc) h1 (0, 0))
    (v5 : ¬ 6 ≤ l4 → ¬ l1 = 0 → ∀ (x1 : Int32) (h1 : jH), P1 x1 h1 → ¬ l1 = 0 → WP mX11_first Q 64 [some (.ref 0), some (.int l1), some (.int (l2 ||| ((1 : Int32) <<< (x1 &&& 31)))), some (.int l3), some (.int l4), some (.int x1), some (.int 0)] [] (jG0 sc) h1 (0, 0)) :
    WP mX11_first Q 24 [some (.ref 0), some (.int l1), some (.int l2), some (.int l3), some (.int l4), none, none] [] (jG0 sc) h (0, 0) := by
  exact (bX11_first_24 (fun c1 => (bX11_first_159 (v1 c1))) (fun c1 => (bX11_first_31 (fun c2 => (bX11_first_43 (bX11_first_44 (fun c3 => (bX11_first_58 (bX11_first_59 (v2 c1 c2 c3)))) (fun c3 => (bX11_first_51 (bX11_first_59 (v3 c1 c2 c3))))))) (fun c2 => (bX11_first_35 (k1 c1 c2) (fun x1 h1 p1 => (bX11_first_44 (fun c4 => (bX11_first_58 (bX11_first_59 (v4 c1 c2 x1 h1 p1 c4)))) (fun c4 => (bX11_first_51 (bX11_first_59 (v5 c1 c2 x1 h1 p1 c4)))))))))))
set_option maxRecDepth 100000 in
theorem rX11_first_64 {sc : Nat × (Nat → Int32)} {h : jH} {Q : jQ} {l1 l2 l3 l4 l5 l6 : Int32} {P1 : Int32 → jH → Prop} {P2 : Int32 → jH → Prop} {P3 : Int32 → jH → Prop} {P4 : Int32 → jH → Prop}
    (v1 : (h 75 6) ≤ l6 → ¬ l1 = 0 → WP mX11_first Q 24 [some (.ref 0), some (.int l1), some (.int l2), some (.int l3), some (.int (l4 + 1)), none, none] [] (jG0 sc) h (0, 0))
    (v2 : (h 75 6) ≤ l6 → l1 = 0 → Q (.inl (some (.int (-1)))) (jG0 sc) h)
    (v3 : ¬ (h 75 6) ≤ l6 → 300 ≤ l6 → ¬ l1 = 0 → WP mX11_first Q 24 [some (.ref 0), some (.int l1), some (.int l2), some (.int l3), some (.int (l4 + 1)), none, none] [] (jG0 sc) h (0, 0))
    (v4 : ¬ (h 75 6) ≤ l6 → 300 ≤ l6 → l1 = 0 → Q (.inl (some (.int (-1)))) (jG0 sc) h)
    (k1 : ¬ (h 75 6) ≤ l6 → ¬ 300 ≤ l6 → l1 = 0 → JM mX3_shape [.ref 75, .ref 10, .int l6, .ref 89] (jG0 sc) h (jint sc P1))
    (k2 : ¬ (h 75 6) ≤ l6 → ¬ 300 ≤ l6 → l1 = 0 → ∀ (x1 : Int32) (h1 : jH), P1 x1 h1 → JM mX11_firstWrong [.ref 0, .ref 89] (jG0 sc) h1 (jint sc P2))
    (v5 : ¬ (h 75 6) ≤ l6 → ¬ 300 ≤ l6 → l1 = 0 → ∀ (x1 : Int32) (h1 : jH), P1 x1 h1 → ∀ (x2 : Int32) (h2 : jH), P2 x2 h2 → ¬ x2 = (-1) → WP mX11_first Q 64 [some (.ref 0), some (.int l1), some (.int l2), some (.int (l3 + 1)), some (.int l4), some (.int l5), some (.int (l6 + 1))] [] (jG0 sc) h2 (0, 0))
    (v6 : ¬ (h 75 6) ≤ l6 → ¬ 300 ≤ l6 → l1 = 0 → ∀ (x1 : Int32) (h1 : jH), P1 x1 h1 → ∀ (x2 : Int32) (h2 : jH), P2 x2 h2 → x2 = (-1) → Q (.inl (some (.int (l3 + 1)))) (jG0 sc) h2)
    (o1 : ¬ (h 75 6) ≤ l6 → ¬ 300 ≤ l6 → ¬ l1 = 0 → vp_in l6 300)
    (v7 : ¬ (h 75 6) ≤ l6 → ¬ 300 ≤ l6 → ¬ l1 = 0 → ¬ (h 76 l6.toNatClampNeg) = l5 → WP mX11_first Q 64 [some (.ref 0), some (.int l1), some (.int l2), some (.int l3), some (.int l4), some (.int l5), some (.int (l6 + 1))] [] (jG0 sc) h (0, 0))
    (k3 : ¬ (h 75 6) ≤ l6 → ¬ 300 ≤ l6 → ¬ l1 = 0 → (h 76 l6.toNatClampNeg) = l5 → JM mX3_shape [.ref 75, .ref 10, .int l6, .ref 89] (jG0 sc) h (jint sc P3))
    (k4 : ¬ (h 75 6) ≤ l6 → ¬ 300 ≤ l6 → ¬ l1 = 0 → (h 76 l6.toNatClampNeg) = l5 → ∀ (x3 : Int32) (h3 : jH), P3 x3 h3 → JM mX11_firstWrong [.ref 0, .ref 89] (jG0 sc) h3 (jint sc P4))
    (v8 : ¬ (h 75 6) ≤ l6 → ¬ 300 ≤ l6 → ¬ l1 = 0 → (h 76 l6.toNatClampNeg) = l5 → ∀ (x3 : Int32) (h3 : jH), P3 x3 h3 → ∀ (x4 : Int32) (h4 : jH), P4 x4 h4 → ¬ x4 = (-1) → WP mX11_first Q 64 [some (.ref 0), some (.int l1), some (.int l2), some (.int (l3 + 1)), some (.int l4), some (.int l5), some (.int (l6 + 1))] [] (jG0 sc) h4 (0, 0))
    (v9 : ¬ (h 75 6) ≤ l6 → ¬ 300 ≤ l6 → ¬ l1 = 0 → (h 76 l6.toNatClampNeg) = l5 → ∀ (x3 : Int32) (h3 : jH), P3 x3 h3 → ∀ (x4 : Int32) (h4 : jH), P4 x4 h4 → x4 = (-1) → Q (.inl (some (.int (l3 + 1)))) (jG0 sc) h4) :
    WP mX11_first Q 64 [some (.ref 0), some (.int l1), some (.int l2), some (.int l3), some (.int l4), some (.int l5), some (.int l6)] [] (jG0 sc) h (0, 0) := by
  exact (bX11_first_64 (fun c1 => (bX11_first_147 (fun c2 => (bX11_first_153 (v1 c1 c2))) (fun c2 => (bX11_first_151 (v2 c1 c2))))) (fun c1 => (bX11_first_76 (fun c3 => (bX11_first_147 (fun c4 => (bX11_first_153 (v3 c1 c3 c4))) (fun c4 => (bX11_first_151 (v4 c1 c3 c4))))) (fun c3 => (bX11_first_84 (fun c5 => (bX11_first_103 (k1 c1 c3 c5) (fun x1 h1 p1 => (k2 c1 c3 c5 x1 h1 p1)) (fun x1 h1 p1 x2 h2 p2 c6 => (bX11_first_141 (v5 c1 c3 c5 x1 h1 p1 x2 h2 p2 c6))) (fun x1 h1 p1 x2 h2 p2 c6 => (bX11_first_139 (v6 c1 c3 c5 x1 h1 p1 x2 h2 p2 c6))))) (fun c5 => (bX11_first_88 (o1 c1 c3 c5) (fun c7 => (bX11_first_141 (v7 c1 c3 c5 c7))) (fun c7 => (bX11_first_103 (k3 c1 c3 c5 c7) (fun x3 h3 p3 => (k4 c1 c3 c5 c7 x3 h3 p3)) (fun x3 h3 p3 x4 h4 p4 c8 => (bX11_first_141 (v8 c1 c3 c5 c7 x3 h3 p3 x4 h4 p4 c8))) (fun x3 h3 p3 x4 h4 p4 c8 => (bX11_first_139 (v9 c1 c3 c5 c7 x3 h3 p3 x4 h4 p4 c8))))))))))))
theorem dX11_mostTaught_0 : decode (mC mX11_mostTaught) 0 = .ok (.iconst 0, 1) := by decide +kernel
theorem dX11_mostTaught_1 : decode (mC mX11_mostTaught) 1 = .ok (.istore_n 2, 1) := by decide +kernel
theorem dX11_mostTaught_2 : decode (mC mX11_mostTaught) 2 = .ok (.iconst (-1), 1) := by decide +kernel
theorem dX11_mostTaught_3 : decode (mC mX11_mostTaught) 3 = .ok (.istore_n 3, 1) := by decide +kernel
theorem dX11_mostTaught_4 : decode (mC mX11_mostTaught) 4 = .ok (.iconst 0, 1) := by decide +kernel
theorem dX11_mostTaught_5 : decode (mC mX11_mostTaught) 5 = .ok (.istore 4, 2) := by decide +kernel
theorem dX11_mostTaught_7 : decode (mC mX11_mostTaught) 7 = .ok (.iload 4, 2) := by decide +kernel
theorem dX11_mostTaught_9 : decode (mC mX11_mostTaught) 9 = .ok (.bipush 6, 2) := by decide +kernel
theorem dX11_mostTaught_11 : decode (mC mX11_mostTaught) 11 = .ok (.if_icmp .ge 46, 3) := by decide +kernel
theorem dX11_mostTaught_14 : decode (mC mX11_mostTaught) 14 = .ok (.iload_n 1, 1) := by decide +kernel
theorem dX11_mostTaught_15 : decode (mC mX11_mostTaught) 15 = .ok (.iload 4, 2) := by decide +kernel
theorem dX11_mostTaught_17 : decode (mC mX11_mostTaught) 17 = .ok (.ishr, 1) := by decide +kernel
theorem dX11_mostTaught_18 : decode (mC mX11_mostTaught) 18 = .ok (.iconst 1, 1) := by decide +kernel
theorem dX11_mostTaught_19 : decode (mC mX11_mostTaught) 19 = .ok (.iand, 1) := by decide +kernel
theorem dX11_mostTaught_20 : decode (mC mX11_mostTaught) 20 = .ok (.ifCond .ne 31, 3) := by decide +kernel
theorem dX11_mostTaught_23 : decode (mC mX11_mostTaught) 23 = .ok (.aload_n 0, 1) := by decide +kernel
theorem dX11_mostTaught_24 : decode (mC mX11_mostTaught) 24 = .ok (.getfield 37, 3) := by decide +kernel
theorem dX11_mostTaught_27 : decode (mC mX11_mostTaught) 27 = .ok (.getfield 343, 3) := by decide +kernel
theorem dX11_mostTaught_30 : decode (mC mX11_mostTaught) 30 = .ok (.iload 4, 2) := by decide +kernel
theorem dX11_mostTaught_32 : decode (mC mX11_mostTaught) 32 = .ok (.iaload, 1) := by decide +kernel
theorem dX11_mostTaught_33 : decode (mC mX11_mostTaught) 33 = .ok (.iload_n 3, 1) := by decide +kernel
theorem dX11_mostTaught_34 : decode (mC mX11_mostTaught) 34 = .ok (.if_icmp .le 17, 3) := by decide +kernel
theorem dX11_mostTaught_37 : decode (mC mX11_mostTaught) 37 = .ok (.iload 4, 2) := by decide +kernel
theorem dX11_mostTaught_39 : decode (mC mX11_mostTaught) 39 = .ok (.istore_n 2, 1) := by decide +kernel
theorem dX11_mostTaught_40 : decode (mC mX11_mostTaught) 40 = .ok (.aload_n 0, 1) := by decide +kernel
theorem dX11_mostTaught_41 : decode (mC mX11_mostTaught) 41 = .ok (.getfield 37, 3) := by decide +kernel
theorem dX11_mostTaught_44 : decode (mC mX11_mostTaught) 44 = .ok (.getfield 343, 3) := by decide +kernel
theorem dX11_mostTaught_47 : decode (mC mX11_mostTaught) 47 = .ok (.iload 4, 2) := by decide +kernel
theorem dX11_mostTaught_49 : decode (mC mX11_mostTaught) 49 = .ok (.iaload, 1) := by decide +kernel
theorem dX11_mostTaught_50 : decode (mC mX11_mostTaught) 50 = .ok (.istore_n 3, 1) := by decide +kernel
theorem dX11_mostTaught_51 : decode (mC mX11_mostTaught) 51 = .ok (.iinc 4 1, 3) := by decide +kernel
theorem dX11_mostTaught_54 : decode (mC mX11_mostTaught) 54 = .ok (.goto (-47), 3) := by decide +kernel
theorem dX11_mostTaught_57 : decode (mC mX11_mostTaught) 57 = .ok (.iload_n 2, 1) := by decide +kernel
theorem dX11_mostTaught_58 : decode (mC mX11_mostTaught) 58 = .ok (.ireturn, 1) := by decide +kernel
set_option maxRecDepth 100000 in
theorem bX11_mostTaught_0 {sc : Nat × (Nat → Int32)} {h : jH} {Q : jQ} {l1 : Int32}
    (v1 : WP mX11_mostTaught Q 7 [some (.ref 0), some (.int l1), some (.int 0), some (.int (-1)), some (.int 0)] [] (jG0 sc) h (0, 0)) :
    WP mX11_mostTaught Q 0 [some (.ref 0), some (.int l1), none, none, none] [] (jG0 sc) h (0, 0) := by
  refine j_iconst (n := 0) 0 (by decide) dX11_mostTaught_0 ?_
  refine j_istore_n (i := 2) dX11_mostTaught_1 (Nat.le_of_ble_eq_true rfl) ?_
  refine j_iconst (n := (-1)) (-1) (by decide) dX11_mostTaught_2 ?_
  refine j_istore_n (i := 3) dX11_mostTaught_3 (Nat.le_of_ble_eq_true rfl) ?_
  refine j_iconst (n := 0) 0 (by decide) dX11_mostTaught_4 ?_
  refine j_istore (i := 4) dX11_mostTaught_5 (Nat.le_of_ble_eq_true rfl) ?_
  exact j_le [some (.ref 0), some (.int l1), some (.int 0), some (.int (-1)), some (.int 0)] (And.intro rfl (And.intro rfl (And.intro rfl (And.intro rfl (And.intro rfl True.intro))))) v1
set_option maxRecDepth 100000 in
theorem bX11_mostTaught_7 {sc : Nat × (Nat → Int32)} {h : jH} {Q : jQ} {l1 l2 l3 l4 : Int32}
    (v1 : 6 ≤ l4 → WP mX11_mostTaught Q 57 [some (.ref 0), some (.int l1), some (.int l2), some (.int l3), some (.int l4)] [] (jG0 sc) h (0, 0))
    (v2 : ¬ 6 ≤ l4 → WP mX11_mostTaught Q 14 [some (.ref 0), some (.int l1), some (.int l2), some (.int l3), some (.int l4)] [] (jG0 sc) h (0, 0)) :
    WP mX11_mostTaught Q 7 [some (.ref 0), some (.int l1), some (.int l2), some (.int l3), some (.int l4)] [] (jG0 sc) h (0, 0) := by
  refine j_iload (i := 4) rfl dX11_mostTaught_7 ?_
  refine j_bipush (n := 6) 6 (by decide) dX11_mostTaught_9 ?_
  refine j_icmp_ge (off := 46) 57 dX11_mostTaught_11 (by decide) (fun c1 => ?_) (fun c1 => ?_)
  · exact j_le [some (.ref 0), some (.int l1), some (.int l2), some (.int l3), some (.int l4)] (And.intro rfl (And.intro rfl (And.intro rfl (And.intro rfl (And.intro rfl True.intro))))) (v1 c1)
  · exact j_le [some (.ref 0), some (.int l1), some (.int l2), some (.int l3), some (.int l4)] (And.intro rfl (And.intro rfl (And.intro rfl (And.intro rfl (And.intro rfl True.intro))))) (v2 c1)
set_option maxRecDepth 100000 in
theorem bX11_mostTaught_14 {sc : Nat × (Nat → Int32)} {h : jH} {Q : jQ} {l1 l2 l3 l4 : Int32}
    (v1 : ¬ ((l1 >>> (l4 &&& 31)) &&& 1) = 0 → WP mX11_mostTaught Q 51 [some (.ref 0), some (.int l1), some (.int l2), some (.int l3), some (.int l4)] [] (jG0 sc) h (0, 0))
    (v2 : ((l1 >>> (l4 &&& 31)) &&& 1) = 0 → WP mX11_mostTaught Q 23 [some (.ref 0), some (.int l1), some (.int l2), some (.int l3), some (.int l4)] [] (jG0 sc) h (0, 0)) :
    WP mX11_mostTaught Q 14 [some (.ref 0), some (.int l1), some (.int l2), some (.int l3), some (.int l4)] [] (jG0 sc) h (0, 0) := by
  refine j_iload_n (i := 1) rfl dX11_mostTaught_14 ?_
  refine j_iload (i := 4) rfl dX11_mostTaught_15 ?_
  refine j_ishr dX11_mostTaught_17 ?_
  refine j_iconst (n := 1) 1 (by decide) dX11_mostTaught_18 ?_
  refine j_iand dX11_mostTaught_19 ?_
  refine j_if_ne (off := 31) 51 dX11_mostTaught_20 (by decide) (fun c1 => ?_) (fun c1 => ?_)
  · exact j_le [some (.ref 0), some (.int l1), some (.int l2), some (.int l3), some (.int l4)] (And.intro rfl (And.intro rfl (And.intro rfl (And.intro rfl (And.intro rfl True.intro))))) (v1 c1)
  · exact j_le [some (.ref 0), some (.int l1), some (.int l2), some (.int l3), some (.int l4)] (And.intro rfl (And.intro rfl (And.intro rfl (And.intro rfl (And.intro rfl True.intro))))) (v2 c1)
set_option maxRecDepth 100000 in
theorem bX11_mostTaught_23 {sc : Nat × (Nat → Int32)} {h : jH} {Q : jQ} {l1 l2 l3 l4 : Int32}
    (o1 : vp_in l4 6)
    (v1 : (h 25 l4.toNatClampNeg) ≤ l3 → WP mX11_mostTaught Q 51 [some (.ref 0), some (.int l1), some (.int l2), some (.int l3), some (.int l4)] [] (jG0 sc) h (0, 0))
    (v2 : ¬ (h 25 l4.toNatClampNeg) ≤ l3 → WP mX11_mostTaught Q 37 [some (.ref 0), some (.int l1), some (.int l2), some (.int l3), some (.int l4)] [] (jG0 sc) h (0, 0)) :
    WP mX11_mostTaught Q 23 [some (.ref 0), some (.int l1), some (.int l2), some (.int l3), some (.int l4)] [] (jG0 sc) h (0, 0) := by
  refine j_aload_n (i := 0) rfl dX11_mostTaught_23 ?_
  refine j_getR (idx := 37) (ci := 11) (k := 4) (nest := false) (show (11, 37, 11, 4, false) ∈ jFT by decide) rfl (Nat.le_of_ble_eq_true rfl) rfl (a := 9) rfl dX11_mostTaught_24 ?_
  refine j_getR (idx := 343) (ci := 6) (k := 5) (nest := true) (show (11, 343, 6, 5, true) ∈ jFT by decide) rfl (Nat.le_of_ble_eq_true rfl) rfl (a := 25) rfl dX11_mostTaught_27 ?_
  refine j_iload (i := 4) rfl dX11_mostTaught_30 ?_
  refine j_iald (Nat.le_of_ble_eq_true rfl) rfl o1 dX11_mostTaught_32 ?_
  refine j_iload_n (i := 3) rfl dX11_mostTaught_33 ?_
  refine j_icmp_le (off := 17) 51 dX11_mostTaught_34 (by decide) (fun c1 => ?_) (fun c1 => ?_)
  · exact j_le [some (.ref 0), some (.int l1), some (.int l2), some (.int l3), some (.int l4)] (And.intro rfl (And.intro rfl (And.intro rfl (And.intro rfl (And.intro rfl True.intro))))) (v1 c1)
  · exact j_le [some (.ref 0), some (.int l1), some (.int l2), some (.int l3), some (.int l4)] (And.intro rfl (And.intro rfl (And.intro rfl (And.intro rfl (And.intro rfl True.intro))))) (v2 c1)
set_option maxRecDepth 100000 in
theorem bX11_mostTaught_37 {sc : Nat × (Nat → Int32)} {h : jH} {Q : jQ} {l1 l2 l3 l4 : Int32}
    (o1 : vp_in l4 6)
    (v1 : WP mX11_mostTaught Q 51 [some (.ref 0), some (.int l1), some (.int l4), some (.int (h 25 l4.toNatClampNeg)), some (.int l4)] [] (jG0 sc) h (0, 0)) :
    WP mX11_mostTaught Q 37 [some (.ref 0), some (.int l1), some (.int l2), some (.int l3), some (.int l4)] [] (jG0 sc) h (0, 0) := by
  refine j_iload (i := 4) rfl dX11_mostTaught_37 ?_
  refine j_istore_n (i := 2) dX11_mostTaught_39 (Nat.le_of_ble_eq_true rfl) ?_
  refine j_aload_n (i := 0) rfl dX11_mostTaught_40 ?_
  refine j_getR (idx := 37) (ci := 11) (k := 4) (nest := false) (show (11, 37, 11, 4, false) ∈ jFT by decide) rfl (Nat.le_of_ble_eq_true rfl) rfl (a := 9) rfl dX11_mostTaught_41 ?_
  refine j_getR (idx := 343) (ci := 6) (k := 5) (nest := true) (show (11, 343, 6, 5, true) ∈ jFT by decide) rfl (Nat.le_of_ble_eq_true rfl) rfl (a := 25) rfl dX11_mostTaught_44 ?_
  refine j_iload (i := 4) rfl dX11_mostTaught_47 ?_
  refine j_iald (Nat.le_of_ble_eq_true rfl) rfl o1 dX11_mostTaught_49 ?_
  refine j_istore_n (i := 3) dX11_mostTaught_50 (Nat.le_of_ble_eq_true rfl) ?_
  exact j_le [some (.ref 0), some (.int l1), some (.int l4), some (.int (h 25 l4.toNatClampNeg)), some (.int l4)] (And.intro rfl (And.intro rfl (And.intro rfl (And.intro rfl (And.intro rfl True.intro))))) v1
set_option maxRecDepth 100000 in
theorem bX11_mostTaught_51 {sc : Nat × (Nat → Int32)} {h : jH} {Q : jQ} {l1 l2 l3 l4 : Int32}
    (v1 : WP mX11_mostTaught Q 7 [some (.ref 0), some (.int l1), some (.int l2), some (.int l3), some (.int (l4 + 1))] [] (jG0 sc) h (0, 0)) :
    WP mX11_mostTaught Q 51 [some (.ref 0), some (.int l1), some (.int l2), some (.int l3), some (.int l4)] [] (jG0 sc) h (0, 0) := by
  refine j_iinc (i := 4) (n := 1) rfl dX11_mostTaught_51 (Nat.le_of_ble_eq_true rfl) ?_
  refine j_eqlv [some (.ref 0), some (.int l1), some (.int l2), some (.int l3), some (.int (l4 + 1))] rfl ?_
  refine j_goto (off := -47) 7 dX11_mostTaught_54 (by decide) ?_
  exact j_le [some (.ref 0), some (.int l1), some (.int l2), some (.int l3), some (.int (l4 + 1))] (And.intro rfl (And.intro rfl (And.intro rfl (And.intro rfl (And.intro rfl True.intro))))) v1
set_option maxRecDepth 100000 in
theorem bX11_mostTaught_57 {sc : Nat × (Nat → Int32)} {h : jH} {Q : jQ} {l1 l2 l3 l4 : Int32}
    (v1 : Q (.inl (some (.int l2))) (jG0 sc) h) :
    WP mX11_mostTaught Q 57 [some (.ref 0), some (.int l1), some (.int l2), some (.int l3), some (.int l4)] [] (jG0 sc) h (0, 0) := by
  refine j_iload_n (i := 2) rfl dX11_mostTaught_57 ?_
  exact j_iret rfl rfl (Nat.zero_le _) (Nat.zero_le _) dX11_mostTaught_58 v1
set_option maxRecDepth 100000 in
theorem rX11_mostTaught_0 {sc : Nat × (Nat → Int32)} {h : jH} {Q : jQ} {l1 : Int32}
    (v1 : WP mX11_mostTaught Q 7 [some (.ref 0), some (.int l1), some (.int 0), some (.int (-1)), some (.int 0)] [] (jG0 sc) h (0, 0)) :
    WP mX11_mostTaught Q 0 [some (.ref 0), some (.int l1), none, none, none] [] (jG0 sc) h (0, 0) := by
  exact (bX11_mostTaught_0 v1)
set_option maxRecDepth 100000 in
theorem rX11_mostTaught_7 {sc : Nat × (Nat → Int32)} {h : jH} {Q : jQ} {l1 l2 l3 l4 : Int32}
    (v1 : 6 ≤ l4 → Q (.inl (some (.int l2))) (jG0 sc) h)
    (v2 : ¬ 6 ≤ l4 → ¬ ((l1 >>> (l4 &&& 31)) &&& 1) = 0 → WP mX11_mostTaught Q 7 [some (.ref 0), some (.int l1), some (.int l2), some (.int l3), some (.int (l4 + 1))] [] (jG0 sc) h (0, 0))
    (o1 : ¬ 6 ≤ l4 → ((l1 >>> (l4 &&& 31)) &&& 1) = 0 → vp_in l4 6)
    (v3 : ¬ 6 ≤ l4 → ((l1 >>> (l4 &&& 31)) &&& 1) = 0 → (h 25 l4.toNatClampNeg) ≤ l3 → WP mX11_mostTaught Q 7 [some (.ref 0), some (.int l1), some (.int l2), some (.int l3), some (.int (l4 + 1))] [] (jG0 sc) h (0, 0))
    (o2 : ¬ 6 ≤ l4 → ((l1 >>> (l4 &&& 31)) &&& 1) = 0 → ¬ (h 25 l4.toNatClampNeg) ≤ l3 → vp_in l4 6)
    (v4 : ¬ 6 ≤ l4 → ((l1 >>> (l4 &&& 31)) &&& 1) = 0 → ¬ (h 25 l4.toNatClampNeg) ≤ l3 → WP mX11_mostTaught Q 7 [some (.ref 0), some (.int l1), some (.int l4), some (.int (h 25 l4.toNatClampNeg)), some (.int (l4 + 1))] [] (jG0 sc) h (0, 0)) :
    WP mX11_mostTaught Q 7 [some (.ref 0), some (.int l1), some (.int l2), some (.int l3), some (.int l4)] [] (jG0 sc) h (0, 0) := by
  exact (bX11_mostTaught_7 (fun c1 => (bX11_mostTaught_57 (v1 c1))) (fun c1 => (bX11_mostTaught_14 (fun c2 => (bX11_mostTaught_51 (v2 c1 c2))) (fun c2 => (bX11_mostTaught_23 (o1 c1 c2) (fun c3 => (bX11_mostTaught_51 (v3 c1 c2 c3))) (fun c3 => (bX11_mostTaught_37 (o2 c1 c2 c3) (bX11_mostTaught_51 (v4 c1 c2 c3)))))))))
theorem dX11_box_0 : decode (mC mX11_box) 0 = .ok (.iload_n 1, 1) := by decide +kernel
theorem dX11_box_1 : decode (mC mX11_box) 1 = .ok (.ifCond .lt 9, 3) := by decide +kernel
theorem dX11_box_4 : decode (mC mX11_box) 4 = .ok (.iload_n 1, 1) := by decide +kernel
theorem dX11_box_5 : decode (mC mX11_box) 5 = .ok (.bipush 15, 2) := by decide +kernel
theorem dX11_box_7 : decode (mC mX11_box) 7 = .ok (.if_icmp .le 14, 3) := by decide +kernel
theorem dX11_box_10 : decode (mC mX11_box) 10 = .ok (.new 110, 3) := by decide +kernel
theorem dX11_box_13 : decode (mC mX11_box) 13 = .ok (.dup, 1) := by decide +kernel
theorem dX11_box_14 : decode (mC mX11_box) 14 = .ok (.ldc_w 349, 3) := by decide +kernel
theorem dX11_box_17 : decode (mC mX11_box) 17 = .ok (.invokespecial 114, 3) := by decide +kernel
theorem dX11_box_20 : decode (mC mX11_box) 20 = .ok (.athrow, 1) := by decide +kernel
theorem dX11_box_21 : decode (mC mX11_box) 21 = .ok (.aload_n 0, 1) := by decide +kernel
theorem dX11_box_22 : decode (mC mX11_box) 22 = .ok (.getfield 37, 3) := by decide +kernel
theorem dX11_box_25 : decode (mC mX11_box) 25 = .ok (.iload_n 1, 1) := by decide +kernel
theorem dX11_box_26 : decode (mC mX11_box) 26 = .ok (.putfield 351, 3) := by decide +kernel
theorem dX11_box_29 : decode (mC mX11_box) 29 = .ok (.return_, 1) := by decide +kernel
set_option maxRecDepth 100000 in
theorem bX11_box_0 {sc : Nat × (Nat → Int32)} {h : jH} {Q : jQ} {l1 : Int32}
    (v1 : l1 < 0 → WP mX11_box Q 10 [some (.ref 0), some (.int l1)] [] (jG0 sc) h (0, 0))
    (v2 : ¬ l1 < 0 → WP mX11_box Q 4 [some (.ref 0), some (.int l1)] [] (jG0 sc) h (0, 0)) :
    WP mX11_box Q 0 [some (.ref 0), some (.int l1)] [] (jG0 sc) h (0, 0) := by
  refine j_iload_n (i := 1) rfl dX11_box_0 ?_
  refine j_if_lt (off := 9) 10 dX11_box_1 (by decide) (fun c1 => ?_) (fun c1 => ?_)
  · exact j_le [some (.ref 0), some (.int l1)] (And.intro rfl (And.intro rfl True.intro)) (v1 c1)
  · exact j_le [some (.ref 0), some (.int l1)] (And.intro rfl (And.intro rfl True.intro)) (v2 c1)
set_option maxRecDepth 100000 in
theorem bX11_box_4 {sc : Nat × (Nat → Int32)} {h : jH} {Q : jQ} {l1 : Int32}
    (v1 : l1 ≤ 15 → WP mX11_box Q 21 [some (.ref 0), some (.int l1)] [] (jG0 sc) h (0, 0))
    (v2 : ¬ l1 ≤ 15 → WP mX11_box Q 10 [some (.ref 0), some (.int l1)] [] (jG0 sc) h (0, 0)) :
    WP mX11_box Q 4 [some (.ref 0), some (.int l1)] [] (jG0 sc) h (0, 0) := by
  refine j_iload_n (i := 1) rfl dX11_box_4 ?_
  refine j_bipush (n := 15) 15 (by decide) dX11_box_5 ?_
  refine j_icmp_le (off := 14) 21 dX11_box_7 (by decide) (fun c1 => ?_) (fun c1 => ?_)
  · exact j_le [some (.ref 0), some (.int l1)] (And.intro rfl (And.intro rfl True.intro)) (v1 c1)
  · exact j_le [some (.ref 0), some (.int l1)] (And.intro rfl (And.intro rfl True.intro)) (v2 c1)
set_option maxRecDepth 100000 in
theorem bX11_box_10 {sc : Nat × (Nat → Int32)} {h : jH} {Q : jQ} {l1 : Int32}
    (v1 : Q (.inr "java/lang/IllegalArgumentException") (jG0 sc) h) :
    WP mX11_box Q 10 [some (.ref 0), some (.int l1)] [] (jG0 sc) h (0, 0) := by
  exact j_thrW_IAE (is := 349) "no such BOX" 37 (by decide +kernel) rfl rfl (by decide) (by decide) (Nat.le_of_ble_eq_true rfl) dX11_box_10 dX11_box_13 dX11_box_14 dX11_box_17 dX11_box_20 v1
set_option maxRecDepth 100000 in
theorem bX11_box_21 {sc : Nat × (Nat → Int32)} {h : jH} {Q : jQ} {l1 : Int32}
    (v1 : Q (.inl none) (jG0 sc) (jput h 9 8 l1)) :
    WP mX11_box Q 21 [some (.ref 0), some (.int l1)] [] (jG0 sc) h (0, 0) := by
  refine j_aload_n (i := 0) rfl dX11_box_21 ?_
  refine j_getR (idx := 37) (ci := 11) (k := 4) (nest := false) (show (11, 37, 11, 4, false) ∈ jFT by decide) rfl (Nat.le_of_ble_eq_true rfl) rfl (a := 9) rfl dX11_box_22 ?_
  refine j_iload_n (i := 1) rfl dX11_box_25 ?_
  refine j_putI (idx := 351) (ci := 6) (k := 8) (nest := true) (show (11, 351, 6, 8, true) ∈ jFT by decide) rfl rfl rfl rfl (Nat.le_of_ble_eq_true rfl) rfl dX11_box_26 ?_
  exact j_vret rfl (Nat.zero_le _) (Nat.zero_le _) dX11_box_29 v1
set_option maxRecDepth 100000 in
theorem rX11_box_0 {sc : Nat × (Nat → Int32)} {h : jH} {Q : jQ} {l1 : Int32}
    (v1 : l1 < 0 → Q (.inr "java/lang/IllegalArgumentException") (jG0 sc) h)
    (v2 : ¬ l1 < 0 → l1 ≤ 15 → Q (.inl none) (jG0 sc) (jput h 9 8 l1))
    (v3 : ¬ l1 < 0 → ¬ l1 ≤ 15 → Q (.inr "java/lang/IllegalArgumentException") (jG0 sc) h) :
    WP mX11_box Q 0 [some (.ref 0), some (.int l1)] [] (jG0 sc) h (0, 0) := by
  exact (bX11_box_0 (fun c1 => (bX11_box_10 (v1 c1))) (fun c1 => (bX11_box_4 (fun c2 => (bX11_box_21 (v2 c1 c2))) (fun c2 => (bX11_box_10 (v3 c1 c2))))))
theorem dX11_input_0 : decode (mC mX11_input) 0 = .ok (.iconst 0, 1) := by decide +kernel
theorem dX11_input_1 : decode (mC mX11_input) 1 = .ok (.istore_n 2, 1) := by decide +kernel
theorem dX11_input_2 : decode (mC mX11_input) 2 = .ok (.iload_n 2, 1) := by decide +kernel
theorem dX11_input_3 : decode (mC mX11_input) 3 = .ok (.aload_n 0, 1) := by decide +kernel
theorem dX11_input_4 : decode (mC mX11_input) 4 = .ok (.getfield 37, 3) := by decide +kernel
theorem dX11_input_7 : decode (mC mX11_input) 7 = .ok (.getfield 151, 3) := by decide +kernel
theorem dX11_input_10 : decode (mC mX11_input) 10 = .ok (.getfield 187, 3) := by decide +kernel
theorem dX11_input_13 : decode (mC mX11_input) 13 = .ok (.if_icmp .ge 44, 3) := by decide +kernel
theorem dX11_input_16 : decode (mC mX11_input) 16 = .ok (.iload_n 2, 1) := by decide +kernel
theorem dX11_input_17 : decode (mC mX11_input) 17 = .ok (.aload_n 0, 1) := by decide +kernel
theorem dX11_input_18 : decode (mC mX11_input) 18 = .ok (.getfield 78, 3) := by decide +kernel
theorem dX11_input_21 : decode (mC mX11_input) 21 = .ok (.arraylength, 1) := by decide +kernel
theorem dX11_input_22 : decode (mC mX11_input) 22 = .ok (.if_icmp .ge 35, 3) := by decide +kernel
theorem dX11_input_25 : decode (mC mX11_input) 25 = .ok (.aload_n 0, 1) := by decide +kernel
theorem dX11_input_26 : decode (mC mX11_input) 26 = .ok (.getfield 61, 3) := by decide +kernel
theorem dX11_input_29 : decode (mC mX11_input) 29 = .ok (.aload_n 0, 1) := by decide +kernel
theorem dX11_input_30 : decode (mC mX11_input) 30 = .ok (.getfield 37, 3) := by decide +kernel
theorem dX11_input_33 : decode (mC mX11_input) 33 = .ok (.getfield 127, 3) := by decide +kernel
theorem dX11_input_36 : decode (mC mX11_input) 36 = .ok (.aload_n 0, 1) := by decide +kernel
theorem dX11_input_37 : decode (mC mX11_input) 37 = .ok (.iload_n 2, 1) := by decide +kernel
theorem dX11_input_38 : decode (mC mX11_input) 38 = .ok (.invokevirtual 326, 3) := by decide +kernel
theorem dX11_input_41 : decode (mC mX11_input) 41 = .ok (.aload_n 0, 1) := by decide +kernel
theorem dX11_input_42 : decode (mC mX11_input) 42 = .ok (.getfield 78, 3) := by decide +kernel
theorem dX11_input_45 : decode (mC mX11_input) 45 = .ok (.iload_n 2, 1) := by decide +kernel
theorem dX11_input_46 : decode (mC mX11_input) 46 = .ok (.aaload, 1) := by decide +kernel
theorem dX11_input_47 : decode (mC mX11_input) 47 = .ok (.invokevirtual 192, 3) := by decide +kernel
theorem dX11_input_50 : decode (mC mX11_input) 50 = .ok (.pop, 1) := by decide +kernel
theorem dX11_input_51 : decode (mC mX11_input) 51 = .ok (.iinc 2 1, 3) := by decide +kernel
theorem dX11_input_54 : decode (mC mX11_input) 54 = .ok (.goto (-52), 3) := by decide +kernel
theorem dX11_input_57 : decode (mC mX11_input) 57 = .ok (.aload_n 0, 1) := by decide +kernel
theorem dX11_input_58 : decode (mC mX11_input) 58 = .ok (.getfield 37, 3) := by decide +kernel
theorem dX11_input_61 : decode (mC mX11_input) 61 = .ok (.getfield 151, 3) := by decide +kernel
theorem dX11_input_64 : decode (mC mX11_input) 64 = .ok (.getfield 187, 3) := by decide +kernel
theorem dX11_input_67 : decode (mC mX11_input) 67 = .ok (.iconst 2, 1) := by decide +kernel
theorem dX11_input_68 : decode (mC mX11_input) 68 = .ok (.if_icmp .ge 5, 3) := by decide +kernel
theorem dX11_input_71 : decode (mC mX11_input) 71 = .ok (.iconst (-1), 1) := by decide +kernel
theorem dX11_input_72 : decode (mC mX11_input) 72 = .ok (.ireturn, 1) := by decide +kernel
theorem dX11_input_73 : decode (mC mX11_input) 73 = .ok (.iload_n 1, 1) := by decide +kernel
theorem dX11_input_74 : decode (mC mX11_input) 74 = .ok (.ifCond .eq 10, 3) := by decide +kernel
theorem dX11_input_77 : decode (mC mX11_input) 77 = .ok (.aload_n 0, 1) := by decide +kernel
theorem dX11_input_78 : decode (mC mX11_input) 78 = .ok (.invokevirtual 354, 3) := by decide +kernel
theorem dX11_input_81 : decode (mC mX11_input) 81 = .ok (.goto 7, 3) := by decide +kernel
theorem dX11_input_84 : decode (mC mX11_input) 84 = .ok (.aload_n 0, 1) := by decide +kernel
theorem dX11_input_85 : decode (mC mX11_input) 85 = .ok (.invokevirtual 357, 3) := by decide +kernel
theorem dX11_input_88 : decode (mC mX11_input) 88 = .ok (.ireturn, 1) := by decide +kernel
set_option maxRecDepth 100000 in
theorem bX11_input_0 {sc : Nat × (Nat → Int32)} {h : jH} {Q : jQ} {l1 : Int32}
    (v1 : WP mX11_input Q 2 [some (.ref 0), some (.int l1), some (.int 0)] [] (jG0 sc) h (0, 0)) :
    WP mX11_input Q 0 [some (.ref 0), some (.int l1), none] [] (jG0 sc) h (0, 0) := by
  refine j_iconst (n := 0) 0 (by decide) dX11_input_0 ?_
  refine j_istore_n (i := 2) dX11_input_1 (Nat.le_of_ble_eq_true rfl) ?_
  exact j_le [some (.ref 0), some (.int l1), some (.int 0)] (And.intro rfl (And.intro rfl (And.intro rfl True.intro))) v1
set_option maxRecDepth 100000 in
theorem bX11_input_2 {sc : Nat × (Nat → Int32)} {h : jH} {Q : jQ} {l1 l2 : Int32}
    (v1 : (h 20 1) ≤ l2 → WP mX11_input Q 57 [some (.ref 0), some (.int l1), some (.int l2)] [] (jG0 sc) h (0, 0))
    (v2 : ¬ (h 20 1) ≤ l2 → WP mX11_input Q 16 [some (.ref 0), some (.int l1), some (.int l2)] [] (jG0 sc) h (0, 0)) :
    WP mX11_input Q 2 [some (.ref 0), some (.int l1), some (.int l2)] [] (jG0 sc) h (0, 0) := by
  refine j_iload_n (i := 2) rfl dX11_input_2 ?_
  refine j_aload_n (i := 0) rfl dX11_input_3 ?_
  refine j_getR (idx := 37) (ci := 11) (k := 4) (nest := false) (show (11, 37, 11, 4, false) ∈ jFT by decide) rfl (Nat.le_of_ble_eq_true rfl) rfl (a := 9) rfl dX11_input_4 ?_
  refine j_getR (idx := 151) (ci := 6) (k := 4) (nest := true) (show (11, 151, 6, 4, true) ∈ jFT by decide) rfl (Nat.le_of_ble_eq_true rfl) rfl (a := 20) rfl dX11_input_7 ?_
  refine j_getI (idx := 187) (ci := 9) (k := 1) (nest := true) (show (11, 187, 9, 1, true) ∈ jFT by decide) rfl (Nat.le_of_ble_eq_true rfl) rfl dX11_input_10 ?_
  refine j_icmp_ge (off := 44) 57 dX11_input_13 (by decide) (fun c1 => ?_) (fun c1 => ?_)
  · exact j_le [some (.ref 0), some (.int l1), some (.int l2)] (And.intro rfl (And.intro rfl (And.intro rfl True.intro))) (v1 c1)
  · exact j_le [some (.ref 0), some (.int l1), some (.int l2)] (And.intro rfl (And.intro rfl (And.intro rfl True.intro))) (v2 c1)
set_option maxRecDepth 100000 in
theorem bX11_input_16 {sc : Nat × (Nat → Int32)} {h : jH} {Q : jQ} {l1 l2 : Int32}
    (v1 : 30 ≤ l2 → WP mX11_input Q 57 [some (.ref 0), some (.int l1), some (.int l2)] [] (jG0 sc) h (0, 0))
    (v2 : ¬ 30 ≤ l2 → WP mX11_input Q 25 [some (.ref 0), some (.int l1), some (.int l2)] [] (jG0 sc) h (0, 0)) :
    WP mX11_input Q 16 [some (.ref 0), some (.int l1), some (.int l2)] [] (jG0 sc) h (0, 0) := by
  refine j_iload_n (i := 2) rfl dX11_input_16 ?_
  refine j_aload_n (i := 0) rfl dX11_input_17 ?_
  refine j_getR (idx := 78) (ci := 11) (k := 13) (nest := false) (show (11, 78, 11, 13, false) ∈ jFT by decide) rfl (Nat.le_of_ble_eq_true rfl) rfl (a := 93) rfl dX11_input_18 ?_
  refine j_alen (Nat.le_of_ble_eq_true rfl) rfl rfl 30 rfl dX11_input_21 ?_
  refine j_icmp_ge (off := 35) 57 dX11_input_22 (by decide) (fun c1 => ?_) (fun c1 => ?_)
  · exact j_le [some (.ref 0), some (.int l1), some (.int l2)] (And.intro rfl (And.intro rfl (And.intro rfl True.intro))) (v1 c1)
  · exact j_le [some (.ref 0), some (.int l1), some (.int l2)] (And.intro rfl (And.intro rfl (And.intro rfl True.intro))) (v2 c1)
set_option maxRecDepth 100000 in
theorem bX11_input_25 {sc : Nat × (Nat → Int32)} {h : jH} {Q : jQ} {l1 l2 : Int32} {P1 : Int32 → jH → Prop} {q2 : Nat} {P2 : Int32 → jH → Prop}
    (k1 : JM mX11_keptNumber [.ref 0, .int l2] (jG0 sc) h (jint sc P1))
    (o1 : ∀ (x1 : Int32) (h1 : jH), P1 x1 h1 → vp_in l2 30)
    (o2 : ∀ (x1 : Int32) (h1 : jH), P1 x1 h1 → (jRt.getD 93 []).getD l2.toNatClampNeg none = some q2)
    (o3 : ∀ (x1 : Int32) (h1 : jH), P1 x1 h1 → jI4 q2)
    (k2 : ∀ (x1 : Int32) (h1 : jH), P1 x1 h1 → JM mX3_shape [.ref 75, .ref 10, .int x1, .ref q2] (jG0 sc) h1 (jint sc P2))
    (v1 : ∀ (x1 : Int32) (h1 : jH), P1 x1 h1 → ∀ (x3 : Int32) (h3 : jH), P2 x3 h3 → WP mX11_input Q 2 [some (.ref 0), some (.int l1), some (.int (l2 + 1))] [] (jG0 sc) h3 (0, 0)) :
    WP mX11_input Q 25 [some (.ref 0), some (.int l1), some (.int l2)] [] (jG0 sc) h (0, 0) := by
  refine j_aload_n (i := 0) rfl dX11_input_25 ?_
  refine j_getR (idx := 61) (ci := 11) (k := 9) (nest := false) (show (11, 61, 11, 9, false) ∈ jFT by decide) rfl (Nat.le_of_ble_eq_true rfl) rfl (a := 75) rfl dX11_input_26 ?_
  refine j_aload_n (i := 0) rfl dX11_input_29 ?_
  refine j_getR (idx := 37) (ci := 11) (k := 4) (nest := false) (show (11, 37, 11, 4, false) ∈ jFT by decide) rfl (Nat.le_of_ble_eq_true rfl) rfl (a := 9) rfl dX11_input_30 ?_
  refine j_getR (idx := 127) (ci := 6) (k := 0) (nest := true) (show (11, 127, 6, 0, true) ∈ jFT by decide) rfl (Nat.le_of_ble_eq_true rfl) rfl (a := 10) rfl dX11_input_33 ?_
  refine j_aload_n (i := 0) rfl dX11_input_36 ?_
  refine j_iload_n (i := 2) rfl dX11_input_37 ?_
  refine j_callV (idx := 326) (As := [.int l2]) (ci := 11) (n := 1) k1 jint_nt (jlkT (jtb2 195 rfl) rfl) sX11_keptNumber kX11_keptNumber rfl ⟨rfl, by decide +kernel, by decide +kernel, by decide +kernel⟩ rfl ⟨by decide, by decide⟩ (Nat.le_of_ble_eq_true rfl) rfl (Nat.le_of_ble_eq_true rfl) (Nat.le_of_ble_eq_true rfl) ⟨Nat.zero_le _, Nat.zero_le _⟩ dX11_input_38 (fun r Γ' h1 q => ?_)
  obtain ⟨x1, q0, rfl, p1⟩ := q; cases q0
  refine j_eqst [.int x1, .ref 10, .ref 75] (by rfl) ?_
  refine j_aload_n (i := 0) rfl dX11_input_41 ?_
  refine j_getR (idx := 78) (ci := 11) (k := 13) (nest := false) (show (11, 78, 11, 13, false) ∈ jFT by decide) rfl (Nat.le_of_ble_eq_true rfl) rfl (a := 93) rfl dX11_input_42 ?_
  refine j_iload_n (i := 2) rfl dX11_input_45 ?_
  refine j_aald (Nat.le_of_ble_eq_true rfl) rfl (o1 x1 h1 p1) (a := q2) (o2 x1 h1 p1) dX11_input_46 ?_
  obtain ⟨q2_lt1, q2_K0, q2_R0_0, q2_K1, q2_L1⟩ := (o3 x1 h1 p1)
  have q2_lt0 : q2 + 0 < jN (jG0 sc) := Nat.lt_of_succ_lt q2_lt1
  refine j_callVN (idx := 192) (As := [.ref 10, .int x1, .ref q2]) (ci := 3) (n := 3) (k2 x1 h1 p1) jint_nt (jTbl (jtb2 199 rfl)) sX3_shape kX3_shape rfl ⟨rfl, by decide +kernel, by decide +kernel, by decide +kernel⟩ rfl ⟨by decide, by decide⟩ (Nat.le_of_ble_eq_true rfl) rfl (Nat.le_of_ble_eq_true rfl) (Nat.le_of_ble_eq_true rfl) ⟨Nat.zero_le _, Nat.zero_le _⟩ dX11_input_47 (fun r Γ' h3 q => ?_)
  obtain ⟨x3, q0, rfl, p3⟩ := q; cases q0
  refine j_eqst [.int x3] (by rfl) ?_
  refine j_pop rfl dX11_input_50 ?_
  refine j_iinc (i := 2) (n := 1) rfl dX11_input_51 (Nat.le_of_ble_eq_true rfl) ?_
  refine j_eqlv [some (.ref 0), some (.int l1), some (.int (l2 + 1))] rfl ?_
  refine j_goto (off := -52) 2 dX11_input_54 (by decide) ?_
  exact j_le [some (.ref 0), some (.int l1), some (.int (l2 + 1))] (And.intro rfl (And.intro rfl (And.intro rfl True.intro))) (v1 x1 h1 p1 x3 h3 p3)
set_option maxRecDepth 100000 in
theorem bX11_input_57 {sc : Nat × (Nat → Int32)} {h : jH} {Q : jQ} {l1 l2 : Int32}
    (v1 : 2 ≤ (h 20 1) → WP mX11_input Q 73 [some (.ref 0), some (.int l1), some (.int l2)] [] (jG0 sc) h (0, 0))
    (v2 : ¬ 2 ≤ (h 20 1) → WP mX11_input Q 71 [some (.ref 0), some (.int l1), some (.int l2)] [] (jG0 sc) h (0, 0)) :
    WP mX11_input Q 57 [some (.ref 0), some (.int l1), some (.int l2)] [] (jG0 sc) h (0, 0) := by
  refine j_aload_n (i := 0) rfl dX11_input_57 ?_
  refine j_getR (idx := 37) (ci := 11) (k := 4) (nest := false) (show (11, 37, 11, 4, false) ∈ jFT by decide) rfl (Nat.le_of_ble_eq_true rfl) rfl (a := 9) rfl dX11_input_58 ?_
  refine j_getR (idx := 151) (ci := 6) (k := 4) (nest := true) (show (11, 151, 6, 4, true) ∈ jFT by decide) rfl (Nat.le_of_ble_eq_true rfl) rfl (a := 20) rfl dX11_input_61 ?_
  refine j_getI (idx := 187) (ci := 9) (k := 1) (nest := true) (show (11, 187, 9, 1, true) ∈ jFT by decide) rfl (Nat.le_of_ble_eq_true rfl) rfl dX11_input_64 ?_
  refine j_iconst (n := 2) 2 (by decide) dX11_input_67 ?_
  refine j_icmp_ge (off := 5) 73 dX11_input_68 (by decide) (fun c1 => ?_) (fun c1 => ?_)
  · exact j_le [some (.ref 0), some (.int l1), some (.int l2)] (And.intro rfl (And.intro rfl (And.intro rfl True.intro))) (v1 c1)
  · exact j_le [some (.ref 0), some (.int l1), some (.int l2)] (And.intro rfl (And.intro rfl (And.intro rfl True.intro))) (v2 c1)
set_option maxRecDepth 100000 in
theorem bX11_input_71 {sc : Nat × (Nat → Int32)} {h : jH} {Q : jQ} {l1 l2 : Int32}
    (v1 : Q (.inl (some (.int (-1)))) (jG0 sc) h) :
    WP mX11_input Q 71 [some (.ref 0), some (.int l1), some (.int l2)] [] (jG0 sc) h (0, 0) := by
  refine j_iconst (n := (-1)) (-1) (by decide) dX11_input_71 ?_
  exact j_iret rfl rfl (Nat.zero_le _) (Nat.zero_le _) dX11_input_72 v1
set_option maxRecDepth 100000 in
theorem bX11_input_73 {sc : Nat × (Nat → Int32)} {h : jH} {Q : jQ} {l1 l2 : Int32}
    (v1 : l1 = 0 → WP mX11_input Q 84 [some (.ref 0), some (.int l1), some (.int l2)] [] (jG0 sc) h (0, 0))
    (v2 : ¬ l1 = 0 → WP mX11_input Q 77 [some (.ref 0), some (.int l1), some (.int l2)] [] (jG0 sc) h (0, 0)) :
    WP mX11_input Q 73 [some (.ref 0), some (.int l1), some (.int l2)] [] (jG0 sc) h (0, 0) := by
  refine j_iload_n (i := 1) rfl dX11_input_73 ?_
  refine j_if_eq (off := 10) 84 dX11_input_74 (by decide) (fun c1 => ?_) (fun c1 => ?_)
  · exact j_le [some (.ref 0), some (.int l1), some (.int l2)] (And.intro rfl (And.intro rfl (And.intro rfl True.intro))) (v1 c1)
  · exact j_le [some (.ref 0), some (.int l1), some (.int l2)] (And.intro rfl (And.intro rfl (And.intro rfl True.intro))) (v2 c1)
set_option maxRecDepth 100000 in
theorem bX11_input_77 {sc : Nat × (Nat → Int32)} {h : jH} {Q : jQ} {l1 l2 : Int32} {P1 : Int32 → jH → Prop}
    (k1 : JM mX11_askedInput [.ref 0] (jG0 sc) h (jint sc P1))
    (v1 : ∀ (x1 : Int32) (h1 : jH), P1 x1 h1 → WP mX11_input Q 88 [some (.ref 0), some (.int l1), some (.int l2)] [.int x1] (jG0 sc) h1 (0, 0)) :
    WP mX11_input Q 77 [some (.ref 0), some (.int l1), some (.int l2)] [] (jG0 sc) h (0, 0) := by
  refine j_aload_n (i := 0) rfl dX11_input_77 ?_
  refine j_callV (idx := 354) (As := []) (ci := 11) (n := 0) k1 jint_nt (jlkT (jtb2 231 rfl) rfl) sX11_askedInput kX11_askedInput rfl ⟨rfl, by decide +kernel, by decide +kernel, by decide +kernel⟩ rfl ⟨by decide, by decide⟩ (Nat.le_of_ble_eq_true rfl) rfl (Nat.le_of_ble_eq_true rfl) (Nat.le_of_ble_eq_true rfl) ⟨Nat.zero_le _, Nat.zero_le _⟩ dX11_input_78 (fun r Γ' h1 q => ?_)
  obtain ⟨x1, q0, rfl, p1⟩ := q; cases q0
  refine j_eqst [.int x1] (by rfl) ?_
  refine j_goto (off := 7) 88 dX11_input_81 (by decide) ?_
  exact j_le [some (.ref 0), some (.int l1), some (.int l2)] (And.intro rfl (And.intro rfl (And.intro rfl True.intro))) (v1 x1 h1 p1)
set_option maxRecDepth 100000 in
theorem bX11_input_84 {sc : Nat × (Nat → Int32)} {h : jH} {Q : jQ} {l1 l2 : Int32} {P1 : Int32 → jH → Prop}
    (k1 : JM mX11_nearInput [.ref 0] (jG0 sc) h (jint sc P1))
    (v1 : ∀ (x1 : Int32) (h1 : jH), P1 x1 h1 → WP mX11_input Q 88 [some (.ref 0), some (.int l1), some (.int l2)] [.int x1] (jG0 sc) h1 (0, 0)) :
    WP mX11_input Q 84 [some (.ref 0), some (.int l1), some (.int l2)] [] (jG0 sc) h (0, 0) := by
  refine j_aload_n (i := 0) rfl dX11_input_84 ?_
  refine j_callV (idx := 357) (As := []) (ci := 11) (n := 0) k1 jint_nt (jlkT (jtb3 72 rfl) rfl) sX11_nearInput kX11_nearInput rfl ⟨rfl, by decide +kernel, by decide +kernel, by decide +kernel⟩ rfl ⟨by decide, by decide⟩ (Nat.le_of_ble_eq_true rfl) rfl (Nat.le_of_ble_eq_true rfl) (Nat.le_of_ble_eq_true rfl) ⟨Nat.zero_le _, Nat.zero_le _⟩ dX11_input_85 (fun r Γ' h1 q => ?_)
  obtain ⟨x1, q0, rfl, p1⟩ := q; cases q0
  refine j_eqst [.int x1] (by rfl) ?_
  exact j_le [some (.ref 0), some (.int l1), some (.int l2)] (And.intro rfl (And.intro rfl (And.intro rfl True.intro))) (v1 x1 h1 p1)
set_option maxRecDepth 100000 in
theorem bX11_input_88 {sc : Nat × (Nat → Int32)} {h : jH} {Q : jQ} {l1 l2 s0 : Int32}
    (v1 : Q (.inl (some (.int s0))) (jG0 sc) h) :
    WP mX11_input Q 88 [some (.ref 0), some (.int l1), some (.int l2)] [.int s0] (jG0 sc) h (0, 0) := by
  exact j_iret rfl rfl (Nat.zero_le _) (Nat.zero_le _) dX11_input_88 v1
set_option maxRecDepth 100000 in
theorem rX11_input_0 {sc : Nat × (Nat → Int32)} {h : jH} {Q : jQ} {l1 : Int32}
    (v1 : WP mX11_input Q 2 [some (.ref 0), some (.int l1), some (.int 0)] [] (jG0 sc) h (0, 0)) :
    WP mX11_input Q 0 [some (.ref 0), some (.int l1), none] [] (jG0 sc) h (0, 0) := by
  exact (bX11_input_0 v1)
set_option maxRecDepth 100000 in
theorem rX11_input_2 {sc : Nat × (Nat → Int32)} {h : jH} {Q : jQ} {l1 l2 : Int32} {P1 : Int32 → jH → Prop} {P2 : Int32 → jH → Prop} {P3 : Int32 → jH → Prop} {P4 : Int32 → jH → Prop} {P5 : Int32 → jH → Prop} {q6 : Nat} {P6 : Int32 → jH → Prop}
    (k1 : (h 20 1) ≤ l2 → 2 ≤ (h 20 1) → l1 = 0 → JM mX11_nearInput [.ref 0] (jG0 sc) h (jint sc P1))
    (v1 : (h 20 1) ≤ l2 → 2 ≤ (h 20 1) → l1 = 0 → ∀ (x1 : Int32) (h1 : jH), P1 x1 h1 → Q (.inl (some (.int x1))) (jG0 sc) h1)
    (k2 : (h 20 1) ≤ l2 → 2 ≤ (h 20 1) → ¬ l1 = 0 → JM mX11_askedInput [.ref 0] (jG0 sc) h (jint sc P2))
    (v2 : (h 20 1) ≤ l2 → 2 ≤ (h 20 1) → ¬ l1 = 0 → ∀ (x2 : Int32) (h2 : jH), P2 x2 h2 → Q (.inl (some (.int x2))) (jG0 sc) h2)
    (v3 : (h 20 1) ≤ l2 → ¬ 2 ≤ (h 20 1) → Q (.inl (some (.int (-1)))) (jG0 sc) h)
    (k3 : ¬ (h 20 1) ≤ l2 → 30 ≤ l2 → 2 ≤ (h 20 1) → l1 = 0 → JM mX11_nearInput [.ref 0] (jG0 sc) h (jint sc P3))
    (v4 : ¬ (h 20 1) ≤ l2 → 30 ≤ l2 → 2 ≤ (h 20 1) → l1 = 0 → ∀ (x3 : Int32) (h3 : jH), P3 x3 h3 → Q (.inl (some (.int x3))) (jG0 sc) h3)
    (k4 : ¬ (h 20 1) ≤ l2 → 30 ≤ l2 → 2 ≤ (h 20 1) → ¬ l1 = 0 → JM mX11_askedInput [.ref 0] (jG0 sc) h (jint sc P4))
    (v5 : ¬ (h 20 1) ≤ l2 → 30 ≤ l2 → 2 ≤ (h 20 1) → ¬ l1 = 0 → ∀ (x4 : Int32) (h4 : jH), P4 x4 h4 → Q (.inl (some (.int x4))) (jG0 sc) h4)
    (v6 : ¬ (h 20 1) ≤ l2 → 30 ≤ l2 → ¬ 2 ≤ (h 20 1) → Q (.inl (some (.int (-1)))) (jG0 sc) h)
    (k5 : ¬ (h 20 1) ≤ l2 → ¬ 30 ≤ l2 → JM mX11_keptNumber [.ref 0, .int l2] (jG0 sc) h (jint sc P5))
    (o1 : ¬ (h 20 1) ≤ l2 → ¬ 30 ≤ l2 → ∀ (x5 : Int32) (h5 : jH), P5 x5 h5 → vp_in l2 30)
    (o2 : ¬ (h 20 1) ≤ l2 → ¬ 30 ≤ l2 → ∀ (x5 : Int32) (h5 : jH), P5 x5 h5 → (jRt.getD 93 []).getD l2.toNatClampNeg none = some q6)
    (o3 : ¬ (h 20 1) ≤ l2 → ¬ 30 ≤ l2 → ∀ (x5 : Int32) (h5 : jH), P5 x5 h5 → jI4 q6)
    (k6 : ¬ (h 20 1) ≤ l2 → ¬ 30 ≤ l2 → ∀ (x5 : Int32) (h5 : jH), P5 x5 h5 → JM mX3_shape [.ref 75, .ref 10, .int x5, .ref q6] (jG0 sc) h5 (jint sc P6))
    (v7 : ¬ (h 20 1) ≤ l2 → ¬ 30 ≤ l2 → ∀ (x5 : Int32) (h5 : jH), P5 x5 h5 → ∀ (x7 : Int32) (h7 : jH), P6 x7 h7 → WP mX11_input Q 2 [some (.ref 0), some (.int l1), some (.int (l2 + 1))] [] (jG0 sc) h7 (0, 0)) :
    WP mX11_input Q 2 [some (.ref 0), some (.int l1), some (.int l2)] [] (jG0 sc) h (0, 0) := by
  exact (bX11_input_2 (fun c1 => (bX11_input_57 (fun c2 => (bX11_input_73 (fun c3 => (bX11_input_84 (k1 c1 c2 c3) (fun x1 h1 p1 => (bX11_input_88 (v1 c1 c2 c3 x1 h1 p1))))) (fun c3 => (bX11_input_77 (k2 c1 c2 c3) (fun x2 h2 p2 => (bX11_input_88 (v2 c1 c2 c3 x2 h2 p2))))))) (fun c2 => (bX11_input_71 (v3 c1 c2))))) (fun c1 => (bX11_input_16 (fun c4 => (bX11_input_57 (fun c5 => (bX11_input_73 (fun c6 => (bX11_input_84 (k3 c1 c4 c5 c6) (fun x3 h3 p3 => (bX11_input_88 (v4 c1 c4 c5 c6 x3 h3 p3))))) (fun c6 => (bX11_input_77 (k4 c1 c4 c5 c6) (fun x4 h4 p4 => (bX11_input_88 (v5 c1 c4 c5 c6 x4 h4 p4))))))) (fun c5 => (bX11_input_71 (v6 c1 c4 c5))))) (fun c4 => (bX11_input_25 (k5 c1 c4) (fun x5 h5 p5 => (o1 c1 c4 x5 h5 p5)) (fun x5 h5 p5 => (o2 c1 c4 x5 h5 p5)) (fun x5 h5 p5 => (o3 c1 c4 x5 h5 p5)) (fun x5 h5 p5 => (k6 c1 c4 x5 h5 p5)) (fun x5 h5 p5 x7 h7 p7 => (v7 c1 c4 x5 h5 p5 x7 h7 p7)))))))
theorem dX11_nearInput_0 : decode (mC mX11_nearInput) 0 = .ok (.iconst (-1), 1) := by decide +kernel
theorem dX11_nearInput_1 : decode (mC mX11_nearInput) 1 = .ok (.istore_n 1, 1) := by decide +kernel
theorem dX11_nearInput_2 : decode (mC mX11_nearInput) 2 = .ok (.sipush 1000, 3) := by decide +kernel
theorem dX11_nearInput_5 : decode (mC mX11_nearInput) 5 = .ok (.istore_n 2, 1) := by decide +kernel
theorem dX11_nearInput_6 : decode (mC mX11_nearInput) 6 = .ok (.iconst 0, 1) := by decide +kernel
theorem dX11_nearInput_7 : decode (mC mX11_nearInput) 7 = .ok (.istore_n 3, 1) := by decide +kernel
theorem dX11_nearInput_8 : decode (mC mX11_nearInput) 8 = .ok (.iload_n 3, 1) := by decide +kernel
theorem dX11_nearInput_9 : decode (mC mX11_nearInput) 9 = .ok (.aload_n 0, 1) := by decide +kernel
theorem dX11_nearInput_10 : decode (mC mX11_nearInput) 10 = .ok (.getfield 37, 3) := by decide +kernel
theorem dX11_nearInput_13 : decode (mC mX11_nearInput) 13 = .ok (.getfield 351, 3) := by decide +kernel
theorem dX11_nearInput_16 : decode (mC mX11_nearInput) 16 = .ok (.if_icmp .gt 72, 3) := by decide +kernel
theorem dX11_nearInput_19 : decode (mC mX11_nearInput) 19 = .ok (.iconst 0, 1) := by decide +kernel
theorem dX11_nearInput_20 : decode (mC mX11_nearInput) 20 = .ok (.istore 4, 2) := by decide +kernel
theorem dX11_nearInput_22 : decode (mC mX11_nearInput) 22 = .ok (.iload 4, 2) := by decide +kernel
theorem dX11_nearInput_24 : decode (mC mX11_nearInput) 24 = .ok (.aload_n 0, 1) := by decide +kernel
theorem dX11_nearInput_25 : decode (mC mX11_nearInput) 25 = .ok (.getfield 37, 3) := by decide +kernel
theorem dX11_nearInput_28 : decode (mC mX11_nearInput) 28 = .ok (.getfield 351, 3) := by decide +kernel
theorem dX11_nearInput_31 : decode (mC mX11_nearInput) 31 = .ok (.if_icmp .gt 51, 3) := by decide +kernel
theorem dX11_nearInput_34 : decode (mC mX11_nearInput) 34 = .ok (.aload_n 0, 1) := by decide +kernel
theorem dX11_nearInput_35 : decode (mC mX11_nearInput) 35 = .ok (.getfield 37, 3) := by decide +kernel
theorem dX11_nearInput_38 : decode (mC mX11_nearInput) 38 = .ok (.getfield 169, 3) := by decide +kernel
theorem dX11_nearInput_41 : decode (mC mX11_nearInput) 41 = .ok (.iload_n 3, 1) := by decide +kernel
theorem dX11_nearInput_42 : decode (mC mX11_nearInput) 42 = .ok (.iload 4, 2) := by decide +kernel
theorem dX11_nearInput_44 : decode (mC mX11_nearInput) 44 = .ok (.invokevirtual 360, 3) := by decide +kernel
theorem dX11_nearInput_47 : decode (mC mX11_nearInput) 47 = .ok (.istore 5, 2) := by decide +kernel
theorem dX11_nearInput_49 : decode (mC mX11_nearInput) 49 = .ok (.iload 5, 2) := by decide +kernel
theorem dX11_nearInput_51 : decode (mC mX11_nearInput) 51 = .ok (.iload_n 2, 1) := by decide +kernel
theorem dX11_nearInput_52 : decode (mC mX11_nearInput) 52 = .ok (.if_icmp .ge 24, 3) := by decide +kernel
theorem dX11_nearInput_55 : decode (mC mX11_nearInput) 55 = .ok (.aload_n 0, 1) := by decide +kernel
theorem dX11_nearInput_56 : decode (mC mX11_nearInput) 56 = .ok (.iload_n 3, 1) := by decide +kernel
theorem dX11_nearInput_57 : decode (mC mX11_nearInput) 57 = .ok (.iload 4, 2) := by decide +kernel
theorem dX11_nearInput_59 : decode (mC mX11_nearInput) 59 = .ok (.invokevirtual 363, 3) := by decide +kernel
theorem dX11_nearInput_62 : decode (mC mX11_nearInput) 62 = .ok (.ifCond .eq 14, 3) := by decide +kernel
theorem dX11_nearInput_65 : decode (mC mX11_nearInput) 65 = .ok (.bipush 16, 2) := by decide +kernel
theorem dX11_nearInput_67 : decode (mC mX11_nearInput) 67 = .ok (.iload_n 3, 1) := by decide +kernel
theorem dX11_nearInput_68 : decode (mC mX11_nearInput) 68 = .ok (.imul, 1) := by decide +kernel
theorem dX11_nearInput_69 : decode (mC mX11_nearInput) 69 = .ok (.iload 4, 2) := by decide +kernel
theorem dX11_nearInput_71 : decode (mC mX11_nearInput) 71 = .ok (.iadd, 1) := by decide +kernel
theorem dX11_nearInput_72 : decode (mC mX11_nearInput) 72 = .ok (.istore_n 1, 1) := by decide +kernel
theorem dX11_nearInput_73 : decode (mC mX11_nearInput) 73 = .ok (.iload 5, 2) := by decide +kernel
theorem dX11_nearInput_75 : decode (mC mX11_nearInput) 75 = .ok (.istore_n 2, 1) := by decide +kernel
theorem dX11_nearInput_76 : decode (mC mX11_nearInput) 76 = .ok (.iinc 4 1, 3) := by decide +kernel
theorem dX11_nearInput_79 : decode (mC mX11_nearInput) 79 = .ok (.goto (-57), 3) := by decide +kernel
theorem dX11_nearInput_82 : decode (mC mX11_nearInput) 82 = .ok (.iinc 3 1, 3) := by decide +kernel
theorem dX11_nearInput_85 : decode (mC mX11_nearInput) 85 = .ok (.goto (-77), 3) := by decide +kernel
theorem dX11_nearInput_88 : decode (mC mX11_nearInput) 88 = .ok (.iload_n 1, 1) := by decide +kernel
theorem dX11_nearInput_89 : decode (mC mX11_nearInput) 89 = .ok (.ireturn, 1) := by decide +kernel
set_option maxRecDepth 100000 in
theorem bX11_nearInput_0 {sc : Nat × (Nat → Int32)} {h : jH} {Q : jQ}
    (v1 : WP mX11_nearInput Q 8 [some (.ref 0), some (.int (-1)), some (.int 1000), some (.int 0), none, none] [] (jG0 sc) h (0, 0)) :
    WP mX11_nearInput Q 0 [some (.ref 0), none, none, none, none, none] [] (jG0 sc) h (0, 0) := by
  refine j_iconst (n := (-1)) (-1) (by decide) dX11_nearInput_0 ?_
  refine j_istore_n (i := 1) dX11_nearInput_1 (Nat.le_of_ble_eq_true rfl) ?_
  refine j_sipush (n := 1000) 1000 (by decide) dX11_nearInput_2 ?_
  refine j_istore_n (i := 2) dX11_nearInput_5 (Nat.le_of_ble_eq_true rfl) ?_
  refine j_iconst (n := 0) 0 (by decide) dX11_nearInput_6 ?_
  refine j_istore_n (i := 3) dX11_nearInput_7 (Nat.le_of_ble_eq_true rfl) ?_
  exact j_le [some (.ref 0), some (.int (-1)), some (.int 1000), some (.int 0), none, none] (And.intro rfl (And.intro rfl (And.intro rfl (And.intro rfl True.intro)))) v1
set_option maxRecDepth 100000 in
theorem bX11_nearInput_8 {sc : Nat × (Nat → Int32)} {h : jH} {Q : jQ} {l1 l2 l3 : Int32}
    (v1 : (h 9 8) < l3 → WP mX11_nearInput Q 88 [some (.ref 0), some (.int l1), some (.int l2), some (.int l3), none, none] [] (jG0 sc) h (0, 0))
    (v2 : ¬ (h 9 8) < l3 → WP mX11_nearInput Q 19 [some (.ref 0), some (.int l1), some (.int l2), some (.int l3), none, none] [] (jG0 sc) h (0, 0)) :
    WP mX11_nearInput Q 8 [some (.ref 0), some (.int l1), some (.int l2), some (.int l3), none, none] [] (jG0 sc) h (0, 0) := by
  refine j_iload_n (i := 3) rfl dX11_nearInput_8 ?_
  refine j_aload_n (i := 0) rfl dX11_nearInput_9 ?_
  refine j_getR (idx := 37) (ci := 11) (k := 4) (nest := false) (show (11, 37, 11, 4, false) ∈ jFT by decide) rfl (Nat.le_of_ble_eq_true rfl) rfl (a := 9) rfl dX11_nearInput_10 ?_
  refine j_getI (idx := 351) (ci := 6) (k := 8) (nest := true) (show (11, 351, 6, 8, true) ∈ jFT by decide) rfl (Nat.le_of_ble_eq_true rfl) rfl dX11_nearInput_13 ?_
  refine j_icmp_gt (off := 72) 88 dX11_nearInput_16 (by decide) (fun c1 => ?_) (fun c1 => ?_)
  · exact j_le [some (.ref 0), some (.int l1), some (.int l2), some (.int l3), none, none] (And.intro rfl (And.intro rfl (And.intro rfl (And.intro rfl True.intro)))) (v1 c1)
  · exact j_le [some (.ref 0), some (.int l1), some (.int l2), some (.int l3), none, none] (And.intro rfl (And.intro rfl (And.intro rfl (And.intro rfl True.intro)))) (v2 c1)
set_option maxRecDepth 100000 in
theorem bX11_nearInput_19 {sc : Nat × (Nat → Int32)} {h : jH} {Q : jQ} {l1 l2 l3 : Int32}
    (v1 : WP mX11_nearInput Q 22 [some (.ref 0), some (.int l1), some (.int l2), some (.int l3), some (.int 0), none] [] (jG0 sc) h (0, 0)) :
    WP mX11_nearInput Q 19 [some (.ref 0), some (.int l1), some (.int l2), some (.int l3), none, none] [] (jG0 sc) h (0, 0) := by
  refine j_iconst (n := 0) 0 (by decide) dX11_nearInput_19 ?_
  refine j_istore (i := 4) dX11_nearInput_20 (Nat.le_of_ble_eq_true rfl) ?_
  exact j_le [some (.ref 0), some (.int l1), some (.int l2), some (.int l3), some (.int 0), none] (And.intro rfl (And.intro rfl (And.intro rfl (And.intro rfl (And.intro rfl True.intro))))) v1
set_option maxRecDepth 100000 in
theorem bX11_nearInput_22 {sc : Nat × (Nat → Int32)} {h : jH} {Q : jQ} {l1 l2 l3 l4 : Int32}
    (v1 : (h 9 8) < l4 → WP mX11_nearInput Q 82 [some (.ref 0), some (.int l1), some (.int l2), some (.int l3), some (.int l4), none] [] (jG0 sc) h (0, 0))
    (v2 : ¬ (h 9 8) < l4 → WP mX11_nearInput Q 34 [some (.ref 0), some (.int l1), some (.int l2), some (.int l3), some (.int l4), none] [] (jG0 sc) h (0, 0)) :
    WP mX11_nearInput Q 22 [some (.ref 0), some (.int l1), some (.int l2), some (.int l3), some (.int l4), none] [] (jG0 sc) h (0, 0) := by
  refine j_iload (i := 4) rfl dX11_nearInput_22 ?_
  refine j_aload_n (i := 0) rfl dX11_nearInput_24 ?_
  refine j_getR (idx := 37) (ci := 11) (k := 4) (nest := false) (show (11, 37, 11, 4, false) ∈ jFT by decide) rfl (Nat.le_of_ble_eq_true rfl) rfl (a := 9) rfl dX11_nearInput_25 ?_
  refine j_getI (idx := 351) (ci := 6) (k := 8) (nest := true) (show (11, 351, 6, 8, true) ∈ jFT by decide) rfl (Nat.le_of_ble_eq_true rfl) rfl dX11_nearInput_28 ?_
  refine j_icmp_gt (off := 51) 82 dX11_nearInput_31 (by decide) (fun c1 => ?_) (fun c1 => ?_)
  · exact j_le [some (.ref 0), some (.int l1), some (.int l2), some (.int l3), some (.int l4), none] (And.intro rfl (And.intro rfl (And.intro rfl (And.intro rfl (And.intro rfl True.intro))))) (v1 c1)
  · exact j_le [some (.ref 0), some (.int l1), some (.int l2), some (.int l3), some (.int l4), none] (And.intro rfl (And.intro rfl (And.intro rfl (And.intro rfl (And.intro rfl True.intro))))) (v2 c1)
set_option maxRecDepth 100000 in
theorem bX11_nearInput_34 {sc : Nat × (Nat → Int32)} {h : jH} {Q : jQ} {l1 l2 l3 l4 : Int32} {P1 : Int32 → jH → Prop}
    (k1 : JM mX5_stepsTo [.ref 14, .int l3, .int l4] (jG0 sc) h (jint sc P1))
    (v1 : ∀ (x1 : Int32) (h1 : jH), P1 x1 h1 → l2 ≤ x1 → WP mX11_nearInput Q 76 [some (.ref 0), some (.int l1), some (.int l2), some (.int l3), some (.int l4), some (.int x1)] [] (jG0 sc) h1 (0, 0))
    (v2 : ∀ (x1 : Int32) (h1 : jH), P1 x1 h1 → ¬ l2 ≤ x1 → WP mX11_nearInput Q 55 [some (.ref 0), some (.int l1), some (.int l2), some (.int l3), some (.int l4), some (.int x1)] [] (jG0 sc) h1 (0, 0)) :
    WP mX11_nearInput Q 34 [some (.ref 0), some (.int l1), some (.int l2), some (.int l3), some (.int l4), none] [] (jG0 sc) h (0, 0) := by
  refine j_aload_n (i := 0) rfl dX11_nearInput_34 ?_
  refine j_getR (idx := 37) (ci := 11) (k := 4) (nest := false) (show (11, 37, 11, 4, false) ∈ jFT by decide) rfl (Nat.le_of_ble_eq_true rfl) rfl (a := 9) rfl dX11_nearInput_35 ?_
  refine j_getR (idx := 169) (ci := 6) (k := 2) (nest := true) (show (11, 169, 6, 2, true) ∈ jFT by decide) rfl (Nat.le_of_ble_eq_true rfl) rfl (a := 14) rfl dX11_nearInput_38 ?_
  refine j_iload_n (i := 3) rfl dX11_nearInput_41 ?_
  refine j_iload (i := 4) rfl dX11_nearInput_42 ?_
  refine j_callVN (idx := 360) (As := [.int l3, .int l4]) (ci := 5) (n := 2) k1 jint_nt (jTbl (jtb2 235 rfl)) sX5_stepsTo kX5_stepsTo rfl ⟨rfl, by decide +kernel, by decide +kernel, by decide +kernel⟩ rfl ⟨by decide, by decide⟩ (Nat.le_of_ble_eq_true rfl) rfl (Nat.le_of_ble_eq_true rfl) (Nat.le_of_ble_eq_true rfl) ⟨Nat.zero_le _, Nat.zero_le _⟩ dX11_nearInput_44 (fun r Γ' h1 q => ?_)
  obtain ⟨x1, q0, rfl, p1⟩ := q; cases q0
  refine j_eqst [.int x1] (by rfl) ?_
  refine j_istore (i := 5) dX11_nearInput_47 (Nat.le_of_ble_eq_true rfl) ?_
  refine j_iload (i := 5) rfl dX11_nearInput_49 ?_
  refine j_iload_n (i := 2) rfl dX11_nearInput_51 ?_
  refine j_icmp_ge (off := 24) 76 dX11_nearInput_52 (by decide) (fun c1 => ?_) (fun c1 => ?_)
  · exact j_le [some (.ref 0), some (.int l1), some (.int l2), some (.int l3), some (.int l4), some (.int x1)] (And.intro rfl (And.intro rfl (And.intro rfl (And.intro rfl (And.intro rfl (And.intro rfl True.intro)))))) (v1 x1 h1 p1 c1)
  · exact j_le [some (.ref 0), some (.int l1), some (.int l2), some (.int l3), some (.int l4), some (.int x1)] (And.intro rfl (And.intro rfl (And.intro rfl (And.intro rfl (And.intro rfl (And.intro rfl True.intro)))))) (v2 x1 h1 p1 c1)
set_option maxRecDepth 100000 in
theorem bX11_nearInput_55 {sc : Nat × (Nat → Int32)} {h : jH} {Q : jQ} {l1 l2 l3 l4 l5 : Int32} {P1 : Int32 → jH → Prop}
    (k1 : JM mX11_endApart [.ref 0, .int l3, .int l4] (jG0 sc) h (jint sc P1))
    (v1 : ∀ (x1 : Int32) (h1 : jH), P1 x1 h1 → x1 = 0 → WP mX11_nearInput Q 76 [some (.ref 0), some (.int l1), some (.int l2), some (.int l3), some (.int l4), some (.int l5)] [] (jG0 sc) h1 (0, 0))
    (v2 : ∀ (x1 : Int32) (h1 : jH), P1 x1 h1 → ¬ x1 = 0 → WP mX11_nearInput Q 65 [some (.ref 0), some (.int l1), some (.int l2), some (.int l3), some (.int l4), some (.int l5)] [] (jG0 sc) h1 (0, 0)) :
    WP mX11_nearInput Q 55 [some (.ref 0), some (.int l1), some (.int l2), some (.int l3), some (.int l4), some (.int l5)] [] (jG0 sc) h (0, 0) := by
  refine j_aload_n (i := 0) rfl dX11_nearInput_55 ?_
  refine j_iload_n (i := 3) rfl dX11_nearInput_56 ?_
  refine j_iload (i := 4) rfl dX11_nearInput_57 ?_
  refine j_callV (idx := 363) (As := [.int l3, .int l4]) (ci := 11) (n := 2) k1 jint_nt (jlkT (jtb3 76 rfl) rfl) sX11_endApart kX11_endApart rfl ⟨rfl, by decide +kernel, by decide +kernel, by decide +kernel⟩ rfl ⟨by decide, by decide⟩ (Nat.le_of_ble_eq_true rfl) rfl (Nat.le_of_ble_eq_true rfl) (Nat.le_of_ble_eq_true rfl) ⟨Nat.zero_le _, Nat.zero_le _⟩ dX11_nearInput_59 (fun r Γ' h1 q => ?_)
  obtain ⟨x1, q0, rfl, p1⟩ := q; cases q0
  refine j_eqst [.int x1] (by rfl) ?_
  refine j_if_eq (off := 14) 76 dX11_nearInput_62 (by decide) (fun c1 => ?_) (fun c1 => ?_)
  · exact j_le [some (.ref 0), some (.int l1), some (.int l2), some (.int l3), some (.int l4), some (.int l5)] (And.intro rfl (And.intro rfl (And.intro rfl (And.intro rfl (And.intro rfl (And.intro rfl True.intro)))))) (v1 x1 h1 p1 c1)
  · exact j_le [some (.ref 0), some (.int l1), some (.int l2), some (.int l3), some (.int l4), some (.int l5)] (And.intro rfl (And.intro rfl (And.intro rfl (And.intro rfl (And.intro rfl (And.intro rfl True.intro)))))) (v2 x1 h1 p1 c1)
set_option maxRecDepth 100000 in
theorem bX11_nearInput_65 {sc : Nat × (Nat → Int32)} {h : jH} {Q : jQ} {l1 l2 l3 l4 l5 : Int32}
    (v1 : WP mX11_nearInput Q 76 [some (.ref 0), some (.int ((16 * l3) + l4)), some (.int l5), some (.int l3), some (.int l4), some (.int l5)] [] (jG0 sc) h (0, 0)) :
    WP mX11_nearInput Q 65 [some (.ref 0), some (.int l1), some (.int l2), some (.int l3), some (.int l4), some (.int l5)] [] (jG0 sc) h (0, 0) := by
  refine j_bipush (n := 16) 16 (by decide) dX11_nearInput_65 ?_
  refine j_iload_n (i := 3) rfl dX11_nearInput_67 ?_
  refine j_imul dX11_nearInput_68 ?_
  refine j_iload (i := 4) rfl dX11_nearInput_69 ?_
  refine j_iadd dX11_nearInput_71 ?_
  refine j_istore_n (i := 1) dX11_nearInput_72 (Nat.le_of_ble_eq_true rfl) ?_
  refine j_iload (i := 5) rfl dX11_nearInput_73 ?_
  refine j_istore_n (i := 2) dX11_nearInput_75 (Nat.le_of_ble_eq_true rfl) ?_
  exact j_le [some (.ref 0), some (.int ((16 * l3) + l4)), some (.int l5), some (.int l3), some (.int l4), some (.int l5)] (And.intro rfl (And.intro rfl (And.intro rfl (And.intro rfl (And.intro rfl (And.intro rfl True.intro)))))) v1
set_option maxRecDepth 100000 in
theorem bX11_nearInput_76 {sc : Nat × (Nat → Int32)} {h : jH} {Q : jQ} {l1 l2 l3 l4 l5 : Int32}
    (v1 : WP mX11_nearInput Q 22 [some (.ref 0), some (.int l1), some (.int l2), some (.int l3), some (.int (l4 + 1)), none] [] (jG0 sc) h (0, 0)) :
    WP mX11_nearInput Q 76 [some (.ref 0), some (.int l1), some (.int l2), some (.int l3), some (.int l4), some (.int l5)] [] (jG0 sc) h (0, 0) := by
  refine j_iinc (i := 4) (n := 1) rfl dX11_nearInput_76 (Nat.le_of_ble_eq_true rfl) ?_
  refine j_eqlv [some (.ref 0), some (.int l1), some (.int l2), some (.int l3), some (.int (l4 + 1)), some (.int l5)] rfl ?_
  refine j_goto (off := -57) 22 dX11_nearInput_79 (by decide) ?_
  exact j_le [some (.ref 0), some (.int l1), some (.int l2), some (.int l3), some (.int (l4 + 1)), none] (And.intro rfl (And.intro rfl (And.intro rfl (And.intro rfl (And.intro rfl True.intro))))) v1
set_option maxRecDepth 100000 in
theorem bX11_nearInput_82 {sc : Nat × (Nat → Int32)} {h : jH} {Q : jQ} {l1 l2 l3 l4 : Int32}
    (v1 : WP mX11_nearInput Q 8 [some (.ref 0), some (.int l1), some (.int l2), some (.int (l3 + 1)), none, none] [] (jG0 sc) h (0, 0)) :
    WP mX11_nearInput Q 82 [some (.ref 0), some (.int l1), some (.int l2), some (.int l3), some (.int l4), none] [] (jG0 sc) h (0, 0) := by
  refine j_iinc (i := 3) (n := 1) rfl dX11_nearInput_82 (Nat.le_of_ble_eq_true rfl) ?_
  refine j_eqlv [some (.ref 0), some (.int l1), some (.int l2), some (.int (l3 + 1)), some (.int l4), none] rfl ?_
  refine j_goto (off := -77) 8 dX11_nearInput_85 (by decide) ?_
  exact j_le [some (.ref 0), some (.int l1), some (.int l2), some (.int (l3 + 1)), none, none] (And.intro rfl (And.intro rfl (And.intro rfl (And.intro rfl True.intro)))) v1
set_option maxRecDepth 100000 in
theorem bX11_nearInput_88 {sc : Nat × (Nat → Int32)} {h : jH} {Q : jQ} {l1 l2 l3 : Int32}
    (v1 : Q (.inl (some (.int l1))) (jG0 sc) h) :
    WP mX11_nearInput Q 88 [some (.ref 0), some (.int l1), some (.int l2), some (.int l3), none, none] [] (jG0 sc) h (0, 0) := by
  refine j_iload_n (i := 1) rfl dX11_nearInput_88 ?_
  exact j_iret rfl rfl (Nat.zero_le _) (Nat.zero_le _) dX11_nearInput_89 v1
set_option maxRecDepth 100000 in
theorem rX11_nearInput_0 {sc : Nat × (Nat → Int32)} {h : jH} {Q : jQ}
    (v1 : WP mX11_nearInput Q 8 [some (.ref 0), some (.int (-1)), some (.int 1000), some (.int 0), none, none] [] (jG0 sc) h (0, 0)) :
    WP mX11_nearInput Q 0 [some (.ref 0), none, none, none, none, none] [] (jG0 sc) h (0, 0) := by
  exact (bX11_nearInput_0 v1)
set_option maxRecDepth 100000 in
theorem rX11_nearInput_8 {sc : Nat × (Nat → Int32)} {h : jH} {Q : jQ} {l1 l2 l3 : Int32}
    (v1 : (h 9 8) < l3 → Q (.inl (some (.int l1))) (jG0 sc) h)
    (v2 : ¬ (h 9 8) < l3 → WP mX11_nearInput Q 22 [some (.ref 0), some (.int l1), some (.int l2), some (.int l3), some (.int 0), none] [] (jG0 sc) h (0, 0)) :
    WP mX11_nearInput Q 8 [some (.ref 0), some (.int l1), some (.int l2), some (.int l3), none, none] [] (jG0 sc) h (0, 0) := by
  exact (bX11_nearInput_8 (fun c1 => (bX11_nearInput_88 (v1 c1))) (fun c1 => (bX11_nearInput_19 (v2 c1))))
set_option maxRecDepth 100000 in
theorem rX11_nearInput_22 {sc : Nat × (Nat → Int32)} {h : jH} {Q : jQ} {l1 l2 l3 l4 : Int32} {P1 : Int32 → jH → Prop} {P2 : Int32 → jH → Prop}
    (v1 : (h 9 8) < l4 → WP mX11_nearInput Q 8 [some (.ref 0), some (.int l1), some (.int l2), some (.int (l3 + 1)), none, none] [] (jG0 sc) h (0, 0))
    (k1 : ¬ (h 9 8) < l4 → JM mX5_stepsTo [.ref 14, .int l3, .int l4] (jG0 sc) h (jint sc P1))
    (v2 : ¬ (h 9 8) < l4 → ∀ (x1 : Int32) (h1 : jH), P1 x1 h1 → l2 ≤ x1 → WP mX11_nearInput Q 22 [some (.ref 0), some (.int l1), some (.int l2), some (.int l3), some (.int (l4 + 1)), none] [] (jG0 sc) h1 (0, 0))
    (k2 : ¬ (h 9 8) < l4 → ∀ (x1 : Int32) (h1 : jH), P1 x1 h1 → ¬ l2 ≤ x1 → JM mX11_endApart [.ref 0, .int l3, .int l4] (jG0 sc) h1 (jint sc P2))
    (v3 : ¬ (h 9 8) < l4 → ∀ (x1 : Int32) (h1 : jH), P1 x1 h1 → ¬ l2 ≤ x1 → ∀ (x2 : Int32) (h2 : jH), P2 x2 h2 → x2 = 0 → WP mX11_nearInput Q 22 [some (.ref 0), some (.int l1), some (.int l2), some (.int l3), some (.int (l4 + 1)), none] [] (jG0 sc) h2 (0, 0))
    (v4 : ¬ (h 9 8) < l4 → ∀ (x1 : Int32) (h1 : jH), P1 x1 h1 → ¬ l2 ≤ x1 → ∀ (x2 : Int32) (h2 : jH), P2 x2 h2 → ¬ x2 = 0 → WP mX11_nearInput Q 22 [some (.ref 0), some (.int ((16 * l3) + l4)), some (.int x1), some (.int l3), some (.int (l4 + 1)), none] [] (jG0 sc) h2 (0, 0)) :
    WP mX11_nearInput Q 22 [some (.ref 0), some (.int l1), some (.int l2), some (.int l3), some (.int l4), none] [] (jG0 sc) h (0, 0) := by
  exact (bX11_nearInput_22 (fun c1 => (bX11_nearInput_82 (v1 c1))) (fun c1 => (bX11_nearInput_34 (k1 c1) (fun x1 h1 p1 c2 => (bX11_nearInput_76 (v2 c1 x1 h1 p1 c2))) (fun x1 h1 p1 c2 => (bX11_nearInput_55 (k2 c1 x1 h1 p1 c2) (fun x2 h2 p2 c3 => (bX11_nearInput_76 (v3 c1 x1 h1 p1 c2 x2 h2 p2 c3))) (fun x2 h2 p2 c3 => (bX11_nearInput_65 (bX11_nearInput_76 (v4 c1 x1 h1 p1 c2 x2 h2 p2 c3)))))))))
theorem dX11_endApart_0 : decode (mC mX11_endApart) 0 = .ok (.aload_n 0, 1) := by decide +kernel
theorem dX11_endApart_1 : decode (mC mX11_endApart) 1 = .ok (.getfield 47, 3) := by decide +kernel
theorem dX11_endApart_4 : decode (mC mX11_endApart) 4 = .ok (.aload_n 0, 1) := by decide +kernel
theorem dX11_endApart_5 : decode (mC mX11_endApart) 5 = .ok (.getfield 78, 3) := by decide +kernel
theorem dX11_endApart_8 : decode (mC mX11_endApart) 8 = .ok (.iconst 0, 1) := by decide +kernel
theorem dX11_endApart_9 : decode (mC mX11_endApart) 9 = .ok (.aaload, 1) := by decide +kernel
theorem dX11_endApart_10 : decode (mC mX11_endApart) 10 = .ok (.iload_n 1, 1) := by decide +kernel
theorem dX11_endApart_11 : decode (mC mX11_endApart) 11 = .ok (.iload_n 2, 1) := by decide +kernel
theorem dX11_endApart_12 : decode (mC mX11_endApart) 12 = .ok (.invokevirtual 196, 3) := by decide +kernel
theorem dX11_endApart_15 : decode (mC mX11_endApart) 15 = .ok (.istore_n 3, 1) := by decide +kernel
theorem dX11_endApart_16 : decode (mC mX11_endApart) 16 = .ok (.iconst 1, 1) := by decide +kernel
theorem dX11_endApart_17 : decode (mC mX11_endApart) 17 = .ok (.istore 4, 2) := by decide +kernel
theorem dX11_endApart_19 : decode (mC mX11_endApart) 19 = .ok (.iload 4, 2) := by decide +kernel
theorem dX11_endApart_21 : decode (mC mX11_endApart) 21 = .ok (.aload_n 0, 1) := by decide +kernel
theorem dX11_endApart_22 : decode (mC mX11_endApart) 22 = .ok (.getfield 37, 3) := by decide +kernel
theorem dX11_endApart_25 : decode (mC mX11_endApart) 25 = .ok (.getfield 151, 3) := by decide +kernel
theorem dX11_endApart_28 : decode (mC mX11_endApart) 28 = .ok (.getfield 187, 3) := by decide +kernel
theorem dX11_endApart_31 : decode (mC mX11_endApart) 31 = .ok (.if_icmp .ge 41, 3) := by decide +kernel
theorem dX11_endApart_34 : decode (mC mX11_endApart) 34 = .ok (.iload 4, 2) := by decide +kernel
theorem dX11_endApart_36 : decode (mC mX11_endApart) 36 = .ok (.aload_n 0, 1) := by decide +kernel
theorem dX11_endApart_37 : decode (mC mX11_endApart) 37 = .ok (.getfield 78, 3) := by decide +kernel
theorem dX11_endApart_40 : decode (mC mX11_endApart) 40 = .ok (.arraylength, 1) := by decide +kernel
theorem dX11_endApart_41 : decode (mC mX11_endApart) 41 = .ok (.if_icmp .ge 31, 3) := by decide +kernel
theorem dX11_endApart_44 : decode (mC mX11_endApart) 44 = .ok (.aload_n 0, 1) := by decide +kernel
theorem dX11_endApart_45 : decode (mC mX11_endApart) 45 = .ok (.getfield 47, 3) := by decide +kernel
theorem dX11_endApart_48 : decode (mC mX11_endApart) 48 = .ok (.aload_n 0, 1) := by decide +kernel
theorem dX11_endApart_49 : decode (mC mX11_endApart) 49 = .ok (.getfield 78, 3) := by decide +kernel
theorem dX11_endApart_52 : decode (mC mX11_endApart) 52 = .ok (.iload 4, 2) := by decide +kernel
theorem dX11_endApart_54 : decode (mC mX11_endApart) 54 = .ok (.aaload, 1) := by decide +kernel
theorem dX11_endApart_55 : decode (mC mX11_endApart) 55 = .ok (.iload_n 1, 1) := by decide +kernel
theorem dX11_endApart_56 : decode (mC mX11_endApart) 56 = .ok (.iload_n 2, 1) := by decide +kernel
theorem dX11_endApart_57 : decode (mC mX11_endApart) 57 = .ok (.invokevirtual 196, 3) := by decide +kernel
theorem dX11_endApart_60 : decode (mC mX11_endApart) 60 = .ok (.iload_n 3, 1) := by decide +kernel
theorem dX11_endApart_61 : decode (mC mX11_endApart) 61 = .ok (.if_icmp .eq 5, 3) := by decide +kernel
theorem dX11_endApart_64 : decode (mC mX11_endApart) 64 = .ok (.iconst 1, 1) := by decide +kernel
theorem dX11_endApart_65 : decode (mC mX11_endApart) 65 = .ok (.ireturn, 1) := by decide +kernel
theorem dX11_endApart_66 : decode (mC mX11_endApart) 66 = .ok (.iinc 4 1, 3) := by decide +kernel
theorem dX11_endApart_69 : decode (mC mX11_endApart) 69 = .ok (.goto (-50), 3) := by decide +kernel
theorem dX11_endApart_72 : decode (mC mX11_endApart) 72 = .ok (.iconst 0, 1) := by decide +kernel
theorem dX11_endApart_73 : decode (mC mX11_endApart) 73 = .ok (.ireturn, 1) := by decide +kernel
set_option maxRecDepth 100000 in
theorem bX11_endApart_0 {sc : Nat × (Nat → Int32)} {h : jH} {Q : jQ} {l1 l2 : Int32} {q1 : Nat} {P1 : Int32 → jH → Prop}
    (o1 : (jRt.getD 93 []).getD 0 none = some q1)
    (o2 : jI4 q1)
    (k1 : JM mX10_through [.ref 69, .ref q1, .int l1, .int l2] (jG0 sc) h (jint sc P1))
    (v1 : ∀ (x2 : Int32) (h2 : jH), P1 x2 h2 → WP mX11_endApart Q 19 [some (.ref 0), some (.int l1), some (.int l2), some (.int x2), some (.int 1)] [] (jG0 sc) h2 (0, 0)) :
    WP mX11_endApart Q 0 [some (.ref 0), some (.int l1), some (.int l2), none, none] [] (jG0 sc) h (0, 0) := by
  refine j_aload_n (i := 0) rfl dX11_endApart_0 ?_
  refine j_getR (idx := 47) (ci := 11) (k := 7) (nest := false) (show (11, 47, 11, 7, false) ∈ jFT by decide) rfl (Nat.le_of_ble_eq_true rfl) rfl (a := 69) rfl dX11_endApart_1 ?_
  refine j_aload_n (i := 0) rfl dX11_endApart_4 ?_
  refine j_getR (idx := 78) (ci := 11) (k := 13) (nest := false) (show (11, 78, 11, 13, false) ∈ jFT by decide) rfl (Nat.le_of_ble_eq_true rfl) rfl (a := 93) rfl dX11_endApart_5 ?_
  refine j_iconst (n := 0) 0 (by decide) dX11_endApart_8 ?_
  refine j_aald (Nat.le_of_ble_eq_true rfl) rfl (jinl (n := 30) (by decide)) (a := q1) o1 dX11_endApart_9 ?_
  obtain ⟨q1_lt1, q1_K0, q1_R0_0, q1_K1, q1_L1⟩ := o2
  have q1_lt0 : q1 + 0 < jN (jG0 sc) := Nat.lt_of_succ_lt q1_lt1
  refine j_iload_n (i := 1) rfl dX11_endApart_10 ?_
  refine j_iload_n (i := 2) rfl dX11_endApart_11 ?_
  refine j_callVN (idx := 196) (As := [.ref q1, .int l1, .int l2]) (ci := 10) (n := 3) k1 jint_nt (jTbl (jtb3 9 rfl)) sX10_through kX10_through rfl ⟨rfl, by decide +kernel, by decide +kernel, by decide +kernel⟩ rfl ⟨by decide, by decide⟩ (Nat.le_of_ble_eq_true rfl) rfl (Nat.le_of_ble_eq_true rfl) (Nat.le_of_ble_eq_true rfl) ⟨Nat.zero_le _, Nat.zero_le _⟩ dX11_endApart_12 (fun r Γ' h2 q => ?_)
  obtain ⟨x2, q0, rfl, p2⟩ := q; cases q0
  refine j_eqst [.int x2] (by rfl) ?_
  refine j_istore_n (i := 3) dX11_endApart_15 (Nat.le_of_ble_eq_true rfl) ?_
  refine j_iconst (n := 1) 1 (by decide) dX11_endApart_16 ?_
  refine j_istore (i := 4) dX11_endApart_17 (Nat.le_of_ble_eq_true rfl) ?_
  exact j_le [some (.ref 0), some (.int l1), some (.int l2), some (.int x2), some (.int 1)] (And.intro rfl (And.intro rfl (And.intro rfl (And.intro rfl (And.intro rfl True.intro))))) (v1 x2 h2 p2)
set_option maxRecDepth 100000 in
theorem bX11_endApart_19 {sc : Nat × (Nat → Int32)} {h : jH} {Q : jQ} {l1 l2 l3 l4 : Int32}
    (v1 : (h 20 1) ≤ l4 → WP mX11_endApart Q 72 [some (.ref 0), some (.int l1), some (.int l2), some (.int l3), some (.int l4)] [] (jG0 sc) h (0, 0))
    (v2 : ¬ (h 20 1) ≤ l4 → WP mX11_endApart Q 34 [some (.ref 0), some (.int l1), some (.int l2), some (.int l3), some (.int l4)] [] (jG0 sc) h (0, 0)) :
    WP mX11_endApart Q 19 [some (.ref 0), some (.int l1), some (.int l2), some (.int l3), some (.int l4)] [] (jG0 sc) h (0, 0) := by
  refine j_iload (i := 4) rfl dX11_endApart_19 ?_
  refine j_aload_n (i := 0) rfl dX11_endApart_21 ?_
  refine j_getR (idx := 37) (ci := 11) (k := 4) (nest := false) (show (11, 37, 11, 4, false) ∈ jFT by decide) rfl (Nat.le_of_ble_eq_true rfl) rfl (a := 9) rfl dX11_endApart_22 ?_
  refine j_getR (idx := 151) (ci := 6) (k := 4) (nest := true) (show (11, 151, 6, 4, true) ∈ jFT by decide) rfl (Nat.le_of_ble_eq_true rfl) rfl (a := 20) rfl dX11_endApart_25 ?_
  refine j_getI (idx := 187) (ci := 9) (k := 1) (nest := true) (show (11, 187, 9, 1, true) ∈ jFT by decide) rfl (Nat.le_of_ble_eq_true rfl) rfl dX11_endApart_28 ?_
  refine j_icmp_ge (off := 41) 72 dX11_endApart_31 (by decide) (fun c1 => ?_) (fun c1 => ?_)
  · exact j_le [some (.ref 0), some (.int l1), some (.int l2), some (.int l3), some (.int l4)] (And.intro rfl (And.intro rfl (And.intro rfl (And.intro rfl (And.intro rfl True.intro))))) (v1 c1)
  · exact j_le [some (.ref 0), some (.int l1), some (.int l2), some (.int l3), some (.int l4)] (And.intro rfl (And.intro rfl (And.intro rfl (And.intro rfl (And.intro rfl True.intro))))) (v2 c1)
set_option maxRecDepth 100000 in
theorem bX11_endApart_34 {sc : Nat × (Nat → Int32)} {h : jH} {Q : jQ} {l1 l2 l3 l4 : Int32}
    (v1 : 30 ≤ l4 → WP mX11_endApart Q 72 [some (.ref 0), some (.int l1), some (.int l2), some (.int l3), some (.int l4)] [] (jG0 sc) h (0, 0))
    (v2 : ¬ 30 ≤ l4 → WP mX11_endApart Q 44 [some (.ref 0), some (.int l1), some (.int l2), some (.int l3), some (.int l4)] [] (jG0 sc) h (0, 0)) :
    WP mX11_endApart Q 34 [some (.ref 0), some (.int l1), some (.int l2), some (.int l3), some (.int l4)] [] (jG0 sc) h (0, 0) := by
  refine j_iload (i := 4) rfl dX11_endApart_34 ?_
  refine j_aload_n (i := 0) rfl dX11_endApart_36 ?_
  refine j_getR (idx := 78) (ci := 11) (k := 13) (nest := false) (show (11, 78, 11, 13, false) ∈ jFT by decide) rfl (Nat.le_of_ble_eq_true rfl) rfl (a := 93) rfl dX11_endApart_37 ?_
  refine j_alen (Nat.le_of_ble_eq_true rfl) rfl rfl 30 rfl dX11_endApart_40 ?_
  refine j_icmp_ge (off := 31) 72 dX11_endApart_41 (by decide) (fun c1 => ?_) (fun c1 => ?_)
  · exact j_le [some (.ref 0), some (.int l1), some (.int l2), some (.int l3), some (.int l4)] (And.intro rfl (And.intro rfl (And.intro rfl (And.intro rfl (And.intro rfl True.intro))))) (v1 c1)
  · exact j_le [some (.ref 0), some (.int l1), some (.int l2), some (.int l3), some (.int l4)] (And.intro rfl (And.intro rfl (And.intro rfl (And.intro rfl (And.intro rfl True.intro))))) (v2 c1)
set_option maxRecDepth 100000 in
theorem bX11_endApart_44 {sc : Nat × (Nat → Int32)} {h : jH} {Q : jQ} {l1 l2 l3 l4 : Int32} {q1 : Nat} {P1 : Int32 → jH → Prop}
    (o1 : vp_in l4 30)
    (o2 : (jRt.getD 93 []).getD l4.toNatClampNeg none = some q1)
    (o3 : jI4 q1)
    (k1 : JM mX10_through [.ref 69, .ref q1, .int l1, .int l2] (jG0 sc) h (jint sc P1))
    (v1 : ∀ (x2 : Int32) (h2 : jH), P1 x2 h2 → x2 = l3 → WP mX11_endApart Q 66 [some (.ref 0), some (.int l1), some (.int l2), some (.int l3), some (.int l4)] [] (jG0 sc) h2 (0, 0))
    (v2 : ∀ (x2 : Int32) (h2 : jH), P1 x2 h2 → ¬ x2 = l3 → WP mX11_endApart Q 64 [some (.ref 0), some (.int l1), some (.int l2), some (.int l3), some (.int l4)] [] (jG0 sc) h2 (0, 0)) :
    WP mX11_endApart Q 44 [some (.ref 0), some (.int l1), some (.int l2), some (.int l3), some (.int l4)] [] (jG0 sc) h (0, 0) := by
  refine j_aload_n (i := 0) rfl dX11_endApart_44 ?_
  refine j_getR (idx := 47) (ci := 11) (k := 7) (nest := false) (show (11, 47, 11, 7, false) ∈ jFT by decide) rfl (Nat.le_of_ble_eq_true rfl) rfl (a := 69) rfl dX11_endApart_45 ?_
  refine j_aload_n (i := 0) rfl dX11_endApart_48 ?_
  refine j_getR (idx := 78) (ci := 11) (k := 13) (nest := false) (show (11, 78, 11, 13, false) ∈ jFT by decide) rfl (Nat.le_of_ble_eq_true rfl) rfl (a := 93) rfl dX11_endApart_49 ?_
  refine j_iload (i := 4) rfl dX11_endApart_52 ?_
  refine j_aald (Nat.le_of_ble_eq_true rfl) rfl o1 (a := q1) o2 dX11_endApart_54 ?_
  obtain ⟨q1_lt1, q1_K0, q1_R0_0, q1_K1, q1_L1⟩ := o3
  have q1_lt0 : q1 + 0 < jN (jG0 sc) := Nat.lt_of_succ_lt q1_lt1
  refine j_iload_n (i := 1) rfl dX11_endApart_55 ?_
  refine j_iload_n (i := 2) rfl dX11_endApart_56 ?_
  refine j_callVN (idx := 196) (As := [.ref q1, .int l1, .int l2]) (ci := 10) (n := 3) k1 jint_nt (jTbl (jtb3 9 rfl)) sX10_through kX10_through rfl ⟨rfl, by decide +kernel, by decide +kernel, by decide +kernel⟩ rfl ⟨by decide, by decide⟩ (Nat.le_of_ble_eq_true rfl) rfl (Nat.le_of_ble_eq_true rfl) (Nat.le_of_ble_eq_true rfl) ⟨Nat.zero_le _, Nat.zero_le _⟩ dX11_endApart_57 (fun r Γ' h2 q => ?_)
  obtain ⟨x2, q0, rfl, p2⟩ := q; cases q0
  refine j_eqst [.int x2] (by rfl) ?_
  refine j_iload_n (i := 3) rfl dX11_endApart_60 ?_
  refine j_icmp_eq (off := 5) 66 dX11_endApart_61 (by decide) (fun c1 => ?_) (fun c1 => ?_)
  · exact j_le [some (.ref 0), some (.int l1), some (.int l2), some (.int l3), some (.int l4)] (And.intro rfl (And.intro rfl (And.intro rfl (And.intro rfl (And.intro rfl True.intro))))) (v1 x2 h2 p2 c1)
  · exact j_le [some (.ref 0), some (.int l1), some (.int l2), some (.int l3), some (.int l4)] (And.intro rfl (And.intro rfl (And.intro rfl (And.intro rfl (And.intro rfl True.intro))))) (v2 x2 h2 p2 c1)
set_option maxRecDepth 100000 in
theorem bX11_endApart_64 {sc : Nat × (Nat → Int32)} {h : jH} {Q : jQ} {l1 l2 l3 l4 : Int32}
    (v1 : Q (.inl (some (.int 1))) (jG0 sc) h) :
    WP mX11_endApart Q 64 [some (.ref 0), some (.int l1), some (.int l2), some (.int l3), some (.int l4)] [] (jG0 sc) h (0, 0) := by
  refine j_iconst (n := 1) 1 (by decide) dX11_endApart_64 ?_
  exact j_iret rfl rfl (Nat.zero_le _) (Nat.zero_le _) dX11_endApart_65 v1
set_option maxRecDepth 100000 in
theorem bX11_endApart_66 {sc : Nat × (Nat → Int32)} {h : jH} {Q : jQ} {l1 l2 l3 l4 : Int32}
    (v1 : WP mX11_endApart Q 19 [some (.ref 0), some (.int l1), some (.int l2), some (.int l3), some (.int (l4 + 1))] [] (jG0 sc) h (0, 0)) :
    WP mX11_endApart Q 66 [some (.ref 0), some (.int l1), some (.int l2), some (.int l3), some (.int l4)] [] (jG0 sc) h (0, 0) := by
  refine j_iinc (i := 4) (n := 1) rfl dX11_endApart_66 (Nat.le_of_ble_eq_true rfl) ?_
  refine j_eqlv [some (.ref 0), some (.int l1), some (.int l2), some (.int l3), some (.int (l4 + 1))] rfl ?_
  refine j_goto (off := -50) 19 dX11_endApart_69 (by decide) ?_
  exact j_le [some (.ref 0), some (.int l1), some (.int l2), some (.int l3), some (.int (l4 + 1))] (And.intro rfl (And.intro rfl (And.intro rfl (And.intro rfl (And.intro rfl True.intro))))) v1
set_option maxRecDepth 100000 in
theorem bX11_endApart_72 {sc : Nat × (Nat → Int32)} {h : jH} {Q : jQ} {l1 l2 l3 l4 : Int32}
    (v1 : Q (.inl (some (.int 0))) (jG0 sc) h) :
    WP mX11_endApart Q 72 [some (.ref 0), some (.int l1), some (.int l2), some (.int l3), some (.int l4)] [] (jG0 sc) h (0, 0) := by
  refine j_iconst (n := 0) 0 (by decide) dX11_endApart_72 ?_
  exact j_iret rfl rfl (Nat.zero_le _) (Nat.zero_le _) dX11_endApart_73 v1
set_option maxRecDepth 100000 in
theorem rX11_endApart_0 {sc : Nat × (Nat → Int32)} {h : jH} {Q : jQ} {l1 l2 : Int32} {q1 : Nat} {P1 : Int32 → jH → Prop}
    (o1 : (jRt.getD 93 []).getD 0 none = some q1)
    (o2 : jI4 q1)
    (k1 : JM mX10_through [.ref 69, .ref q1, .int l1, .int l2] (jG0 sc) h (jint sc P1))
    (v1 : ∀ (x2 : Int32) (h2 : jH), P1 x2 h2 → WP mX11_endApart Q 19 [some (.ref 0), some (.int l1), some (.int l2), some (.int x2), some (.int 1)] [] (jG0 sc) h2 (0, 0)) :
    WP mX11_endApart Q 0 [some (.ref 0), some (.int l1), some (.int l2), none, none] [] (jG0 sc) h (0, 0) := by
  exact (bX11_endApart_0 o1 o2 k1 (fun x2 h2 p2 => (v1 x2 h2 p2)))
set_option maxRecDepth 100000 in
theorem rX11_endApart_19 {sc : Nat × (Nat → Int32)} {h : jH} {Q : jQ} {l1 l2 l3 l4 : Int32} {q1 : Nat} {P1 : Int32 → jH → Prop}
    (v1 : (h 20 1) ≤ l4 → Q (.inl (some (.int 0))) (jG0 sc) h)
    (v2 : ¬ (h 20 1) ≤ l4 → 30 ≤ l4 → Q (.inl (some (.int 0))) (jG0 sc) h)
    (o1 : ¬ (h 20 1) ≤ l4 → ¬ 30 ≤ l4 → vp_in l4 30)
    (o2 : ¬ (h 20 1) ≤ l4 → ¬ 30 ≤ l4 → (jRt.getD 93 []).getD l4.toNatClampNeg none = some q1)
    (o3 : ¬ (h 20 1) ≤ l4 → ¬ 30 ≤ l4 → jI4 q1)
    (k1 : ¬ (h 20 1) ≤ l4 → ¬ 30 ≤ l4 → JM mX10_through [.ref 69, .ref q1, .int l1, .int l2] (jG0 sc) h (jint sc P1))
    (v3 : ¬ (h 20 1) ≤ l4 → ¬ 30 ≤ l4 → ∀ (x2 : Int32) (h2 : jH), P1 x2 h2 → x2 = l3 → WP mX11_endApart Q 19 [some (.ref 0), some (.int l1), some (.int l2), some (.int l3), some (.int (l4 + 1))] [] (jG0 sc) h2 (0, 0))
    (v4 : ¬ (h 20 1) ≤ l4 → ¬ 30 ≤ l4 → ∀ (x2 : Int32) (h2 : jH), P1 x2 h2 → ¬ x2 = l3 → Q (.inl (some (.int 1))) (jG0 sc) h2) :
    WP mX11_endApart Q 19 [some (.ref 0), some (.int l1), some (.int l2), some (.int l3), some (.int l4)] [] (jG0 sc) h (0, 0) := by
  exact (bX11_endApart_19 (fun c1 => (bX11_endApart_72 (v1 c1))) (fun c1 => (bX11_endApart_34 (fun c2 => (bX11_endApart_72 (v2 c1 c2))) (fun c2 => (bX11_endApart_44 (o1 c1 c2) (o2 c1 c2) (o3 c1 c2) (k1 c1 c2) (fun x2 h2 p2 c3 => (bX11_endApart_66 (v3 c1 c2 x2 h2 p2 c3))) (fun x2 h2 p2 c3 => (bX11_endApart_64 (v4 c1 c2 x2 h2 p2 c3))))))))
theorem dX11_askedInput_0 : decode (mC mX11_askedInput) 0 = .ok (.iconst (-1), 1) := by decide +kernel
theorem dX11_askedInput_1 : decode (mC mX11_askedInput) 1 = .ok (.istore_n 1, 1) := by decide +kernel
theorem dX11_askedInput_2 : decode (mC mX11_askedInput) 2 = .ok (.sipush 1000, 3) := by decide +kernel
theorem dX11_askedInput_5 : decode (mC mX11_askedInput) 5 = .ok (.istore_n 2, 1) := by decide +kernel
theorem dX11_askedInput_6 : decode (mC mX11_askedInput) 6 = .ok (.sipush 1000, 3) := by decide +kernel
theorem dX11_askedInput_9 : decode (mC mX11_askedInput) 9 = .ok (.istore_n 3, 1) := by decide +kernel
theorem dX11_askedInput_10 : decode (mC mX11_askedInput) 10 = .ok (.iconst 0, 1) := by decide +kernel
theorem dX11_askedInput_11 : decode (mC mX11_askedInput) 11 = .ok (.istore 4, 2) := by decide +kernel
theorem dX11_askedInput_13 : decode (mC mX11_askedInput) 13 = .ok (.iload 4, 2) := by decide +kernel
theorem dX11_askedInput_15 : decode (mC mX11_askedInput) 15 = .ok (.aload_n 0, 1) := by decide +kernel
theorem dX11_askedInput_16 : decode (mC mX11_askedInput) 16 = .ok (.getfield 37, 3) := by decide +kernel
theorem dX11_askedInput_19 : decode (mC mX11_askedInput) 19 = .ok (.getfield 351, 3) := by decide +kernel
theorem dX11_askedInput_22 : decode (mC mX11_askedInput) 22 = .ok (.if_icmp .gt 89, 3) := by decide +kernel
theorem dX11_askedInput_25 : decode (mC mX11_askedInput) 25 = .ok (.iconst 0, 1) := by decide +kernel
theorem dX11_askedInput_26 : decode (mC mX11_askedInput) 26 = .ok (.istore 5, 2) := by decide +kernel
theorem dX11_askedInput_28 : decode (mC mX11_askedInput) 28 = .ok (.iload 5, 2) := by decide +kernel
theorem dX11_askedInput_30 : decode (mC mX11_askedInput) 30 = .ok (.aload_n 0, 1) := by decide +kernel
theorem dX11_askedInput_31 : decode (mC mX11_askedInput) 31 = .ok (.getfield 37, 3) := by decide +kernel
theorem dX11_askedInput_34 : decode (mC mX11_askedInput) 34 = .ok (.getfield 351, 3) := by decide +kernel
theorem dX11_askedInput_37 : decode (mC mX11_askedInput) 37 = .ok (.if_icmp .gt 68, 3) := by decide +kernel
theorem dX11_askedInput_40 : decode (mC mX11_askedInput) 40 = .ok (.aload_n 0, 1) := by decide +kernel
theorem dX11_askedInput_41 : decode (mC mX11_askedInput) 41 = .ok (.getfield 37, 3) := by decide +kernel
theorem dX11_askedInput_44 : decode (mC mX11_askedInput) 44 = .ok (.getfield 169, 3) := by decide +kernel
theorem dX11_askedInput_47 : decode (mC mX11_askedInput) 47 = .ok (.iload 4, 2) := by decide +kernel
theorem dX11_askedInput_49 : decode (mC mX11_askedInput) 49 = .ok (.iload 5, 2) := by decide +kernel
theorem dX11_askedInput_51 : decode (mC mX11_askedInput) 51 = .ok (.invokevirtual 360, 3) := by decide +kernel
theorem dX11_askedInput_54 : decode (mC mX11_askedInput) 54 = .ok (.istore 6, 2) := by decide +kernel
theorem dX11_askedInput_56 : decode (mC mX11_askedInput) 56 = .ok (.aload_n 0, 1) := by decide +kernel
theorem dX11_askedInput_57 : decode (mC mX11_askedInput) 57 = .ok (.iload 4, 2) := by decide +kernel
theorem dX11_askedInput_59 : decode (mC mX11_askedInput) 59 = .ok (.iload 5, 2) := by decide +kernel
theorem dX11_askedInput_61 : decode (mC mX11_askedInput) 61 = .ok (.invokevirtual 366, 3) := by decide +kernel
theorem dX11_askedInput_64 : decode (mC mX11_askedInput) 64 = .ok (.istore 7, 2) := by decide +kernel
theorem dX11_askedInput_66 : decode (mC mX11_askedInput) 66 = .ok (.iload 7, 2) := by decide +kernel
theorem dX11_askedInput_68 : decode (mC mX11_askedInput) 68 = .ok (.iload_n 2, 1) := by decide +kernel
theorem dX11_askedInput_69 : decode (mC mX11_askedInput) 69 = .ok (.if_icmp .lt 15, 3) := by decide +kernel
theorem dX11_askedInput_72 : decode (mC mX11_askedInput) 72 = .ok (.iload 7, 2) := by decide +kernel
theorem dX11_askedInput_74 : decode (mC mX11_askedInput) 74 = .ok (.iload_n 2, 1) := by decide +kernel
theorem dX11_askedInput_75 : decode (mC mX11_askedInput) 75 = .ok (.if_icmp .ne 24, 3) := by decide +kernel
theorem dX11_askedInput_78 : decode (mC mX11_askedInput) 78 = .ok (.iload 6, 2) := by decide +kernel
theorem dX11_askedInput_80 : decode (mC mX11_askedInput) 80 = .ok (.iload_n 3, 1) := by decide +kernel
theorem dX11_askedInput_81 : decode (mC mX11_askedInput) 81 = .ok (.if_icmp .ge 18, 3) := by decide +kernel
theorem dX11_askedInput_84 : decode (mC mX11_askedInput) 84 = .ok (.bipush 16, 2) := by decide +kernel
theorem dX11_askedInput_86 : decode (mC mX11_askedInput) 86 = .ok (.iload 4, 2) := by decide +kernel
theorem dX11_askedInput_88 : decode (mC mX11_askedInput) 88 = .ok (.imul, 1) := by decide +kernel
theorem dX11_askedInput_89 : decode (mC mX11_askedInput) 89 = .ok (.iload 5, 2) := by decide +kernel
theorem dX11_askedInput_91 : decode (mC mX11_askedInput) 91 = .ok (.iadd, 1) := by decide +kernel
theorem dX11_askedInput_92 : decode (mC mX11_askedInput) 92 = .ok (.istore_n 1, 1) := by decide +kernel
theorem dX11_askedInput_93 : decode (mC mX11_askedInput) 93 = .ok (.iload 7, 2) := by decide +kernel
theorem dX11_askedInput_95 : decode (mC mX11_askedInput) 95 = .ok (.istore_n 2, 1) := by decide +kernel
theorem dX11_askedInput_96 : decode (mC mX11_askedInput) 96 = .ok (.iload 6, 2) := by decide +kernel
theorem dX11_askedInput_98 : decode (mC mX11_askedInput) 98 = .ok (.istore_n 3, 1) := by decide +kernel
theorem dX11_askedInput_99 : decode (mC mX11_askedInput) 99 = .ok (.iinc 5 1, 3) := by decide +kernel
theorem dX11_askedInput_102 : decode (mC mX11_askedInput) 102 = .ok (.goto (-74), 3) := by decide +kernel
theorem dX11_askedInput_105 : decode (mC mX11_askedInput) 105 = .ok (.iinc 4 1, 3) := by decide +kernel
theorem dX11_askedInput_108 : decode (mC mX11_askedInput) 108 = .ok (.goto (-95), 3) := by decide +kernel
theorem dX11_askedInput_111 : decode (mC mX11_askedInput) 111 = .ok (.iload_n 1, 1) := by decide +kernel
theorem dX11_askedInput_112 : decode (mC mX11_askedInput) 112 = .ok (.ireturn, 1) := by decide +kernel
set_option maxRecDepth 100000 in
theorem bX11_askedInput_0 {sc : Nat × (Nat → Int32)} {h : jH} {Q : jQ}
    (v1 : WP mX11_askedInput Q 13 [some (.ref 0), some (.int (-1)), some (.int 1000), some (.int 1000), some (.int 0), none, none, none] [] (jG0 sc) h (0, 0)) :
    WP mX11_askedInput Q 0 [some (.ref 0), none, none, none, none, none, none, none] [] (jG0 sc) h (0, 0) := by
  refine j_iconst (n := (-1)) (-1) (by decide) dX11_askedInput_0 ?_
  refine j_istore_n (i := 1) dX11_askedInput_1 (Nat.le_of_ble_eq_true rfl) ?_
  refine j_sipush (n := 1000) 1000 (by decide) dX11_askedInput_2 ?_
  refine j_istore_n (i := 2) dX11_askedInput_5 (Nat.le_of_ble_eq_true rfl) ?_
  refine j_sipush (n := 1000) 1000 (by decide) dX11_askedInput_6 ?_
  refine j_istore_n (i := 3) dX11_askedInput_9 (Nat.le_of_ble_eq_true rfl) ?_
  refine j_iconst (n := 0) 0 (by decide) dX11_askedInput_10 ?_
  refine j_istore (i := 4) dX11_askedInput_11 (Nat.le_of_ble_eq_true rfl) ?_
  exact j_le [some (.ref 0), some (.int (-1)), some (.int 1000), some (.int 1000), some (.int 0), none, none, none] (And.intro rfl (And.intro rfl (And.intro rfl (And.intro rfl (And.intro rfl True.intro))))) v1
set_option maxRecDepth 100000 in
theorem bX11_askedInput_13 {sc : Nat × (Nat → Int32)} {h : jH} {Q : jQ} {l1 l2 l3 l4 : Int32}
    (v1 : (h 9 8) < l4 → WP mX11_askedInput Q 111 [some (.ref 0), some (.int l1), some (.int l2), some (.int l3), some (.int l4), none, none, none] [] (jG0 sc) h (0, 0))
    (v2 : ¬ (h 9 8) < l4 → WP mX11_askedInput Q 25 [some (.ref 0), some (.int l1), some (.int l2), some (.int l3), some (.int l4), none, none, none] [] (jG0 sc) h (0, 0)) :
    WP mX11_askedInput Q 13 [some (.ref 0), some (.int l1), some (.int l2), some (.int l3), some (.int l4), none, none, none] [] (jG0 sc) h (0, 0) := by
  refine j_iload (i := 4) rfl dX11_askedInput_13 ?_
  refine j_aload_n (i := 0) rfl dX11_askedInput_15 ?_
  refine j_getR (idx := 37) (ci := 11) (k := 4) (nest := false) (show (11, 37, 11, 4, false) ∈ jFT by decide) rfl (Nat.le_of_ble_eq_true rfl) rfl (a := 9) rfl dX11_askedInput_16 ?_
  refine j_getI (idx := 351) (ci := 6) (k := 8) (nest := true) (show (11, 351, 6, 8, true) ∈ jFT by decide) rfl (Nat.le_of_ble_eq_true rfl) rfl dX11_askedInput_19 ?_
  refine j_icmp_gt (off := 89) 111 dX11_askedInput_22 (by decide) (fun c1 => ?_) (fun c1 => ?_)
  · exact j_le [some (.ref 0), some (.int l1), some (.int l2), some (.int l3), some (.int l4), none, none, none] (And.intro rfl (And.intro rfl (And.intro rfl (And.intro rfl (And.intro rfl True.intro))))) (v1 c1)
  · exact j_le [some (.ref 0), some (.int l1), some (.int l2), some (.int l3), some (.int l4), none, none, none] (And.intro rfl (And.intro rfl (And.intro rfl (And.intro rfl (And.intro rfl True.intro))))) (v2 c1)
set_option maxRecDepth 100000 in
theorem bX11_askedInput_25 {sc : Nat × (Nat → Int32)} {h : jH} {Q : jQ} {l1 l2 l3 l4 : Int32}
    (v1 : WP mX11_askedInput Q 28 [some (.ref 0), some (.int l1), some (.int l2), some (.int l3), some (.int l4), some (.int 0), none, none] [] (jG0 sc) h (0, 0)) :
    WP mX11_askedInput Q 25 [some (.ref 0), some (.int l1), some (.int l2), some (.int l3), some (.int l4), none, none, none] [] (jG0 sc) h (0, 0) := by
  refine j_iconst (n := 0) 0 (by decide) dX11_askedInput_25 ?_
  refine j_istore (i := 5) dX11_askedInput_26 (Nat.le_of_ble_eq_true rfl) ?_
  exact j_le [some (.ref 0), some (.int l1), some (.int l2), some (.int l3), some (.int l4), some (.int 0), none, none] (And.intro rfl (And.intro rfl (And.intro rfl (And.intro rfl (And.intro rfl (And.intro rfl True.intro)))))) v1
set_option maxRecDepth 100000 in
theorem bX11_askedInput_28 {sc : Nat × (Nat → Int32)} {h : jH} {Q : jQ} {l1 l2 l3 l4 l5 : Int32}
    (v1 : (h 9 8) < l5 → WP mX11_askedInput Q 105 [some (.ref 0), some (.int l1), some (.int l2), some (.int l3), some (.int l4), some (.int l5), none, none] [] (jG0 sc) h (0, 0))
    (v2 : ¬ (h 9 8) < l5 → WP mX11_askedInput Q 40 [some (.ref 0), some (.int l1), some (.int l2), some (.int l3), some (.int l4), some (.int l5), none, none] [] (jG0 sc) h (0, 0)) :
    WP mX11_askedInput Q 28 [some (.ref 0), some (.int l1), some (.int l2), some (.int l3), some (.int l4), some (.int l5), none, none] [] (jG0 sc) h (0, 0) := by
  refine j_iload (i := 5) rfl dX11_askedInput_28 ?_
  refine j_aload_n (i := 0) rfl dX11_askedInput_30 ?_
  refine j_getR (idx := 37) (ci := 11) (k := 4) (nest := false) (show (11, 37, 11, 4, false) ∈ jFT by decide) rfl (Nat.le_of_ble_eq_true rfl) rfl (a := 9) rfl dX11_askedInput_31 ?_
  refine j_getI (idx := 351) (ci := 6) (k := 8) (nest := true) (show (11, 351, 6, 8, true) ∈ jFT by decide) rfl (Nat.le_of_ble_eq_true rfl) rfl dX11_askedInput_34 ?_
  refine j_icmp_gt (off := 68) 105 dX11_askedInput_37 (by decide) (fun c1 => ?_) (fun c1 => ?_)
  · exact j_le [some (.ref 0), some (.int l1), some (.int l2), some (.int l3), some (.int l4), some (.int l5), none, none] (And.intro rfl (And.intro rfl (And.intro rfl (And.intro rfl (And.intro rfl (And.intro rfl True.intro)))))) (v1 c1)
  · exact j_le [some (.ref 0), some (.int l1), some (.int l2), some (.int l3), some (.int l4), some (.int l5), none, none] (And.intro rfl (And.intro rfl (And.intro rfl (And.intro rfl (And.intro rfl (And.intro rfl True.intro)))))) (v2 c1)
set_option maxRecDepth 100000 in
theorem bX11_askedInput_40 {sc : Nat × (Nat → Int32)} {h : jH} {Q : jQ} {l1 l2 l3 l4 l5 : Int32} {P1 : Int32 → jH → Prop} {P2 : Int32 → jH → Prop}
    (k1 : JM mX5_stepsTo [.ref 14, .int l4, .int l5] (jG0 sc) h (jint sc P1))
    (k2 : ∀ (x1 : Int32) (h1 : jH), P1 x1 h1 → JM mX11_mostAlike [.ref 0, .int l4, .int l5] (jG0 sc) h1 (jint sc P2))
    (v1 : ∀ (x1 : Int32) (h1 : jH), P1 x1 h1 → ∀ (x2 : Int32) (h2 : jH), P2 x2 h2 → x2 < l2 → WP mX11_askedInput Q 84 [some (.ref 0), some (.int l1), some (.int l2), some (.int l3), some (.int l4), some (.int l5), some (.int x1), some (.int x2)] [] (jG0 sc) h2 (0, 0))
    (v2 : ∀ (x1 : Int32) (h1 : jH), P1 x1 h1 → ∀ (x2 : Int32) (h2 : jH), P2 x2 h2 → ¬ x2 < l2 → WP mX11_askedInput Q 72 [some (.ref 0), some (.int l1), some (.int l2), some (.int l3), some (.int l4), some (.int l5), some (.int x1), some (.int x2)] [] (jG0 sc) h2 (0, 0)) :
    WP mX11_askedInput Q 40 [some (.ref 0), some (.int l1), some (.int l2), some (.int l3), some (.int l4), some (.int l5), none, none] [] (jG0 sc) h (0, 0) := by
  refine j_aload_n (i := 0) rfl dX11_askedInput_40 ?_
  refine j_getR (idx := 37) (ci := 11) (k := 4) (nest := false) (show (11, 37, 11, 4, false) ∈ jFT by decide) rfl (Nat.le_of_ble_eq_true rfl) rfl (a := 9) rfl dX11_askedInput_41 ?_
  refine j_getR (idx := 169) (ci := 6) (k := 2) (nest := true) (show (11, 169, 6, 2, true) ∈ jFT by decide) rfl (Nat.le_of_ble_eq_true rfl) rfl (a := 14) rfl dX11_askedInput_44 ?_
  refine j_iload (i := 4) rfl dX11_askedInput_47 ?_
  refine j_iload (i := 5) rfl dX11_askedInput_49 ?_
  refine j_callVN (idx := 360) (As := [.int l4, .int l5]) (ci := 5) (n := 2) k1 jint_nt (jTbl (jtb2 235 rfl)) sX5_stepsTo kX5_stepsTo rfl ⟨rfl, by decide +kernel, by decide +kernel, by decide +kernel⟩ rfl ⟨by decide, by decide⟩ (Nat.le_of_ble_eq_true rfl) rfl (Nat.le_of_ble_eq_true rfl) (Nat.le_of_ble_eq_true rfl) ⟨Nat.zero_le _, Nat.zero_le _⟩ dX11_askedInput_51 (fun r Γ' h1 q => ?_)
  obtain ⟨x1, q0, rfl, p1⟩ := q; cases q0
  refine j_eqst [.int x1] (by rfl) ?_
  refine j_istore (i := 6) dX11_askedInput_54 (Nat.le_of_ble_eq_true rfl) ?_
  refine j_aload_n (i := 0) rfl dX11_askedInput_56 ?_
  refine j_iload (i := 4) rfl dX11_askedInput_57 ?_
  refine j_iload (i := 5) rfl dX11_askedInput_59 ?_
  refine j_callV (idx := 366) (As := [.int l4, .int l5]) (ci := 11) (n := 2) (k2 x1 h1 p1) jint_nt (jlkT (jtb3 5 rfl) rfl) sX11_mostAlike kX11_mostAlike rfl ⟨rfl, by decide +kernel, by decide +kernel, by decide +kernel⟩ rfl ⟨by decide, by decide⟩ (Nat.le_of_ble_eq_true rfl) rfl (Nat.le_of_ble_eq_true rfl) (Nat.le_of_ble_eq_true rfl) ⟨Nat.zero_le _, Nat.zero_le _⟩ dX11_askedInput_61 (fun r Γ' h2 q => ?_)
  obtain ⟨x2, q0, rfl, p2⟩ := q; cases q0
  refine j_eqst [.int x2] (by rfl) ?_
  refine j_istore (i := 7) dX11_askedInput_64 (Nat.le_of_ble_eq_true rfl) ?_
  refine j_iload (i := 7) rfl dX11_askedInput_66 ?_
  refine j_iload_n (i := 2) rfl dX11_askedInput_68 ?_
  refine j_icmp_lt (off := 15) 84 dX11_askedInput_69 (by decide) (fun c1 => ?_) (fun c1 => ?_)
  · exact j_le [some (.ref 0), some (.int l1), some (.int l2), some (.int l3), some (.int l4), some (.int l5), some (.int x1), some (.int x2)] (And.intro rfl (And.intro rfl (And.intro rfl (And.intro rfl (And.intro rfl (And.intro rfl (And.intro rfl (And.intro rfl True.intro)))))))) (v1 x1 h1 p1 x2 h2 p2 c1)
  · exact j_le [some (.ref 0), some (.int l1), some (.int l2), some (.int l3), some (.int l4), some (.int l5), some (.int x1), some (.int x2)] (And.intro rfl (And.intro rfl (And.intro rfl (And.intro rfl (And.intro rfl (And.intro rfl (And.intro rfl (And.intro rfl True.intro)))))))) (v2 x1 h1 p1 x2 h2 p2 c1)
set_option maxRecDepth 100000 in
theorem bX11_askedInput_72 {sc : Nat × (Nat → Int32)} {h : jH} {Q : jQ} {l1 l2 l3 l4 l5 l6 l7 : Int32}
    (v1 : ¬ l7 = l2 → WP mX11_askedInput Q 99 [some (.ref 0), some (.int l1), some (.int l2), some (.int l3), some (.int l4), some (.int l5), some (.int l6), some (.int l7)] [] (jG0 sc) h (0, 0))
    (v2 : l7 = l2 → WP mX11_askedInput Q 78 [some (.ref 0), some (.int l1), some (.int l2), some (.int l3), some (.int l4), some (.int l5), some (.int l6), some (.int l7)] [] (jG0 sc) h (0, 0)) :
    WP mX11_askedInput Q 72 [some (.ref 0), some (.int l1), some (.int l2), some (.int l3), some (.int l4), some (.int l5), some (.int l6), some (.int l7)] [] (jG0 sc) h (0, 0) := by
  refine j_iload (i := 7) rfl dX11_askedInput_72 ?_
  refine j_iload_n (i := 2) rfl dX11_askedInput_74 ?_
  refine j_icmp_ne (off := 24) 99 dX11_askedInput_75 (by decide) (fun c1 => ?_) (fun c1 => ?_)
  · exact j_le [some (.ref 0), some (.int l1), some (.int l2), some (.int l3), some (.int l4), some (.int l5), some (.int l6), some (.int l7)] (And.intro rfl (And.intro rfl (And.intro rfl (And.intro rfl (And.intro rfl (And.intro rfl (And.intro rfl (And.intro rfl True.intro)))))))) (v1 c1)
  · exact j_le [some (.ref 0), some (.int l1), some (.int l2), some (.int l3), some (.int l4), some (.int l5), some (.int l6), some (.int l7)] (And.intro rfl (And.intro rfl (And.intro rfl (And.intro rfl (And.intro rfl (And.intro rfl (And.intro rfl (And.intro rfl True.intro)))))))) (v2 c1)
set_option maxRecDepth 100000 in
theorem bX11_askedInput_78 {sc : Nat × (Nat → Int32)} {h : jH} {Q : jQ} {l1 l2 l3 l4 l5 l6 l7 : Int32}
    (v1 : l3 ≤ l6 → WP mX11_askedInput Q 99 [some (.ref 0), some (.int l1), some (.int l2), some (.int l3), some (.int l4), some (.int l5), some (.int l6), some (.int l7)] [] (jG0 sc) h (0, 0))
    (v2 : ¬ l3 ≤ l6 → WP mX11_askedInput Q 84 [some (.ref 0), some (.int l1), some (.int l2), some (.int l3), some (.int l4), some (.int l5), some (.int l6), some (.int l7)] [] (jG0 sc) h (0, 0)) :
    WP mX11_askedInput Q 78 [some (.ref 0), some (.int l1), some (.int l2), some (.int l3), some (.int l4), some (.int l5), some (.int l6), some (.int l7)] [] (jG0 sc) h (0, 0) := by
  refine j_iload (i := 6) rfl dX11_askedInput_78 ?_
  refine j_iload_n (i := 3) rfl dX11_askedInput_80 ?_
  refine j_icmp_ge (off := 18) 99 dX11_askedInput_81 (by decide) (fun c1 => ?_) (fun c1 => ?_)
  · exact j_le [some (.ref 0), some (.int l1), some (.int l2), some (.int l3), some (.int l4), some (.int l5), some (.int l6), some (.int l7)] (And.intro rfl (And.intro rfl (And.intro rfl (And.intro rfl (And.intro rfl (And.intro rfl (And.intro rfl (And.intro rfl True.intro)))))))) (v1 c1)
  · exact j_le [some (.ref 0), some (.int l1), some (.int l2), some (.int l3), some (.int l4), some (.int l5), some (.int l6), some (.int l7)] (And.intro rfl (And.intro rfl (And.intro rfl (And.intro rfl (And.intro rfl (And.intro rfl (And.intro rfl (And.intro rfl True.intro)))))))) (v2 c1)
set_option maxRecDepth 100000 in
theorem bX11_askedInput_84 {sc : Nat × (Nat → Int32)} {h : jH} {Q : jQ} {l1 l2 l3 l4 l5 l6 l7 : Int32}
    (v1 : WP mX11_askedInput Q 99 [some (.ref 0), some (.int ((16 * l4) + l5)), some (.int l7), some (.int l6), some (.int l4), some (.int l5), some (.int l6), some (.int l7)] [] (jG0 sc) h (0, 0)) :
    WP mX11_askedInput Q 84 [some (.ref 0), some (.int l1), some (.int l2), some (.int l3), some (.int l4), some (.int l5), some (.int l6), some (.int l7)] [] (jG0 sc) h (0, 0) := by
  refine j_bipush (n := 16) 16 (by decide) dX11_askedInput_84 ?_
  refine j_iload (i := 4) rfl dX11_askedInput_86 ?_
  refine j_imul dX11_askedInput_88 ?_
  refine j_iload (i := 5) rfl dX11_askedInput_89 ?_
  refine j_iadd dX11_askedInput_91 ?_
  refine j_istore_n (i := 1) dX11_askedInput_92 (Nat.le_of_ble_eq_true rfl) ?_
  refine j_iload (i := 7) rfl dX11_askedInput_93 ?_
  refine j_istore_n (i := 2) dX11_askedInput_95 (Nat.le_of_ble_eq_true rfl) ?_
  refine j_iload (i := 6) rfl dX11_askedInput_96 ?_
  refine j_istore_n (i := 3) dX11_askedInput_98 (Nat.le_of_ble_eq_true rfl) ?_
  exact j_le [some (.ref 0), some (.int ((16 * l4) + l5)), some (.int l7), some (.int l6), some (.int l4), some (.int l5), some (.int l6), some (.int l7)] (And.intro rfl (And.intro rfl (And.intro rfl (And.intro rfl (And.intro rfl (And.intro rfl (And.intro rfl (And.intro rfl True.intro)))))))) v1
set_option maxRecDepth 100000 in
theorem bX11_askedInput_99 {sc : Nat × (Nat → Int32)} {h : jH} {Q : jQ} {l1 l2 l3 l4 l5 l6 l7 : Int32}
    (v1 : WP mX11_askedInput Q 28 [some (.ref 0), some (.int l1), some (.int l2), some (.int l3), some (.int l4), some (.int (l5 + 1)), none, none] [] (jG0 sc) h (0, 0)) :
    WP mX11_askedInput Q 99 [some (.ref 0), some (.int l1), some (.int l2), some (.int l3), some (.int l4), some (.int l5), some (.int l6), some (.int l7)] [] (jG0 sc) h (0, 0) := by
  refine j_iinc (i := 5) (n := 1) rfl dX11_askedInput_99 (Nat.le_of_ble_eq_true rfl) ?_
  refine j_eqlv [some (.ref 0), some (.int l1), some (.int l2), some (.int l3), some (.int l4), some (.int (l5 + 1)), some (.int l6), some (.int l7)] rfl ?_
  refine j_goto (off := -74) 28 dX11_askedInput_102 (by decide) ?_
  exact j_le [some (.ref 0), some (.int l1), some (.int l2), some (.int l3), some (.int l4), some (.int (l5 + 1)), none, none] (And.intro rfl (And.intro rfl (And.intro rfl (And.intro rfl (And.intro rfl (And.intro rfl True.intro)))))) v1
set_option maxRecDepth 100000 in
theorem bX11_askedInput_105 {sc : Nat × (Nat → Int32)} {h : jH} {Q : jQ} {l1 l2 l3 l4 l5 : Int32}
    (v1 : WP mX11_askedInput Q 13 [some (.ref 0), some (.int l1), some (.int l2), some (.int l3), some (.int (l4 + 1)), none, none, none] [] (jG0 sc) h (0, 0)) :
    WP mX11_askedInput Q 105 [some (.ref 0), some (.int l1), some (.int l2), some (.int l3), some (.int l4), some (.int l5), none, none] [] (jG0 sc) h (0, 0) := by
  refine j_iinc (i := 4) (n := 1) rfl dX11_askedInput_105 (Nat.le_of_ble_eq_true rfl) ?_
  refine j_eqlv [some (.ref 0), some (.int l1), some (.int l2), some (.int l3), some (.int (l4 + 1)), some (.int l5), none, none] rfl ?_
  refine j_goto (off := -95) 13 dX11_askedInput_108 (by decide) ?_
  exact j_le [some (.ref 0), some (.int l1), some (.int l2), some (.int l3), some (.int (l4 + 1)), none, none, none] (And.intro rfl (And.intro rfl (And.intro rfl (And.intro rfl (And.intro rfl True.intro))))) v1
set_option maxRecDepth 100000 in
theorem bX11_askedInput_111 {sc : Nat × (Nat → Int32)} {h : jH} {Q : jQ} {l1 l2 l3 l4 : Int32}
    (v1 : Q (.inl (some (.int l1))) (jG0 sc) h) :
    WP mX11_askedInput Q 111 [some (.ref 0), some (.int l1), some (.int l2), some (.int l3), some (.int l4), none, none, none] [] (jG0 sc) h (0, 0) := by
  refine j_iload_n (i := 1) rfl dX11_askedInput_111 ?_
  exact j_iret rfl rfl (Nat.zero_le _) (Nat.zero_le _) dX11_askedInput_112 v1
set_option maxRecDepth 100000 in
theorem rX11_askedInput_0 {sc : Nat × (Nat → Int32)} {h : jH} {Q : jQ}
    (v1 : WP mX11_askedInput Q 13 [some (.ref 0), some (.int (-1)), some (.int 1000), some (.int 1000), some (.int 0), none, none, none] [] (jG0 sc) h (0, 0)) :
    WP mX11_askedInput Q 0 [some (.ref 0), none, none, none, none, none, none, none] [] (jG0 sc) h (0, 0) := by
  exact (bX11_askedInput_0 v1)
set_option maxRecDepth 100000 in
theorem rX11_askedInput_13 {sc : Nat × (Nat → Int32)} {h : jH} {Q : jQ} {l1 l2 l3 l4 : Int32}
    (v1 : (h 9 8) < l4 → Q (.inl (some (.int l1))) (jG0 sc) h)
    (v2 : ¬ (h 9 8) < l4 → WP mX11_askedInput Q 28 [some (.ref 0), some (.int l1), some (.int l2), some (.int l3), some (.int l4), some (.int 0), none, none] [] (jG0 sc) h (0, 0)) :
    WP mX11_askedInput Q 13 [some (.ref 0), some (.int l1), some (.int l2), some (.int l3), some (.int l4), none, none, none] [] (jG0 sc) h (0, 0) := by
  exact (bX11_askedInput_13 (fun c1 => (bX11_askedInput_111 (v1 c1))) (fun c1 => (bX11_askedInput_25 (v2 c1))))
set_option maxRecDepth 100000 in
theorem rX11_askedInput_28 {sc : Nat × (Nat → Int32)} {h : jH} {Q : jQ} {l1 l2 l3 l4 l5 : Int32} {P1 : Int32 → jH → Prop} {P2 : Int32 → jH → Prop}
    (v1 : (h 9 8) < l5 → WP mX11_askedInput Q 13 [some (.ref 0), some (.int l1), some (.int l2), some (.int l3), some (.int (l4 + 1)), none, none, none] [] (jG0 sc) h (0, 0))
    (k1 : ¬ (h 9 8) < l5 → JM mX5_stepsTo [.ref 14, .int l4, .int l5] (jG0 sc) h (jint sc P1))
    (k2 : ¬ (h 9 8) < l5 → ∀ (x1 : Int32) (h1 : jH), P1 x1 h1 → JM mX11_mostAlike [.ref 0, .int l4, .int l5] (jG0 sc) h1 (jint sc P2))
    (v2 : ¬ (h 9 8) < l5 → ∀ (x1 : Int32) (h1 : jH), P1 x1 h1 → ∀ (x2 : Int32) (h2 : jH), P2 x2 h2 → x2 < l2 → WP mX11_askedInput Q 28 [some (.ref 0), some (.int ((16 * l4) + l5)), some (.int x2), some (.int x1), some (.int l4), some (.int (l5 + 1)), none, none] [] (jG0 sc) h2 (0, 0))
    (v3 : ¬ (h 9 8) < l5 → ∀ (x1 : Int32) (h1 : jH), P1 x1 h1 → ∀ (x2 : Int32) (h2 : jH), P2 x2 h2 → ¬ x2 < l2 → ¬ x2 = l2 → WP mX11_askedInput Q 28 [some (.ref 0), some (.int l1), some (.int l2), some (.int l3), some (.int l4), some (.int (l5 + 1)), none, none] [] (jG0 sc) h2 (0, 0))
    (v4 : ¬ (h 9 8) < l5 → ∀ (x1 : Int32) (h1 : jH), P1 x1 h1 → ∀ (x2 : Int32) (h2 : jH), P2 x2 h2 → ¬ x2 < l2 → x2 = l2 → l3 ≤ x1 → WP mX11_askedInput Q 28 [some (.ref 0), some (.int l1), some (.int l2), some (.int l3), some (.int l4), some (.int (l5 + 1)), none, none] [] (jG0 sc) h2 (0, 0))
    (v5 : ¬ (h 9 8) < l5 → ∀ (x1 : Int32) (h1 : jH), P1 x1 h1 → ∀ (x2 : Int32) (h2 : jH), P2 x2 h2 → ¬ x2 < l2 → x2 = l2 → ¬ l3 ≤ x1 → WP mX11_askedInput Q 28 [some (.ref 0), some (.int ((16 * l4) + l5)), some (.int x2), some (.int x1), some (.int l4), some (.int (l5 + 1)), none, none] [] (jG0 sc) h2 (0, 0)) :
    WP mX11_askedInput Q 28 [some (.ref 0), some (.int l1), some (.int l2), some (.int l3), some (.int l4), some (.int l5), none, none] [] (jG0 sc) h (0, 0) := by
  exact (bX11_askedInput_28 (fun c1 => (bX11_askedInput_105 (v1 c1))) (fun c1 => (bX11_askedInput_40 (k1 c1) (fun x1 h1 p1 => (k2 c1 x1 h1 p1)) (fun x1 h1 p1 x2 h2 p2 c2 => (bX11_askedInput_84 (bX11_askedInput_99 (v2 c1 x1 h1 p1 x2 h2 p2 c2)))) (fun x1 h1 p1 x2 h2 p2 c2 => (bX11_askedInput_72 (fun c3 => (bX11_askedInput_99 (v3 c1 x1 h1 p1 x2 h2 p2 c2 c3))) (fun c3 => (bX11_askedInput_78 (fun c4 => (bX11_askedInput_99 (v4 c1 x1 h1 p1 x2 h2 p2 c2 c3 c4))) (fun c4 => (bX11_askedInput_84 (bX11_askedInput_99 (v5 c1 x1 h1 p1 x2 h2 p2 c2 c3 c4)))))))))))
theorem dX11_mostAlike_0 : decode (mC mX11_mostAlike) 0 = .ok (.iconst 0, 1) := by decide +kernel
theorem dX11_mostAlike_1 : decode (mC mX11_mostAlike) 1 = .ok (.istore_n 3, 1) := by decide +kernel
theorem dX11_mostAlike_2 : decode (mC mX11_mostAlike) 2 = .ok (.iconst 0, 1) := by decide +kernel
theorem dX11_mostAlike_3 : decode (mC mX11_mostAlike) 3 = .ok (.istore 4, 2) := by decide +kernel
theorem dX11_mostAlike_5 : decode (mC mX11_mostAlike) 5 = .ok (.iload 4, 2) := by decide +kernel
theorem dX11_mostAlike_7 : decode (mC mX11_mostAlike) 7 = .ok (.aload_n 0, 1) := by decide +kernel
theorem dX11_mostAlike_8 : decode (mC mX11_mostAlike) 8 = .ok (.getfield 37, 3) := by decide +kernel
theorem dX11_mostAlike_11 : decode (mC mX11_mostAlike) 11 = .ok (.getfield 151, 3) := by decide +kernel
theorem dX11_mostAlike_14 : decode (mC mX11_mostAlike) 14 = .ok (.getfield 187, 3) := by decide +kernel
theorem dX11_mostAlike_17 : decode (mC mX11_mostAlike) 17 = .ok (.if_icmp .ge 95, 3) := by decide +kernel
theorem dX11_mostAlike_20 : decode (mC mX11_mostAlike) 20 = .ok (.iload 4, 2) := by decide +kernel
theorem dX11_mostAlike_22 : decode (mC mX11_mostAlike) 22 = .ok (.aload_n 0, 1) := by decide +kernel
theorem dX11_mostAlike_23 : decode (mC mX11_mostAlike) 23 = .ok (.getfield 82, 3) := by decide +kernel
theorem dX11_mostAlike_26 : decode (mC mX11_mostAlike) 26 = .ok (.arraylength, 1) := by decide +kernel
theorem dX11_mostAlike_27 : decode (mC mX11_mostAlike) 27 = .ok (.if_icmp .ge 85, 3) := by decide +kernel
theorem dX11_mostAlike_30 : decode (mC mX11_mostAlike) 30 = .ok (.aload_n 0, 1) := by decide +kernel
theorem dX11_mostAlike_31 : decode (mC mX11_mostAlike) 31 = .ok (.getfield 82, 3) := by decide +kernel
theorem dX11_mostAlike_34 : decode (mC mX11_mostAlike) 34 = .ok (.iload 4, 2) := by decide +kernel
theorem dX11_mostAlike_36 : decode (mC mX11_mostAlike) 36 = .ok (.aload_n 0, 1) := by decide +kernel
theorem dX11_mostAlike_37 : decode (mC mX11_mostAlike) 37 = .ok (.getfield 47, 3) := by decide +kernel
theorem dX11_mostAlike_40 : decode (mC mX11_mostAlike) 40 = .ok (.aload_n 0, 1) := by decide +kernel
theorem dX11_mostAlike_41 : decode (mC mX11_mostAlike) 41 = .ok (.getfield 78, 3) := by decide +kernel
theorem dX11_mostAlike_44 : decode (mC mX11_mostAlike) 44 = .ok (.iload 4, 2) := by decide +kernel
theorem dX11_mostAlike_46 : decode (mC mX11_mostAlike) 46 = .ok (.aaload, 1) := by decide +kernel
theorem dX11_mostAlike_47 : decode (mC mX11_mostAlike) 47 = .ok (.iload_n 1, 1) := by decide +kernel
theorem dX11_mostAlike_48 : decode (mC mX11_mostAlike) 48 = .ok (.iload_n 2, 1) := by decide +kernel
theorem dX11_mostAlike_49 : decode (mC mX11_mostAlike) 49 = .ok (.invokevirtual 196, 3) := by decide +kernel
theorem dX11_mostAlike_52 : decode (mC mX11_mostAlike) 52 = .ok (.iastore, 1) := by decide +kernel
theorem dX11_mostAlike_53 : decode (mC mX11_mostAlike) 53 = .ok (.iconst 0, 1) := by decide +kernel
theorem dX11_mostAlike_54 : decode (mC mX11_mostAlike) 54 = .ok (.istore 5, 2) := by decide +kernel
theorem dX11_mostAlike_56 : decode (mC mX11_mostAlike) 56 = .ok (.iconst 0, 1) := by decide +kernel
theorem dX11_mostAlike_57 : decode (mC mX11_mostAlike) 57 = .ok (.istore 6, 2) := by decide +kernel
theorem dX11_mostAlike_59 : decode (mC mX11_mostAlike) 59 = .ok (.iload 6, 2) := by decide +kernel
theorem dX11_mostAlike_61 : decode (mC mX11_mostAlike) 61 = .ok (.iload 4, 2) := by decide +kernel
theorem dX11_mostAlike_63 : decode (mC mX11_mostAlike) 63 = .ok (.if_icmp .gt 36, 3) := by decide +kernel
theorem dX11_mostAlike_66 : decode (mC mX11_mostAlike) 66 = .ok (.iload 5, 2) := by decide +kernel
theorem dX11_mostAlike_68 : decode (mC mX11_mostAlike) 68 = .ok (.aload_n 0, 1) := by decide +kernel
theorem dX11_mostAlike_69 : decode (mC mX11_mostAlike) 69 = .ok (.getfield 82, 3) := by decide +kernel
theorem dX11_mostAlike_72 : decode (mC mX11_mostAlike) 72 = .ok (.iload 6, 2) := by decide +kernel
theorem dX11_mostAlike_74 : decode (mC mX11_mostAlike) 74 = .ok (.iaload, 1) := by decide +kernel
theorem dX11_mostAlike_75 : decode (mC mX11_mostAlike) 75 = .ok (.aload_n 0, 1) := by decide +kernel
theorem dX11_mostAlike_76 : decode (mC mX11_mostAlike) 76 = .ok (.getfield 82, 3) := by decide +kernel
theorem dX11_mostAlike_79 : decode (mC mX11_mostAlike) 79 = .ok (.iload 4, 2) := by decide +kernel
theorem dX11_mostAlike_81 : decode (mC mX11_mostAlike) 81 = .ok (.iaload, 1) := by decide +kernel
theorem dX11_mostAlike_82 : decode (mC mX11_mostAlike) 82 = .ok (.if_icmp .ne 7, 3) := by decide +kernel
theorem dX11_mostAlike_85 : decode (mC mX11_mostAlike) 85 = .ok (.iconst 1, 1) := by decide +kernel
theorem dX11_mostAlike_86 : decode (mC mX11_mostAlike) 86 = .ok (.goto 4, 3) := by decide +kernel
theorem dX11_mostAlike_89 : decode (mC mX11_mostAlike) 89 = .ok (.iconst 0, 1) := by decide +kernel
theorem dX11_mostAlike_90 : decode (mC mX11_mostAlike) 90 = .ok (.iadd, 1) := by decide +kernel
theorem dX11_mostAlike_91 : decode (mC mX11_mostAlike) 91 = .ok (.istore 5, 2) := by decide +kernel
theorem dX11_mostAlike_93 : decode (mC mX11_mostAlike) 93 = .ok (.iinc 6 1, 3) := by decide +kernel
theorem dX11_mostAlike_96 : decode (mC mX11_mostAlike) 96 = .ok (.goto (-37), 3) := by decide +kernel
theorem dX11_mostAlike_99 : decode (mC mX11_mostAlike) 99 = .ok (.iload_n 3, 1) := by decide +kernel
theorem dX11_mostAlike_100 : decode (mC mX11_mostAlike) 100 = .ok (.iload 5, 2) := by decide +kernel
theorem dX11_mostAlike_102 : decode (mC mX11_mostAlike) 102 = .ok (.invokestatic 369, 3) := by decide +kernel
theorem dX11_mostAlike_105 : decode (mC mX11_mostAlike) 105 = .ok (.istore_n 3, 1) := by decide +kernel
theorem dX11_mostAlike_106 : decode (mC mX11_mostAlike) 106 = .ok (.iinc 4 1, 3) := by decide +kernel
theorem dX11_mostAlike_109 : decode (mC mX11_mostAlike) 109 = .ok (.goto (-104), 3) := by decide +kernel
theorem dX11_mostAlike_112 : decode (mC mX11_mostAlike) 112 = .ok (.iload_n 3, 1) := by decide +kernel
theorem dX11_mostAlike_113 : decode (mC mX11_mostAlike) 113 = .ok (.ireturn, 1) := by decide +kernel
set_option maxRecDepth 100000 in
theorem bX11_mostAlike_0 {sc : Nat × (Nat → Int32)} {h : jH} {Q : jQ} {l1 l2 : Int32}
    (v1 : WP mX11_mostAlike Q 5 [some (.ref 0), some (.int l1), some (.int l2), some (.int 0), some (.int 0), none, none] [] (jG0 sc) h (0, 0)) :
    WP mX11_mostAlike Q 0 [some (.ref 0), some (.int l1), some (.int l2), none, none, none, none] [] (jG0 sc) h (0, 0) := by
  refine j_iconst (n := 0) 0 (by decide) dX11_mostAlike_0 ?_
  refine j_istore_n (i := 3) dX11_mostAlike_1 (Nat.le_of_ble_eq_true rfl) ?_
  refine j_iconst (n := 0) 0 (by decide) dX11_mostAlike_2 ?_
  refine j_istore (i := 4) dX11_mostAlike_3 (Nat.le_of_ble_eq_true rfl) ?_
  exact j_le [some (.ref 0), some (.int l1), some (.int l2), some (.int 0), some (.int 0), none, none] (And.intro rfl (And.intro rfl (And.intro rfl (And.intro rfl (And.intro rfl True.intro))))) v1
set_option maxRecDepth 100000 in
theorem bX11_mostAlike_5 {sc : Nat × (Nat → Int32)} {h : jH} {Q : jQ} {l1 l2 l3 l4 : Int32}
    (v1 : (h 20 1) ≤ l4 → WP mX11_mostAlike Q 112 [some (.ref 0), some (.int l1), some (.int l2), some (.int l3), some (.int l4), none, none] [] (jG0 sc) h (0, 0))
    (v2 : ¬ (h 20 1) ≤ l4 → WP mX11_mostAlike Q 20 [some (.ref 0), some (.int l1), some (.int l2), some (.int l3), some (.int l4), none, none] [] (jG0 sc) h (0, 0)) :
    WP mX11_mostAlike Q 5 [some (.ref 0), some (.int l1), some (.int l2), some (.int l3), some (.int l4), none, none] [] (jG0 sc) h (0, 0) := by
  refine j_iload (i := 4) rfl dX11_mostAlike_5 ?_
  refine j_aload_n (i := 0) rfl dX11_mostAlike_7 ?_
  refine j_getR (idx := 37) (ci := 11) (k := 4) (nest := false) (show (11, 37, 11, 4, false) ∈ jFT by decide) rfl (Nat.le_of_ble_eq_true rfl) rfl (a := 9) rfl dX11_mostAlike_8 ?_
  refine j_getR (idx := 151) (ci := 6) (k := 4) (nest := true) (show (11, 151, 6, 4, true) ∈ jFT by decide) rfl (Nat.le_of_ble_eq_true rfl) rfl (a := 20) rfl dX11_mostAlike_11 ?_
  refine j_getI (idx := 187) (ci := 9) (k := 1) (nest := true) (show (11, 187, 9, 1, true) ∈ jFT by decide) rfl (Nat.le_of_ble_eq_true rfl) rfl dX11_mostAlike_14 ?_
  refine j_icmp_ge (off := 95) 112 dX11_mostAlike_17 (by decide) (fun c1 => ?_) (fun c1 => ?_)
  · exact j_le [some (.ref 0), some (.int l1), some (.int l2), some (.int l3), some (.int l4), none, none] (And.intro rfl (And.intro rfl (And.intro rfl (And.intro rfl (And.intro rfl True.intro))))) (v1 c1)
  · exact j_le [some (.ref 0), some (.int l1), some (.int l2), some (.int l3), some (.int l4), none, none] (And.intro rfl (And.intro rfl (And.intro rfl (And.intro rfl (And.intro rfl True.intro))))) (v2 c1)
set_option maxRecDepth 100000 in
theorem bX11_mostAlike_20 {sc : Nat × (Nat → Int32)} {h : jH} {Q : jQ} {l1 l2 l3 l4 : Int32}
    (v1 : 30 ≤ l4 → WP mX11_mostAlike Q 112 [some (.ref 0), some (.int l1), some (.int l2), some (.int l3), some (.int l4), none, none] [] (jG0 sc) h (0, 0))
    (v2 : ¬ 30 ≤ l4 → WP mX11_mostAlike Q 30 [some (.ref 0), some (.int l1), some (.int l2), some (.int l3), some (.int l4), none, none] [] (jG0 sc) h (0, 0)) :
    WP mX11_mostAlike Q 20 [some (.ref 0), some (.int l1), some (.int l2), some (.int l3), some (.int l4), none, none] [] (jG0 sc) h (0, 0) := by
  refine j_iload (i := 4) rfl dX11_mostAlike_20 ?_
  refine j_aload_n (i := 0) rfl dX11_mostAlike_22 ?_
  refine j_getR (idx := 82) (ci := 11) (k := 14) (nest := false) (show (11, 82, 11, 14, false) ∈ jFT by decide) rfl (Nat.le_of_ble_eq_true rfl) rfl (a := 94) rfl dX11_mostAlike_23 ?_
  refine j_alen (Nat.le_of_ble_eq_true rfl) rfl rfl 30 rfl dX11_mostAlike_26 ?_
  refine j_icmp_ge (off := 85) 112 dX11_mostAlike_27 (by decide) (fun c1 => ?_) (fun c1 => ?_)
  · exact j_le [some (.ref 0), some (.int l1), some (.int l2), some (.int l3), some (.int l4), none, none] (And.intro rfl (And.intro rfl (And.intro rfl (And.intro rfl (And.intro rfl True.intro))))) (v1 c1)
  · exact j_le [some (.ref 0), some (.int l1), some (.int l2), some (.int l3), some (.int l4), none, none] (And.intro rfl (And.intro rfl (And.intro rfl (And.intro rfl (And.intro rfl True.intro))))) (v2 c1)
set_option maxRecDepth 100000 in
theorem bX11_mostAlike_30 {sc : Nat × (Nat → Int32)} {h : jH} {Q : jQ} {l1 l2 l3 l4 : Int32} {q1 : Nat} {P1 : Int32 → jH → Prop}
    (o1 : vp_in l4 30)
    (o2 : (jRt.getD 93 []).getD l4.toNatClampNeg none = some q1)
    (o3 : jI4 q1)
    (k1 : JM mX10_through [.ref 69, .ref q1, .int l1, .int l2] (jG0 sc) h (jint sc P1))
    (o4 : ∀ (x2 : Int32) (h2 : jH), P1 x2 h2 → vp_in l4 30)
    (v1 : ∀ (x2 : Int32) (h2 : jH), P1 x2 h2 → WP mX11_mostAlike Q 59 [some (.ref 0), some (.int l1), some (.int l2), some (.int l3), some (.int l4), some (.int 0), some (.int 0)] [] (jG0 sc) (jput h2 94 l4.toNatClampNeg x2) (0, 0)) :
    WP mX11_mostAlike Q 30 [some (.ref 0), some (.int l1), some (.int l2), some (.int l3), some (.int l4), none, none] [] (jG0 sc) h (0, 0) := by
  refine j_aload_n (i := 0) rfl dX11_mostAlike_30 ?_
  refine j_getR (idx := 82) (ci := 11) (k := 14) (nest := false) (show (11, 82, 11, 14, false) ∈ jFT by decide) rfl (Nat.le_of_ble_eq_true rfl) rfl (a := 94) rfl dX11_mostAlike_31 ?_
  refine j_iload (i := 4) rfl dX11_mostAlike_34 ?_
  refine j_aload_n (i := 0) rfl dX11_mostAlike_36 ?_
  refine j_getR (idx := 47) (ci := 11) (k := 7) (nest := false) (show (11, 47, 11, 7, false) ∈ jFT by decide) rfl (Nat.le_of_ble_eq_true rfl) rfl (a := 69) rfl dX11_mostAlike_37 ?_
  refine j_aload_n (i := 0) rfl dX11_mostAlike_40 ?_
  refine j_getR (idx := 78) (ci := 11) (k := 13) (nest := false) (show (11, 78, 11, 13, false) ∈ jFT by decide) rfl (Nat.le_of_ble_eq_true rfl) rfl (a := 93) rfl dX11_mostAlike_41 ?_
  refine j_iload (i := 4) rfl dX11_mostAlike_44 ?_
  refine j_aald (Nat.le_of_ble_eq_true rfl) rfl o1 (a := q1) o2 dX11_mostAlike_46 ?_
  obtain ⟨q1_lt1, q1_K0, q1_R0_0, q1_K1, q1_L1⟩ := o3
  have q1_lt0 : q1 + 0 < jN (jG0 sc) := Nat.lt_of_succ_lt q1_lt1
  refine j_iload_n (i := 1) rfl dX11_mostAlike_47 ?_
  refine j_iload_n (i := 2) rfl dX11_mostAlike_48 ?_
  refine j_callVN (idx := 196) (As := [.ref q1, .int l1, .int l2]) (ci := 10) (n := 3) k1 jint_nt (jTbl (jtb3 9 rfl)) sX10_through kX10_through rfl ⟨rfl, by decide +kernel, by decide +kernel, by decide +kernel⟩ rfl ⟨by decide, by decide⟩ (Nat.le_of_ble_eq_true rfl) rfl (Nat.le_of_ble_eq_true rfl) (Nat.le_of_ble_eq_true rfl) ⟨Nat.zero_le _, Nat.zero_le _⟩ dX11_mostAlike_49 (fun r Γ' h2 q => ?_)
  obtain ⟨x2, q0, rfl, p2⟩ := q; cases q0
  refine j_eqst [.int x2, .int l4, .ref 94] (by rfl) ?_
  refine j_iast (Nat.le_of_ble_eq_true rfl) rfl (o4 x2 h2 p2) dX11_mostAlike_52 ?_
  refine j_iconst (n := 0) 0 (by decide) dX11_mostAlike_53 ?_
  refine j_istore (i := 5) dX11_mostAlike_54 (Nat.le_of_ble_eq_true rfl) ?_
  refine j_iconst (n := 0) 0 (by decide) dX11_mostAlike_56 ?_
  refine j_istore (i := 6) dX11_mostAlike_57 (Nat.le_of_ble_eq_true rfl) ?_
  exact j_le [some (.ref 0), some (.int l1), some (.int l2), some (.int l3), some (.int l4), some (.int 0), some (.int 0)] (And.intro rfl (And.intro rfl (And.intro rfl (And.intro rfl (And.intro rfl (And.intro rfl (And.intro rfl True.intro))))))) (v1 x2 h2 p2)
set_option maxRecDepth 100000 in
theorem bX11_mostAlike_59 {sc : Nat × (Nat → Int32)} {h : jH} {Q : jQ} {l1 l2 l3 l4 l5 l6 : Int32}
    (v1 : l4 < l6 → WP mX11_mostAlike Q 99 [some (.ref 0), some (.int l1), some (.int l2), some (.int l3), some (.int l4), some (.int l5), some (.int l6)] [] (jG0 sc) h (0, 0))
    (v2 : ¬ l4 < l6 → WP mX11_mostAlike Q 66 [some (.ref 0), some (.int l1), some (.int l2), some (.int l3), some (.int l4), some (.int l5), some (.int l6)] [] (jG0 sc) h (0, 0)) :
    WP mX11_mostAlike Q 59 [some (.ref 0), some (.int l1), some (.int l2), some (.int l3), some (.int l4), some (.int l5), some (.int l6)] [] (jG0 sc) h (0, 0) := by
  refine j_iload (i := 6) rfl dX11_mostAlike_59 ?_
  refine j_iload (i := 4) rfl dX11_mostAlike_61 ?_
  refine j_icmp_gt (off := 36) 99 dX11_mostAlike_63 (by decide) (fun c1 => ?_) (fun c1 => ?_)
  · exact j_le [some (.ref 0), some (.int l1), some (.int l2), some (.int l3), some (.int l4), some (.int l5), some (.int l6)] (And.intro rfl (And.intro rfl (And.intro rfl (And.intro rfl (And.intro rfl (And.intro rfl (And.intro rfl True.intro))))))) (v1 c1)
  · exact j_le [some (.ref 0), some (.int l1), some (.int l2), some (.int l3), some (.int l4), some (.int l5), some (.int l6)] (And.intro rfl (And.intro rfl (And.intro rfl (And.intro rfl (And.intro rfl (And.intro rfl (And.intro rfl True.intro))))))) (v2 c1)
set_option maxRecDepth 100000 in
theorem bX11_mostAlike_66 {sc : Nat × (Nat → Int32)} {h : jH} {Q : jQ} {l1 l2 l3 l4 l5 l6 : Int32}
    (o1 : vp_in l6 30)
    (o2 : vp_in l4 30)
    (v1 : ¬ (h 94 l6.toNatClampNeg) = (h 94 l4.toNatClampNeg) → WP mX11_mostAlike Q 89 [some (.ref 0), some (.int l1), some (.int l2), some (.int l3), some (.int l4), some (.int l5), some (.int l6)] [.int l5] (jG0 sc) h (0, 0))
    (v2 : (h 94 l6.toNatClampNeg) = (h 94 l4.toNatClampNeg) → WP mX11_mostAlike Q 85 [some (.ref 0), some (.int l1), some (.int l2), some (.int l3), some (.int l4), some (.int l5), some (.int l6)] [.int l5] (jG0 sc) h (0, 0)) :
    WP mX11_mostAlike Q 66 [some (.ref 0), some (.int l1), some (.int l2), some (.int l3), some (.int l4), some (.int l5), some (.int l6)] [] (jG0 sc) h (0, 0) := by
  refine j_iload (i := 5) rfl dX11_mostAlike_66 ?_
  refine j_aload_n (i := 0) rfl dX11_mostAlike_68 ?_
  refine j_getR (idx := 82) (ci := 11) (k := 14) (nest := false) (show (11, 82, 11, 14, false) ∈ jFT by decide) rfl (Nat.le_of_ble_eq_true rfl) rfl (a := 94) rfl dX11_mostAlike_69 ?_
  refine j_iload (i := 6) rfl dX11_mostAlike_72 ?_
  refine j_iald (Nat.le_of_ble_eq_true rfl) rfl o1 dX11_mostAlike_74 ?_
  refine j_aload_n (i := 0) rfl dX11_mostAlike_75 ?_
  refine j_getR (idx := 82) (ci := 11) (k := 14) (nest := false) (show (11, 82, 11, 14, false) ∈ jFT by decide) rfl (Nat.le_of_ble_eq_true rfl) rfl (a := 94) rfl dX11_mostAlike_76 ?_
  refine j_iload (i := 4) rfl dX11_mostAlike_79 ?_
  refine j_iald (Nat.le_of_ble_eq_true rfl) rfl o2 dX11_mostAlike_81 ?_
  refine j_icmp_ne (off := 7) 89 dX11_mostAlike_82 (by decide) (fun c1 => ?_) (fun c1 => ?_)
  · exact j_le [some (.ref 0), some (.int l1), some (.int l2), some (.int l3), some (.int l4), some (.int l5), some (.int l6)] (And.intro rfl (And.intro rfl (And.intro rfl (And.intro rfl (And.intro rfl (And.intro rfl (And.intro rfl True.intro))))))) (v1 c1)
  · exact j_le [some (.ref 0), some (.int l1), some (.int l2), some (.int l3), some (.int l4), some (.int l5), some (.int l6)] (And.intro rfl (And.intro rfl (And.intro rfl (And.intro rfl (And.intro rfl (And.intro rfl (And.intro rfl True.intro))))))) (v2 c1)
set_option maxRecDepth 100000 in
theorem bX11_mostAlike_85 {sc : Nat × (Nat → Int32)} {h : jH} {Q : jQ} {l1 l2 l3 l4 l5 l6 s0 : Int32}
    (v1 : WP mX11_mostAlike Q 90 [some (.ref 0), some (.int l1), some (.int l2), some (.int l3), some (.int l4), some (.int l5), some (.int l6)] [.int 1, .int s0] (jG0 sc) h (0, 0)) :
    WP mX11_mostAlike Q 85 [some (.ref 0), some (.int l1), some (.int l2), some (.int l3), some (.int l4), some (.int l5), some (.int l6)] [.int s0] (jG0 sc) h (0, 0) := by
  refine j_iconst (n := 1) 1 (by decide) dX11_mostAlike_85 ?_
  refine j_goto (off := 4) 90 dX11_mostAlike_86 (by decide) ?_
  exact j_le [some (.ref 0), some (.int l1), some (.int l2), some (.int l3), some (.int l4), some (.int l5), some (.int l6)] (And.intro rfl (And.intro rfl (And.intro rfl (And.intro rfl (And.intro rfl (And.intro rfl (And.intro rfl True.intro))))))) v1
set_option maxRecDepth 100000 in
theorem bX11_mostAlike_89 {sc : Nat × (Nat → Int32)} {h : jH} {Q : jQ} {l1 l2 l3 l4 l5 l6 s0 : Int32}
    (v1 : WP mX11_mostAlike Q 90 [some (.ref 0), some (.int l1), some (.int l2), some (.int l3), some (.int l4), some (.int l5), some (.int l6)] [.int 0, .int s0] (jG0 sc) h (0, 0)) :
    WP mX11_mostAlike Q 89 [some (.ref 0), some (.int l1), some (.int l2), some (.int l3), some (.int l4), some (.int l5), some (.int l6)] [.int s0] (jG0 sc) h (0, 0) := by
  refine j_iconst (n := 0) 0 (by decide) dX11_mostAlike_89 ?_
  exact j_le [some (.ref 0), some (.int l1), some (.int l2), some (.int l3), some (.int l4), some (.int l5), some (.int l6)] (And.intro rfl (And.intro rfl (And.intro rfl (And.intro rfl (And.intro rfl (And.intro rfl (And.intro rfl True.intro))))))) v1
set_option maxRecDepth 100000 in
theorem bX11_mostAlike_90 {sc : Nat × (Nat → Int32)} {h : jH} {Q : jQ} {l1 l2 l3 l4 l5 l6 s0 s1 : Int32}
    (v1 : WP mX11_mostAlike Q 59 [some (.ref 0), some (.int l1), some (.int l2), some (.int l3), some (.int l4), some (.int (s1 + s0)), some (.int (l6 + 1))] [] (jG0 sc) h (0, 0)) :
    WP mX11_mostAlike Q 90 [some (.ref 0), some (.int l1), some (.int l2), some (.int l3), some (.int l4), some (.int l5), some (.int l6)] [.int s0, .int s1] (jG0 sc) h (0, 0) := by
  refine j_iadd dX11_mostAlike_90 ?_
  refine j_istore (i := 5) dX11_mostAlike_91 (Nat.le_of_ble_eq_true rfl) ?_
  refine j_iinc (i := 6) (n := 1) rfl dX11_mostAlike_93 (Nat.le_of_ble_eq_true rfl) ?_
  refine j_eqlv [some (.ref 0), some (.int l1), some (.int l2), some (.int l3), some (.int l4), some (.int (s1 + s0)), some (.int (l6 + 1))] rfl ?_
  refine j_goto (off := -37) 59 dX11_mostAlike_96 (by decide) ?_
  exact j_le [some (.ref 0), some (.int l1), some (.int l2), some (.int l3), some (.int l4), some (.int (s1 + s0)), some (.int (l6 + 1))] (And.intro rfl (And.intro rfl (And.intro rfl (And.intro rfl (And.intro rfl (And.intro rfl (And.intro rfl True.intro))))))) v1
set_option maxRecDepth 100000 in
theorem bX11_mostAlike_99 {sc : Nat × (Nat → Int32)} {h : jH} {Q : jQ} {l1 l2 l3 l4 l5 l6 : Int32}
    (v1 : WP mX11_mostAlike Q 5 [some (.ref 0), some (.int l1), some (.int l2), some (.int (if l3 < l5 then l5 else l3)), some (.int (l4 + 1)), none, none] [] (jG0 sc) h (0, 0)) :
    WP mX11_mostAlike Q 99 [some (.ref 0), some (.int l1), some (.int l2), some (.int l3), some (.int l4), some (.int l5), some (.int l6)] [] (jG0 sc) h (0, 0) := by
  refine j_iload_n (i := 3) rfl dX11_mostAlike_99 ?_
  refine j_iload (i := 5) rfl dX11_mostAlike_100 ?_
  refine j_mmax (idx := 369) (jlkT (jtb3 71 rfl) rfl) dX11_mostAlike_102 (Nat.le_of_ble_eq_true rfl) ⟨Nat.zero_le _, Nat.zero_le _⟩ ?_
  refine j_istore_n (i := 3) dX11_mostAlike_105 (Nat.le_of_ble_eq_true rfl) ?_
  refine j_iinc (i := 4) (n := 1) rfl dX11_mostAlike_106 (Nat.le_of_ble_eq_true rfl) ?_
  refine j_eqlv [some (.ref 0), some (.int l1), some (.int l2), some (.int (if l3 < l5 then l5 else l3)), some (.int (l4 + 1)), some (.int l5), some (.int l6)] rfl ?_
  refine j_goto (off := -104) 5 dX11_mostAlike_109 (by decide) ?_
  exact j_le [some (.ref 0), some (.int l1), some (.int l2), some (.int (if l3 < l5 then l5 else l3)), some (.int (l4 + 1)), none, none] (And.intro rfl (And.intro rfl (And.intro rfl (And.intro rfl (And.intro rfl True.intro))))) v1
set_option maxRecDepth 100000 in
theorem bX11_mostAlike_112 {sc : Nat × (Nat → Int32)} {h : jH} {Q : jQ} {l1 l2 l3 l4 : Int32}
    (v1 : Q (.inl (some (.int l3))) (jG0 sc) h) :
    WP mX11_mostAlike Q 112 [some (.ref 0), some (.int l1), some (.int l2), some (.int l3), some (.int l4), none, none] [] (jG0 sc) h (0, 0) := by
  refine j_iload_n (i := 3) rfl dX11_mostAlike_112 ?_
  exact j_iret rfl rfl (Nat.zero_le _) (Nat.zero_le _) dX11_mostAlike_113 v1
set_option maxRecDepth 100000 in
theorem rX11_mostAlike_0 {sc : Nat × (Nat → Int32)} {h : jH} {Q : jQ} {l1 l2 : Int32}
    (v1 : WP mX11_mostAlike Q 5 [some (.ref 0), some (.int l1), some (.int l2), some (.int 0), some (.int 0), none, none] [] (jG0 sc) h (0, 0)) :
    WP mX11_mostAlike Q 0 [some (.ref 0), some (.int l1), some (.int l2), none, none, none, none] [] (jG0 sc) h (0, 0) := by
  exact (bX11_mostAlike_0 v1)
set_option maxRecDepth 100000 in
theorem rX11_mostAlike_5 {sc : Nat × (Nat → Int32)} {h : jH} {Q : jQ} {l1 l2 l3 l4 : Int32} {q1 : Nat} {P1 : Int32 → jH → Prop}
    (v1 : (h 20 1) ≤ l4 → Q (.inl (some (.int l3))) (jG0 sc) h)
    (v2 : ¬ (h 20 1) ≤ l4 → 30 ≤ l4 → Q (.inl (some (.int l3))) (jG0 sc) h)
    (o1 : ¬ (h 20 1) ≤ l4 → ¬ 30 ≤ l4 → vp_in l4 30)
    (o2 : ¬ (h 20 1) ≤ l4 → ¬ 30 ≤ l4 → (jRt.getD 93 []).getD l4.toNatClampNeg none = some q1)
    (o3 : ¬ (h 20 1) ≤ l4 → ¬ 30 ≤ l4 → jI4 q1)
    (k1 : ¬ (h 20 1) ≤ l4 → ¬ 30 ≤ l4 → JM mX10_through [.ref 69, .ref q1, .int l1, .int l2] (jG0 sc) h (jint sc P1))
    (o4 : ¬ (h 20 1) ≤ l4 → ¬ 30 ≤ l4 → ∀ (x2 : Int32) (h2 : jH), P1 x2 h2 → vp_in l4 30)
    (v3 : ¬ (h 20 1) ≤ l4 → ¬ 30 ≤ l4 → ∀ (x2 : Int32) (h2 : jH), P1 x2 h2 → WP mX11_mostAlike Q 59 [some (.ref 0), some (.int l1), some (.int l2), some (.int l3), some (.int l4), some (.int 0), some (.int 0)] [] (jG0 sc) (jput h2 94 l4.toNatClampNeg x2) (0, 0)) :
    WP mX11_mostAlike Q 5 [some (.ref 0), some (.int l1), some (.int l2), some (.int l3), some (.int l4), none, none] [] (jG0 sc) h (0, 0) := by
  exact (bX11_mostAlike_5 (fun c1 => (bX11_mostAlike_112 (v1 c1))) (fun c1 => (bX11_mostAlike_20 (fun c2 => (bX11_mostAlike_112 (v2 c1 c2))) (fun c2 => (bX11_mostAlike_30 (o1 c1 c2) (o2 c1 c2) (o3 c1 c2) (k1 c1 c2) (fun x2 h2 p2 => (o4 c1 c2 x2 h2 p2)) (fun x2 h2 p2 => (v3 c1 c2 x2 h2 p2)))))))
set_option maxRecDepth 100000 in
theorem rX11_mostAlike_59 {sc : Nat × (Nat → Int32)} {h : jH} {Q : jQ} {l1 l2 l3 l4 l5 l6 : Int32}
    (v1 : l4 < l6 → WP mX11_mostAlike Q 5 [some (.ref 0), some (.int l1), some (.int l2), some (.int (if l3 < l5 then l5 else l3)), some (.int (l4 + 1)), none, none] [] (jG0 sc) h (0, 0))
    (o1 : ¬ l4 < l6 → vp_in l6 30)
    (o2 : ¬ l4 < l6 → vp_in l4 30)
    (v2 : ¬ l4 < l6 → ¬ (h 94 l6.toNatClampNeg) = (h 94 l4.toNatClampNeg) → WP mX11_mostAlike Q 59 [some (.ref 0), some (.int l1), some (.int l2), some (.int l3), some (.int l4), some (.int (l5 + 0)), some (.int (l6 + 1))] [] (jG0 sc) h (0, 0))
    (v3 : ¬ l4 < l6 → (h 94 l6.toNatClampNeg) = (h 94 l4.toNatClampNeg) → WP mX11_mostAlike Q 59 [some (.ref 0), some (.int l1), some (.int l2), some (.int l3), some (.int l4), some (.int (l5 + 1)), some (.int (l6 + 1))] [] (jG0 sc) h (0, 0)) :
    WP mX11_mostAlike Q 59 [some (.ref 0), some (.int l1), some (.int l2), some (.int l3), some (.int l4), some (.int l5), some (.int l6)] [] (jG0 sc) h (0, 0) := by
  exact (bX11_mostAlike_59 (fun c1 => (bX11_mostAlike_99 (v1 c1))) (fun c1 => (bX11_mostAlike_66 (o1 c1) (o2 c1) (fun c2 => (bX11_mostAlike_89 (bX11_mostAlike_90 (v2 c1 c2)))) (fun c2 => (bX11_mostAlike_85 (bX11_mostAlike_90 (v3 c1 c2)))))))
theorem dX11_prove_0 : decode (mC mX11_prove) 0 = .ok (.aload_n 0, 1) := by decide +kernel
theorem dX11_prove_1 : decode (mC mX11_prove) 1 = .ok (.iload_n 1, 1) := by decide +kernel
theorem dX11_prove_2 : decode (mC mX11_prove) 2 = .ok (.invokevirtual 326, 3) := by decide +kernel
theorem dX11_prove_5 : decode (mC mX11_prove) 5 = .ok (.istore_n 3, 1) := by decide +kernel
theorem dX11_prove_6 : decode (mC mX11_prove) 6 = .ok (.iload_n 3, 1) := by decide +kernel
theorem dX11_prove_7 : decode (mC mX11_prove) 7 = .ok (.iconst (-1), 1) := by decide +kernel
theorem dX11_prove_8 : decode (mC mX11_prove) 8 = .ok (.if_icmp .ne 14, 3) := by decide +kernel
theorem dX11_prove_11 : decode (mC mX11_prove) 11 = .ok (.new 208, 3) := by decide +kernel
theorem dX11_prove_14 : decode (mC mX11_prove) 14 = .ok (.dup, 1) := by decide +kernel
theorem dX11_prove_15 : decode (mC mX11_prove) 15 = .ok (.ldc_w 329, 3) := by decide +kernel
theorem dX11_prove_18 : decode (mC mX11_prove) 18 = .ok (.invokespecial 212, 3) := by decide +kernel
theorem dX11_prove_21 : decode (mC mX11_prove) 21 = .ok (.athrow, 1) := by decide +kernel
theorem dX11_prove_22 : decode (mC mX11_prove) 22 = .ok (.aload_n 0, 1) := by decide +kernel
theorem dX11_prove_23 : decode (mC mX11_prove) 23 = .ok (.getfield 37, 3) := by decide +kernel
theorem dX11_prove_26 : decode (mC mX11_prove) 26 = .ok (.getfield 140, 3) := by decide +kernel
theorem dX11_prove_29 : decode (mC mX11_prove) 29 = .ok (.getfield 374, 3) := by decide +kernel
theorem dX11_prove_32 : decode (mC mX11_prove) 32 = .ok (.ifCond .ne 14, 3) := by decide +kernel
theorem dX11_prove_35 : decode (mC mX11_prove) 35 = .ok (.new 203, 3) := by decide +kernel
theorem dX11_prove_38 : decode (mC mX11_prove) 38 = .ok (.dup, 1) := by decide +kernel
theorem dX11_prove_39 : decode (mC mX11_prove) 39 = .ok (.ldc_w 375, 3) := by decide +kernel
theorem dX11_prove_42 : decode (mC mX11_prove) 42 = .ok (.invokespecial 207, 3) := by decide +kernel
theorem dX11_prove_45 : decode (mC mX11_prove) 45 = .ok (.athrow, 1) := by decide +kernel
theorem dX11_prove_46 : decode (mC mX11_prove) 46 = .ok (.aload_n 0, 1) := by decide +kernel
theorem dX11_prove_47 : decode (mC mX11_prove) 47 = .ok (.getfield 61, 3) := by decide +kernel
theorem dX11_prove_50 : decode (mC mX11_prove) 50 = .ok (.aload_n 0, 1) := by decide +kernel
theorem dX11_prove_51 : decode (mC mX11_prove) 51 = .ok (.getfield 37, 3) := by decide +kernel
theorem dX11_prove_54 : decode (mC mX11_prove) 54 = .ok (.getfield 127, 3) := by decide +kernel
theorem dX11_prove_57 : decode (mC mX11_prove) 57 = .ok (.iload_n 3, 1) := by decide +kernel
theorem dX11_prove_58 : decode (mC mX11_prove) 58 = .ok (.aload_n 0, 1) := by decide +kernel
theorem dX11_prove_59 : decode (mC mX11_prove) 59 = .ok (.getfield 71, 3) := by decide +kernel
theorem dX11_prove_62 : decode (mC mX11_prove) 62 = .ok (.invokevirtual 192, 3) := by decide +kernel
theorem dX11_prove_65 : decode (mC mX11_prove) 65 = .ok (.pop, 1) := by decide +kernel
theorem dX11_prove_66 : decode (mC mX11_prove) 66 = .ok (.iload_n 2, 1) := by decide +kernel
theorem dX11_prove_67 : decode (mC mX11_prove) 67 = .ok (.ifCond .eq 14, 3) := by decide +kernel
theorem dX11_prove_70 : decode (mC mX11_prove) 70 = .ok (.aload_n 0, 1) := by decide +kernel
theorem dX11_prove_71 : decode (mC mX11_prove) 71 = .ok (.aload_n 0, 1) := by decide +kernel
theorem dX11_prove_72 : decode (mC mX11_prove) 72 = .ok (.getfield 71, 3) := by decide +kernel
theorem dX11_prove_75 : decode (mC mX11_prove) 75 = .ok (.invokevirtual 377, 3) := by decide +kernel
theorem dX11_prove_78 : decode (mC mX11_prove) 78 = .ok (.goto 11, 3) := by decide +kernel
theorem dX11_prove_81 : decode (mC mX11_prove) 81 = .ok (.aload_n 0, 1) := by decide +kernel
theorem dX11_prove_82 : decode (mC mX11_prove) 82 = .ok (.aload_n 0, 1) := by decide +kernel
theorem dX11_prove_83 : decode (mC mX11_prove) 83 = .ok (.getfield 71, 3) := by decide +kernel
theorem dX11_prove_86 : decode (mC mX11_prove) 86 = .ok (.invokevirtual 380, 3) := by decide +kernel
theorem dX11_prove_89 : decode (mC mX11_prove) 89 = .ok (.ireturn, 1) := by decide +kernel
set_option maxRecDepth 100000 in
theorem bX11_prove_0 {sc : Nat × (Nat → Int32)} {h : jH} {Q : jQ} {l1 l2 : Int32} {P1 : Int32 → jH → Prop}
    (k1 : JM mX11_keptNumber [.ref 0, .int l1] (jG0 sc) h (jint sc P1))
    (v1 : ∀ (x1 : Int32) (h1 : jH), P1 x1 h1 → ¬ x1 = (-1) → WP mX11_prove Q 22 [some (.ref 0), some (.int l1), some (.int l2), some (.int x1)] [] (jG0 sc) h1 (0, 0))
    (v2 : ∀ (x1 : Int32) (h1 : jH), P1 x1 h1 → x1 = (-1) → WP mX11_prove Q 11 [some (.ref 0), some (.int l1), some (.int l2), some (.int x1)] [] (jG0 sc) h1 (0, 0)) :
    WP mX11_prove Q 0 [some (.ref 0), some (.int l1), some (.int l2), none] [] (jG0 sc) h (0, 0) := by
  refine j_aload_n (i := 0) rfl dX11_prove_0 ?_
  refine j_iload_n (i := 1) rfl dX11_prove_1 ?_
  refine j_callV (idx := 326) (As := [.int l1]) (ci := 11) (n := 1) k1 jint_nt (jlkT (jtb2 195 rfl) rfl) sX11_keptNumber kX11_keptNumber rfl ⟨rfl, by decide +kernel, by decide +kernel, by decide +kernel⟩ rfl ⟨by decide, by decide⟩ (Nat.le_of_ble_eq_true rfl) rfl (Nat.le_of_ble_eq_true rfl) (Nat.le_of_ble_eq_true rfl) ⟨Nat.zero_le _, Nat.zero_le _⟩ dX11_prove_2 (fun r Γ' h1 q => ?_)
  obtain ⟨x1, q0, rfl, p1⟩ := q; cases q0
  refine j_eqst [.int x1] (by rfl) ?_
  refine j_istore_n (i := 3) dX11_prove_5 (Nat.le_of_ble_eq_true rfl) ?_
  refine j_iload_n (i := 3) rfl dX11_prove_6 ?_
  refine j_iconst (n := (-1)) (-1) (by decide) dX11_prove_7 ?_
  refine j_icmp_ne (off := 14) 22 dX11_prove_8 (by decide) (fun c1 => ?_) (fun c1 => ?_)
  · exact j_le [some (.ref 0), some (.int l1), some (.int l2), some (.int x1)] (And.intro rfl (And.intro rfl (And.intro rfl (And.intro rfl True.intro)))) (v1 x1 h1 p1 c1)
  · exact j_le [some (.ref 0), some (.int l1), some (.int l2), some (.int x1)] (And.intro rfl (And.intro rfl (And.intro rfl (And.intro rfl True.intro)))) (v2 x1 h1 p1 c1)
set_option maxRecDepth 100000 in
theorem bX11_prove_11 {sc : Nat × (Nat → Int32)} {h : jH} {Q : jQ} {l1 l2 l3 : Int32}
    (v1 : Q (.inr "java/lang/IndexOutOfBoundsException") (jG0 sc) h) :
    WP mX11_prove Q 11 [some (.ref 0), some (.int l1), some (.int l2), some (.int l3)] [] (jG0 sc) h (0, 0) := by
  exact j_thrW_IOB (is := 329) "no such kept ALIVE one" 35 (by decide +kernel) rfl rfl (by decide) (by decide) (Nat.le_of_ble_eq_true rfl) dX11_prove_11 dX11_prove_14 dX11_prove_15 dX11_prove_18 dX11_prove_21 v1
set_option maxRecDepth 100000 in
theorem bX11_prove_22 {sc : Nat × (Nat → Int32)} {h : jH} {Q : jQ} {l1 l2 l3 : Int32}
    (v1 : ¬ (h 18 1) = 0 → WP mX11_prove Q 46 [some (.ref 0), some (.int l1), some (.int l2), some (.int l3)] [] (jG0 sc) h (0, 0))
    (v2 : (h 18 1) = 0 → WP mX11_prove Q 35 [some (.ref 0), some (.int l1), some (.int l2), some (.int l3)] [] (jG0 sc) h (0, 0)) :
    WP mX11_prove Q 22 [some (.ref 0), some (.int l1), some (.int l2), some (.int l3)] [] (jG0 sc) h (0, 0) := by
  refine j_aload_n (i := 0) rfl dX11_prove_22 ?_
  refine j_getR (idx := 37) (ci := 11) (k := 4) (nest := false) (show (11, 37, 11, 4, false) ∈ jFT by decide) rfl (Nat.le_of_ble_eq_true rfl) rfl (a := 9) rfl dX11_prove_23 ?_
  refine j_getR (idx := 140) (ci := 6) (k := 3) (nest := true) (show (11, 140, 6, 3, true) ∈ jFT by decide) rfl (Nat.le_of_ble_eq_true rfl) rfl (a := 18) rfl dX11_prove_26 ?_
  refine j_getI (idx := 374) (ci := 1) (k := 1) (nest := true) (show (11, 374, 1, 1, true) ∈ jFT by decide) rfl (Nat.le_of_ble_eq_true rfl) rfl dX11_prove_29 ?_
  refine j_if_ne (off := 14) 46 dX11_prove_32 (by decide) (fun c1 => ?_) (fun c1 => ?_)
  · exact j_le [some (.ref 0), some (.int l1), some (.int l2), some (.int l3)] (And.intro rfl (And.intro rfl (And.intro rfl (And.intro rfl True.intro)))) (v1 c1)
  · exact j_le [some (.ref 0), some (.int l1), some (.int l2), some (.int l3)] (And.intro rfl (And.intro rfl (And.intro rfl (And.intro rfl True.intro)))) (v2 c1)
set_option maxRecDepth 100000 in
theorem bX11_prove_35 {sc : Nat × (Nat → Int32)} {h : jH} {Q : jQ} {l1 l2 l3 : Int32}
    (v1 : Q (.inr "java/lang/IllegalStateException") (jG0 sc) h) :
    WP mX11_prove Q 35 [some (.ref 0), some (.int l1), some (.int l2), some (.int l3)] [] (jG0 sc) h (0, 0) := by
  exact j_thrW_ISE (is := 375) "there is no LAW" 38 (by decide +kernel) rfl rfl (by decide) (by decide) (Nat.le_of_ble_eq_true rfl) dX11_prove_35 dX11_prove_38 dX11_prove_39 dX11_prove_42 dX11_prove_45 v1
set_option maxRecDepth 100000 in
theorem bX11_prove_46 {sc : Nat × (Nat → Int32)} {h : jH} {Q : jQ} {l1 l2 l3 : Int32} {P1 : Int32 → jH → Prop}
    (k1 : JM mX3_shape [.ref 75, .ref 10, .int l3, .ref 89] (jG0 sc) h (jint sc P1))
    (v1 : ∀ (x1 : Int32) (h1 : jH), P1 x1 h1 → l2 = 0 → WP mX11_prove Q 81 [some (.ref 0), some (.int l1), some (.int l2), some (.int l3)] [] (jG0 sc) h1 (0, 0))
    (v2 : ∀ (x1 : Int32) (h1 : jH), P1 x1 h1 → ¬ l2 = 0 → WP mX11_prove Q 70 [some (.ref 0), some (.int l1), some (.int l2), some (.int l3)] [] (jG0 sc) h1 (0, 0)) :
    WP mX11_prove Q 46 [some (.ref 0), some (.int l1), some (.int l2), some (.int l3)] [] (jG0 sc) h (0, 0) := by
  refine j_aload_n (i := 0) rfl dX11_prove_46 ?_
  refine j_getR (idx := 61) (ci := 11) (k := 9) (nest := false) (show (11, 61, 11, 9, false) ∈ jFT by decide) rfl (Nat.le_of_ble_eq_true rfl) rfl (a := 75) rfl dX11_prove_47 ?_
  refine j_aload_n (i := 0) rfl dX11_prove_50 ?_
  refine j_getR (idx := 37) (ci := 11) (k := 4) (nest := false) (show (11, 37, 11, 4, false) ∈ jFT by decide) rfl (Nat.le_of_ble_eq_true rfl) rfl (a := 9) rfl dX11_prove_51 ?_
  refine j_getR (idx := 127) (ci := 6) (k := 0) (nest := true) (show (11, 127, 6, 0, true) ∈ jFT by decide) rfl (Nat.le_of_ble_eq_true rfl) rfl (a := 10) rfl dX11_prove_54 ?_
  refine j_iload_n (i := 3) rfl dX11_prove_57 ?_
  refine j_aload_n (i := 0) rfl dX11_prove_58 ?_
  refine j_getR (idx := 71) (ci := 11) (k := 11) (nest := false) (show (11, 71, 11, 11, false) ∈ jFT by decide) rfl (Nat.le_of_ble_eq_true rfl) rfl (a := 89) rfl dX11_prove_59 ?_
  refine j_callVN (idx := 192) (As := [.ref 10, .int l3, .ref 89]) (ci := 3) (n := 3) k1 jint_nt (jTbl (jtb2 199 rfl)) sX3_shape kX3_shape rfl ⟨rfl, by decide +kernel, by decide +kernel, by decide +kernel⟩ rfl ⟨by decide, by decide⟩ (Nat.le_of_ble_eq_true rfl) rfl (Nat.le_of_ble_eq_true rfl) (Nat.le_of_ble_eq_true rfl) ⟨Nat.zero_le _, Nat.zero_le _⟩ dX11_prove_62 (fun r Γ' h1 q => ?_)
  obtain ⟨x1, q0, rfl, p1⟩ := q; cases q0
  refine j_eqst [.int x1] (by rfl) ?_
  refine j_pop rfl dX11_prove_65 ?_
  refine j_iload_n (i := 2) rfl dX11_prove_66 ?_
  refine j_if_eq (off := 14) 81 dX11_prove_67 (by decide) (fun c1 => ?_) (fun c1 => ?_)
  · exact j_le [some (.ref 0), some (.int l1), some (.int l2), some (.int l3)] (And.intro rfl (And.intro rfl (And.intro rfl (And.intro rfl True.intro)))) (v1 x1 h1 p1 c1)
  · exact j_le [some (.ref 0), some (.int l1), some (.int l2), some (.int l3)] (And.intro rfl (And.intro rfl (And.intro rfl (And.intro rfl True.intro)))) (v2 x1 h1 p1 c1)
set_option maxRecDepth 100000 in
theorem bX11_prove_70 {sc : Nat × (Nat → Int32)} {h : jH} {Q : jQ} {l1 l2 l3 : Int32} {P1 : Int32 → jH → Prop}
    (k1 : JM mX11_firstBreak [.ref 0, .ref 89] (jG0 sc) h (jint sc P1))
    (v1 : ∀ (x1 : Int32) (h1 : jH), P1 x1 h1 → WP mX11_prove Q 89 [some (.ref 0), some (.int l1), some (.int l2), some (.int l3)] [.int x1] (jG0 sc) h1 (0, 0)) :
    WP mX11_prove Q 70 [some (.ref 0), some (.int l1), some (.int l2), some (.int l3)] [] (jG0 sc) h (0, 0) := by
  refine j_aload_n (i := 0) rfl dX11_prove_70 ?_
  refine j_aload_n (i := 0) rfl dX11_prove_71 ?_
  refine j_getR (idx := 71) (ci := 11) (k := 11) (nest := false) (show (11, 71, 11, 11, false) ∈ jFT by decide) rfl (Nat.le_of_ble_eq_true rfl) rfl (a := 89) rfl dX11_prove_72 ?_
  refine j_callV (idx := 377) (As := [.ref 89]) (ci := 11) (n := 1) k1 jint_nt (jlkT (jtb5 196 rfl) rfl) sX11_firstBreak kX11_firstBreak rfl ⟨rfl, by decide +kernel, by decide +kernel, by decide +kernel⟩ rfl ⟨by decide, by decide⟩ (Nat.le_of_ble_eq_true rfl) rfl (Nat.le_of_ble_eq_true rfl) (Nat.le_of_ble_eq_true rfl) ⟨Nat.zero_le _, Nat.zero_le _⟩ dX11_prove_75 (fun r Γ' h1 q => ?_)
  obtain ⟨x1, q0, rfl, p1⟩ := q; cases q0
  refine j_eqst [.int x1] (by rfl) ?_
  refine j_goto (off := 11) 89 dX11_prove_78 (by decide) ?_
  exact j_le [some (.ref 0), some (.int l1), some (.int l2), some (.int l3)] (And.intro rfl (And.intro rfl (And.intro rfl (And.intro rfl True.intro)))) (v1 x1 h1 p1)
set_option maxRecDepth 100000 in
theorem bX11_prove_81 {sc : Nat × (Nat → Int32)} {h : jH} {Q : jQ} {l1 l2 l3 : Int32} {P1 : Int32 → jH → Prop}
    (k1 : JM mX11_breaks [.ref 0, .ref 89] (jG0 sc) h (jint sc P1))
    (v1 : ∀ (x1 : Int32) (h1 : jH), P1 x1 h1 → WP mX11_prove Q 89 [some (.ref 0), some (.int l1), some (.int l2), some (.int l3)] [.int x1] (jG0 sc) h1 (0, 0)) :
    WP mX11_prove Q 81 [some (.ref 0), some (.int l1), some (.int l2), some (.int l3)] [] (jG0 sc) h (0, 0) := by
  refine j_aload_n (i := 0) rfl dX11_prove_81 ?_
  refine j_aload_n (i := 0) rfl dX11_prove_82 ?_
  refine j_getR (idx := 71) (ci := 11) (k := 11) (nest := false) (show (11, 71, 11, 11, false) ∈ jFT by decide) rfl (Nat.le_of_ble_eq_true rfl) rfl (a := 89) rfl dX11_prove_83 ?_
  refine j_callV (idx := 380) (As := [.ref 89]) (ci := 11) (n := 1) k1 jint_nt (jlkT (jtb5 215 rfl) rfl) sX11_breaks kX11_breaks rfl ⟨rfl, by decide +kernel, by decide +kernel, by decide +kernel⟩ rfl ⟨by decide, by decide⟩ (Nat.le_of_ble_eq_true rfl) rfl (Nat.le_of_ble_eq_true rfl) (Nat.le_of_ble_eq_true rfl) ⟨Nat.zero_le _, Nat.zero_le _⟩ dX11_prove_86 (fun r Γ' h1 q => ?_)
  obtain ⟨x1, q0, rfl, p1⟩ := q; cases q0
  refine j_eqst [.int x1] (by rfl) ?_
  exact j_le [some (.ref 0), some (.int l1), some (.int l2), some (.int l3)] (And.intro rfl (And.intro rfl (And.intro rfl (And.intro rfl True.intro)))) (v1 x1 h1 p1)
set_option maxRecDepth 100000 in
theorem bX11_prove_89 {sc : Nat × (Nat → Int32)} {h : jH} {Q : jQ} {l1 l2 l3 s0 : Int32}
    (v1 : Q (.inl (some (.int s0))) (jG0 sc) h) :
    WP mX11_prove Q 89 [some (.ref 0), some (.int l1), some (.int l2), some (.int l3)] [.int s0] (jG0 sc) h (0, 0) := by
  exact j_iret rfl rfl (Nat.zero_le _) (Nat.zero_le _) dX11_prove_89 v1
set_option maxRecDepth 100000 in
theorem rX11_prove_0 {sc : Nat × (Nat → Int32)} {h : jH} {Q : jQ} {l1 l2 : Int32} {P1 : Int32 → jH → Prop} {P2 : Int32 → jH → Prop} {P3 : Int32 → jH → Prop} {P4 : Int32 → jH → Prop}
    (k1 : JM mX11_keptNumber [.ref 0, .int l1] (jG0 sc) h (jint sc P1))
    (k2 : ∀ (x1 : Int32) (h1 : jH), P1 x1 h1 → ¬ x1 = (-1) → ¬ (h1 18 1) = 0 → JM mX3_shape [.ref 75, .ref 10, .int x1, .ref 89] (jG0 sc) h1 (jint sc P2))
    (k3 : ∀ (x1 : Int32) (h1 : jH), P1 x1 h1 → ¬ x1 = (-1) → ¬ (h1 18 1) = 0 → ∀ (x2 : Int32) (h2 : jH), P2 x2 h2 → l2 = 0 → JM mX11_breaks [.ref 0, .ref 89] (jG0 sc) h2 (jint sc P3))
    (v1 : ∀ (x1 : Int32) (h1 : jH), P1 x1 h1 → ¬ x1 = (-1) → ¬ (h1 18 1) = 0 → ∀ (x2 : Int32) (h2 : jH), P2 x2 h2 → l2 = 0 → ∀ (x3 : Int32) (h3 : jH), P3 x3 h3 → Q (.inl (some (.int x3))) (jG0 sc) h3)
    (k4 : ∀ (x1 : Int32) (h1 : jH), P1 x1 h1 → ¬ x1 = (-1) → ¬ (h1 18 1) = 0 → ∀ (x2 : Int32) (h2 : jH), P2 x2 h2 → ¬ l2 = 0 → JM mX11_firstBreak [.ref 0, .ref 89] (jG0 sc) h2 (jint sc P4))
    (v2 : ∀ (x1 : Int32) (h1 : jH), P1 x1 h1 → ¬ x1 = (-1) → ¬ (h1 18 1) = 0 → ∀ (x2 : Int32) (h2 : jH), P2 x2 h2 → ¬ l2 = 0 → ∀ (x4 : Int32) (h4 : jH), P4 x4 h4 → Q (.inl (some (.int x4))) (jG0 sc) h4)
    (v3 : ∀ (x1 : Int32) (h1 : jH), P1 x1 h1 → ¬ x1 = (-1) → (h1 18 1) = 0 → Q (.inr "java/lang/IllegalStateException") (jG0 sc) h1)
    (v4 : ∀ (x1 : Int32) (h1 : jH), P1 x1 h1 → x1 = (-1) → Q (.inr "java/lang/IndexOutOfBoundsException") (jG0 sc) h1) :
    WP mX11_prove Q 0 [some (.ref 0), some (.int l1), some (.int l2), none] [] (jG0 sc) h (0, 0) := by
  exact (bX11_prove_0 k1 (fun x1 h1 p1 c1 => (bX11_prove_22 (fun c2 => (bX11_prove_46 (k2 x1 h1 p1 c1 c2) (fun x2 h2 p2 c3 => (bX11_prove_81 (k3 x1 h1 p1 c1 c2 x2 h2 p2 c3) (fun x3 h3 p3 => (bX11_prove_89 (v1 x1 h1 p1 c1 c2 x2 h2 p2 c3 x3 h3 p3))))) (fun x2 h2 p2 c3 => (bX11_prove_70 (k4 x1 h1 p1 c1 c2 x2 h2 p2 c3) (fun x4 h4 p4 => (bX11_prove_89 (v2 x1 h1 p1 c1 c2 x2 h2 p2 c3 x4 h4 p4))))))) (fun c2 => (bX11_prove_35 (v3 x1 h1 p1 c1 c2))))) (fun x1 h1 p1 c1 => (bX11_prove_11 (v4 x1 h1 p1 c1))))
theorem dX11_breaks_0 : decode (mC mX11_breaks) 0 = .ok (.iconst 0, 1) := by decide +kernel
theorem dX11_breaks_1 : decode (mC mX11_breaks) 1 = .ok (.istore_n 2, 1) := by decide +kernel
theorem dX11_breaks_2 : decode (mC mX11_breaks) 2 = .ok (.iconst 0, 1) := by decide +kernel
theorem dX11_breaks_3 : decode (mC mX11_breaks) 3 = .ok (.istore_n 3, 1) := by decide +kernel
theorem dX11_breaks_4 : decode (mC mX11_breaks) 4 = .ok (.iload_n 3, 1) := by decide +kernel
theorem dX11_breaks_5 : decode (mC mX11_breaks) 5 = .ok (.aload_n 0, 1) := by decide +kernel
theorem dX11_breaks_6 : decode (mC mX11_breaks) 6 = .ok (.getfield 37, 3) := by decide +kernel
theorem dX11_breaks_9 : decode (mC mX11_breaks) 9 = .ok (.getfield 351, 3) := by decide +kernel
theorem dX11_breaks_12 : decode (mC mX11_breaks) 12 = .ok (.if_icmp .gt 49, 3) := by decide +kernel
theorem dX11_breaks_15 : decode (mC mX11_breaks) 15 = .ok (.iconst 0, 1) := by decide +kernel
theorem dX11_breaks_16 : decode (mC mX11_breaks) 16 = .ok (.istore 4, 2) := by decide +kernel
theorem dX11_breaks_18 : decode (mC mX11_breaks) 18 = .ok (.iload 4, 2) := by decide +kernel
theorem dX11_breaks_20 : decode (mC mX11_breaks) 20 = .ok (.aload_n 0, 1) := by decide +kernel
theorem dX11_breaks_21 : decode (mC mX11_breaks) 21 = .ok (.getfield 37, 3) := by decide +kernel
theorem dX11_breaks_24 : decode (mC mX11_breaks) 24 = .ok (.getfield 351, 3) := by decide +kernel
theorem dX11_breaks_27 : decode (mC mX11_breaks) 27 = .ok (.if_icmp .gt 28, 3) := by decide +kernel
theorem dX11_breaks_30 : decode (mC mX11_breaks) 30 = .ok (.iload_n 2, 1) := by decide +kernel
theorem dX11_breaks_31 : decode (mC mX11_breaks) 31 = .ok (.aload_n 0, 1) := by decide +kernel
theorem dX11_breaks_32 : decode (mC mX11_breaks) 32 = .ok (.aload_n 1, 1) := by decide +kernel
theorem dX11_breaks_33 : decode (mC mX11_breaks) 33 = .ok (.iload_n 3, 1) := by decide +kernel
theorem dX11_breaks_34 : decode (mC mX11_breaks) 34 = .ok (.iload 4, 2) := by decide +kernel
theorem dX11_breaks_36 : decode (mC mX11_breaks) 36 = .ok (.invokevirtual 383, 3) := by decide +kernel
theorem dX11_breaks_39 : decode (mC mX11_breaks) 39 = .ok (.ifCond .eq 7, 3) := by decide +kernel
theorem dX11_breaks_42 : decode (mC mX11_breaks) 42 = .ok (.iconst 1, 1) := by decide +kernel
theorem dX11_breaks_43 : decode (mC mX11_breaks) 43 = .ok (.goto 4, 3) := by decide +kernel
theorem dX11_breaks_46 : decode (mC mX11_breaks) 46 = .ok (.iconst 0, 1) := by decide +kernel
theorem dX11_breaks_47 : decode (mC mX11_breaks) 47 = .ok (.iadd, 1) := by decide +kernel
theorem dX11_breaks_48 : decode (mC mX11_breaks) 48 = .ok (.istore_n 2, 1) := by decide +kernel
theorem dX11_breaks_49 : decode (mC mX11_breaks) 49 = .ok (.iinc 4 1, 3) := by decide +kernel
theorem dX11_breaks_52 : decode (mC mX11_breaks) 52 = .ok (.goto (-34), 3) := by decide +kernel
theorem dX11_breaks_55 : decode (mC mX11_breaks) 55 = .ok (.iinc 3 1, 3) := by decide +kernel
theorem dX11_breaks_58 : decode (mC mX11_breaks) 58 = .ok (.goto (-54), 3) := by decide +kernel
theorem dX11_breaks_61 : decode (mC mX11_breaks) 61 = .ok (.iload_n 2, 1) := by decide +kernel
theorem dX11_breaks_62 : decode (mC mX11_breaks) 62 = .ok (.ireturn, 1) := by decide +kernel
set_option maxRecDepth 100000 in
theorem bX11_breaks_0 {sc : Nat × (Nat → Int32)} {h : jH} {Q : jQ} {a : Nat} (a_h : jI4 a)
    (v1 : WP mX11_breaks Q 4 [some (.ref 0), some (.ref a), some (.int 0), some (.int 0), none] [] (jG0 sc) h (0, 0)) :
    WP mX11_breaks Q 0 [some (.ref 0), some (.ref a), none, none, none] [] (jG0 sc) h (0, 0) := by
  obtain ⟨a_lt1, a_K0, a_R0_0, a_K1, a_L1⟩ := a_h
  have a_lt0 : a + 0 < jN (jG0 sc) := Nat.lt_of_succ_lt a_lt1
  refine j_iconst (n := 0) 0 (by decide) dX11_breaks_0 ?_
  refine j_istore_n (i := 2) dX11_breaks_1 (Nat.le_of_ble_eq_true rfl) ?_
  refine j_iconst (n := 0) 0 (by decide) dX11_breaks_2 ?_
  refine j_istore_n (i := 3) dX11_breaks_3 (Nat.le_of_ble_eq_true rfl) ?_
  exact j_le [some (.ref 0), some (.ref a), some (.int 0), some (.int 0), none] (And.intro rfl (And.intro rfl (And.intro rfl (And.intro rfl True.intro)))) v1
set_option maxRecDepth 100000 in
theorem bX11_breaks_4 {sc : Nat × (Nat → Int32)} {h : jH} {Q : jQ} {a : Nat} {l2 l3 : Int32} (a_h : jI4 a)
    (v1 : (h 9 8) < l3 → WP mX11_breaks Q 61 [some (.ref 0), some (.ref a), some (.int l2), some (.int l3), none] [] (jG0 sc) h (0, 0))
    (v2 : ¬ (h 9 8) < l3 → WP mX11_breaks Q 15 [some (.ref 0), some (.ref a), some (.int l2), some (.int l3), none] [] (jG0 sc) h (0, 0)) :
    WP mX11_breaks Q 4 [some (.ref 0), some (.ref a), some (.int l2), some (.int l3), none] [] (jG0 sc) h (0, 0) := by
  obtain ⟨a_lt1, a_K0, a_R0_0, a_K1, a_L1⟩ := a_h
  have a_lt0 : a + 0 < jN (jG0 sc) := Nat.lt_of_succ_lt a_lt1
  refine j_iload_n (i := 3) rfl dX11_breaks_4 ?_
  refine j_aload_n (i := 0) rfl dX11_breaks_5 ?_
  refine j_getR (idx := 37) (ci := 11) (k := 4) (nest := false) (show (11, 37, 11, 4, false) ∈ jFT by decide) rfl (Nat.le_of_ble_eq_true rfl) rfl (a := 9) rfl dX11_breaks_6 ?_
  refine j_getI (idx := 351) (ci := 6) (k := 8) (nest := true) (show (11, 351, 6, 8, true) ∈ jFT by decide) rfl (Nat.le_of_ble_eq_true rfl) rfl dX11_breaks_9 ?_
  refine j_icmp_gt (off := 49) 61 dX11_breaks_12 (by decide) (fun c1 => ?_) (fun c1 => ?_)
  · exact j_le [some (.ref 0), some (.ref a), some (.int l2), some (.int l3), none] (And.intro rfl (And.intro rfl (And.intro rfl (And.intro rfl True.intro)))) (v1 c1)
  · exact j_le [some (.ref 0), some (.ref a), some (.int l2), some (.int l3), none] (And.intro rfl (And.intro rfl (And.intro rfl (And.intro rfl True.intro)))) (v2 c1)
set_option maxRecDepth 100000 in
theorem bX11_breaks_15 {sc : Nat × (Nat → Int32)} {h : jH} {Q : jQ} {a : Nat} {l2 l3 : Int32} (a_h : jI4 a)
    (v1 : WP mX11_breaks Q 18 [some (.ref 0), some (.ref a), some (.int l2), some (.int l3), some (.int 0)] [] (jG0 sc) h (0, 0)) :
    WP mX11_breaks Q 15 [some (.ref 0), some (.ref a), some (.int l2), some (.int l3), none] [] (jG0 sc) h (0, 0) := by
  obtain ⟨a_lt1, a_K0, a_R0_0, a_K1, a_L1⟩ := a_h
  have a_lt0 : a + 0 < jN (jG0 sc) := Nat.lt_of_succ_lt a_lt1
  refine j_iconst (n := 0) 0 (by decide) dX11_breaks_15 ?_
  refine j_istore (i := 4) dX11_breaks_16 (Nat.le_of_ble_eq_true rfl) ?_
  exact j_le [some (.ref 0), some (.ref a), some (.int l2), some (.int l3), some (.int 0)] (And.intro rfl (And.intro rfl (And.intro rfl (And.intro rfl (And.intro rfl True.intro))))) v1
set_option maxRecDepth 100000 in
theorem bX11_breaks_18 {sc : Nat × (Nat → Int32)} {h : jH} {Q : jQ} {a : Nat} {l2 l3 l4 : Int32} (a_h : jI4 a)
    (v1 : (h 9 8) < l4 → WP mX11_breaks Q 55 [some (.ref 0), some (.ref a), some (.int l2), some (.int l3), some (.int l4)] [] (jG0 sc) h (0, 0))
    (v2 : ¬ (h 9 8) < l4 → WP mX11_breaks Q 30 [some (.ref 0), some (.ref a), some (.int l2), some (.int l3), some (.int l4)] [] (jG0 sc) h (0, 0)) :
    WP mX11_breaks Q 18 [some (.ref 0), some (.ref a), some (.int l2), some (.int l3), some (.int l4)] [] (jG0 sc) h (0, 0) := by
  obtain ⟨a_lt1, a_K0, a_R0_0, a_K1, a_L1⟩ := a_h
  have a_lt0 : a + 0 < jN (jG0 sc) := Nat.lt_of_succ_lt a_lt1
  refine j_iload (i := 4) rfl dX11_breaks_18 ?_
  refine j_aload_n (i := 0) rfl dX11_breaks_20 ?_
  refine j_getR (idx := 37) (ci := 11) (k := 4) (nest := false) (show (11, 37, 11, 4, false) ∈ jFT by decide) rfl (Nat.le_of_ble_eq_true rfl) rfl (a := 9) rfl dX11_breaks_21 ?_
  refine j_getI (idx := 351) (ci := 6) (k := 8) (nest := true) (show (11, 351, 6, 8, true) ∈ jFT by decide) rfl (Nat.le_of_ble_eq_true rfl) rfl dX11_breaks_24 ?_
  refine j_icmp_gt (off := 28) 55 dX11_breaks_27 (by decide) (fun c1 => ?_) (fun c1 => ?_)
  · exact j_le [some (.ref 0), some (.ref a), some (.int l2), some (.int l3), some (.int l4)] (And.intro rfl (And.intro rfl (And.intro rfl (And.intro rfl (And.intro rfl True.intro))))) (v1 c1)
  · exact j_le [some (.ref 0), some (.ref a), some (.int l2), some (.int l3), some (.int l4)] (And.intro rfl (And.intro rfl (And.intro rfl (And.intro rfl (And.intro rfl True.intro))))) (v2 c1)
set_option maxRecDepth 100000 in
theorem bX11_breaks_30 {sc : Nat × (Nat → Int32)} {h : jH} {Q : jQ} {a : Nat} {l2 l3 l4 : Int32} {P1 : Int32 → jH → Prop} (a_h : jI4 a)
    (k1 : JM mX11_breaksOn [.ref 0, .ref a, .int l3, .int l4] (jG0 sc) h (jint sc P1))
    (v1 : ∀ (x1 : Int32) (h1 : jH), P1 x1 h1 → x1 = 0 → WP mX11_breaks Q 46 [some (.ref 0), some (.ref a), some (.int l2), some (.int l3), some (.int l4)] [.int l2] (jG0 sc) h1 (0, 0))
    (v2 : ∀ (x1 : Int32) (h1 : jH), P1 x1 h1 → ¬ x1 = 0 → WP mX11_breaks Q 42 [some (.ref 0), some (.ref a), some (.int l2), some (.int l3), some (.int l4)] [.int l2] (jG0 sc) h1 (0, 0)) :
    WP mX11_breaks Q 30 [some (.ref 0), some (.ref a), some (.int l2), some (.int l3), some (.int l4)] [] (jG0 sc) h (0, 0) := by
  obtain ⟨a_lt1, a_K0, a_R0_0, a_K1, a_L1⟩ := a_h
  have a_lt0 : a + 0 < jN (jG0 sc) := Nat.lt_of_succ_lt a_lt1
  refine j_iload_n (i := 2) rfl dX11_breaks_30 ?_
  refine j_aload_n (i := 0) rfl dX11_breaks_31 ?_
  refine j_aload_n (i := 1) rfl dX11_breaks_32 ?_
  refine j_iload_n (i := 3) rfl dX11_breaks_33 ?_
  refine j_iload (i := 4) rfl dX11_breaks_34 ?_
  refine j_callV (idx := 383) (As := [.ref a, .int l3, .int l4]) (ci := 11) (n := 3) k1 jint_nt (jlkT (jtb5 200 rfl) rfl) sX11_breaksOn kX11_breaksOn rfl ⟨rfl, by decide +kernel, by decide +kernel, by decide +kernel⟩ rfl ⟨by decide, by decide⟩ (Nat.le_of_ble_eq_true rfl) rfl (Nat.le_of_ble_eq_true rfl) (Nat.le_of_ble_eq_true rfl) ⟨Nat.zero_le _, Nat.zero_le _⟩ dX11_breaks_36 (fun r Γ' h1 q => ?_)
  obtain ⟨x1, q0, rfl, p1⟩ := q; cases q0
  refine j_eqst [.int x1, .int l2] (by rfl) ?_
  refine j_if_eq (off := 7) 46 dX11_breaks_39 (by decide) (fun c1 => ?_) (fun c1 => ?_)
  · exact j_le [some (.ref 0), some (.ref a), some (.int l2), some (.int l3), some (.int l4)] (And.intro rfl (And.intro rfl (And.intro rfl (And.intro rfl (And.intro rfl True.intro))))) (v1 x1 h1 p1 c1)
  · exact j_le [some (.ref 0), some (.ref a), some (.int l2), some (.int l3), some (.int l4)] (And.intro rfl (And.intro rfl (And.intro rfl (And.intro rfl (And.intro rfl True.intro))))) (v2 x1 h1 p1 c1)
set_option maxRecDepth 100000 in
theorem bX11_breaks_42 {sc : Nat × (Nat → Int32)} {h : jH} {Q : jQ} {a : Nat} {l2 l3 l4 s0 : Int32} (a_h : jI4 a)
    (v1 : WP mX11_breaks Q 47 [some (.ref 0), some (.ref a), some (.int l2), some (.int l3), some (.int l4)] [.int 1, .int s0] (jG0 sc) h (0, 0)) :
    WP mX11_breaks Q 42 [some (.ref 0), some (.ref a), some (.int l2), some (.int l3), some (.int l4)] [.int s0] (jG0 sc) h (0, 0) := by
  obtain ⟨a_lt1, a_K0, a_R0_0, a_K1, a_L1⟩ := a_h
  have a_lt0 : a + 0 < jN (jG0 sc) := Nat.lt_of_succ_lt a_lt1
  refine j_iconst (n := 1) 1 (by decide) dX11_breaks_42 ?_
  refine j_goto (off := 4) 47 dX11_breaks_43 (by decide) ?_
  exact j_le [some (.ref 0), some (.ref a), some (.int l2), some (.int l3), some (.int l4)] (And.intro rfl (And.intro rfl (And.intro rfl (And.intro rfl (And.intro rfl True.intro))))) v1
set_option maxRecDepth 100000 in
theorem bX11_breaks_46 {sc : Nat × (Nat → Int32)} {h : jH} {Q : jQ} {a : Nat} {l2 l3 l4 s0 : Int32} (a_h : jI4 a)
    (v1 : WP mX11_breaks Q 47 [some (.ref 0), some (.ref a), some (.int l2), some (.int l3), some (.int l4)] [.int 0, .int s0] (jG0 sc) h (0, 0)) :
    WP mX11_breaks Q 46 [some (.ref 0), some (.ref a), some (.int l2), some (.int l3), some (.int l4)] [.int s0] (jG0 sc) h (0, 0) := by
  obtain ⟨a_lt1, a_K0, a_R0_0, a_K1, a_L1⟩ := a_h
  have a_lt0 : a + 0 < jN (jG0 sc) := Nat.lt_of_succ_lt a_lt1
  refine j_iconst (n := 0) 0 (by decide) dX11_breaks_46 ?_
  exact j_le [some (.ref 0), some (.ref a), some (.int l2), some (.int l3), some (.int l4)] (And.intro rfl (And.intro rfl (And.intro rfl (And.intro rfl (And.intro rfl True.intro))))) v1
set_option maxRecDepth 100000 in
theorem bX11_breaks_47 {sc : Nat × (Nat → Int32)} {h : jH} {Q : jQ} {a : Nat} {l2 l3 l4 s0 s1 : Int32} (a_h : jI4 a)
    (v1 : WP mX11_breaks Q 18 [some (.ref 0), some (.ref a), some (.int (s1 + s0)), some (.int l3), some (.int (l4 + 1))] [] (jG0 sc) h (0, 0)) :
    WP mX11_breaks Q 47 [some (.ref 0), some (.ref a), some (.int l2), some (.int l3), some (.int l4)] [.int s0, .int s1] (jG0 sc) h (0, 0) := by
  obtain ⟨a_lt1, a_K0, a_R0_0, a_K1, a_L1⟩ := a_h
  have a_lt0 : a + 0 < jN (jG0 sc) := Nat.lt_of_succ_lt a_lt1
  refine j_iadd dX11_breaks_47 ?_
  refine j_istore_n (i := 2) dX11_breaks_48 (Nat.le_of_ble_eq_true rfl) ?_
  refine j_iinc (i := 4) (n := 1) rfl dX11_breaks_49 (Nat.le_of_ble_eq_true rfl) ?_
  refine j_eqlv [some (.ref 0), some (.ref a), some (.int (s1 + s0)), some (.int l3), some (.int (l4 + 1))] rfl ?_
  refine j_goto (off := -34) 18 dX11_breaks_52 (by decide) ?_
  exact j_le [some (.ref 0), some (.ref a), some (.int (s1 + s0)), some (.int l3), some (.int (l4 + 1))] (And.intro rfl (And.intro rfl (And.intro rfl (And.intro rfl (And.intro rfl True.intro))))) v1
set_option maxRecDepth 100000 in
theorem bX11_breaks_55 {sc : Nat × (Nat → Int32)} {h : jH} {Q : jQ} {a : Nat} {l2 l3 l4 : Int32} (a_h : jI4 a)
    (v1 : WP mX11_breaks Q 4 [some (.ref 0), some (.ref a), some (.int l2), some (.int (l3 + 1)), none] [] (jG0 sc) h (0, 0)) :
    WP mX11_breaks Q 55 [some (.ref 0), some (.ref a), some (.int l2), some (.int l3), some (.int l4)] [] (jG0 sc) h (0, 0) := by
  obtain ⟨a_lt1, a_K0, a_R0_0, a_K1, a_L1⟩ := a_h
  have a_lt0 : a + 0 < jN (jG0 sc) := Nat.lt_of_succ_lt a_lt1
  refine j_iinc (i := 3) (n := 1) rfl dX11_breaks_55 (Nat.le_of_ble_eq_true rfl) ?_
  refine j_eqlv [some (.ref 0), some (.ref a), some (.int l2), some (.int (l3 + 1)), some (.int l4)] rfl ?_
  refine j_goto (off := -54) 4 dX11_breaks_58 (by decide) ?_
  exact j_le [some (.ref 0), some (.ref a), some (.int l2), some (.int (l3 + 1)), none] (And.intro rfl (And.intro rfl (And.intro rfl (And.intro rfl True.intro)))) v1
set_option maxRecDepth 100000 in
theorem bX11_breaks_61 {sc : Nat × (Nat → Int32)} {h : jH} {Q : jQ} {a : Nat} {l2 l3 : Int32} (a_h : jI4 a)
    (v1 : Q (.inl (some (.int l2))) (jG0 sc) h) :
    WP mX11_breaks Q 61 [some (.ref 0), some (.ref a), some (.int l2), some (.int l3), none] [] (jG0 sc) h (0, 0) := by
  obtain ⟨a_lt1, a_K0, a_R0_0, a_K1, a_L1⟩ := a_h
  have a_lt0 : a + 0 < jN (jG0 sc) := Nat.lt_of_succ_lt a_lt1
  refine j_iload_n (i := 2) rfl dX11_breaks_61 ?_
  exact j_iret rfl rfl (Nat.zero_le _) (Nat.zero_le _) dX11_breaks_62 v1
set_option maxRecDepth 100000 in
theorem rX11_breaks_0 {sc : Nat × (Nat → Int32)} {h : jH} {Q : jQ} {a : Nat} (a_h : jI4 a)
    (v1 : WP mX11_breaks Q 4 [some (.ref 0), some (.ref a), some (.int 0), some (.int 0), none] [] (jG0 sc) h (0, 0)) :
    WP mX11_breaks Q 0 [some (.ref 0), some (.ref a), none, none, none] [] (jG0 sc) h (0, 0) := by
  exact (bX11_breaks_0 a_h v1)
set_option maxRecDepth 100000 in
theorem rX11_breaks_4 {sc : Nat × (Nat → Int32)} {h : jH} {Q : jQ} {a : Nat} {l2 l3 : Int32} (a_h : jI4 a)
    (v1 : (h 9 8) < l3 → Q (.inl (some (.int l2))) (jG0 sc) h)
    (v2 : ¬ (h 9 8) < l3 → WP mX11_breaks Q 18 [some (.ref 0), some (.ref a), some (.int l2), some (.int l3), some (.int 0)] [] (jG0 sc) h (0, 0)) :
    WP mX11_breaks Q 4 [some (.ref 0), some (.ref a), some (.int l2), some (.int l3), none] [] (jG0 sc) h (0, 0) := by
  exact (bX11_breaks_4 a_h (fun c1 => (bX11_breaks_61 a_h (v1 c1))) (fun c1 => (bX11_breaks_15 a_h (v2 c1))))
set_option maxRecDepth 100000 in
theorem rX11_breaks_18 {sc : Nat × (Nat → Int32)} {h : jH} {Q : jQ} {a : Nat} {l2 l3 l4 : Int32} {P1 : Int32 → jH → Prop} (a_h : jI4 a)
    (v1 : (h 9 8) < l4 → WP mX11_breaks Q 4 [some (.ref 0), some (.ref a), some (.int l2), some (.int (l3 + 1)), none] [] (jG0 sc) h (0, 0))
    (k1 : ¬ (h 9 8) < l4 → JM mX11_breaksOn [.ref 0, .ref a, .int l3, .int l4] (jG0 sc) h (jint sc P1))
    (v2 : ¬ (h 9 8) < l4 → ∀ (x1 : Int32) (h1 : jH), P1 x1 h1 → x1 = 0 → WP mX11_breaks Q 18 [some (.ref 0), some (.ref a), some (.int (l2 + 0)), some (.int l3), some (.int (l4 + 1))] [] (jG0 sc) h1 (0, 0))
    (v3 : ¬ (h 9 8) < l4 → ∀ (x1 : Int32) (h1 : jH), P1 x1 h1 → ¬ x1 = 0 → WP mX11_breaks Q 18 [some (.ref 0), some (.ref a), some (.int (l2 + 1)), some (.int l3), some (.int (l4 + 1))] [] (jG0 sc) h1 (0, 0)) :
    WP mX11_breaks Q 18 [some (.ref 0), some (.ref a), some (.int l2), some (.int l3), some (.int l4)] [] (jG0 sc) h (0, 0) := by
  exact (bX11_breaks_18 a_h (fun c1 => (bX11_breaks_55 a_h (v1 c1))) (fun c1 => (bX11_breaks_30 a_h (k1 c1) (fun x1 h1 p1 c2 => (bX11_breaks_46 a_h (bX11_breaks_47 a_h (v2 c1 x1 h1 p1 c2)))) (fun x1 h1 p1 c2 => (bX11_breaks_42 a_h (bX11_breaks_47 a_h (v3 c1 x1 h1 p1 c2)))))))
