theorem dX6_pushBody_0 : decode (mC mX6_pushBody) 0 = .ok (.aload_n 0, 1) := by decide +kernel
theorem dX6_pushBody_1 : decode (mC mX6_pushBody) 1 = .ok (.getfield 54, 3) := by decide +kernel
theorem dX6_pushBody_4 : decode (mC mX6_pushBody) 4 = .ok (.bipush 6, 2) := by decide +kernel
theorem dX6_pushBody_6 : decode (mC mX6_pushBody) 6 = .ok (.if_icmp .ne 44, 3) := by decide +kernel
theorem dX6_pushBody_9 : decode (mC mX6_pushBody) 9 = .ok (.iconst 1, 1) := by decide +kernel
theorem dX6_pushBody_10 : decode (mC mX6_pushBody) 10 = .ok (.istore_n 1, 1) := by decide +kernel
theorem dX6_pushBody_11 : decode (mC mX6_pushBody) 11 = .ok (.iload_n 1, 1) := by decide +kernel
theorem dX6_pushBody_12 : decode (mC mX6_pushBody) 12 = .ok (.bipush 6, 2) := by decide +kernel
theorem dX6_pushBody_14 : decode (mC mX6_pushBody) 14 = .ok (.if_icmp .ge 26, 3) := by decide +kernel
theorem dX6_pushBody_17 : decode (mC mX6_pushBody) 17 = .ok (.aload_n 0, 1) := by decide +kernel
theorem dX6_pushBody_18 : decode (mC mX6_pushBody) 18 = .ok (.getfield 46, 3) := by decide +kernel
theorem dX6_pushBody_21 : decode (mC mX6_pushBody) 21 = .ok (.iload_n 1, 1) := by decide +kernel
theorem dX6_pushBody_22 : decode (mC mX6_pushBody) 22 = .ok (.iconst 1, 1) := by decide +kernel
theorem dX6_pushBody_23 : decode (mC mX6_pushBody) 23 = .ok (.isub, 1) := by decide +kernel
theorem dX6_pushBody_24 : decode (mC mX6_pushBody) 24 = .ok (.aaload, 1) := by decide +kernel
theorem dX6_pushBody_25 : decode (mC mX6_pushBody) 25 = .ok (.aload_n 0, 1) := by decide +kernel
theorem dX6_pushBody_26 : decode (mC mX6_pushBody) 26 = .ok (.getfield 46, 3) := by decide +kernel
theorem dX6_pushBody_29 : decode (mC mX6_pushBody) 29 = .ok (.iload_n 1, 1) := by decide +kernel
theorem dX6_pushBody_30 : decode (mC mX6_pushBody) 30 = .ok (.aaload, 1) := by decide +kernel
theorem dX6_pushBody_31 : decode (mC mX6_pushBody) 31 = .ok (.invokevirtual 57, 3) := by decide +kernel
theorem dX6_pushBody_34 : decode (mC mX6_pushBody) 34 = .ok (.iinc 1 1, 3) := by decide +kernel
theorem dX6_pushBody_37 : decode (mC mX6_pushBody) 37 = .ok (.goto (-26), 3) := by decide +kernel
theorem dX6_pushBody_40 : decode (mC mX6_pushBody) 40 = .ok (.aload_n 0, 1) := by decide +kernel
theorem dX6_pushBody_41 : decode (mC mX6_pushBody) 41 = .ok (.dup, 1) := by decide +kernel
theorem dX6_pushBody_42 : decode (mC mX6_pushBody) 42 = .ok (.getfield 54, 3) := by decide +kernel
theorem dX6_pushBody_45 : decode (mC mX6_pushBody) 45 = .ok (.iconst 1, 1) := by decide +kernel
theorem dX6_pushBody_46 : decode (mC mX6_pushBody) 46 = .ok (.isub, 1) := by decide +kernel
theorem dX6_pushBody_47 : decode (mC mX6_pushBody) 47 = .ok (.putfield 54, 3) := by decide +kernel
theorem dX6_pushBody_50 : decode (mC mX6_pushBody) 50 = .ok (.aload_n 0, 1) := by decide +kernel
theorem dX6_pushBody_51 : decode (mC mX6_pushBody) 51 = .ok (.getfield 54, 3) := by decide +kernel
theorem dX6_pushBody_54 : decode (mC mX6_pushBody) 54 = .ok (.ifCond .lt 38, 3) := by decide +kernel
theorem dX6_pushBody_57 : decode (mC mX6_pushBody) 57 = .ok (.aload_n 0, 1) := by decide +kernel
theorem dX6_pushBody_58 : decode (mC mX6_pushBody) 58 = .ok (.getfield 54, 3) := by decide +kernel
theorem dX6_pushBody_61 : decode (mC mX6_pushBody) 61 = .ok (.bipush 6, 2) := by decide +kernel
theorem dX6_pushBody_63 : decode (mC mX6_pushBody) 63 = .ok (.if_icmp .ge 29, 3) := by decide +kernel
theorem dX6_pushBody_66 : decode (mC mX6_pushBody) 66 = .ok (.aload_n 0, 1) := by decide +kernel
theorem dX6_pushBody_67 : decode (mC mX6_pushBody) 67 = .ok (.getfield 46, 3) := by decide +kernel
theorem dX6_pushBody_70 : decode (mC mX6_pushBody) 70 = .ok (.aload_n 0, 1) := by decide +kernel
theorem dX6_pushBody_71 : decode (mC mX6_pushBody) 71 = .ok (.getfield 54, 3) := by decide +kernel
theorem dX6_pushBody_74 : decode (mC mX6_pushBody) 74 = .ok (.aaload, 1) := by decide +kernel
theorem dX6_pushBody_75 : decode (mC mX6_pushBody) 75 = .ok (.aload_n 0, 1) := by decide +kernel
theorem dX6_pushBody_76 : decode (mC mX6_pushBody) 76 = .ok (.getfield 12, 3) := by decide +kernel
theorem dX6_pushBody_79 : decode (mC mX6_pushBody) 79 = .ok (.invokevirtual 57, 3) := by decide +kernel
theorem dX6_pushBody_82 : decode (mC mX6_pushBody) 82 = .ok (.aload_n 0, 1) := by decide +kernel
theorem dX6_pushBody_83 : decode (mC mX6_pushBody) 83 = .ok (.dup, 1) := by decide +kernel
theorem dX6_pushBody_84 : decode (mC mX6_pushBody) 84 = .ok (.getfield 54, 3) := by decide +kernel
theorem dX6_pushBody_87 : decode (mC mX6_pushBody) 87 = .ok (.iconst 1, 1) := by decide +kernel
theorem dX6_pushBody_88 : decode (mC mX6_pushBody) 88 = .ok (.iadd, 1) := by decide +kernel
theorem dX6_pushBody_89 : decode (mC mX6_pushBody) 89 = .ok (.putfield 54, 3) := by decide +kernel
theorem dX6_pushBody_92 : decode (mC mX6_pushBody) 92 = .ok (.return_, 1) := by decide +kernel
set_option maxRecDepth 100000 in
theorem bX6_pushBody_0 {sc : Nat × (Nat → Int32)} {h : jH} {Q : jQ} {t : Nat} (t_h : jI6 t)
    (v1 : ¬ (h t 7) = 6 → WP mX6_pushBody Q 50 [some (.ref t), none] [] (jG0 sc) h (0, 0))
    (v2 : (h t 7) = 6 → WP mX6_pushBody Q 9 [some (.ref t), none] [] (jG0 sc) h (0, 0)) :
    WP mX6_pushBody Q 0 [some (.ref t), none] [] (jG0 sc) h (0, 0) := by
  obtain ⟨t_lt29, t_K0, t_R0_0, t_R0_1, t_R0_2, t_R0_3, t_R0_4, t_R0_5, t_R0_6, t_K16, t_L16, t_K17, t_L17, t_K1, t_K3, t_K5, t_K9, t_K11⟩ := t_h
  have t_lt28 : t + 28 < jN (jG0 sc) := Nat.lt_of_succ_lt t_lt29
  have t_lt27 : t + 27 < jN (jG0 sc) := Nat.lt_of_succ_lt t_lt28
  have t_lt26 : t + 26 < jN (jG0 sc) := Nat.lt_of_succ_lt t_lt27
  have t_lt25 : t + 25 < jN (jG0 sc) := Nat.lt_of_succ_lt t_lt26
  have t_lt24 : t + 24 < jN (jG0 sc) := Nat.lt_of_succ_lt t_lt25
  have t_lt23 : t + 23 < jN (jG0 sc) := Nat.lt_of_succ_lt t_lt24
  have t_lt22 : t + 22 < jN (jG0 sc) := Nat.lt_of_succ_lt t_lt23
  have t_lt21 : t + 21 < jN (jG0 sc) := Nat.lt_of_succ_lt t_lt22
  have t_lt20 : t + 20 < jN (jG0 sc) := Nat.lt_of_succ_lt t_lt21
  have t_lt19 : t + 19 < jN (jG0 sc) := Nat.lt_of_succ_lt t_lt20
  have t_lt18 : t + 18 < jN (jG0 sc) := Nat.lt_of_succ_lt t_lt19
  have t_lt17 : t + 17 < jN (jG0 sc) := Nat.lt_of_succ_lt t_lt18
  have t_lt16 : t + 16 < jN (jG0 sc) := Nat.lt_of_succ_lt t_lt17
  have t_lt15 : t + 15 < jN (jG0 sc) := Nat.lt_of_succ_lt t_lt16
  have t_lt14 : t + 14 < jN (jG0 sc) := Nat.lt_of_succ_lt t_lt15
  have t_lt13 : t + 13 < jN (jG0 sc) := Nat.lt_of_succ_lt t_lt14
  have t_lt12 : t + 12 < jN (jG0 sc) := Nat.lt_of_succ_lt t_lt13
  have t_lt11 : t + 11 < jN (jG0 sc) := Nat.lt_of_succ_lt t_lt12
  have t_lt10 : t + 10 < jN (jG0 sc) := Nat.lt_of_succ_lt t_lt11
  have t_lt9 : t + 9 < jN (jG0 sc) := Nat.lt_of_succ_lt t_lt10
  have t_lt8 : t + 8 < jN (jG0 sc) := Nat.lt_of_succ_lt t_lt9
  have t_lt7 : t + 7 < jN (jG0 sc) := Nat.lt_of_succ_lt t_lt8
  have t_lt6 : t + 6 < jN (jG0 sc) := Nat.lt_of_succ_lt t_lt7
  have t_lt5 : t + 5 < jN (jG0 sc) := Nat.lt_of_succ_lt t_lt6
  have t_lt4 : t + 4 < jN (jG0 sc) := Nat.lt_of_succ_lt t_lt5
  have t_lt3 : t + 3 < jN (jG0 sc) := Nat.lt_of_succ_lt t_lt4
  have t_lt2 : t + 2 < jN (jG0 sc) := Nat.lt_of_succ_lt t_lt3
  have t_lt1 : t + 1 < jN (jG0 sc) := Nat.lt_of_succ_lt t_lt2
  have t_lt0 : t + 0 < jN (jG0 sc) := Nat.lt_of_succ_lt t_lt1
  refine j_aload_n (i := 0) rfl dX6_pushBody_0 ?_
  refine j_getI (idx := 54) (ci := 6) (k := 7) (nest := false) (show (6, 54, 6, 7, false) ∈ jFT by decide) rfl (t_lt0) t_K0 dX6_pushBody_1 ?_
  refine j_bipush (n := 6) 6 (by decide) dX6_pushBody_4 ?_
  refine j_icmp_ne (off := 44) 50 dX6_pushBody_6 (by decide) (fun c1 => ?_) (fun c1 => ?_)
  · exact j_le [some (.ref t), none] (And.intro rfl True.intro) (v1 c1)
  · exact j_le [some (.ref t), none] (And.intro rfl True.intro) (v2 c1)
set_option maxRecDepth 100000 in
theorem bX6_pushBody_9 {sc : Nat × (Nat → Int32)} {h : jH} {Q : jQ} {t : Nat} (t_h : jI6 t)
    (v1 : WP mX6_pushBody Q 11 [some (.ref t), some (.int 1)] [] (jG0 sc) h (0, 0)) :
    WP mX6_pushBody Q 9 [some (.ref t), none] [] (jG0 sc) h (0, 0) := by
  obtain ⟨t_lt29, t_K0, t_R0_0, t_R0_1, t_R0_2, t_R0_3, t_R0_4, t_R0_5, t_R0_6, t_K16, t_L16, t_K17, t_L17, t_K1, t_K3, t_K5, t_K9, t_K11⟩ := t_h
  have t_lt28 : t + 28 < jN (jG0 sc) := Nat.lt_of_succ_lt t_lt29
  have t_lt27 : t + 27 < jN (jG0 sc) := Nat.lt_of_succ_lt t_lt28
  have t_lt26 : t + 26 < jN (jG0 sc) := Nat.lt_of_succ_lt t_lt27
  have t_lt25 : t + 25 < jN (jG0 sc) := Nat.lt_of_succ_lt t_lt26
  have t_lt24 : t + 24 < jN (jG0 sc) := Nat.lt_of_succ_lt t_lt25
  have t_lt23 : t + 23 < jN (jG0 sc) := Nat.lt_of_succ_lt t_lt24
  have t_lt22 : t + 22 < jN (jG0 sc) := Nat.lt_of_succ_lt t_lt23
  have t_lt21 : t + 21 < jN (jG0 sc) := Nat.lt_of_succ_lt t_lt22
  have t_lt20 : t + 20 < jN (jG0 sc) := Nat.lt_of_succ_lt t_lt21
  have t_lt19 : t + 19 < jN (jG0 sc) := Nat.lt_of_succ_lt t_lt20
  have t_lt18 : t + 18 < jN (jG0 sc) := Nat.lt_of_succ_lt t_lt19
  have t_lt17 : t + 17 < jN (jG0 sc) := Nat.lt_of_succ_lt t_lt18
  have t_lt16 : t + 16 < jN (jG0 sc) := Nat.lt_of_succ_lt t_lt17
  have t_lt15 : t + 15 < jN (jG0 sc) := Nat.lt_of_succ_lt t_lt16
  have t_lt14 : t + 14 < jN (jG0 sc) := Nat.lt_of_succ_lt t_lt15
  have t_lt13 : t + 13 < jN (jG0 sc) := Nat.lt_of_succ_lt t_lt14
  have t_lt12 : t + 12 < jN (jG0 sc) := Nat.lt_of_succ_lt t_lt13
  have t_lt11 : t + 11 < jN (jG0 sc) := Nat.lt_of_succ_lt t_lt12
  have t_lt10 : t + 10 < jN (jG0 sc) := Nat.lt_of_succ_lt t_lt11
  have t_lt9 : t + 9 < jN (jG0 sc) := Nat.lt_of_succ_lt t_lt10
  have t_lt8 : t + 8 < jN (jG0 sc) := Nat.lt_of_succ_lt t_lt9
  have t_lt7 : t + 7 < jN (jG0 sc) := Nat.lt_of_succ_lt t_lt8
  have t_lt6 : t + 6 < jN (jG0 sc) := Nat.lt_of_succ_lt t_lt7
  have t_lt5 : t + 5 < jN (jG0 sc) := Nat.lt_of_succ_lt t_lt6
  have t_lt4 : t + 4 < jN (jG0 sc) := Nat.lt_of_succ_lt t_lt5
  have t_lt3 : t + 3 < jN (jG0 sc) := Nat.lt_of_succ_lt t_lt4
  have t_lt2 : t + 2 < jN (jG0 sc) := Nat.lt_of_succ_lt t_lt3
  have t_lt1 : t + 1 < jN (jG0 sc) := Nat.lt_of_succ_lt t_lt2
  have t_lt0 : t + 0 < jN (jG0 sc) := Nat.lt_of_succ_lt t_lt1
  refine j_iconst (n := 1) 1 (by decide) dX6_pushBody_9 ?_
  refine j_istore_n (i := 1) dX6_pushBody_10 (Nat.le_of_ble_eq_true rfl) ?_
  exact j_le [some (.ref t), some (.int 1)] (And.intro rfl (And.intro rfl True.intro)) v1
set_option maxRecDepth 100000 in
theorem bX6_pushBody_11 {sc : Nat × (Nat → Int32)} {h : jH} {Q : jQ} {t : Nat} {l1 : Int32} (t_h : jI6 t)
    (v1 : 6 ≤ l1 → WP mX6_pushBody Q 40 [some (.ref t), some (.int l1)] [] (jG0 sc) h (0, 0))
    (v2 : ¬ 6 ≤ l1 → WP mX6_pushBody Q 17 [some (.ref t), some (.int l1)] [] (jG0 sc) h (0, 0)) :
    WP mX6_pushBody Q 11 [some (.ref t), some (.int l1)] [] (jG0 sc) h (0, 0) := by
  obtain ⟨t_lt29, t_K0, t_R0_0, t_R0_1, t_R0_2, t_R0_3, t_R0_4, t_R0_5, t_R0_6, t_K16, t_L16, t_K17, t_L17, t_K1, t_K3, t_K5, t_K9, t_K11⟩ := t_h
  have t_lt28 : t + 28 < jN (jG0 sc) := Nat.lt_of_succ_lt t_lt29
  have t_lt27 : t + 27 < jN (jG0 sc) := Nat.lt_of_succ_lt t_lt28
  have t_lt26 : t + 26 < jN (jG0 sc) := Nat.lt_of_succ_lt t_lt27
  have t_lt25 : t + 25 < jN (jG0 sc) := Nat.lt_of_succ_lt t_lt26
  have t_lt24 : t + 24 < jN (jG0 sc) := Nat.lt_of_succ_lt t_lt25
  have t_lt23 : t + 23 < jN (jG0 sc) := Nat.lt_of_succ_lt t_lt24
  have t_lt22 : t + 22 < jN (jG0 sc) := Nat.lt_of_succ_lt t_lt23
  have t_lt21 : t + 21 < jN (jG0 sc) := Nat.lt_of_succ_lt t_lt22
  have t_lt20 : t + 20 < jN (jG0 sc) := Nat.lt_of_succ_lt t_lt21
  have t_lt19 : t + 19 < jN (jG0 sc) := Nat.lt_of_succ_lt t_lt20
  have t_lt18 : t + 18 < jN (jG0 sc) := Nat.lt_of_succ_lt t_lt19
  have t_lt17 : t + 17 < jN (jG0 sc) := Nat.lt_of_succ_lt t_lt18
  have t_lt16 : t + 16 < jN (jG0 sc) := Nat.lt_of_succ_lt t_lt17
  have t_lt15 : t + 15 < jN (jG0 sc) := Nat.lt_of_succ_lt t_lt16
  have t_lt14 : t + 14 < jN (jG0 sc) := Nat.lt_of_succ_lt t_lt15
  have t_lt13 : t + 13 < jN (jG0 sc) := Nat.lt_of_succ_lt t_lt14
  have t_lt12 : t + 12 < jN (jG0 sc) := Nat.lt_of_succ_lt t_lt13
  have t_lt11 : t + 11 < jN (jG0 sc) := Nat.lt_of_succ_lt t_lt12
  have t_lt10 : t + 10 < jN (jG0 sc) := Nat.lt_of_succ_lt t_lt11
  have t_lt9 : t + 9 < jN (jG0 sc) := Nat.lt_of_succ_lt t_lt10
  have t_lt8 : t + 8 < jN (jG0 sc) := Nat.lt_of_succ_lt t_lt9
  have t_lt7 : t + 7 < jN (jG0 sc) := Nat.lt_of_succ_lt t_lt8
  have t_lt6 : t + 6 < jN (jG0 sc) := Nat.lt_of_succ_lt t_lt7
  have t_lt5 : t + 5 < jN (jG0 sc) := Nat.lt_of_succ_lt t_lt6
  have t_lt4 : t + 4 < jN (jG0 sc) := Nat.lt_of_succ_lt t_lt5
  have t_lt3 : t + 3 < jN (jG0 sc) := Nat.lt_of_succ_lt t_lt4
  have t_lt2 : t + 2 < jN (jG0 sc) := Nat.lt_of_succ_lt t_lt3
  have t_lt1 : t + 1 < jN (jG0 sc) := Nat.lt_of_succ_lt t_lt2
  have t_lt0 : t + 0 < jN (jG0 sc) := Nat.lt_of_succ_lt t_lt1
  refine j_iload_n (i := 1) rfl dX6_pushBody_11 ?_
  refine j_bipush (n := 6) 6 (by decide) dX6_pushBody_12 ?_
  refine j_icmp_ge (off := 26) 40 dX6_pushBody_14 (by decide) (fun c1 => ?_) (fun c1 => ?_)
  · exact j_le [some (.ref t), some (.int l1)] (And.intro rfl (And.intro rfl True.intro)) (v1 c1)
  · exact j_le [some (.ref t), some (.int l1)] (And.intro rfl (And.intro rfl True.intro)) (v2 c1)
set_option maxRecDepth 100000 in
theorem bX6_pushBody_17 {sc : Nat × (Nat → Int32)} {h : jH} {Q : jQ} {t : Nat} {l1 : Int32} {q1 : Nat} {q2 : Nat} {P1 : jH → Prop} (t_h : jI6 t)
    (o1 : vp_in (l1 - 1) 6)
    (o2 : (jRt.getD (t + 17) []).getD (l1 - 1).toNatClampNeg none = some q1)
    (o3 : jI4 q1)
    (o4 : vp_in l1 6)
    (o5 : (jRt.getD (t + 17) []).getD l1.toNatClampNeg none = some q2)
    (o6 : jI4 q2)
    (k1 : JM mX4_copyOf [.ref q1, .ref q2] (jG0 sc) h (jvoid sc P1))
    (v1 : ∀ h3 : jH, P1 h3 → WP mX6_pushBody Q 11 [some (.ref t), some (.int (l1 + 1))] [] (jG0 sc) h3 (0, 0)) :
    WP mX6_pushBody Q 17 [some (.ref t), some (.int l1)] [] (jG0 sc) h (0, 0) := by
  obtain ⟨t_lt29, t_K0, t_R0_0, t_R0_1, t_R0_2, t_R0_3, t_R0_4, t_R0_5, t_R0_6, t_K16, t_L16, t_K17, t_L17, t_K1, t_K3, t_K5, t_K9, t_K11⟩ := t_h
  have t_lt28 : t + 28 < jN (jG0 sc) := Nat.lt_of_succ_lt t_lt29
  have t_lt27 : t + 27 < jN (jG0 sc) := Nat.lt_of_succ_lt t_lt28
  have t_lt26 : t + 26 < jN (jG0 sc) := Nat.lt_of_succ_lt t_lt27
  have t_lt25 : t + 25 < jN (jG0 sc) := Nat.lt_of_succ_lt t_lt26
  have t_lt24 : t + 24 < jN (jG0 sc) := Nat.lt_of_succ_lt t_lt25
  have t_lt23 : t + 23 < jN (jG0 sc) := Nat.lt_of_succ_lt t_lt24
  have t_lt22 : t + 22 < jN (jG0 sc) := Nat.lt_of_succ_lt t_lt23
  have t_lt21 : t + 21 < jN (jG0 sc) := Nat.lt_of_succ_lt t_lt22
  have t_lt20 : t + 20 < jN (jG0 sc) := Nat.lt_of_succ_lt t_lt21
  have t_lt19 : t + 19 < jN (jG0 sc) := Nat.lt_of_succ_lt t_lt20
  have t_lt18 : t + 18 < jN (jG0 sc) := Nat.lt_of_succ_lt t_lt19
  have t_lt17 : t + 17 < jN (jG0 sc) := Nat.lt_of_succ_lt t_lt18
  have t_lt16 : t + 16 < jN (jG0 sc) := Nat.lt_of_succ_lt t_lt17
  have t_lt15 : t + 15 < jN (jG0 sc) := Nat.lt_of_succ_lt t_lt16
  have t_lt14 : t + 14 < jN (jG0 sc) := Nat.lt_of_succ_lt t_lt15
  have t_lt13 : t + 13 < jN (jG0 sc) := Nat.lt_of_succ_lt t_lt14
  have t_lt12 : t + 12 < jN (jG0 sc) := Nat.lt_of_succ_lt t_lt13
  have t_lt11 : t + 11 < jN (jG0 sc) := Nat.lt_of_succ_lt t_lt12
  have t_lt10 : t + 10 < jN (jG0 sc) := Nat.lt_of_succ_lt t_lt11
  have t_lt9 : t + 9 < jN (jG0 sc) := Nat.lt_of_succ_lt t_lt10
  have t_lt8 : t + 8 < jN (jG0 sc) := Nat.lt_of_succ_lt t_lt9
  have t_lt7 : t + 7 < jN (jG0 sc) := Nat.lt_of_succ_lt t_lt8
  have t_lt6 : t + 6 < jN (jG0 sc) := Nat.lt_of_succ_lt t_lt7
  have t_lt5 : t + 5 < jN (jG0 sc) := Nat.lt_of_succ_lt t_lt6
  have t_lt4 : t + 4 < jN (jG0 sc) := Nat.lt_of_succ_lt t_lt5
  have t_lt3 : t + 3 < jN (jG0 sc) := Nat.lt_of_succ_lt t_lt4
  have t_lt2 : t + 2 < jN (jG0 sc) := Nat.lt_of_succ_lt t_lt3
  have t_lt1 : t + 1 < jN (jG0 sc) := Nat.lt_of_succ_lt t_lt2
  have t_lt0 : t + 0 < jN (jG0 sc) := Nat.lt_of_succ_lt t_lt1
  refine j_aload_n (i := 0) rfl dX6_pushBody_17 ?_
  refine j_getR (idx := 46) (ci := 6) (k := 6) (nest := false) (show (6, 46, 6, 6, false) ∈ jFT by decide) rfl (t_lt0) t_K0 (a := (t + 17)) t_R0_6 dX6_pushBody_18 ?_
  refine j_iload_n (i := 1) rfl dX6_pushBody_21 ?_
  refine j_iconst (n := 1) 1 (by decide) dX6_pushBody_22 ?_
  refine j_isub dX6_pushBody_23 ?_
  refine j_aald (t_lt17) t_K17 (by rw [show jL (jG0 sc) (t + 17) = 6 from t_L17]; exact o1) (a := q1) o2 dX6_pushBody_24 ?_
  obtain ⟨q1_lt1, q1_K0, q1_R0_0, q1_K1, q1_L1⟩ := o3
  have q1_lt0 : q1 + 0 < jN (jG0 sc) := Nat.lt_of_succ_lt q1_lt1
  refine j_aload_n (i := 0) rfl dX6_pushBody_25 ?_
  refine j_getR (idx := 46) (ci := 6) (k := 6) (nest := false) (show (6, 46, 6, 6, false) ∈ jFT by decide) rfl (t_lt0) t_K0 (a := (t + 17)) t_R0_6 dX6_pushBody_26 ?_
  refine j_iload_n (i := 1) rfl dX6_pushBody_29 ?_
  refine j_aald (t_lt17) t_K17 (by rw [show jL (jG0 sc) (t + 17) = 6 from t_L17]; exact o4) (a := q2) o5 dX6_pushBody_30 ?_
  obtain ⟨q2_lt1, q2_K0, q2_R0_0, q2_K1, q2_L1⟩ := o6
  have q2_lt0 : q2 + 0 < jN (jG0 sc) := Nat.lt_of_succ_lt q2_lt1
  refine j_callVN (idx := 57) (As := [.ref q2]) (ci := 4) (n := 1) k1 jvoid_nt (jTbl (jtb3 88 rfl)) sX4_copyOf kX4_copyOf rfl ⟨rfl, by decide +kernel, by decide +kernel, by decide +kernel⟩ rfl ⟨by decide, by decide⟩ (q1_lt0) q1_K0 (Nat.le_of_ble_eq_true rfl) (Nat.le_of_ble_eq_true rfl) ⟨Nat.zero_le _, Nat.zero_le _⟩ dX6_pushBody_31 (fun r Γ' h3 q => ?_)
  obtain ⟨q0, rfl, p3⟩ := q; cases q0
  refine j_eqst [] (by rfl) ?_
  refine j_iinc (i := 1) (n := 1) rfl dX6_pushBody_34 (Nat.le_of_ble_eq_true rfl) ?_
  refine j_eqlv [some (.ref t), some (.int (l1 + 1))] rfl ?_
  refine j_goto (off := -26) 11 dX6_pushBody_37 (by decide) ?_
  exact j_le [some (.ref t), some (.int (l1 + 1))] (And.intro rfl (And.intro rfl True.intro)) (v1 h3 p3)
set_option maxRecDepth 100000 in
theorem bX6_pushBody_40 {sc : Nat × (Nat → Int32)} {h : jH} {Q : jQ} {t : Nat} {l1 : Int32} (t_h : jI6 t)
    (v1 : WP mX6_pushBody Q 50 [some (.ref t), none] [] (jG0 sc) (jput h t 7 ((h t 7) - 1)) (0, 0)) :
    WP mX6_pushBody Q 40 [some (.ref t), some (.int l1)] [] (jG0 sc) h (0, 0) := by
  obtain ⟨t_lt29, t_K0, t_R0_0, t_R0_1, t_R0_2, t_R0_3, t_R0_4, t_R0_5, t_R0_6, t_K16, t_L16, t_K17, t_L17, t_K1, t_K3, t_K5, t_K9, t_K11⟩ := t_h
  have t_lt28 : t + 28 < jN (jG0 sc) := Nat.lt_of_succ_lt t_lt29
  have t_lt27 : t + 27 < jN (jG0 sc) := Nat.lt_of_succ_lt t_lt28
  have t_lt26 : t + 26 < jN (jG0 sc) := Nat.lt_of_succ_lt t_lt27
  have t_lt25 : t + 25 < jN (jG0 sc) := Nat.lt_of_succ_lt t_lt26
  have t_lt24 : t + 24 < jN (jG0 sc) := Nat.lt_of_succ_lt t_lt25
  have t_lt23 : t + 23 < jN (jG0 sc) := Nat.lt_of_succ_lt t_lt24
  have t_lt22 : t + 22 < jN (jG0 sc) := Nat.lt_of_succ_lt t_lt23
  have t_lt21 : t + 21 < jN (jG0 sc) := Nat.lt_of_succ_lt t_lt22
  have t_lt20 : t + 20 < jN (jG0 sc) := Nat.lt_of_succ_lt t_lt21
  have t_lt19 : t + 19 < jN (jG0 sc) := Nat.lt_of_succ_lt t_lt20
  have t_lt18 : t + 18 < jN (jG0 sc) := Nat.lt_of_succ_lt t_lt19
  have t_lt17 : t + 17 < jN (jG0 sc) := Nat.lt_of_succ_lt t_lt18
  have t_lt16 : t + 16 < jN (jG0 sc) := Nat.lt_of_succ_lt t_lt17
  have t_lt15 : t + 15 < jN (jG0 sc) := Nat.lt_of_succ_lt t_lt16
  have t_lt14 : t + 14 < jN (jG0 sc) := Nat.lt_of_succ_lt t_lt15
  have t_lt13 : t + 13 < jN (jG0 sc) := Nat.lt_of_succ_lt t_lt14
  have t_lt12 : t + 12 < jN (jG0 sc) := Nat.lt_of_succ_lt t_lt13
  have t_lt11 : t + 11 < jN (jG0 sc) := Nat.lt_of_succ_lt t_lt12
  have t_lt10 : t + 10 < jN (jG0 sc) := Nat.lt_of_succ_lt t_lt11
  have t_lt9 : t + 9 < jN (jG0 sc) := Nat.lt_of_succ_lt t_lt10
  have t_lt8 : t + 8 < jN (jG0 sc) := Nat.lt_of_succ_lt t_lt9
  have t_lt7 : t + 7 < jN (jG0 sc) := Nat.lt_of_succ_lt t_lt8
  have t_lt6 : t + 6 < jN (jG0 sc) := Nat.lt_of_succ_lt t_lt7
  have t_lt5 : t + 5 < jN (jG0 sc) := Nat.lt_of_succ_lt t_lt6
  have t_lt4 : t + 4 < jN (jG0 sc) := Nat.lt_of_succ_lt t_lt5
  have t_lt3 : t + 3 < jN (jG0 sc) := Nat.lt_of_succ_lt t_lt4
  have t_lt2 : t + 2 < jN (jG0 sc) := Nat.lt_of_succ_lt t_lt3
  have t_lt1 : t + 1 < jN (jG0 sc) := Nat.lt_of_succ_lt t_lt2
  have t_lt0 : t + 0 < jN (jG0 sc) := Nat.lt_of_succ_lt t_lt1
  refine j_aload_n (i := 0) rfl dX6_pushBody_40 ?_
  refine j_dup rfl dX6_pushBody_41 ?_
  refine j_getI (idx := 54) (ci := 6) (k := 7) (nest := false) (show (6, 54, 6, 7, false) ∈ jFT by decide) rfl (t_lt0) t_K0 dX6_pushBody_42 ?_
  refine j_iconst (n := 1) 1 (by decide) dX6_pushBody_45 ?_
  refine j_isub dX6_pushBody_46 ?_
  refine j_putI (idx := 54) (ci := 6) (k := 7) (nest := false) (show (6, 54, 6, 7, false) ∈ jFT by decide) rfl rfl rfl rfl (t_lt0) t_K0 dX6_pushBody_47 ?_
  exact j_le [some (.ref t), none] (And.intro rfl True.intro) v1
set_option maxRecDepth 100000 in
theorem bX6_pushBody_50 {sc : Nat × (Nat → Int32)} {h : jH} {Q : jQ} {t : Nat} (t_h : jI6 t)
    (v1 : (h t 7) < 0 → WP mX6_pushBody Q 92 [some (.ref t), none] [] (jG0 sc) h (0, 0))
    (v2 : ¬ (h t 7) < 0 → WP mX6_pushBody Q 57 [some (.ref t), none] [] (jG0 sc) h (0, 0)) :
    WP mX6_pushBody Q 50 [some (.ref t), none] [] (jG0 sc) h (0, 0) := by
  obtain ⟨t_lt29, t_K0, t_R0_0, t_R0_1, t_R0_2, t_R0_3, t_R0_4, t_R0_5, t_R0_6, t_K16, t_L16, t_K17, t_L17, t_K1, t_K3, t_K5, t_K9, t_K11⟩ := t_h
  have t_lt28 : t + 28 < jN (jG0 sc) := Nat.lt_of_succ_lt t_lt29
  have t_lt27 : t + 27 < jN (jG0 sc) := Nat.lt_of_succ_lt t_lt28
  have t_lt26 : t + 26 < jN (jG0 sc) := Nat.lt_of_succ_lt t_lt27
  have t_lt25 : t + 25 < jN (jG0 sc) := Nat.lt_of_succ_lt t_lt26
  have t_lt24 : t + 24 < jN (jG0 sc) := Nat.lt_of_succ_lt t_lt25
  have t_lt23 : t + 23 < jN (jG0 sc) := Nat.lt_of_succ_lt t_lt24
  have t_lt22 : t + 22 < jN (jG0 sc) := Nat.lt_of_succ_lt t_lt23
  have t_lt21 : t + 21 < jN (jG0 sc) := Nat.lt_of_succ_lt t_lt22
  have t_lt20 : t + 20 < jN (jG0 sc) := Nat.lt_of_succ_lt t_lt21
  have t_lt19 : t + 19 < jN (jG0 sc) := Nat.lt_of_succ_lt t_lt20
  have t_lt18 : t + 18 < jN (jG0 sc) := Nat.lt_of_succ_lt t_lt19
  have t_lt17 : t + 17 < jN (jG0 sc) := Nat.lt_of_succ_lt t_lt18
  have t_lt16 : t + 16 < jN (jG0 sc) := Nat.lt_of_succ_lt t_lt17
  have t_lt15 : t + 15 < jN (jG0 sc) := Nat.lt_of_succ_lt t_lt16
  have t_lt14 : t + 14 < jN (jG0 sc) := Nat.lt_of_succ_lt t_lt15
  have t_lt13 : t + 13 < jN (jG0 sc) := Nat.lt_of_succ_lt t_lt14
  have t_lt12 : t + 12 < jN (jG0 sc) := Nat.lt_of_succ_lt t_lt13
  have t_lt11 : t + 11 < jN (jG0 sc) := Nat.lt_of_succ_lt t_lt12
  have t_lt10 : t + 10 < jN (jG0 sc) := Nat.lt_of_succ_lt t_lt11
  have t_lt9 : t + 9 < jN (jG0 sc) := Nat.lt_of_succ_lt t_lt10
  have t_lt8 : t + 8 < jN (jG0 sc) := Nat.lt_of_succ_lt t_lt9
  have t_lt7 : t + 7 < jN (jG0 sc) := Nat.lt_of_succ_lt t_lt8
  have t_lt6 : t + 6 < jN (jG0 sc) := Nat.lt_of_succ_lt t_lt7
  have t_lt5 : t + 5 < jN (jG0 sc) := Nat.lt_of_succ_lt t_lt6
  have t_lt4 : t + 4 < jN (jG0 sc) := Nat.lt_of_succ_lt t_lt5
  have t_lt3 : t + 3 < jN (jG0 sc) := Nat.lt_of_succ_lt t_lt4
  have t_lt2 : t + 2 < jN (jG0 sc) := Nat.lt_of_succ_lt t_lt3
  have t_lt1 : t + 1 < jN (jG0 sc) := Nat.lt_of_succ_lt t_lt2
  have t_lt0 : t + 0 < jN (jG0 sc) := Nat.lt_of_succ_lt t_lt1
  refine j_aload_n (i := 0) rfl dX6_pushBody_50 ?_
  refine j_getI (idx := 54) (ci := 6) (k := 7) (nest := false) (show (6, 54, 6, 7, false) ∈ jFT by decide) rfl (t_lt0) t_K0 dX6_pushBody_51 ?_
  refine j_if_lt (off := 38) 92 dX6_pushBody_54 (by decide) (fun c1 => ?_) (fun c1 => ?_)
  · exact j_le [some (.ref t), none] (And.intro rfl True.intro) (v1 c1)
  · exact j_le [some (.ref t), none] (And.intro rfl True.intro) (v2 c1)
set_option maxRecDepth 100000 in
theorem bX6_pushBody_57 {sc : Nat × (Nat → Int32)} {h : jH} {Q : jQ} {t : Nat} (t_h : jI6 t)
    (v1 : 6 ≤ (h t 7) → WP mX6_pushBody Q 92 [some (.ref t), none] [] (jG0 sc) h (0, 0))
    (v2 : ¬ 6 ≤ (h t 7) → WP mX6_pushBody Q 66 [some (.ref t), none] [] (jG0 sc) h (0, 0)) :
    WP mX6_pushBody Q 57 [some (.ref t), none] [] (jG0 sc) h (0, 0) := by
  obtain ⟨t_lt29, t_K0, t_R0_0, t_R0_1, t_R0_2, t_R0_3, t_R0_4, t_R0_5, t_R0_6, t_K16, t_L16, t_K17, t_L17, t_K1, t_K3, t_K5, t_K9, t_K11⟩ := t_h
  have t_lt28 : t + 28 < jN (jG0 sc) := Nat.lt_of_succ_lt t_lt29
  have t_lt27 : t + 27 < jN (jG0 sc) := Nat.lt_of_succ_lt t_lt28
  have t_lt26 : t + 26 < jN (jG0 sc) := Nat.lt_of_succ_lt t_lt27
  have t_lt25 : t + 25 < jN (jG0 sc) := Nat.lt_of_succ_lt t_lt26
  have t_lt24 : t + 24 < jN (jG0 sc) := Nat.lt_of_succ_lt t_lt25
  have t_lt23 : t + 23 < jN (jG0 sc) := Nat.lt_of_succ_lt t_lt24
  have t_lt22 : t + 22 < jN (jG0 sc) := Nat.lt_of_succ_lt t_lt23
  have t_lt21 : t + 21 < jN (jG0 sc) := Nat.lt_of_succ_lt t_lt22
  have t_lt20 : t + 20 < jN (jG0 sc) := Nat.lt_of_succ_lt t_lt21
  have t_lt19 : t + 19 < jN (jG0 sc) := Nat.lt_of_succ_lt t_lt20
  have t_lt18 : t + 18 < jN (jG0 sc) := Nat.lt_of_succ_lt t_lt19
  have t_lt17 : t + 17 < jN (jG0 sc) := Nat.lt_of_succ_lt t_lt18
  have t_lt16 : t + 16 < jN (jG0 sc) := Nat.lt_of_succ_lt t_lt17
  have t_lt15 : t + 15 < jN (jG0 sc) := Nat.lt_of_succ_lt t_lt16
  have t_lt14 : t + 14 < jN (jG0 sc) := Nat.lt_of_succ_lt t_lt15
  have t_lt13 : t + 13 < jN (jG0 sc) := Nat.lt_of_succ_lt t_lt14
  have t_lt12 : t + 12 < jN (jG0 sc) := Nat.lt_of_succ_lt t_lt13
  have t_lt11 : t + 11 < jN (jG0 sc) := Nat.lt_of_succ_lt t_lt12
  have t_lt10 : t + 10 < jN (jG0 sc) := Nat.lt_of_succ_lt t_lt11
  have t_lt9 : t + 9 < jN (jG0 sc) := Nat.lt_of_succ_lt t_lt10
  have t_lt8 : t + 8 < jN (jG0 sc) := Nat.lt_of_succ_lt t_lt9
  have t_lt7 : t + 7 < jN (jG0 sc) := Nat.lt_of_succ_lt t_lt8
  have t_lt6 : t + 6 < jN (jG0 sc) := Nat.lt_of_succ_lt t_lt7
  have t_lt5 : t + 5 < jN (jG0 sc) := Nat.lt_of_succ_lt t_lt6
  have t_lt4 : t + 4 < jN (jG0 sc) := Nat.lt_of_succ_lt t_lt5
  have t_lt3 : t + 3 < jN (jG0 sc) := Nat.lt_of_succ_lt t_lt4
  have t_lt2 : t + 2 < jN (jG0 sc) := Nat.lt_of_succ_lt t_lt3
  have t_lt1 : t + 1 < jN (jG0 sc) := Nat.lt_of_succ_lt t_lt2
  have t_lt0 : t + 0 < jN (jG0 sc) := Nat.lt_of_succ_lt t_lt1
  refine j_aload_n (i := 0) rfl dX6_pushBody_57 ?_
  refine j_getI (idx := 54) (ci := 6) (k := 7) (nest := false) (show (6, 54, 6, 7, false) ∈ jFT by decide) rfl (t_lt0) t_K0 dX6_pushBody_58 ?_
  refine j_bipush (n := 6) 6 (by decide) dX6_pushBody_61 ?_
  refine j_icmp_ge (off := 29) 92 dX6_pushBody_63 (by decide) (fun c1 => ?_) (fun c1 => ?_)
  · exact j_le [some (.ref t), none] (And.intro rfl True.intro) (v1 c1)
  · exact j_le [some (.ref t), none] (And.intro rfl True.intro) (v2 c1)
set_option maxRecDepth 100000 in
theorem bX6_pushBody_66 {sc : Nat × (Nat → Int32)} {h : jH} {Q : jQ} {t : Nat} {q1 : Nat} {P1 : jH → Prop} (t_h : jI6 t)
    (o1 : vp_in (h t 7) 6)
    (o2 : (jRt.getD (t + 17) []).getD (h t 7).toNatClampNeg none = some q1)
    (o3 : jI4 q1)
    (k1 : JM mX4_copyOf [.ref q1, .ref (t + 1)] (jG0 sc) h (jvoid sc P1))
    (v1 : ∀ h2 : jH, P1 h2 → WP mX6_pushBody Q 92 [some (.ref t), none] [] (jG0 sc) (jput h2 t 7 ((h2 t 7) + 1)) (0, 0)) :
    WP mX6_pushBody Q 66 [some (.ref t), none] [] (jG0 sc) h (0, 0) := by
  obtain ⟨t_lt29, t_K0, t_R0_0, t_R0_1, t_R0_2, t_R0_3, t_R0_4, t_R0_5, t_R0_6, t_K16, t_L16, t_K17, t_L17, t_K1, t_K3, t_K5, t_K9, t_K11⟩ := t_h
  have t_lt28 : t + 28 < jN (jG0 sc) := Nat.lt_of_succ_lt t_lt29
  have t_lt27 : t + 27 < jN (jG0 sc) := Nat.lt_of_succ_lt t_lt28
  have t_lt26 : t + 26 < jN (jG0 sc) := Nat.lt_of_succ_lt t_lt27
  have t_lt25 : t + 25 < jN (jG0 sc) := Nat.lt_of_succ_lt t_lt26
  have t_lt24 : t + 24 < jN (jG0 sc) := Nat.lt_of_succ_lt t_lt25
  have t_lt23 : t + 23 < jN (jG0 sc) := Nat.lt_of_succ_lt t_lt24
  have t_lt22 : t + 22 < jN (jG0 sc) := Nat.lt_of_succ_lt t_lt23
  have t_lt21 : t + 21 < jN (jG0 sc) := Nat.lt_of_succ_lt t_lt22
  have t_lt20 : t + 20 < jN (jG0 sc) := Nat.lt_of_succ_lt t_lt21
  have t_lt19 : t + 19 < jN (jG0 sc) := Nat.lt_of_succ_lt t_lt20
  have t_lt18 : t + 18 < jN (jG0 sc) := Nat.lt_of_succ_lt t_lt19
  have t_lt17 : t + 17 < jN (jG0 sc) := Nat.lt_of_succ_lt t_lt18
  have t_lt16 : t + 16 < jN (jG0 sc) := Nat.lt_of_succ_lt t_lt17
  have t_lt15 : t + 15 < jN (jG0 sc) := Nat.lt_of_succ_lt t_lt16
  have t_lt14 : t + 14 < jN (jG0 sc) := Nat.lt_of_succ_lt t_lt15
  have t_lt13 : t + 13 < jN (jG0 sc) := Nat.lt_of_succ_lt t_lt14
  have t_lt12 : t + 12 < jN (jG0 sc) := Nat.lt_of_succ_lt t_lt13
  have t_lt11 : t + 11 < jN (jG0 sc) := Nat.lt_of_succ_lt t_lt12
  have t_lt10 : t + 10 < jN (jG0 sc) := Nat.lt_of_succ_lt t_lt11
  have t_lt9 : t + 9 < jN (jG0 sc) := Nat.lt_of_succ_lt t_lt10
  have t_lt8 : t + 8 < jN (jG0 sc) := Nat.lt_of_succ_lt t_lt9
  have t_lt7 : t + 7 < jN (jG0 sc) := Nat.lt_of_succ_lt t_lt8
  have t_lt6 : t + 6 < jN (jG0 sc) := Nat.lt_of_succ_lt t_lt7
  have t_lt5 : t + 5 < jN (jG0 sc) := Nat.lt_of_succ_lt t_lt6
  have t_lt4 : t + 4 < jN (jG0 sc) := Nat.lt_of_succ_lt t_lt5
  have t_lt3 : t + 3 < jN (jG0 sc) := Nat.lt_of_succ_lt t_lt4
  have t_lt2 : t + 2 < jN (jG0 sc) := Nat.lt_of_succ_lt t_lt3
  have t_lt1 : t + 1 < jN (jG0 sc) := Nat.lt_of_succ_lt t_lt2
  have t_lt0 : t + 0 < jN (jG0 sc) := Nat.lt_of_succ_lt t_lt1
  refine j_aload_n (i := 0) rfl dX6_pushBody_66 ?_
  refine j_getR (idx := 46) (ci := 6) (k := 6) (nest := false) (show (6, 46, 6, 6, false) ∈ jFT by decide) rfl (t_lt0) t_K0 (a := (t + 17)) t_R0_6 dX6_pushBody_67 ?_
  refine j_aload_n (i := 0) rfl dX6_pushBody_70 ?_
  refine j_getI (idx := 54) (ci := 6) (k := 7) (nest := false) (show (6, 54, 6, 7, false) ∈ jFT by decide) rfl (t_lt0) t_K0 dX6_pushBody_71 ?_
  refine j_aald (t_lt17) t_K17 (by rw [show jL (jG0 sc) (t + 17) = 6 from t_L17]; exact o1) (a := q1) o2 dX6_pushBody_74 ?_
  obtain ⟨q1_lt1, q1_K0, q1_R0_0, q1_K1, q1_L1⟩ := o3
  have q1_lt0 : q1 + 0 < jN (jG0 sc) := Nat.lt_of_succ_lt q1_lt1
  refine j_aload_n (i := 0) rfl dX6_pushBody_75 ?_
  refine j_getR (idx := 12) (ci := 6) (k := 0) (nest := false) (show (6, 12, 6, 0, false) ∈ jFT by decide) rfl (t_lt0) t_K0 (a := (t + 1)) t_R0_0 dX6_pushBody_76 ?_
  refine j_callVN (idx := 57) (As := [.ref (t + 1)]) (ci := 4) (n := 1) k1 jvoid_nt (jTbl (jtb3 88 rfl)) sX4_copyOf kX4_copyOf rfl ⟨rfl, by decide +kernel, by decide +kernel, by decide +kernel⟩ rfl ⟨by decide, by decide⟩ (q1_lt0) q1_K0 (Nat.le_of_ble_eq_true rfl) (Nat.le_of_ble_eq_true rfl) ⟨Nat.zero_le _, Nat.zero_le _⟩ dX6_pushBody_79 (fun r Γ' h2 q => ?_)
  obtain ⟨q0, rfl, p2⟩ := q; cases q0
  refine j_eqst [] (by rfl) ?_
  refine j_aload_n (i := 0) rfl dX6_pushBody_82 ?_
  refine j_dup rfl dX6_pushBody_83 ?_
  refine j_getI (idx := 54) (ci := 6) (k := 7) (nest := false) (show (6, 54, 6, 7, false) ∈ jFT by decide) rfl (t_lt0) t_K0 dX6_pushBody_84 ?_
  refine j_iconst (n := 1) 1 (by decide) dX6_pushBody_87 ?_
  refine j_iadd dX6_pushBody_88 ?_
  refine j_putI (idx := 54) (ci := 6) (k := 7) (nest := false) (show (6, 54, 6, 7, false) ∈ jFT by decide) rfl rfl rfl rfl (t_lt0) t_K0 dX6_pushBody_89 ?_
  exact j_le [some (.ref t), none] (And.intro rfl True.intro) (v1 h2 p2)
set_option maxRecDepth 100000 in
theorem bX6_pushBody_92 {sc : Nat × (Nat → Int32)} {h : jH} {Q : jQ} {t : Nat} (t_h : jI6 t)
    (v1 : Q (.inl none) (jG0 sc) h) :
    WP mX6_pushBody Q 92 [some (.ref t), none] [] (jG0 sc) h (0, 0) := by
  obtain ⟨t_lt29, t_K0, t_R0_0, t_R0_1, t_R0_2, t_R0_3, t_R0_4, t_R0_5, t_R0_6, t_K16, t_L16, t_K17, t_L17, t_K1, t_K3, t_K5, t_K9, t_K11⟩ := t_h
  have t_lt28 : t + 28 < jN (jG0 sc) := Nat.lt_of_succ_lt t_lt29
  have t_lt27 : t + 27 < jN (jG0 sc) := Nat.lt_of_succ_lt t_lt28
  have t_lt26 : t + 26 < jN (jG0 sc) := Nat.lt_of_succ_lt t_lt27
  have t_lt25 : t + 25 < jN (jG0 sc) := Nat.lt_of_succ_lt t_lt26
  have t_lt24 : t + 24 < jN (jG0 sc) := Nat.lt_of_succ_lt t_lt25
  have t_lt23 : t + 23 < jN (jG0 sc) := Nat.lt_of_succ_lt t_lt24
  have t_lt22 : t + 22 < jN (jG0 sc) := Nat.lt_of_succ_lt t_lt23
  have t_lt21 : t + 21 < jN (jG0 sc) := Nat.lt_of_succ_lt t_lt22
  have t_lt20 : t + 20 < jN (jG0 sc) := Nat.lt_of_succ_lt t_lt21
  have t_lt19 : t + 19 < jN (jG0 sc) := Nat.lt_of_succ_lt t_lt20
  have t_lt18 : t + 18 < jN (jG0 sc) := Nat.lt_of_succ_lt t_lt19
  have t_lt17 : t + 17 < jN (jG0 sc) := Nat.lt_of_succ_lt t_lt18
  have t_lt16 : t + 16 < jN (jG0 sc) := Nat.lt_of_succ_lt t_lt17
  have t_lt15 : t + 15 < jN (jG0 sc) := Nat.lt_of_succ_lt t_lt16
  have t_lt14 : t + 14 < jN (jG0 sc) := Nat.lt_of_succ_lt t_lt15
  have t_lt13 : t + 13 < jN (jG0 sc) := Nat.lt_of_succ_lt t_lt14
  have t_lt12 : t + 12 < jN (jG0 sc) := Nat.lt_of_succ_lt t_lt13
  have t_lt11 : t + 11 < jN (jG0 sc) := Nat.lt_of_succ_lt t_lt12
  have t_lt10 : t + 10 < jN (jG0 sc) := Nat.lt_of_succ_lt t_lt11
  have t_lt9 : t + 9 < jN (jG0 sc) := Nat.lt_of_succ_lt t_lt10
  have t_lt8 : t + 8 < jN (jG0 sc) := Nat.lt_of_succ_lt t_lt9
  have t_lt7 : t + 7 < jN (jG0 sc) := Nat.lt_of_succ_lt t_lt8
  have t_lt6 : t + 6 < jN (jG0 sc) := Nat.lt_of_succ_lt t_lt7
  have t_lt5 : t + 5 < jN (jG0 sc) := Nat.lt_of_succ_lt t_lt6
  have t_lt4 : t + 4 < jN (jG0 sc) := Nat.lt_of_succ_lt t_lt5
  have t_lt3 : t + 3 < jN (jG0 sc) := Nat.lt_of_succ_lt t_lt4
  have t_lt2 : t + 2 < jN (jG0 sc) := Nat.lt_of_succ_lt t_lt3
  have t_lt1 : t + 1 < jN (jG0 sc) := Nat.lt_of_succ_lt t_lt2
  have t_lt0 : t + 0 < jN (jG0 sc) := Nat.lt_of_succ_lt t_lt1
  exact j_vret rfl (Nat.zero_le _) (Nat.zero_le _) dX6_pushBody_92 v1
set_option maxRecDepth 100000 in
theorem rX6_pushBody_0 {sc : Nat × (Nat → Int32)} {h : jH} {Q : jQ} {t : Nat} {q1 : Nat} {P1 : jH → Prop} (t_h : jI6 t)
    (v1 : ¬ (h t 7) = 6 → (h t 7) < 0 → Q (.inl none) (jG0 sc) h)
    (v2 : ¬ (h t 7) = 6 → ¬ (h t 7) < 0 → 6 ≤ (h t 7) → Q (.inl none) (jG0 sc) h)
    (o1 : ¬ (h t 7) = 6 → ¬ (h t 7) < 0 → ¬ 6 ≤ (h t 7) → vp_in (h t 7) 6)
    (o2 : ¬ (h t 7) = 6 → ¬ (h t 7) < 0 → ¬ 6 ≤ (h t 7) → (jRt.getD (t + 17) []).getD (h t 7).toNatClampNeg none = some q1)
    (o3 : ¬ (h t 7) = 6 → ¬ (h t 7) < 0 → ¬ 6 ≤ (h t 7) → jI4 q1)
    (k1 : ¬ (h t 7) = 6 → ¬ (h t 7) < 0 → ¬ 6 ≤ (h t 7) → JM mX4_copyOf [.ref q1, .ref (t + 1)] (jG0 sc) h (jvoid sc P1))
    (v3 : ¬ (h t 7) = 6 → ¬ (h t 7) < 0 → ¬ 6 ≤ (h t 7) → ∀ h2 : jH, P1 h2 → Q (.inl none) (jG0 sc) (jput h2 t 7 ((h2 t 7) + 1)))
    (v4 : (h t 7) = 6 → WP mX6_pushBody Q 11 [some (.ref t), some (.int 1)] [] (jG0 sc) h (0, 0)) :
    WP mX6_pushBody Q 0 [some (.ref t), none] [] (jG0 sc) h (0, 0) := by
  exact (bX6_pushBody_0 t_h (fun c1 => (bX6_pushBody_50 t_h (fun c2 => (bX6_pushBody_92 t_h (v1 c1 c2))) (fun c2 => (bX6_pushBody_57 t_h (fun c3 => (bX6_pushBody_92 t_h (v2 c1 c2 c3))) (fun c3 => (bX6_pushBody_66 t_h (o1 c1 c2 c3) (o2 c1 c2 c3) (o3 c1 c2 c3) (k1 c1 c2 c3) (fun h2 p2 => (bX6_pushBody_92 t_h (v3 c1 c2 c3 h2 p2))))))))) (fun c1 => (bX6_pushBody_9 t_h (v4 c1))))
set_option maxRecDepth 100000 in
theorem rX6_pushBody_11 {sc : Nat × (Nat → Int32)} {h : jH} {Q : jQ} {t : Nat} {l1 : Int32} {q1 : Nat} {P1 : jH → Prop} {q3 : Nat} {q4 : Nat} {P2 : jH → Prop} (t_h : jI6 t)
    (v1 : 6 ≤ l1 → ((jput h t 7 ((h t 7) - 1)) t 7) < 0 → Q (.inl none) (jG0 sc) (jput h t 7 ((h t 7) - 1)))
    (v2 : 6 ≤ l1 → ¬ ((jput h t 7 ((h t 7) - 1)) t 7) < 0 → 6 ≤ ((jput h t 7 ((h t 7) - 1)) t 7) → Q (.inl none) (jG0 sc) (jput h t 7 ((h t 7) - 1)))
    (o1 : 6 ≤ l1 → ¬ ((jput h t 7 ((h t 7) - 1)) t 7) < 0 → ¬ 6 ≤ ((jput h t 7 ((h t 7) - 1)) t 7) → vp_in ((jput h t 7 ((h t 7) - 1)) t 7) 6)
    (o2 : 6 ≤ l1 → ¬ ((jput h t 7 ((h t 7) - 1)) t 7) < 0 → ¬ 6 ≤ ((jput h t 7 ((h t 7) - 1)) t 7) → (jRt.getD (t + 17) []).getD ((jput h t 7 ((h t 7) - 1)) t 7).toNatClampNeg none = some q1)
    (o3 : 6 ≤ l1 → ¬ ((jput h t 7 ((h t 7) - 1)) t 7) < 0 → ¬ 6 ≤ ((jput h t 7 ((h t 7) - 1)) t 7) → jI4 q1)
    (k1 : 6 ≤ l1 → ¬ ((jput h t 7 ((h t 7) - 1)) t 7) < 0 → ¬ 6 ≤ ((jput h t 7 ((h t 7) - 1)) t 7) → JM mX4_copyOf [.ref q1, .ref (t + 1)] (jG0 sc) (jput h t 7 ((h t 7) - 1)) (jvoid sc P1))
    (v3 : 6 ≤ l1 → ¬ ((jput h t 7 ((h t 7) - 1)) t 7) < 0 → ¬ 6 ≤ ((jput h t 7 ((h t 7) - 1)) t 7) → ∀ h2 : jH, P1 h2 → Q (.inl none) (jG0 sc) (jput h2 t 7 ((h2 t 7) + 1)))
    (o4 : ¬ 6 ≤ l1 → vp_in (l1 - 1) 6)
    (o5 : ¬ 6 ≤ l1 → (jRt.getD (t + 17) []).getD (l1 - 1).toNatClampNeg none = some q3)
    (o6 : ¬ 6 ≤ l1 → jI4 q3)
    (o7 : ¬ 6 ≤ l1 → vp_in l1 6)
    (o8 : ¬ 6 ≤ l1 → (jRt.getD (t + 17) []).getD l1.toNatClampNeg none = some q4)
    (o9 : ¬ 6 ≤ l1 → jI4 q4)
    (k2 : ¬ 6 ≤ l1 → JM mX4_copyOf [.ref q3, .ref q4] (jG0 sc) h (jvoid sc P2))
    (v4 : ¬ 6 ≤ l1 → ∀ h5 : jH, P2 h5 → WP mX6_pushBody Q 11 [some (.ref t), some (.int (l1 + 1))] [] (jG0 sc) h5 (0, 0)) :
    WP mX6_pushBody Q 11 [some (.ref t), some (.int l1)] [] (jG0 sc) h (0, 0) := by
  exact (bX6_pushBody_11 t_h (fun c1 => (bX6_pushBody_40 t_h (bX6_pushBody_50 t_h (fun c2 => (bX6_pushBody_92 t_h (v1 c1 c2))) (fun c2 => (bX6_pushBody_57 t_h (fun c3 => (bX6_pushBody_92 t_h (v2 c1 c2 c3))) (fun c3 => (bX6_pushBody_66 t_h (o1 c1 c2 c3) (o2 c1 c2 c3) (o3 c1 c2 c3) (k1 c1 c2 c3) (fun h2 p2 => (bX6_pushBody_92 t_h (v3 c1 c2 c3 h2 p2)))))))))) (fun c1 => (bX6_pushBody_17 t_h (o4 c1) (o5 c1) (o6 c1) (o7 c1) (o8 c1) (o9 c1) (k2 c1) (fun h5 p5 => (v4 c1 h5 p5)))))
theorem dX6_popBody_0 : decode (mC mX6_popBody) 0 = .ok (.aload_n 0, 1) := by decide +kernel
theorem dX6_popBody_1 : decode (mC mX6_popBody) 1 = .ok (.getfield 54, 3) := by decide +kernel
theorem dX6_popBody_4 : decode (mC mX6_popBody) 4 = .ok (.ifCond .le 12, 3) := by decide +kernel
theorem dX6_popBody_7 : decode (mC mX6_popBody) 7 = .ok (.aload_n 0, 1) := by decide +kernel
theorem dX6_popBody_8 : decode (mC mX6_popBody) 8 = .ok (.getfield 54, 3) := by decide +kernel
theorem dX6_popBody_11 : decode (mC mX6_popBody) 11 = .ok (.bipush 6, 2) := by decide +kernel
theorem dX6_popBody_13 : decode (mC mX6_popBody) 13 = .ok (.if_icmp .le 5, 3) := by decide +kernel
theorem dX6_popBody_16 : decode (mC mX6_popBody) 16 = .ok (.iconst 0, 1) := by decide +kernel
theorem dX6_popBody_17 : decode (mC mX6_popBody) 17 = .ok (.ireturn, 1) := by decide +kernel
theorem dX6_popBody_18 : decode (mC mX6_popBody) 18 = .ok (.aload_n 0, 1) := by decide +kernel
theorem dX6_popBody_19 : decode (mC mX6_popBody) 19 = .ok (.dup, 1) := by decide +kernel
theorem dX6_popBody_20 : decode (mC mX6_popBody) 20 = .ok (.getfield 54, 3) := by decide +kernel
theorem dX6_popBody_23 : decode (mC mX6_popBody) 23 = .ok (.iconst 1, 1) := by decide +kernel
theorem dX6_popBody_24 : decode (mC mX6_popBody) 24 = .ok (.isub, 1) := by decide +kernel
theorem dX6_popBody_25 : decode (mC mX6_popBody) 25 = .ok (.putfield 54, 3) := by decide +kernel
theorem dX6_popBody_28 : decode (mC mX6_popBody) 28 = .ok (.aload_n 0, 1) := by decide +kernel
theorem dX6_popBody_29 : decode (mC mX6_popBody) 29 = .ok (.getfield 12, 3) := by decide +kernel
theorem dX6_popBody_32 : decode (mC mX6_popBody) 32 = .ok (.aload_n 0, 1) := by decide +kernel
theorem dX6_popBody_33 : decode (mC mX6_popBody) 33 = .ok (.getfield 46, 3) := by decide +kernel
theorem dX6_popBody_36 : decode (mC mX6_popBody) 36 = .ok (.aload_n 0, 1) := by decide +kernel
theorem dX6_popBody_37 : decode (mC mX6_popBody) 37 = .ok (.getfield 54, 3) := by decide +kernel
theorem dX6_popBody_40 : decode (mC mX6_popBody) 40 = .ok (.aaload, 1) := by decide +kernel
theorem dX6_popBody_41 : decode (mC mX6_popBody) 41 = .ok (.invokevirtual 57, 3) := by decide +kernel
theorem dX6_popBody_44 : decode (mC mX6_popBody) 44 = .ok (.iconst 1, 1) := by decide +kernel
theorem dX6_popBody_45 : decode (mC mX6_popBody) 45 = .ok (.ireturn, 1) := by decide +kernel
set_option maxRecDepth 100000 in
theorem bX6_popBody_0 {sc : Nat × (Nat → Int32)} {h : jH} {Q : jQ} {t : Nat} (t_h : jI6 t)
    (v1 : (h t 7) ≤ 0 → WP mX6_popBody Q 16 [some (.ref t)] [] (jG0 sc) h (0, 0))
    (v2 : ¬ (h t 7) ≤ 0 → WP mX6_popBody Q 7 [some (.ref t)] [] (jG0 sc) h (0, 0)) :
    WP mX6_popBody Q 0 [some (.ref t)] [] (jG0 sc) h (0, 0) := by
  obtain ⟨t_lt29, t_K0, t_R0_0, t_R0_1, t_R0_2, t_R0_3, t_R0_4, t_R0_5, t_R0_6, t_K16, t_L16, t_K17, t_L17, t_K1, t_K3, t_K5, t_K9, t_K11⟩ := t_h
  have t_lt28 : t + 28 < jN (jG0 sc) := Nat.lt_of_succ_lt t_lt29
  have t_lt27 : t + 27 < jN (jG0 sc) := Nat.lt_of_succ_lt t_lt28
  have t_lt26 : t + 26 < jN (jG0 sc) := Nat.lt_of_succ_lt t_lt27
  have t_lt25 : t + 25 < jN (jG0 sc) := Nat.lt_of_succ_lt t_lt26
  have t_lt24 : t + 24 < jN (jG0 sc) := Nat.lt_of_succ_lt t_lt25
  have t_lt23 : t + 23 < jN (jG0 sc) := Nat.lt_of_succ_lt t_lt24
  have t_lt22 : t + 22 < jN (jG0 sc) := Nat.lt_of_succ_lt t_lt23
  have t_lt21 : t + 21 < jN (jG0 sc) := Nat.lt_of_succ_lt t_lt22
  have t_lt20 : t + 20 < jN (jG0 sc) := Nat.lt_of_succ_lt t_lt21
  have t_lt19 : t + 19 < jN (jG0 sc) := Nat.lt_of_succ_lt t_lt20
  have t_lt18 : t + 18 < jN (jG0 sc) := Nat.lt_of_succ_lt t_lt19
  have t_lt17 : t + 17 < jN (jG0 sc) := Nat.lt_of_succ_lt t_lt18
  have t_lt16 : t + 16 < jN (jG0 sc) := Nat.lt_of_succ_lt t_lt17
  have t_lt15 : t + 15 < jN (jG0 sc) := Nat.lt_of_succ_lt t_lt16
  have t_lt14 : t + 14 < jN (jG0 sc) := Nat.lt_of_succ_lt t_lt15
  have t_lt13 : t + 13 < jN (jG0 sc) := Nat.lt_of_succ_lt t_lt14
  have t_lt12 : t + 12 < jN (jG0 sc) := Nat.lt_of_succ_lt t_lt13
  have t_lt11 : t + 11 < jN (jG0 sc) := Nat.lt_of_succ_lt t_lt12
  have t_lt10 : t + 10 < jN (jG0 sc) := Nat.lt_of_succ_lt t_lt11
  have t_lt9 : t + 9 < jN (jG0 sc) := Nat.lt_of_succ_lt t_lt10
  have t_lt8 : t + 8 < jN (jG0 sc) := Nat.lt_of_succ_lt t_lt9
  have t_lt7 : t + 7 < jN (jG0 sc) := Nat.lt_of_succ_lt t_lt8
  have t_lt6 : t + 6 < jN (jG0 sc) := Nat.lt_of_succ_lt t_lt7
  have t_lt5 : t + 5 < jN (jG0 sc) := Nat.lt_of_succ_lt t_lt6
  have t_lt4 : t + 4 < jN (jG0 sc) := Nat.lt_of_succ_lt t_lt5
  have t_lt3 : t + 3 < jN (jG0 sc) := Nat.lt_of_succ_lt t_lt4
  have t_lt2 : t + 2 < jN (jG0 sc) := Nat.lt_of_succ_lt t_lt3
  have t_lt1 : t + 1 < jN (jG0 sc) := Nat.lt_of_succ_lt t_lt2
  have t_lt0 : t + 0 < jN (jG0 sc) := Nat.lt_of_succ_lt t_lt1
  refine j_aload_n (i := 0) rfl dX6_popBody_0 ?_
  refine j_getI (idx := 54) (ci := 6) (k := 7) (nest := false) (show (6, 54, 6, 7, false) ∈ jFT by decide) rfl (t_lt0) t_K0 dX6_popBody_1 ?_
  refine j_if_le (off := 12) 16 dX6_popBody_4 (by decide) (fun c1 => ?_) (fun c1 => ?_)
  · exact j_le [some (.ref t)] (And.intro rfl True.intro) (v1 c1)
  · exact j_le [some (.ref t)] (And.intro rfl True.intro) (v2 c1)
set_option maxRecDepth 100000 in
theorem bX6_popBody_7 {sc : Nat × (Nat → Int32)} {h : jH} {Q : jQ} {t : Nat} (t_h : jI6 t)
    (v1 : (h t 7) ≤ 6 → WP mX6_popBody Q 18 [some (.ref t)] [] (jG0 sc) h (0, 0))
    (v2 : ¬ (h t 7) ≤ 6 → WP mX6_popBody Q 16 [some (.ref t)] [] (jG0 sc) h (0, 0)) :
    WP mX6_popBody Q 7 [some (.ref t)] [] (jG0 sc) h (0, 0) := by
  obtain ⟨t_lt29, t_K0, t_R0_0, t_R0_1, t_R0_2, t_R0_3, t_R0_4, t_R0_5, t_R0_6, t_K16, t_L16, t_K17, t_L17, t_K1, t_K3, t_K5, t_K9, t_K11⟩ := t_h
  have t_lt28 : t + 28 < jN (jG0 sc) := Nat.lt_of_succ_lt t_lt29
  have t_lt27 : t + 27 < jN (jG0 sc) := Nat.lt_of_succ_lt t_lt28
  have t_lt26 : t + 26 < jN (jG0 sc) := Nat.lt_of_succ_lt t_lt27
  have t_lt25 : t + 25 < jN (jG0 sc) := Nat.lt_of_succ_lt t_lt26
  have t_lt24 : t + 24 < jN (jG0 sc) := Nat.lt_of_succ_lt t_lt25
  have t_lt23 : t + 23 < jN (jG0 sc) := Nat.lt_of_succ_lt t_lt24
  have t_lt22 : t + 22 < jN (jG0 sc) := Nat.lt_of_succ_lt t_lt23
  have t_lt21 : t + 21 < jN (jG0 sc) := Nat.lt_of_succ_lt t_lt22
  have t_lt20 : t + 20 < jN (jG0 sc) := Nat.lt_of_succ_lt t_lt21
  have t_lt19 : t + 19 < jN (jG0 sc) := Nat.lt_of_succ_lt t_lt20
  have t_lt18 : t + 18 < jN (jG0 sc) := Nat.lt_of_succ_lt t_lt19
  have t_lt17 : t + 17 < jN (jG0 sc) := Nat.lt_of_succ_lt t_lt18
  have t_lt16 : t + 16 < jN (jG0 sc) := Nat.lt_of_succ_lt t_lt17
  have t_lt15 : t + 15 < jN (jG0 sc) := Nat.lt_of_succ_lt t_lt16
  have t_lt14 : t + 14 < jN (jG0 sc) := Nat.lt_of_succ_lt t_lt15
  have t_lt13 : t + 13 < jN (jG0 sc) := Nat.lt_of_succ_lt t_lt14
  have t_lt12 : t + 12 < jN (jG0 sc) := Nat.lt_of_succ_lt t_lt13
  have t_lt11 : t + 11 < jN (jG0 sc) := Nat.lt_of_succ_lt t_lt12
  have t_lt10 : t + 10 < jN (jG0 sc) := Nat.lt_of_succ_lt t_lt11
  have t_lt9 : t + 9 < jN (jG0 sc) := Nat.lt_of_succ_lt t_lt10
  have t_lt8 : t + 8 < jN (jG0 sc) := Nat.lt_of_succ_lt t_lt9
  have t_lt7 : t + 7 < jN (jG0 sc) := Nat.lt_of_succ_lt t_lt8
  have t_lt6 : t + 6 < jN (jG0 sc) := Nat.lt_of_succ_lt t_lt7
  have t_lt5 : t + 5 < jN (jG0 sc) := Nat.lt_of_succ_lt t_lt6
  have t_lt4 : t + 4 < jN (jG0 sc) := Nat.lt_of_succ_lt t_lt5
  have t_lt3 : t + 3 < jN (jG0 sc) := Nat.lt_of_succ_lt t_lt4
  have t_lt2 : t + 2 < jN (jG0 sc) := Nat.lt_of_succ_lt t_lt3
  have t_lt1 : t + 1 < jN (jG0 sc) := Nat.lt_of_succ_lt t_lt2
  have t_lt0 : t + 0 < jN (jG0 sc) := Nat.lt_of_succ_lt t_lt1
  refine j_aload_n (i := 0) rfl dX6_popBody_7 ?_
  refine j_getI (idx := 54) (ci := 6) (k := 7) (nest := false) (show (6, 54, 6, 7, false) ∈ jFT by decide) rfl (t_lt0) t_K0 dX6_popBody_8 ?_
  refine j_bipush (n := 6) 6 (by decide) dX6_popBody_11 ?_
  refine j_icmp_le (off := 5) 18 dX6_popBody_13 (by decide) (fun c1 => ?_) (fun c1 => ?_)
  · exact j_le [some (.ref t)] (And.intro rfl True.intro) (v1 c1)
  · exact j_le [some (.ref t)] (And.intro rfl True.intro) (v2 c1)
set_option maxRecDepth 100000 in
theorem bX6_popBody_16 {sc : Nat × (Nat → Int32)} {h : jH} {Q : jQ} {t : Nat} (t_h : jI6 t)
    (v1 : Q (.inl (some (.int 0))) (jG0 sc) h) :
    WP mX6_popBody Q 16 [some (.ref t)] [] (jG0 sc) h (0, 0) := by
  obtain ⟨t_lt29, t_K0, t_R0_0, t_R0_1, t_R0_2, t_R0_3, t_R0_4, t_R0_5, t_R0_6, t_K16, t_L16, t_K17, t_L17, t_K1, t_K3, t_K5, t_K9, t_K11⟩ := t_h
  have t_lt28 : t + 28 < jN (jG0 sc) := Nat.lt_of_succ_lt t_lt29
  have t_lt27 : t + 27 < jN (jG0 sc) := Nat.lt_of_succ_lt t_lt28
  have t_lt26 : t + 26 < jN (jG0 sc) := Nat.lt_of_succ_lt t_lt27
  have t_lt25 : t + 25 < jN (jG0 sc) := Nat.lt_of_succ_lt t_lt26
  have t_lt24 : t + 24 < jN (jG0 sc) := Nat.lt_of_succ_lt t_lt25
  have t_lt23 : t + 23 < jN (jG0 sc) := Nat.lt_of_succ_lt t_lt24
  have t_lt22 : t + 22 < jN (jG0 sc) := Nat.lt_of_succ_lt t_lt23
  have t_lt21 : t + 21 < jN (jG0 sc) := Nat.lt_of_succ_lt t_lt22
  have t_lt20 : t + 20 < jN (jG0 sc) := Nat.lt_of_succ_lt t_lt21
  have t_lt19 : t + 19 < jN (jG0 sc) := Nat.lt_of_succ_lt t_lt20
  have t_lt18 : t + 18 < jN (jG0 sc) := Nat.lt_of_succ_lt t_lt19
  have t_lt17 : t + 17 < jN (jG0 sc) := Nat.lt_of_succ_lt t_lt18
  have t_lt16 : t + 16 < jN (jG0 sc) := Nat.lt_of_succ_lt t_lt17
  have t_lt15 : t + 15 < jN (jG0 sc) := Nat.lt_of_succ_lt t_lt16
  have t_lt14 : t + 14 < jN (jG0 sc) := Nat.lt_of_succ_lt t_lt15
  have t_lt13 : t + 13 < jN (jG0 sc) := Nat.lt_of_succ_lt t_lt14
  have t_lt12 : t + 12 < jN (jG0 sc) := Nat.lt_of_succ_lt t_lt13
  have t_lt11 : t + 11 < jN (jG0 sc) := Nat.lt_of_succ_lt t_lt12
  have t_lt10 : t + 10 < jN (jG0 sc) := Nat.lt_of_succ_lt t_lt11
  have t_lt9 : t + 9 < jN (jG0 sc) := Nat.lt_of_succ_lt t_lt10
  have t_lt8 : t + 8 < jN (jG0 sc) := Nat.lt_of_succ_lt t_lt9
  have t_lt7 : t + 7 < jN (jG0 sc) := Nat.lt_of_succ_lt t_lt8
  have t_lt6 : t + 6 < jN (jG0 sc) := Nat.lt_of_succ_lt t_lt7
  have t_lt5 : t + 5 < jN (jG0 sc) := Nat.lt_of_succ_lt t_lt6
  have t_lt4 : t + 4 < jN (jG0 sc) := Nat.lt_of_succ_lt t_lt5
  have t_lt3 : t + 3 < jN (jG0 sc) := Nat.lt_of_succ_lt t_lt4
  have t_lt2 : t + 2 < jN (jG0 sc) := Nat.lt_of_succ_lt t_lt3
  have t_lt1 : t + 1 < jN (jG0 sc) := Nat.lt_of_succ_lt t_lt2
  have t_lt0 : t + 0 < jN (jG0 sc) := Nat.lt_of_succ_lt t_lt1
  refine j_iconst (n := 0) 0 (by decide) dX6_popBody_16 ?_
  exact j_iret rfl rfl (Nat.zero_le _) (Nat.zero_le _) dX6_popBody_17 v1
set_option maxRecDepth 100000 in
theorem bX6_popBody_18 {sc : Nat × (Nat → Int32)} {h : jH} {Q : jQ} {t : Nat} {q1 : Nat} {P1 : jH → Prop} (t_h : jI6 t)
    (o1 : vp_in ((jput h t 7 ((h t 7) - 1)) t 7) 6)
    (o2 : (jRt.getD (t + 17) []).getD ((jput h t 7 ((h t 7) - 1)) t 7).toNatClampNeg none = some q1)
    (o3 : jI4 q1)
    (k1 : JM mX4_copyOf [.ref (t + 1), .ref q1] (jG0 sc) (jput h t 7 ((h t 7) - 1)) (jvoid sc P1))
    (v1 : ∀ h2 : jH, P1 h2 → Q (.inl (some (.int 1))) (jG0 sc) h2) :
    WP mX6_popBody Q 18 [some (.ref t)] [] (jG0 sc) h (0, 0) := by
  obtain ⟨t_lt29, t_K0, t_R0_0, t_R0_1, t_R0_2, t_R0_3, t_R0_4, t_R0_5, t_R0_6, t_K16, t_L16, t_K17, t_L17, t_K1, t_K3, t_K5, t_K9, t_K11⟩ := t_h
  have t_lt28 : t + 28 < jN (jG0 sc) := Nat.lt_of_succ_lt t_lt29
  have t_lt27 : t + 27 < jN (jG0 sc) := Nat.lt_of_succ_lt t_lt28
  have t_lt26 : t + 26 < jN (jG0 sc) := Nat.lt_of_succ_lt t_lt27
  have t_lt25 : t + 25 < jN (jG0 sc) := Nat.lt_of_succ_lt t_lt26
  have t_lt24 : t + 24 < jN (jG0 sc) := Nat.lt_of_succ_lt t_lt25
  have t_lt23 : t + 23 < jN (jG0 sc) := Nat.lt_of_succ_lt t_lt24
  have t_lt22 : t + 22 < jN (jG0 sc) := Nat.lt_of_succ_lt t_lt23
  have t_lt21 : t + 21 < jN (jG0 sc) := Nat.lt_of_succ_lt t_lt22
  have t_lt20 : t + 20 < jN (jG0 sc) := Nat.lt_of_succ_lt t_lt21
  have t_lt19 : t + 19 < jN (jG0 sc) := Nat.lt_of_succ_lt t_lt20
  have t_lt18 : t + 18 < jN (jG0 sc) := Nat.lt_of_succ_lt t_lt19
  have t_lt17 : t + 17 < jN (jG0 sc) := Nat.lt_of_succ_lt t_lt18
  have t_lt16 : t + 16 < jN (jG0 sc) := Nat.lt_of_succ_lt t_lt17
  have t_lt15 : t + 15 < jN (jG0 sc) := Nat.lt_of_succ_lt t_lt16
  have t_lt14 : t + 14 < jN (jG0 sc) := Nat.lt_of_succ_lt t_lt15
  have t_lt13 : t + 13 < jN (jG0 sc) := Nat.lt_of_succ_lt t_lt14
  have t_lt12 : t + 12 < jN (jG0 sc) := Nat.lt_of_succ_lt t_lt13
  have t_lt11 : t + 11 < jN (jG0 sc) := Nat.lt_of_succ_lt t_lt12
  have t_lt10 : t + 10 < jN (jG0 sc) := Nat.lt_of_succ_lt t_lt11
  have t_lt9 : t + 9 < jN (jG0 sc) := Nat.lt_of_succ_lt t_lt10
  have t_lt8 : t + 8 < jN (jG0 sc) := Nat.lt_of_succ_lt t_lt9
  have t_lt7 : t + 7 < jN (jG0 sc) := Nat.lt_of_succ_lt t_lt8
  have t_lt6 : t + 6 < jN (jG0 sc) := Nat.lt_of_succ_lt t_lt7
  have t_lt5 : t + 5 < jN (jG0 sc) := Nat.lt_of_succ_lt t_lt6
  have t_lt4 : t + 4 < jN (jG0 sc) := Nat.lt_of_succ_lt t_lt5
  have t_lt3 : t + 3 < jN (jG0 sc) := Nat.lt_of_succ_lt t_lt4
  have t_lt2 : t + 2 < jN (jG0 sc) := Nat.lt_of_succ_lt t_lt3
  have t_lt1 : t + 1 < jN (jG0 sc) := Nat.lt_of_succ_lt t_lt2
  have t_lt0 : t + 0 < jN (jG0 sc) := Nat.lt_of_succ_lt t_lt1
  refine j_aload_n (i := 0) rfl dX6_popBody_18 ?_
  refine j_dup rfl dX6_popBody_19 ?_
  refine j_getI (idx := 54) (ci := 6) (k := 7) (nest := false) (show (6, 54, 6, 7, false) ∈ jFT by decide) rfl (t_lt0) t_K0 dX6_popBody_20 ?_
  refine j_iconst (n := 1) 1 (by decide) dX6_popBody_23 ?_
  refine j_isub dX6_popBody_24 ?_
  refine j_putI (idx := 54) (ci := 6) (k := 7) (nest := false) (show (6, 54, 6, 7, false) ∈ jFT by decide) rfl rfl rfl rfl (t_lt0) t_K0 dX6_popBody_25 ?_
  refine j_aload_n (i := 0) rfl dX6_popBody_28 ?_
  refine j_getR (idx := 12) (ci := 6) (k := 0) (nest := false) (show (6, 12, 6, 0, false) ∈ jFT by decide) rfl (t_lt0) t_K0 (a := (t + 1)) t_R0_0 dX6_popBody_29 ?_
  refine j_aload_n (i := 0) rfl dX6_popBody_32 ?_
  refine j_getR (idx := 46) (ci := 6) (k := 6) (nest := false) (show (6, 46, 6, 6, false) ∈ jFT by decide) rfl (t_lt0) t_K0 (a := (t + 17)) t_R0_6 dX6_popBody_33 ?_
  refine j_aload_n (i := 0) rfl dX6_popBody_36 ?_
  refine j_getI (idx := 54) (ci := 6) (k := 7) (nest := false) (show (6, 54, 6, 7, false) ∈ jFT by decide) rfl (t_lt0) t_K0 dX6_popBody_37 ?_
  refine j_aald (t_lt17) t_K17 (by rw [show jL (jG0 sc) (t + 17) = 6 from t_L17]; exact o1) (a := q1) o2 dX6_popBody_40 ?_
  obtain ⟨q1_lt1, q1_K0, q1_R0_0, q1_K1, q1_L1⟩ := o3
  have q1_lt0 : q1 + 0 < jN (jG0 sc) := Nat.lt_of_succ_lt q1_lt1
  refine j_callVN (idx := 57) (As := [.ref q1]) (ci := 4) (n := 1) k1 jvoid_nt (jTbl (jtb3 88 rfl)) sX4_copyOf kX4_copyOf rfl ⟨rfl, by decide +kernel, by decide +kernel, by decide +kernel⟩ rfl ⟨by decide, by decide⟩ (t_lt1) t_K1 (Nat.le_of_ble_eq_true rfl) (Nat.le_of_ble_eq_true rfl) ⟨Nat.zero_le _, Nat.zero_le _⟩ dX6_popBody_41 (fun r Γ' h2 q => ?_)
  obtain ⟨q0, rfl, p2⟩ := q; cases q0
  refine j_eqst [] (by rfl) ?_
  refine j_iconst (n := 1) 1 (by decide) dX6_popBody_44 ?_
  exact j_iret rfl rfl (Nat.zero_le _) (Nat.zero_le _) dX6_popBody_45 (v1 h2 p2)
set_option maxRecDepth 100000 in
theorem rX6_popBody_0 {sc : Nat × (Nat → Int32)} {h : jH} {Q : jQ} {t : Nat} {q1 : Nat} {P1 : jH → Prop} (t_h : jI6 t)
    (v1 : (h t 7) ≤ 0 → Q (.inl (some (.int 0))) (jG0 sc) h)
    (o1 : ¬ (h t 7) ≤ 0 → (h t 7) ≤ 6 → vp_in ((jput h t 7 ((h t 7) - 1)) t 7) 6)
    (o2 : ¬ (h t 7) ≤ 0 → (h t 7) ≤ 6 → (jRt.getD (t + 17) []).getD ((jput h t 7 ((h t 7) - 1)) t 7).toNatClampNeg none = some q1)
    (o3 : ¬ (h t 7) ≤ 0 → (h t 7) ≤ 6 → jI4 q1)
    (k1 : ¬ (h t 7) ≤ 0 → (h t 7) ≤ 6 → JM mX4_copyOf [.ref (t + 1), .ref q1] (jG0 sc) (jput h t 7 ((h t 7) - 1)) (jvoid sc P1))
    (v2 : ¬ (h t 7) ≤ 0 → (h t 7) ≤ 6 → ∀ h2 : jH, P1 h2 → Q (.inl (some (.int 1))) (jG0 sc) h2)
    (v3 : ¬ (h t 7) ≤ 0 → ¬ (h t 7) ≤ 6 → Q (.inl (some (.int 0))) (jG0 sc) h) :
    WP mX6_popBody Q 0 [some (.ref t)] [] (jG0 sc) h (0, 0) := by
  exact (bX6_popBody_0 t_h (fun c1 => (bX6_popBody_16 t_h (v1 c1))) (fun c1 => (bX6_popBody_7 t_h (fun c2 => (bX6_popBody_18 t_h (o1 c1 c2) (o2 c1 c2) (o3 c1 c2) (k1 c1 c2) (fun h2 p2 => (v2 c1 c2 h2 p2)))) (fun c2 => (bX6_popBody_16 t_h (v3 c1 c2))))))
theorem dX6_copyOf_0 : decode (mC mX6_copyOf) 0 = .ok (.aload_n 0, 1) := by decide +kernel
theorem dX6_copyOf_1 : decode (mC mX6_copyOf) 1 = .ok (.getfield 12, 3) := by decide +kernel
theorem dX6_copyOf_4 : decode (mC mX6_copyOf) 4 = .ok (.aload_n 1, 1) := by decide +kernel
theorem dX6_copyOf_5 : decode (mC mX6_copyOf) 5 = .ok (.getfield 12, 3) := by decide +kernel
theorem dX6_copyOf_8 : decode (mC mX6_copyOf) 8 = .ok (.invokevirtual 57, 3) := by decide +kernel
theorem dX6_copyOf_11 : decode (mC mX6_copyOf) 11 = .ok (.aload_n 0, 1) := by decide +kernel
theorem dX6_copyOf_12 : decode (mC mX6_copyOf) 12 = .ok (.getfield 18, 3) := by decide +kernel
theorem dX6_copyOf_15 : decode (mC mX6_copyOf) 15 = .ok (.aload_n 1, 1) := by decide +kernel
theorem dX6_copyOf_16 : decode (mC mX6_copyOf) 16 = .ok (.getfield 18, 3) := by decide +kernel
theorem dX6_copyOf_19 : decode (mC mX6_copyOf) 19 = .ok (.invokevirtual 57, 3) := by decide +kernel
theorem dX6_copyOf_22 : decode (mC mX6_copyOf) 22 = .ok (.aload_n 0, 1) := by decide +kernel
theorem dX6_copyOf_23 : decode (mC mX6_copyOf) 23 = .ok (.getfield 24, 3) := by decide +kernel
theorem dX6_copyOf_26 : decode (mC mX6_copyOf) 26 = .ok (.aload_n 1, 1) := by decide +kernel
theorem dX6_copyOf_27 : decode (mC mX6_copyOf) 27 = .ok (.getfield 24, 3) := by decide +kernel
theorem dX6_copyOf_30 : decode (mC mX6_copyOf) 30 = .ok (.invokevirtual 61, 3) := by decide +kernel
theorem dX6_copyOf_33 : decode (mC mX6_copyOf) 33 = .ok (.aload_n 0, 1) := by decide +kernel
theorem dX6_copyOf_34 : decode (mC mX6_copyOf) 34 = .ok (.getfield 31, 3) := by decide +kernel
theorem dX6_copyOf_37 : decode (mC mX6_copyOf) 37 = .ok (.aload_n 1, 1) := by decide +kernel
theorem dX6_copyOf_38 : decode (mC mX6_copyOf) 38 = .ok (.getfield 31, 3) := by decide +kernel
theorem dX6_copyOf_41 : decode (mC mX6_copyOf) 41 = .ok (.invokevirtual 64, 3) := by decide +kernel
theorem dX6_copyOf_44 : decode (mC mX6_copyOf) 44 = .ok (.aload_n 0, 1) := by decide +kernel
theorem dX6_copyOf_45 : decode (mC mX6_copyOf) 45 = .ok (.getfield 38, 3) := by decide +kernel
theorem dX6_copyOf_48 : decode (mC mX6_copyOf) 48 = .ok (.aload_n 1, 1) := by decide +kernel
theorem dX6_copyOf_49 : decode (mC mX6_copyOf) 49 = .ok (.getfield 38, 3) := by decide +kernel
theorem dX6_copyOf_52 : decode (mC mX6_copyOf) 52 = .ok (.invokevirtual 67, 3) := by decide +kernel
theorem dX6_copyOf_55 : decode (mC mX6_copyOf) 55 = .ok (.iconst 0, 1) := by decide +kernel
theorem dX6_copyOf_56 : decode (mC mX6_copyOf) 56 = .ok (.istore_n 2, 1) := by decide +kernel
theorem dX6_copyOf_57 : decode (mC mX6_copyOf) 57 = .ok (.iload_n 2, 1) := by decide +kernel
theorem dX6_copyOf_58 : decode (mC mX6_copyOf) 58 = .ok (.bipush 6, 2) := by decide +kernel
theorem dX6_copyOf_60 : decode (mC mX6_copyOf) 60 = .ok (.if_icmp .ge 21, 3) := by decide +kernel
theorem dX6_copyOf_63 : decode (mC mX6_copyOf) 63 = .ok (.aload_n 0, 1) := by decide +kernel
theorem dX6_copyOf_64 : decode (mC mX6_copyOf) 64 = .ok (.getfield 42, 3) := by decide +kernel
theorem dX6_copyOf_67 : decode (mC mX6_copyOf) 67 = .ok (.iload_n 2, 1) := by decide +kernel
theorem dX6_copyOf_68 : decode (mC mX6_copyOf) 68 = .ok (.aload_n 1, 1) := by decide +kernel
theorem dX6_copyOf_69 : decode (mC mX6_copyOf) 69 = .ok (.getfield 42, 3) := by decide +kernel
theorem dX6_copyOf_72 : decode (mC mX6_copyOf) 72 = .ok (.iload_n 2, 1) := by decide +kernel
theorem dX6_copyOf_73 : decode (mC mX6_copyOf) 73 = .ok (.iaload, 1) := by decide +kernel
theorem dX6_copyOf_74 : decode (mC mX6_copyOf) 74 = .ok (.iastore, 1) := by decide +kernel
theorem dX6_copyOf_75 : decode (mC mX6_copyOf) 75 = .ok (.iinc 2 1, 3) := by decide +kernel
theorem dX6_copyOf_78 : decode (mC mX6_copyOf) 78 = .ok (.goto (-21), 3) := by decide +kernel
theorem dX6_copyOf_81 : decode (mC mX6_copyOf) 81 = .ok (.iconst 0, 1) := by decide +kernel
theorem dX6_copyOf_82 : decode (mC mX6_copyOf) 82 = .ok (.istore_n 2, 1) := by decide +kernel
theorem dX6_copyOf_83 : decode (mC mX6_copyOf) 83 = .ok (.iload_n 2, 1) := by decide +kernel
theorem dX6_copyOf_84 : decode (mC mX6_copyOf) 84 = .ok (.bipush 6, 2) := by decide +kernel
theorem dX6_copyOf_86 : decode (mC mX6_copyOf) 86 = .ok (.if_icmp .ge 24, 3) := by decide +kernel
theorem dX6_copyOf_89 : decode (mC mX6_copyOf) 89 = .ok (.aload_n 0, 1) := by decide +kernel
theorem dX6_copyOf_90 : decode (mC mX6_copyOf) 90 = .ok (.getfield 46, 3) := by decide +kernel
theorem dX6_copyOf_93 : decode (mC mX6_copyOf) 93 = .ok (.iload_n 2, 1) := by decide +kernel
theorem dX6_copyOf_94 : decode (mC mX6_copyOf) 94 = .ok (.aaload, 1) := by decide +kernel
theorem dX6_copyOf_95 : decode (mC mX6_copyOf) 95 = .ok (.aload_n 1, 1) := by decide +kernel
theorem dX6_copyOf_96 : decode (mC mX6_copyOf) 96 = .ok (.getfield 46, 3) := by decide +kernel
theorem dX6_copyOf_99 : decode (mC mX6_copyOf) 99 = .ok (.iload_n 2, 1) := by decide +kernel
theorem dX6_copyOf_100 : decode (mC mX6_copyOf) 100 = .ok (.aaload, 1) := by decide +kernel
theorem dX6_copyOf_101 : decode (mC mX6_copyOf) 101 = .ok (.invokevirtual 57, 3) := by decide +kernel
theorem dX6_copyOf_104 : decode (mC mX6_copyOf) 104 = .ok (.iinc 2 1, 3) := by decide +kernel
theorem dX6_copyOf_107 : decode (mC mX6_copyOf) 107 = .ok (.goto (-24), 3) := by decide +kernel
theorem dX6_copyOf_110 : decode (mC mX6_copyOf) 110 = .ok (.aload_n 0, 1) := by decide +kernel
theorem dX6_copyOf_111 : decode (mC mX6_copyOf) 111 = .ok (.aload_n 1, 1) := by decide +kernel
theorem dX6_copyOf_112 : decode (mC mX6_copyOf) 112 = .ok (.getfield 54, 3) := by decide +kernel
theorem dX6_copyOf_115 : decode (mC mX6_copyOf) 115 = .ok (.putfield 54, 3) := by decide +kernel
theorem dX6_copyOf_118 : decode (mC mX6_copyOf) 118 = .ok (.aload_n 0, 1) := by decide +kernel
theorem dX6_copyOf_119 : decode (mC mX6_copyOf) 119 = .ok (.aload_n 1, 1) := by decide +kernel
theorem dX6_copyOf_120 : decode (mC mX6_copyOf) 120 = .ok (.getfield 50, 3) := by decide +kernel
theorem dX6_copyOf_123 : decode (mC mX6_copyOf) 123 = .ok (.putfield 50, 3) := by decide +kernel
theorem dX6_copyOf_126 : decode (mC mX6_copyOf) 126 = .ok (.return_, 1) := by decide +kernel
set_option maxRecDepth 100000 in
theorem bX6_copyOf_0 {sc : Nat × (Nat → Int32)} {h : jH} {Q : jQ} {a : Nat} {t : Nat} {P1 : jH → Prop} {P2 : jH → Prop} (a_h : jI6 a) (t_h : jI6 t)
    (k1 : JM mX4_copyOf [.ref (t + 1), .ref (a + 1)] (jG0 sc) h (jvoid sc P1))
    (k2 : ∀ h1 : jH, P1 h1 → JM mX4_copyOf [.ref (t + 3), .ref (a + 3)] (jG0 sc) h1 (jvoid sc P2))
    (v1 : ∀ h1 : jH, P1 h1 → ∀ h2 : jH, P2 h2 → WP mX6_copyOf Q 30 [some (.ref t), some (.ref a), none] [.ref (a + 5), .ref (t + 5)] (jG0 sc) h2 (0, 0)) :
    WP mX6_copyOf Q 0 [some (.ref t), some (.ref a), none] [] (jG0 sc) h (0, 0) := by
  obtain ⟨a_lt29, a_K0, a_R0_0, a_R0_1, a_R0_2, a_R0_3, a_R0_4, a_R0_5, a_R0_6, a_K16, a_L16, a_K17, a_L17, a_K1, a_K3, a_K5, a_K9, a_K11⟩ := a_h
  have a_lt28 : a + 28 < jN (jG0 sc) := Nat.lt_of_succ_lt a_lt29
  have a_lt27 : a + 27 < jN (jG0 sc) := Nat.lt_of_succ_lt a_lt28
  have a_lt26 : a + 26 < jN (jG0 sc) := Nat.lt_of_succ_lt a_lt27
  have a_lt25 : a + 25 < jN (jG0 sc) := Nat.lt_of_succ_lt a_lt26
  have a_lt24 : a + 24 < jN (jG0 sc) := Nat.lt_of_succ_lt a_lt25
  have a_lt23 : a + 23 < jN (jG0 sc) := Nat.lt_of_succ_lt a_lt24
  have a_lt22 : a + 22 < jN (jG0 sc) := Nat.lt_of_succ_lt a_lt23
  have a_lt21 : a + 21 < jN (jG0 sc) := Nat.lt_of_succ_lt a_lt22
  have a_lt20 : a + 20 < jN (jG0 sc) := Nat.lt_of_succ_lt a_lt21
  have a_lt19 : a + 19 < jN (jG0 sc) := Nat.lt_of_succ_lt a_lt20
  have a_lt18 : a + 18 < jN (jG0 sc) := Nat.lt_of_succ_lt a_lt19
  have a_lt17 : a + 17 < jN (jG0 sc) := Nat.lt_of_succ_lt a_lt18
  have a_lt16 : a + 16 < jN (jG0 sc) := Nat.lt_of_succ_lt a_lt17
  have a_lt15 : a + 15 < jN (jG0 sc) := Nat.lt_of_succ_lt a_lt16
  have a_lt14 : a + 14 < jN (jG0 sc) := Nat.lt_of_succ_lt a_lt15
  have a_lt13 : a + 13 < jN (jG0 sc) := Nat.lt_of_succ_lt a_lt14
  have a_lt12 : a + 12 < jN (jG0 sc) := Nat.lt_of_succ_lt a_lt13
  have a_lt11 : a + 11 < jN (jG0 sc) := Nat.lt_of_succ_lt a_lt12
  have a_lt10 : a + 10 < jN (jG0 sc) := Nat.lt_of_succ_lt a_lt11
  have a_lt9 : a + 9 < jN (jG0 sc) := Nat.lt_of_succ_lt a_lt10
  have a_lt8 : a + 8 < jN (jG0 sc) := Nat.lt_of_succ_lt a_lt9
  have a_lt7 : a + 7 < jN (jG0 sc) := Nat.lt_of_succ_lt a_lt8
  have a_lt6 : a + 6 < jN (jG0 sc) := Nat.lt_of_succ_lt a_lt7
  have a_lt5 : a + 5 < jN (jG0 sc) := Nat.lt_of_succ_lt a_lt6
  have a_lt4 : a + 4 < jN (jG0 sc) := Nat.lt_of_succ_lt a_lt5
  have a_lt3 : a + 3 < jN (jG0 sc) := Nat.lt_of_succ_lt a_lt4
  have a_lt2 : a + 2 < jN (jG0 sc) := Nat.lt_of_succ_lt a_lt3
  have a_lt1 : a + 1 < jN (jG0 sc) := Nat.lt_of_succ_lt a_lt2
  have a_lt0 : a + 0 < jN (jG0 sc) := Nat.lt_of_succ_lt a_lt1
  obtain ⟨t_lt29, t_K0, t_R0_0, t_R0_1, t_R0_2, t_R0_3, t_R0_4, t_R0_5, t_R0_6, t_K16, t_L16, t_K17, t_L17, t_K1, t_K3, t_K5, t_K9, t_K11⟩ := t_h
  have t_lt28 : t + 28 < jN (jG0 sc) := Nat.lt_of_succ_lt t_lt29
  have t_lt27 : t + 27 < jN (jG0 sc) := Nat.lt_of_succ_lt t_lt28
  have t_lt26 : t + 26 < jN (jG0 sc) := Nat.lt_of_succ_lt t_lt27
  have t_lt25 : t + 25 < jN (jG0 sc) := Nat.lt_of_succ_lt t_lt26
  have t_lt24 : t + 24 < jN (jG0 sc) := Nat.lt_of_succ_lt t_lt25
  have t_lt23 : t + 23 < jN (jG0 sc) := Nat.lt_of_succ_lt t_lt24
  have t_lt22 : t + 22 < jN (jG0 sc) := Nat.lt_of_succ_lt t_lt23
  have t_lt21 : t + 21 < jN (jG0 sc) := Nat.lt_of_succ_lt t_lt22
  have t_lt20 : t + 20 < jN (jG0 sc) := Nat.lt_of_succ_lt t_lt21
  have t_lt19 : t + 19 < jN (jG0 sc) := Nat.lt_of_succ_lt t_lt20
  have t_lt18 : t + 18 < jN (jG0 sc) := Nat.lt_of_succ_lt t_lt19
  have t_lt17 : t + 17 < jN (jG0 sc) := Nat.lt_of_succ_lt t_lt18
  have t_lt16 : t + 16 < jN (jG0 sc) := Nat.lt_of_succ_lt t_lt17
  have t_lt15 : t + 15 < jN (jG0 sc) := Nat.lt_of_succ_lt t_lt16
  have t_lt14 : t + 14 < jN (jG0 sc) := Nat.lt_of_succ_lt t_lt15
  have t_lt13 : t + 13 < jN (jG0 sc) := Nat.lt_of_succ_lt t_lt14
  have t_lt12 : t + 12 < jN (jG0 sc) := Nat.lt_of_succ_lt t_lt13
  have t_lt11 : t + 11 < jN (jG0 sc) := Nat.lt_of_succ_lt t_lt12
  have t_lt10 : t + 10 < jN (jG0 sc) := Nat.lt_of_succ_lt t_lt11
  have t_lt9 : t + 9 < jN (jG0 sc) := Nat.lt_of_succ_lt t_lt10
  have t_lt8 : t + 8 < jN (jG0 sc) := Nat.lt_of_succ_lt t_lt9
  have t_lt7 : t + 7 < jN (jG0 sc) := Nat.lt_of_succ_lt t_lt8
  have t_lt6 : t + 6 < jN (jG0 sc) := Nat.lt_of_succ_lt t_lt7
  have t_lt5 : t + 5 < jN (jG0 sc) := Nat.lt_of_succ_lt t_lt6
  have t_lt4 : t + 4 < jN (jG0 sc) := Nat.lt_of_succ_lt t_lt5
  have t_lt3 : t + 3 < jN (jG0 sc) := Nat.lt_of_succ_lt t_lt4
  have t_lt2 : t + 2 < jN (jG0 sc) := Nat.lt_of_succ_lt t_lt3
  have t_lt1 : t + 1 < jN (jG0 sc) := Nat.lt_of_succ_lt t_lt2
  have t_lt0 : t + 0 < jN (jG0 sc) := Nat.lt_of_succ_lt t_lt1
  refine j_aload_n (i := 0) rfl dX6_copyOf_0 ?_
  refine j_getR (idx := 12) (ci := 6) (k := 0) (nest := false) (show (6, 12, 6, 0, false) ∈ jFT by decide) rfl (t_lt0) t_K0 (a := (t + 1)) t_R0_0 dX6_copyOf_1 ?_
  refine j_aload_n (i := 1) rfl dX6_copyOf_4 ?_
  refine j_getR (idx := 12) (ci := 6) (k := 0) (nest := false) (show (6, 12, 6, 0, false) ∈ jFT by decide) rfl (a_lt0) a_K0 (a := (a + 1)) a_R0_0 dX6_copyOf_5 ?_
  refine j_callVN (idx := 57) (As := [.ref (a + 1)]) (ci := 4) (n := 1) k1 jvoid_nt (jTbl (jtb3 88 rfl)) sX4_copyOf kX4_copyOf rfl ⟨rfl, by decide +kernel, by decide +kernel, by decide +kernel⟩ rfl ⟨by decide, by decide⟩ (t_lt1) t_K1 (Nat.le_of_ble_eq_true rfl) (Nat.le_of_ble_eq_true rfl) ⟨Nat.zero_le _, Nat.zero_le _⟩ dX6_copyOf_8 (fun r Γ' h1 q => ?_)
  obtain ⟨q0, rfl, p1⟩ := q; cases q0
  refine j_eqst [] (by rfl) ?_
  refine j_aload_n (i := 0) rfl dX6_copyOf_11 ?_
  refine j_getR (idx := 18) (ci := 6) (k := 1) (nest := false) (show (6, 18, 6, 1, false) ∈ jFT by decide) rfl (t_lt0) t_K0 (a := (t + 3)) t_R0_1 dX6_copyOf_12 ?_
  refine j_aload_n (i := 1) rfl dX6_copyOf_15 ?_
  refine j_getR (idx := 18) (ci := 6) (k := 1) (nest := false) (show (6, 18, 6, 1, false) ∈ jFT by decide) rfl (a_lt0) a_K0 (a := (a + 3)) a_R0_1 dX6_copyOf_16 ?_
  refine j_callVN (idx := 57) (As := [.ref (a + 3)]) (ci := 4) (n := 1) (k2 h1 p1) jvoid_nt (jTbl (jtb3 88 rfl)) sX4_copyOf kX4_copyOf rfl ⟨rfl, by decide +kernel, by decide +kernel, by decide +kernel⟩ rfl ⟨by decide, by decide⟩ (t_lt3) t_K3 (Nat.le_of_ble_eq_true rfl) (Nat.le_of_ble_eq_true rfl) ⟨Nat.zero_le _, Nat.zero_le _⟩ dX6_copyOf_19 (fun r Γ' h2 q => ?_)
  obtain ⟨q0, rfl, p2⟩ := q; cases q0
  refine j_eqst [] (by rfl) ?_
  refine j_aload_n (i := 0) rfl dX6_copyOf_22 ?_
  refine j_getR (idx := 24) (ci := 6) (k := 2) (nest := false) (show (6, 24, 6, 2, false) ∈ jFT by decide) rfl (t_lt0) t_K0 (a := (t + 5)) t_R0_2 dX6_copyOf_23 ?_
  refine j_aload_n (i := 1) rfl dX6_copyOf_26 ?_
  refine j_getR (idx := 24) (ci := 6) (k := 2) (nest := false) (show (6, 24, 6, 2, false) ∈ jFT by decide) rfl (a_lt0) a_K0 (a := (a + 5)) a_R0_2 dX6_copyOf_27 ?_
  exact j_le [some (.ref t), some (.ref a), none] (And.intro rfl (And.intro rfl True.intro)) (v1 h1 p1 h2 p2)
set_option maxRecDepth 100000 in
theorem bX6_copyOf_30 {sc : Nat × (Nat → Int32)} {h : jH} {Q : jQ} {a : Nat} {t : Nat} {P1 : jH → Prop} {P2 : jH → Prop} {P3 : jH → Prop} (a_h : jI6 a) (t_h : jI6 t)
    (k1 : JM mX5_copyOf [.ref (t + 5), .ref (a + 5)] (jG0 sc) h (jvoid sc P1))
    (k2 : ∀ h1 : jH, P1 h1 → JM mX1_copyOf [.ref (t + 9), .ref (a + 9)] (jG0 sc) h1 (jvoid sc P2))
    (k3 : ∀ h1 : jH, P1 h1 → ∀ h2 : jH, P2 h2 → JM mX9_copyOf [.ref (t + 11), .ref (a + 11)] (jG0 sc) h2 (jvoid sc P3))
    (v1 : ∀ h1 : jH, P1 h1 → ∀ h2 : jH, P2 h2 → ∀ h3 : jH, P3 h3 → WP mX6_copyOf Q 57 [some (.ref t), some (.ref a), some (.int 0)] [] (jG0 sc) h3 (0, 0)) :
    WP mX6_copyOf Q 30 [some (.ref t), some (.ref a), none] [.ref (a + 5), .ref (t + 5)] (jG0 sc) h (0, 0) := by
  obtain ⟨a_lt29, a_K0, a_R0_0, a_R0_1, a_R0_2, a_R0_3, a_R0_4, a_R0_5, a_R0_6, a_K16, a_L16, a_K17, a_L17, a_K1, a_K3, a_K5, a_K9, a_K11⟩ := a_h
  have a_lt28 : a + 28 < jN (jG0 sc) := Nat.lt_of_succ_lt a_lt29
  have a_lt27 : a + 27 < jN (jG0 sc) := Nat.lt_of_succ_lt a_lt28
  have a_lt26 : a + 26 < jN (jG0 sc) := Nat.lt_of_succ_lt a_lt27
  have a_lt25 : a + 25 < jN (jG0 sc) := Nat.lt_of_succ_lt a_lt26
  have a_lt24 : a + 24 < jN (jG0 sc) := Nat.lt_of_succ_lt a_lt25
  have a_lt23 : a + 23 < jN (jG0 sc) := Nat.lt_of_succ_lt a_lt24
  have a_lt22 : a + 22 < jN (jG0 sc) := Nat.lt_of_succ_lt a_lt23
  have a_lt21 : a + 21 < jN (jG0 sc) := Nat.lt_of_succ_lt a_lt22
  have a_lt20 : a + 20 < jN (jG0 sc) := Nat.lt_of_succ_lt a_lt21
  have a_lt19 : a + 19 < jN (jG0 sc) := Nat.lt_of_succ_lt a_lt20
  have a_lt18 : a + 18 < jN (jG0 sc) := Nat.lt_of_succ_lt a_lt19
  have a_lt17 : a + 17 < jN (jG0 sc) := Nat.lt_of_succ_lt a_lt18
  have a_lt16 : a + 16 < jN (jG0 sc) := Nat.lt_of_succ_lt a_lt17
  have a_lt15 : a + 15 < jN (jG0 sc) := Nat.lt_of_succ_lt a_lt16
  have a_lt14 : a + 14 < jN (jG0 sc) := Nat.lt_of_succ_lt a_lt15
  have a_lt13 : a + 13 < jN (jG0 sc) := Nat.lt_of_succ_lt a_lt14
  have a_lt12 : a + 12 < jN (jG0 sc) := Nat.lt_of_succ_lt a_lt13
  have a_lt11 : a + 11 < jN (jG0 sc) := Nat.lt_of_succ_lt a_lt12
  have a_lt10 : a + 10 < jN (jG0 sc) := Nat.lt_of_succ_lt a_lt11
  have a_lt9 : a + 9 < jN (jG0 sc) := Nat.lt_of_succ_lt a_lt10
  have a_lt8 : a + 8 < jN (jG0 sc) := Nat.lt_of_succ_lt a_lt9
  have a_lt7 : a + 7 < jN (jG0 sc) := Nat.lt_of_succ_lt a_lt8
  have a_lt6 : a + 6 < jN (jG0 sc) := Nat.lt_of_succ_lt a_lt7
  have a_lt5 : a + 5 < jN (jG0 sc) := Nat.lt_of_succ_lt a_lt6
  have a_lt4 : a + 4 < jN (jG0 sc) := Nat.lt_of_succ_lt a_lt5
  have a_lt3 : a + 3 < jN (jG0 sc) := Nat.lt_of_succ_lt a_lt4
  have a_lt2 : a + 2 < jN (jG0 sc) := Nat.lt_of_succ_lt a_lt3
  have a_lt1 : a + 1 < jN (jG0 sc) := Nat.lt_of_succ_lt a_lt2
  have a_lt0 : a + 0 < jN (jG0 sc) := Nat.lt_of_succ_lt a_lt1
  obtain ⟨t_lt29, t_K0, t_R0_0, t_R0_1, t_R0_2, t_R0_3, t_R0_4, t_R0_5, t_R0_6, t_K16, t_L16, t_K17, t_L17, t_K1, t_K3, t_K5, t_K9, t_K11⟩ := t_h
  have t_lt28 : t + 28 < jN (jG0 sc) := Nat.lt_of_succ_lt t_lt29
  have t_lt27 : t + 27 < jN (jG0 sc) := Nat.lt_of_succ_lt t_lt28
  have t_lt26 : t + 26 < jN (jG0 sc) := Nat.lt_of_succ_lt t_lt27
  have t_lt25 : t + 25 < jN (jG0 sc) := Nat.lt_of_succ_lt t_lt26
  have t_lt24 : t + 24 < jN (jG0 sc) := Nat.lt_of_succ_lt t_lt25
  have t_lt23 : t + 23 < jN (jG0 sc) := Nat.lt_of_succ_lt t_lt24
  have t_lt22 : t + 22 < jN (jG0 sc) := Nat.lt_of_succ_lt t_lt23
  have t_lt21 : t + 21 < jN (jG0 sc) := Nat.lt_of_succ_lt t_lt22
  have t_lt20 : t + 20 < jN (jG0 sc) := Nat.lt_of_succ_lt t_lt21
  have t_lt19 : t + 19 < jN (jG0 sc) := Nat.lt_of_succ_lt t_lt20
  have t_lt18 : t + 18 < jN (jG0 sc) := Nat.lt_of_succ_lt t_lt19
  have t_lt17 : t + 17 < jN (jG0 sc) := Nat.lt_of_succ_lt t_lt18
  have t_lt16 : t + 16 < jN (jG0 sc) := Nat.lt_of_succ_lt t_lt17
  have t_lt15 : t + 15 < jN (jG0 sc) := Nat.lt_of_succ_lt t_lt16
  have t_lt14 : t + 14 < jN (jG0 sc) := Nat.lt_of_succ_lt t_lt15
  have t_lt13 : t + 13 < jN (jG0 sc) := Nat.lt_of_succ_lt t_lt14
  have t_lt12 : t + 12 < jN (jG0 sc) := Nat.lt_of_succ_lt t_lt13
  have t_lt11 : t + 11 < jN (jG0 sc) := Nat.lt_of_succ_lt t_lt12
  have t_lt10 : t + 10 < jN (jG0 sc) := Nat.lt_of_succ_lt t_lt11
  have t_lt9 : t + 9 < jN (jG0 sc) := Nat.lt_of_succ_lt t_lt10
  have t_lt8 : t + 8 < jN (jG0 sc) := Nat.lt_of_succ_lt t_lt9
  have t_lt7 : t + 7 < jN (jG0 sc) := Nat.lt_of_succ_lt t_lt8
  have t_lt6 : t + 6 < jN (jG0 sc) := Nat.lt_of_succ_lt t_lt7
  have t_lt5 : t + 5 < jN (jG0 sc) := Nat.lt_of_succ_lt t_lt6
  have t_lt4 : t + 4 < jN (jG0 sc) := Nat.lt_of_succ_lt t_lt5
  have t_lt3 : t + 3 < jN (jG0 sc) := Nat.lt_of_succ_lt t_lt4
  have t_lt2 : t + 2 < jN (jG0 sc) := Nat.lt_of_succ_lt t_lt3
  have t_lt1 : t + 1 < jN (jG0 sc) := Nat.lt_of_succ_lt t_lt2
  have t_lt0 : t + 0 < jN (jG0 sc) := Nat.lt_of_succ_lt t_lt1
  refine j_callVN (idx := 61) (As := [.ref (a + 5)]) (ci := 5) (n := 1) k1 jvoid_nt (jTbl (jtb3 160 rfl)) sX5_copyOf kX5_copyOf rfl ⟨rfl, by decide +kernel, by decide +kernel, by decide +kernel⟩ rfl ⟨by decide, by decide⟩ (t_lt5) t_K5 (Nat.le_of_ble_eq_true rfl) (Nat.le_of_ble_eq_true rfl) ⟨Nat.zero_le _, Nat.zero_le _⟩ dX6_copyOf_30 (fun r Γ' h1 q => ?_)
  obtain ⟨q0, rfl, p1⟩ := q; cases q0
  refine j_eqst [] (by rfl) ?_
  refine j_aload_n (i := 0) rfl dX6_copyOf_33 ?_
  refine j_getR (idx := 31) (ci := 6) (k := 3) (nest := false) (show (6, 31, 6, 3, false) ∈ jFT by decide) rfl (t_lt0) t_K0 (a := (t + 9)) t_R0_3 dX6_copyOf_34 ?_
  refine j_aload_n (i := 1) rfl dX6_copyOf_37 ?_
  refine j_getR (idx := 31) (ci := 6) (k := 3) (nest := false) (show (6, 31, 6, 3, false) ∈ jFT by decide) rfl (a_lt0) a_K0 (a := (a + 9)) a_R0_3 dX6_copyOf_38 ?_
  refine j_callVN (idx := 64) (As := [.ref (a + 9)]) (ci := 1) (n := 1) (k2 h1 p1) jvoid_nt (jTbl (jtb3 164 rfl)) sX1_copyOf kX1_copyOf rfl ⟨rfl, by decide +kernel, by decide +kernel, by decide +kernel⟩ rfl ⟨by decide, by decide⟩ (t_lt9) t_K9 (Nat.le_of_ble_eq_true rfl) (Nat.le_of_ble_eq_true rfl) ⟨Nat.zero_le _, Nat.zero_le _⟩ dX6_copyOf_41 (fun r Γ' h2 q => ?_)
  obtain ⟨q0, rfl, p2⟩ := q; cases q0
  refine j_eqst [] (by rfl) ?_
  refine j_aload_n (i := 0) rfl dX6_copyOf_44 ?_
  refine j_getR (idx := 38) (ci := 6) (k := 4) (nest := false) (show (6, 38, 6, 4, false) ∈ jFT by decide) rfl (t_lt0) t_K0 (a := (t + 11)) t_R0_4 dX6_copyOf_45 ?_
  refine j_aload_n (i := 1) rfl dX6_copyOf_48 ?_
  refine j_getR (idx := 38) (ci := 6) (k := 4) (nest := false) (show (6, 38, 6, 4, false) ∈ jFT by decide) rfl (a_lt0) a_K0 (a := (a + 11)) a_R0_4 dX6_copyOf_49 ?_
  refine j_callVN (idx := 67) (As := [.ref (a + 11)]) (ci := 9) (n := 1) (k3 h1 p1 h2 p2) jvoid_nt (jTbl (jtb3 168 rfl)) sX9_copyOf kX9_copyOf rfl ⟨rfl, by decide +kernel, by decide +kernel, by decide +kernel⟩ rfl ⟨by decide, by decide⟩ (t_lt11) t_K11 (Nat.le_of_ble_eq_true rfl) (Nat.le_of_ble_eq_true rfl) ⟨Nat.zero_le _, Nat.zero_le _⟩ dX6_copyOf_52 (fun r Γ' h3 q => ?_)
  obtain ⟨q0, rfl, p3⟩ := q; cases q0
  refine j_eqst [] (by rfl) ?_
  refine j_iconst (n := 0) 0 (by decide) dX6_copyOf_55 ?_
  refine j_istore_n (i := 2) dX6_copyOf_56 (Nat.le_of_ble_eq_true rfl) ?_
  exact j_le [some (.ref t), some (.ref a), some (.int 0)] (And.intro rfl (And.intro rfl (And.intro rfl True.intro))) (v1 h1 p1 h2 p2 h3 p3)
set_option maxRecDepth 100000 in
theorem bX6_copyOf_57 {sc : Nat × (Nat → Int32)} {h : jH} {Q : jQ} {a : Nat} {t : Nat} {l2 : Int32} (a_h : jI6 a) (t_h : jI6 t)
    (v1 : 6 ≤ l2 → WP mX6_copyOf Q 81 [some (.ref t), some (.ref a), some (.int l2)] [] (jG0 sc) h (0, 0))
    (v2 : ¬ 6 ≤ l2 → WP mX6_copyOf Q 63 [some (.ref t), some (.ref a), some (.int l2)] [] (jG0 sc) h (0, 0)) :
    WP mX6_copyOf Q 57 [some (.ref t), some (.ref a), some (.int l2)] [] (jG0 sc) h (0, 0) := by
  obtain ⟨a_lt29, a_K0, a_R0_0, a_R0_1, a_R0_2, a_R0_3, a_R0_4, a_R0_5, a_R0_6, a_K16, a_L16, a_K17, a_L17, a_K1, a_K3, a_K5, a_K9, a_K11⟩ := a_h
  have a_lt28 : a + 28 < jN (jG0 sc) := Nat.lt_of_succ_lt a_lt29
  have a_lt27 : a + 27 < jN (jG0 sc) := Nat.lt_of_succ_lt a_lt28
  have a_lt26 : a + 26 < jN (jG0 sc) := Nat.lt_of_succ_lt a_lt27
  have a_lt25 : a + 25 < jN (jG0 sc) := Nat.lt_of_succ_lt a_lt26
  have a_lt24 : a + 24 < jN (jG0 sc) := Nat.lt_of_succ_lt a_lt25
  have a_lt23 : a + 23 < jN (jG0 sc) := Nat.lt_of_succ_lt a_lt24
  have a_lt22 : a + 22 < jN (jG0 sc) := Nat.lt_of_succ_lt a_lt23
  have a_lt21 : a + 21 < jN (jG0 sc) := Nat.lt_of_succ_lt a_lt22
  have a_lt20 : a + 20 < jN (jG0 sc) := Nat.lt_of_succ_lt a_lt21
  have a_lt19 : a + 19 < jN (jG0 sc) := Nat.lt_of_succ_lt a_lt20
  have a_lt18 : a + 18 < jN (jG0 sc) := Nat.lt_of_succ_lt a_lt19
  have a_lt17 : a + 17 < jN (jG0 sc) := Nat.lt_of_succ_lt a_lt18
  have a_lt16 : a + 16 < jN (jG0 sc) := Nat.lt_of_succ_lt a_lt17
  have a_lt15 : a + 15 < jN (jG0 sc) := Nat.lt_of_succ_lt a_lt16
  have a_lt14 : a + 14 < jN (jG0 sc) := Nat.lt_of_succ_lt a_lt15
  have a_lt13 : a + 13 < jN (jG0 sc) := Nat.lt_of_succ_lt a_lt14
  have a_lt12 : a + 12 < jN (jG0 sc) := Nat.lt_of_succ_lt a_lt13
  have a_lt11 : a + 11 < jN (jG0 sc) := Nat.lt_of_succ_lt a_lt12
  have a_lt10 : a + 10 < jN (jG0 sc) := Nat.lt_of_succ_lt a_lt11
  have a_lt9 : a + 9 < jN (jG0 sc) := Nat.lt_of_succ_lt a_lt10
  have a_lt8 : a + 8 < jN (jG0 sc) := Nat.lt_of_succ_lt a_lt9
  have a_lt7 : a + 7 < jN (jG0 sc) := Nat.lt_of_succ_lt a_lt8
  have a_lt6 : a + 6 < jN (jG0 sc) := Nat.lt_of_succ_lt a_lt7
  have a_lt5 : a + 5 < jN (jG0 sc) := Nat.lt_of_succ_lt a_lt6
  have a_lt4 : a + 4 < jN (jG0 sc) := Nat.lt_of_succ_lt a_lt5
  have a_lt3 : a + 3 < jN (jG0 sc) := Nat.lt_of_succ_lt a_lt4
  have a_lt2 : a + 2 < jN (jG0 sc) := Nat.lt_of_succ_lt a_lt3
  have a_lt1 : a + 1 < jN (jG0 sc) := Nat.lt_of_succ_lt a_lt2
  have a_lt0 : a + 0 < jN (jG0 sc) := Nat.lt_of_succ_lt a_lt1
  obtain ⟨t_lt29, t_K0, t_R0_0, t_R0_1, t_R0_2, t_R0_3, t_R0_4, t_R0_5, t_R0_6, t_K16, t_L16, t_K17, t_L17, t_K1, t_K3, t_K5, t_K9, t_K11⟩ := t_h
  have t_lt28 : t + 28 < jN (jG0 sc) := Nat.lt_of_succ_lt t_lt29
  have t_lt27 : t + 27 < jN (jG0 sc) := Nat.lt_of_succ_lt t_lt28
  have t_lt26 : t + 26 < jN (jG0 sc) := Nat.lt_of_succ_lt t_lt27
  have t_lt25 : t + 25 < jN (jG0 sc) := Nat.lt_of_succ_lt t_lt26
  have t_lt24 : t + 24 < jN (jG0 sc) := Nat.lt_of_succ_lt t_lt25
  have t_lt23 : t + 23 < jN (jG0 sc) := Nat.lt_of_succ_lt t_lt24
  have t_lt22 : t + 22 < jN (jG0 sc) := Nat.lt_of_succ_lt t_lt23
  have t_lt21 : t + 21 < jN (jG0 sc) := Nat.lt_of_succ_lt t_lt22
  have t_lt20 : t + 20 < jN (jG0 sc) := Nat.lt_of_succ_lt t_lt21
  have t_lt19 : t + 19 < jN (jG0 sc) := Nat.lt_of_succ_lt t_lt20
  have t_lt18 : t + 18 < jN (jG0 sc) := Nat.lt_of_succ_lt t_lt19
  have t_lt17 : t + 17 < jN (jG0 sc) := Nat.lt_of_succ_lt t_lt18
  have t_lt16 : t + 16 < jN (jG0 sc) := Nat.lt_of_succ_lt t_lt17
  have t_lt15 : t + 15 < jN (jG0 sc) := Nat.lt_of_succ_lt t_lt16
  have t_lt14 : t + 14 < jN (jG0 sc) := Nat.lt_of_succ_lt t_lt15
  have t_lt13 : t + 13 < jN (jG0 sc) := Nat.lt_of_succ_lt t_lt14
  have t_lt12 : t + 12 < jN (jG0 sc) := Nat.lt_of_succ_lt t_lt13
  have t_lt11 : t + 11 < jN (jG0 sc) := Nat.lt_of_succ_lt t_lt12
  have t_lt10 : t + 10 < jN (jG0 sc) := Nat.lt_of_succ_lt t_lt11
  have t_lt9 : t + 9 < jN (jG0 sc) := Nat.lt_of_succ_lt t_lt10
  have t_lt8 : t + 8 < jN (jG0 sc) := Nat.lt_of_succ_lt t_lt9
  have t_lt7 : t + 7 < jN (jG0 sc) := Nat.lt_of_succ_lt t_lt8
  have t_lt6 : t + 6 < jN (jG0 sc) := Nat.lt_of_succ_lt t_lt7
  have t_lt5 : t + 5 < jN (jG0 sc) := Nat.lt_of_succ_lt t_lt6
  have t_lt4 : t + 4 < jN (jG0 sc) := Nat.lt_of_succ_lt t_lt5
  have t_lt3 : t + 3 < jN (jG0 sc) := Nat.lt_of_succ_lt t_lt4
  have t_lt2 : t + 2 < jN (jG0 sc) := Nat.lt_of_succ_lt t_lt3
  have t_lt1 : t + 1 < jN (jG0 sc) := Nat.lt_of_succ_lt t_lt2
  have t_lt0 : t + 0 < jN (jG0 sc) := Nat.lt_of_succ_lt t_lt1
  refine j_iload_n (i := 2) rfl dX6_copyOf_57 ?_
  refine j_bipush (n := 6) 6 (by decide) dX6_copyOf_58 ?_
  refine j_icmp_ge (off := 21) 81 dX6_copyOf_60 (by decide) (fun c1 => ?_) (fun c1 => ?_)
  · exact j_le [some (.ref t), some (.ref a), some (.int l2)] (And.intro rfl (And.intro rfl (And.intro rfl True.intro))) (v1 c1)
  · exact j_le [some (.ref t), some (.ref a), some (.int l2)] (And.intro rfl (And.intro rfl (And.intro rfl True.intro))) (v2 c1)
set_option maxRecDepth 100000 in
theorem bX6_copyOf_63 {sc : Nat × (Nat → Int32)} {h : jH} {Q : jQ} {a : Nat} {t : Nat} {l2 : Int32} (a_h : jI6 a) (t_h : jI6 t)
    (o1 : vp_in l2 6)
    (o2 : vp_in l2 6)
    (v1 : WP mX6_copyOf Q 57 [some (.ref t), some (.ref a), some (.int (l2 + 1))] [] (jG0 sc) (jput h (t + 16) l2.toNatClampNeg (h (a + 16) l2.toNatClampNeg)) (0, 0)) :
    WP mX6_copyOf Q 63 [some (.ref t), some (.ref a), some (.int l2)] [] (jG0 sc) h (0, 0) := by
  obtain ⟨a_lt29, a_K0, a_R0_0, a_R0_1, a_R0_2, a_R0_3, a_R0_4, a_R0_5, a_R0_6, a_K16, a_L16, a_K17, a_L17, a_K1, a_K3, a_K5, a_K9, a_K11⟩ := a_h
  have a_lt28 : a + 28 < jN (jG0 sc) := Nat.lt_of_succ_lt a_lt29
  have a_lt27 : a + 27 < jN (jG0 sc) := Nat.lt_of_succ_lt a_lt28
  have a_lt26 : a + 26 < jN (jG0 sc) := Nat.lt_of_succ_lt a_lt27
  have a_lt25 : a + 25 < jN (jG0 sc) := Nat.lt_of_succ_lt a_lt26
  have a_lt24 : a + 24 < jN (jG0 sc) := Nat.lt_of_succ_lt a_lt25
  have a_lt23 : a + 23 < jN (jG0 sc) := Nat.lt_of_succ_lt a_lt24
  have a_lt22 : a + 22 < jN (jG0 sc) := Nat.lt_of_succ_lt a_lt23
  have a_lt21 : a + 21 < jN (jG0 sc) := Nat.lt_of_succ_lt a_lt22
  have a_lt20 : a + 20 < jN (jG0 sc) := Nat.lt_of_succ_lt a_lt21
  have a_lt19 : a + 19 < jN (jG0 sc) := Nat.lt_of_succ_lt a_lt20
  have a_lt18 : a + 18 < jN (jG0 sc) := Nat.lt_of_succ_lt a_lt19
  have a_lt17 : a + 17 < jN (jG0 sc) := Nat.lt_of_succ_lt a_lt18
  have a_lt16 : a + 16 < jN (jG0 sc) := Nat.lt_of_succ_lt a_lt17
  have a_lt15 : a + 15 < jN (jG0 sc) := Nat.lt_of_succ_lt a_lt16
  have a_lt14 : a + 14 < jN (jG0 sc) := Nat.lt_of_succ_lt a_lt15
  have a_lt13 : a + 13 < jN (jG0 sc) := Nat.lt_of_succ_lt a_lt14
  have a_lt12 : a + 12 < jN (jG0 sc) := Nat.lt_of_succ_lt a_lt13
  have a_lt11 : a + 11 < jN (jG0 sc) := Nat.lt_of_succ_lt a_lt12
  have a_lt10 : a + 10 < jN (jG0 sc) := Nat.lt_of_succ_lt a_lt11
  have a_lt9 : a + 9 < jN (jG0 sc) := Nat.lt_of_succ_lt a_lt10
  have a_lt8 : a + 8 < jN (jG0 sc) := Nat.lt_of_succ_lt a_lt9
  have a_lt7 : a + 7 < jN (jG0 sc) := Nat.lt_of_succ_lt a_lt8
  have a_lt6 : a + 6 < jN (jG0 sc) := Nat.lt_of_succ_lt a_lt7
  have a_lt5 : a + 5 < jN (jG0 sc) := Nat.lt_of_succ_lt a_lt6
  have a_lt4 : a + 4 < jN (jG0 sc) := Nat.lt_of_succ_lt a_lt5
  have a_lt3 : a + 3 < jN (jG0 sc) := Nat.lt_of_succ_lt a_lt4
  have a_lt2 : a + 2 < jN (jG0 sc) := Nat.lt_of_succ_lt a_lt3
  have a_lt1 : a + 1 < jN (jG0 sc) := Nat.lt_of_succ_lt a_lt2
  have a_lt0 : a + 0 < jN (jG0 sc) := Nat.lt_of_succ_lt a_lt1
  obtain ⟨t_lt29, t_K0, t_R0_0, t_R0_1, t_R0_2, t_R0_3, t_R0_4, t_R0_5, t_R0_6, t_K16, t_L16, t_K17, t_L17, t_K1, t_K3, t_K5, t_K9, t_K11⟩ := t_h
  have t_lt28 : t + 28 < jN (jG0 sc) := Nat.lt_of_succ_lt t_lt29
  have t_lt27 : t + 27 < jN (jG0 sc) := Nat.lt_of_succ_lt t_lt28
  have t_lt26 : t + 26 < jN (jG0 sc) := Nat.lt_of_succ_lt t_lt27
  have t_lt25 : t + 25 < jN (jG0 sc) := Nat.lt_of_succ_lt t_lt26
  have t_lt24 : t + 24 < jN (jG0 sc) := Nat.lt_of_succ_lt t_lt25
  have t_lt23 : t + 23 < jN (jG0 sc) := Nat.lt_of_succ_lt t_lt24
  have t_lt22 : t + 22 < jN (jG0 sc) := Nat.lt_of_succ_lt t_lt23
  have t_lt21 : t + 21 < jN (jG0 sc) := Nat.lt_of_succ_lt t_lt22
  have t_lt20 : t + 20 < jN (jG0 sc) := Nat.lt_of_succ_lt t_lt21
  have t_lt19 : t + 19 < jN (jG0 sc) := Nat.lt_of_succ_lt t_lt20
  have t_lt18 : t + 18 < jN (jG0 sc) := Nat.lt_of_succ_lt t_lt19
  have t_lt17 : t + 17 < jN (jG0 sc) := Nat.lt_of_succ_lt t_lt18
  have t_lt16 : t + 16 < jN (jG0 sc) := Nat.lt_of_succ_lt t_lt17
  have t_lt15 : t + 15 < jN (jG0 sc) := Nat.lt_of_succ_lt t_lt16
  have t_lt14 : t + 14 < jN (jG0 sc) := Nat.lt_of_succ_lt t_lt15
  have t_lt13 : t + 13 < jN (jG0 sc) := Nat.lt_of_succ_lt t_lt14
  have t_lt12 : t + 12 < jN (jG0 sc) := Nat.lt_of_succ_lt t_lt13
  have t_lt11 : t + 11 < jN (jG0 sc) := Nat.lt_of_succ_lt t_lt12
  have t_lt10 : t + 10 < jN (jG0 sc) := Nat.lt_of_succ_lt t_lt11
  have t_lt9 : t + 9 < jN (jG0 sc) := Nat.lt_of_succ_lt t_lt10
  have t_lt8 : t + 8 < jN (jG0 sc) := Nat.lt_of_succ_lt t_lt9
  have t_lt7 : t + 7 < jN (jG0 sc) := Nat.lt_of_succ_lt t_lt8
  have t_lt6 : t + 6 < jN (jG0 sc) := Nat.lt_of_succ_lt t_lt7
  have t_lt5 : t + 5 < jN (jG0 sc) := Nat.lt_of_succ_lt t_lt6
  have t_lt4 : t + 4 < jN (jG0 sc) := Nat.lt_of_succ_lt t_lt5
  have t_lt3 : t + 3 < jN (jG0 sc) := Nat.lt_of_succ_lt t_lt4
  have t_lt2 : t + 2 < jN (jG0 sc) := Nat.lt_of_succ_lt t_lt3
  have t_lt1 : t + 1 < jN (jG0 sc) := Nat.lt_of_succ_lt t_lt2
  have t_lt0 : t + 0 < jN (jG0 sc) := Nat.lt_of_succ_lt t_lt1
  refine j_aload_n (i := 0) rfl dX6_copyOf_63 ?_
  refine j_getR (idx := 42) (ci := 6) (k := 5) (nest := false) (show (6, 42, 6, 5, false) ∈ jFT by decide) rfl (t_lt0) t_K0 (a := (t + 16)) t_R0_5 dX6_copyOf_64 ?_
  refine j_iload_n (i := 2) rfl dX6_copyOf_67 ?_
  refine j_aload_n (i := 1) rfl dX6_copyOf_68 ?_
  refine j_getR (idx := 42) (ci := 6) (k := 5) (nest := false) (show (6, 42, 6, 5, false) ∈ jFT by decide) rfl (a_lt0) a_K0 (a := (a + 16)) a_R0_5 dX6_copyOf_69 ?_
  refine j_iload_n (i := 2) rfl dX6_copyOf_72 ?_
  refine j_iald (a_lt16) a_K16 (by rw [show jL (jG0 sc) (a + 16) = 6 from a_L16]; exact o1) dX6_copyOf_73 ?_
  refine j_iast (t_lt16) t_K16 (by rw [show jL (jG0 sc) (t + 16) = 6 from t_L16]; exact o2) dX6_copyOf_74 ?_
  refine j_iinc (i := 2) (n := 1) rfl dX6_copyOf_75 (Nat.le_of_ble_eq_true rfl) ?_
  refine j_eqlv [some (.ref t), some (.ref a), some (.int (l2 + 1))] rfl ?_
  refine j_goto (off := -21) 57 dX6_copyOf_78 (by decide) ?_
  exact j_le [some (.ref t), some (.ref a), some (.int (l2 + 1))] (And.intro rfl (And.intro rfl (And.intro rfl True.intro))) v1
set_option maxRecDepth 100000 in
theorem bX6_copyOf_81 {sc : Nat × (Nat → Int32)} {h : jH} {Q : jQ} {a : Nat} {t : Nat} {l2 : Int32} (a_h : jI6 a) (t_h : jI6 t)
    (v1 : WP mX6_copyOf Q 83 [some (.ref t), some (.ref a), some (.int 0)] [] (jG0 sc) h (0, 0)) :
    WP mX6_copyOf Q 81 [some (.ref t), some (.ref a), some (.int l2)] [] (jG0 sc) h (0, 0) := by
  obtain ⟨a_lt29, a_K0, a_R0_0, a_R0_1, a_R0_2, a_R0_3, a_R0_4, a_R0_5, a_R0_6, a_K16, a_L16, a_K17, a_L17, a_K1, a_K3, a_K5, a_K9, a_K11⟩ := a_h
  have a_lt28 : a + 28 < jN (jG0 sc) := Nat.lt_of_succ_lt a_lt29
  have a_lt27 : a + 27 < jN (jG0 sc) := Nat.lt_of_succ_lt a_lt28
  have a_lt26 : a + 26 < jN (jG0 sc) := Nat.lt_of_succ_lt a_lt27
  have a_lt25 : a + 25 < jN (jG0 sc) := Nat.lt_of_succ_lt a_lt26
  have a_lt24 : a + 24 < jN (jG0 sc) := Nat.lt_of_succ_lt a_lt25
  have a_lt23 : a + 23 < jN (jG0 sc) := Nat.lt_of_succ_lt a_lt24
  have a_lt22 : a + 22 < jN (jG0 sc) := Nat.lt_of_succ_lt a_lt23
  have a_lt21 : a + 21 < jN (jG0 sc) := Nat.lt_of_succ_lt a_lt22
  have a_lt20 : a + 20 < jN (jG0 sc) := Nat.lt_of_succ_lt a_lt21
  have a_lt19 : a + 19 < jN (jG0 sc) := Nat.lt_of_succ_lt a_lt20
  have a_lt18 : a + 18 < jN (jG0 sc) := Nat.lt_of_succ_lt a_lt19
  have a_lt17 : a + 17 < jN (jG0 sc) := Nat.lt_of_succ_lt a_lt18
  have a_lt16 : a + 16 < jN (jG0 sc) := Nat.lt_of_succ_lt a_lt17
  have a_lt15 : a + 15 < jN (jG0 sc) := Nat.lt_of_succ_lt a_lt16
  have a_lt14 : a + 14 < jN (jG0 sc) := Nat.lt_of_succ_lt a_lt15
  have a_lt13 : a + 13 < jN (jG0 sc) := Nat.lt_of_succ_lt a_lt14
  have a_lt12 : a + 12 < jN (jG0 sc) := Nat.lt_of_succ_lt a_lt13
  have a_lt11 : a + 11 < jN (jG0 sc) := Nat.lt_of_succ_lt a_lt12
  have a_lt10 : a + 10 < jN (jG0 sc) := Nat.lt_of_succ_lt a_lt11
  have a_lt9 : a + 9 < jN (jG0 sc) := Nat.lt_of_succ_lt a_lt10
  have a_lt8 : a + 8 < jN (jG0 sc) := Nat.lt_of_succ_lt a_lt9
  have a_lt7 : a + 7 < jN (jG0 sc) := Nat.lt_of_succ_lt a_lt8
  have a_lt6 : a + 6 < jN (jG0 sc) := Nat.lt_of_succ_lt a_lt7
  have a_lt5 : a + 5 < jN (jG0 sc) := Nat.lt_of_succ_lt a_lt6
  have a_lt4 : a + 4 < jN (jG0 sc) := Nat.lt_of_succ_lt a_lt5
  have a_lt3 : a + 3 < jN (jG0 sc) := Nat.lt_of_succ_lt a_lt4
  have a_lt2 : a + 2 < jN (jG0 sc) := Nat.lt_of_succ_lt a_lt3
  have a_lt1 : a + 1 < jN (jG0 sc) := Nat.lt_of_succ_lt a_lt2
  have a_lt0 : a + 0 < jN (jG0 sc) := Nat.lt_of_succ_lt a_lt1
  obtain ⟨t_lt29, t_K0, t_R0_0, t_R0_1, t_R0_2, t_R0_3, t_R0_4, t_R0_5, t_R0_6, t_K16, t_L16, t_K17, t_L17, t_K1, t_K3, t_K5, t_K9, t_K11⟩ := t_h
  have t_lt28 : t + 28 < jN (jG0 sc) := Nat.lt_of_succ_lt t_lt29
  have t_lt27 : t + 27 < jN (jG0 sc) := Nat.lt_of_succ_lt t_lt28
  have t_lt26 : t + 26 < jN (jG0 sc) := Nat.lt_of_succ_lt t_lt27
  have t_lt25 : t + 25 < jN (jG0 sc) := Nat.lt_of_succ_lt t_lt26
  have t_lt24 : t + 24 < jN (jG0 sc) := Nat.lt_of_succ_lt t_lt25
  have t_lt23 : t + 23 < jN (jG0 sc) := Nat.lt_of_succ_lt t_lt24
  have t_lt22 : t + 22 < jN (jG0 sc) := Nat.lt_of_succ_lt t_lt23
  have t_lt21 : t + 21 < jN (jG0 sc) := Nat.lt_of_succ_lt t_lt22
  have t_lt20 : t + 20 < jN (jG0 sc) := Nat.lt_of_succ_lt t_lt21
  have t_lt19 : t + 19 < jN (jG0 sc) := Nat.lt_of_succ_lt t_lt20
  have t_lt18 : t + 18 < jN (jG0 sc) := Nat.lt_of_succ_lt t_lt19
  have t_lt17 : t + 17 < jN (jG0 sc) := Nat.lt_of_succ_lt t_lt18
  have t_lt16 : t + 16 < jN (jG0 sc) := Nat.lt_of_succ_lt t_lt17
  have t_lt15 : t + 15 < jN (jG0 sc) := Nat.lt_of_succ_lt t_lt16
  have t_lt14 : t + 14 < jN (jG0 sc) := Nat.lt_of_succ_lt t_lt15
  have t_lt13 : t + 13 < jN (jG0 sc) := Nat.lt_of_succ_lt t_lt14
  have t_lt12 : t + 12 < jN (jG0 sc) := Nat.lt_of_succ_lt t_lt13
  have t_lt11 : t + 11 < jN (jG0 sc) := Nat.lt_of_succ_lt t_lt12
  have t_lt10 : t + 10 < jN (jG0 sc) := Nat.lt_of_succ_lt t_lt11
  have t_lt9 : t + 9 < jN (jG0 sc) := Nat.lt_of_succ_lt t_lt10
  have t_lt8 : t + 8 < jN (jG0 sc) := Nat.lt_of_succ_lt t_lt9
  have t_lt7 : t + 7 < jN (jG0 sc) := Nat.lt_of_succ_lt t_lt8
  have t_lt6 : t + 6 < jN (jG0 sc) := Nat.lt_of_succ_lt t_lt7
  have t_lt5 : t + 5 < jN (jG0 sc) := Nat.lt_of_succ_lt t_lt6
  have t_lt4 : t + 4 < jN (jG0 sc) := Nat.lt_of_succ_lt t_lt5
  have t_lt3 : t + 3 < jN (jG0 sc) := Nat.lt_of_succ_lt t_lt4
  have t_lt2 : t + 2 < jN (jG0 sc) := Nat.lt_of_succ_lt t_lt3
  have t_lt1 : t + 1 < jN (jG0 sc) := Nat.lt_of_succ_lt t_lt2
  have t_lt0 : t + 0 < jN (jG0 sc) := Nat.lt_of_succ_lt t_lt1
  refine j_iconst (n := 0) 0 (by decide) dX6_copyOf_81 ?_
  refine j_istore_n (i := 2) dX6_copyOf_82 (Nat.le_of_ble_eq_true rfl) ?_
  exact j_le [some (.ref t), some (.ref a), some (.int 0)] (And.intro rfl (And.intro rfl (And.intro rfl True.intro))) v1
set_option maxRecDepth 100000 in
theorem bX6_copyOf_83 {sc : Nat × (Nat → Int32)} {h : jH} {Q : jQ} {a : Nat} {t : Nat} {l2 : Int32} (a_h : jI6 a) (t_h : jI6 t)
    (v1 : 6 ≤ l2 → WP mX6_copyOf Q 110 [some (.ref t), some (.ref a), some (.int l2)] [] (jG0 sc) h (0, 0))
    (v2 : ¬ 6 ≤ l2 → WP mX6_copyOf Q 89 [some (.ref t), some (.ref a), some (.int l2)] [] (jG0 sc) h (0, 0)) :
    WP mX6_copyOf Q 83 [some (.ref t), some (.ref a), some (.int l2)] [] (jG0 sc) h (0, 0) := by
  obtain ⟨a_lt29, a_K0, a_R0_0, a_R0_1, a_R0_2, a_R0_3, a_R0_4, a_R0_5, a_R0_6, a_K16, a_L16, a_K17, a_L17, a_K1, a_K3, a_K5, a_K9, a_K11⟩ := a_h
  have a_lt28 : a + 28 < jN (jG0 sc) := Nat.lt_of_succ_lt a_lt29
  have a_lt27 : a + 27 < jN (jG0 sc) := Nat.lt_of_succ_lt a_lt28
  have a_lt26 : a + 26 < jN (jG0 sc) := Nat.lt_of_succ_lt a_lt27
  have a_lt25 : a + 25 < jN (jG0 sc) := Nat.lt_of_succ_lt a_lt26
  have a_lt24 : a + 24 < jN (jG0 sc) := Nat.lt_of_succ_lt a_lt25
  have a_lt23 : a + 23 < jN (jG0 sc) := Nat.lt_of_succ_lt a_lt24
  have a_lt22 : a + 22 < jN (jG0 sc) := Nat.lt_of_succ_lt a_lt23
  have a_lt21 : a + 21 < jN (jG0 sc) := Nat.lt_of_succ_lt a_lt22
  have a_lt20 : a + 20 < jN (jG0 sc) := Nat.lt_of_succ_lt a_lt21
  have a_lt19 : a + 19 < jN (jG0 sc) := Nat.lt_of_succ_lt a_lt20
  have a_lt18 : a + 18 < jN (jG0 sc) := Nat.lt_of_succ_lt a_lt19
  have a_lt17 : a + 17 < jN (jG0 sc) := Nat.lt_of_succ_lt a_lt18
  have a_lt16 : a + 16 < jN (jG0 sc) := Nat.lt_of_succ_lt a_lt17
  have a_lt15 : a + 15 < jN (jG0 sc) := Nat.lt_of_succ_lt a_lt16
  have a_lt14 : a + 14 < jN (jG0 sc) := Nat.lt_of_succ_lt a_lt15
  have a_lt13 : a + 13 < jN (jG0 sc) := Nat.lt_of_succ_lt a_lt14
  have a_lt12 : a + 12 < jN (jG0 sc) := Nat.lt_of_succ_lt a_lt13
  have a_lt11 : a + 11 < jN (jG0 sc) := Nat.lt_of_succ_lt a_lt12
  have a_lt10 : a + 10 < jN (jG0 sc) := Nat.lt_of_succ_lt a_lt11
  have a_lt9 : a + 9 < jN (jG0 sc) := Nat.lt_of_succ_lt a_lt10
  have a_lt8 : a + 8 < jN (jG0 sc) := Nat.lt_of_succ_lt a_lt9
  have a_lt7 : a + 7 < jN (jG0 sc) := Nat.lt_of_succ_lt a_lt8
  have a_lt6 : a + 6 < jN (jG0 sc) := Nat.lt_of_succ_lt a_lt7
  have a_lt5 : a + 5 < jN (jG0 sc) := Nat.lt_of_succ_lt a_lt6
  have a_lt4 : a + 4 < jN (jG0 sc) := Nat.lt_of_succ_lt a_lt5
  have a_lt3 : a + 3 < jN (jG0 sc) := Nat.lt_of_succ_lt a_lt4
  have a_lt2 : a + 2 < jN (jG0 sc) := Nat.lt_of_succ_lt a_lt3
  have a_lt1 : a + 1 < jN (jG0 sc) := Nat.lt_of_succ_lt a_lt2
  have a_lt0 : a + 0 < jN (jG0 sc) := Nat.lt_of_succ_lt a_lt1
  obtain ⟨t_lt29, t_K0, t_R0_0, t_R0_1, t_R0_2, t_R0_3, t_R0_4, t_R0_5, t_R0_6, t_K16, t_L16, t_K17, t_L17, t_K1, t_K3, t_K5, t_K9, t_K11⟩ := t_h
  have t_lt28 : t + 28 < jN (jG0 sc) := Nat.lt_of_succ_lt t_lt29
  have t_lt27 : t + 27 < jN (jG0 sc) := Nat.lt_of_succ_lt t_lt28
  have t_lt26 : t + 26 < jN (jG0 sc) := Nat.lt_of_succ_lt t_lt27
  have t_lt25 : t + 25 < jN (jG0 sc) := Nat.lt_of_succ_lt t_lt26
  have t_lt24 : t + 24 < jN (jG0 sc) := Nat.lt_of_succ_lt t_lt25
  have t_lt23 : t + 23 < jN (jG0 sc) := Nat.lt_of_succ_lt t_lt24
  have t_lt22 : t + 22 < jN (jG0 sc) := Nat.lt_of_succ_lt t_lt23
  have t_lt21 : t + 21 < jN (jG0 sc) := Nat.lt_of_succ_lt t_lt22
  have t_lt20 : t + 20 < jN (jG0 sc) := Nat.lt_of_succ_lt t_lt21
  have t_lt19 : t + 19 < jN (jG0 sc) := Nat.lt_of_succ_lt t_lt20
  have t_lt18 : t + 18 < jN (jG0 sc) := Nat.lt_of_succ_lt t_lt19
  have t_lt17 : t + 17 < jN (jG0 sc) := Nat.lt_of_succ_lt t_lt18
  have t_lt16 : t + 16 < jN (jG0 sc) := Nat.lt_of_succ_lt t_lt17
  have t_lt15 : t + 15 < jN (jG0 sc) := Nat.lt_of_succ_lt t_lt16
  have t_lt14 : t + 14 < jN (jG0 sc) := Nat.lt_of_succ_lt t_lt15
  have t_lt13 : t + 13 < jN (jG0 sc) := Nat.lt_of_succ_lt t_lt14
  have t_lt12 : t + 12 < jN (jG0 sc) := Nat.lt_of_succ_lt t_lt13
  have t_lt11 : t + 11 < jN (jG0 sc) := Nat.lt_of_succ_lt t_lt12
  have t_lt10 : t + 10 < jN (jG0 sc) := Nat.lt_of_succ_lt t_lt11
  have t_lt9 : t + 9 < jN (jG0 sc) := Nat.lt_of_succ_lt t_lt10
  have t_lt8 : t + 8 < jN (jG0 sc) := Nat.lt_of_succ_lt t_lt9
  have t_lt7 : t + 7 < jN (jG0 sc) := Nat.lt_of_succ_lt t_lt8
  have t_lt6 : t + 6 < jN (jG0 sc) := Nat.lt_of_succ_lt t_lt7
  have t_lt5 : t + 5 < jN (jG0 sc) := Nat.lt_of_succ_lt t_lt6
  have t_lt4 : t + 4 < jN (jG0 sc) := Nat.lt_of_succ_lt t_lt5
  have t_lt3 : t + 3 < jN (jG0 sc) := Nat.lt_of_succ_lt t_lt4
  have t_lt2 : t + 2 < jN (jG0 sc) := Nat.lt_of_succ_lt t_lt3
  have t_lt1 : t + 1 < jN (jG0 sc) := Nat.lt_of_succ_lt t_lt2
  have t_lt0 : t + 0 < jN (jG0 sc) := Nat.lt_of_succ_lt t_lt1
  refine j_iload_n (i := 2) rfl dX6_copyOf_83 ?_
  refine j_bipush (n := 6) 6 (by decide) dX6_copyOf_84 ?_
  refine j_icmp_ge (off := 24) 110 dX6_copyOf_86 (by decide) (fun c1 => ?_) (fun c1 => ?_)
  · exact j_le [some (.ref t), some (.ref a), some (.int l2)] (And.intro rfl (And.intro rfl (And.intro rfl True.intro))) (v1 c1)
  · exact j_le [some (.ref t), some (.ref a), some (.int l2)] (And.intro rfl (And.intro rfl (And.intro rfl True.intro))) (v2 c1)
set_option maxRecDepth 100000 in
theorem bX6_copyOf_89 {sc : Nat × (Nat → Int32)} {h : jH} {Q : jQ} {a : Nat} {t : Nat} {l2 : Int32} {q1 : Nat} {q2 : Nat} {P1 : jH → Prop} (a_h : jI6 a) (t_h : jI6 t)
    (o1 : vp_in l2 6)
    (o2 : (jRt.getD (t + 17) []).getD l2.toNatClampNeg none = some q1)
    (o3 : jI4 q1)
    (o4 : vp_in l2 6)
    (o5 : (jRt.getD (a + 17) []).getD l2.toNatClampNeg none = some q2)
    (o6 : jI4 q2)
    (k1 : JM mX4_copyOf [.ref q1, .ref q2] (jG0 sc) h (jvoid sc P1))
    (v1 : ∀ h3 : jH, P1 h3 → WP mX6_copyOf Q 83 [some (.ref t), some (.ref a), some (.int (l2 + 1))] [] (jG0 sc) h3 (0, 0)) :
    WP mX6_copyOf Q 89 [some (.ref t), some (.ref a), some (.int l2)] [] (jG0 sc) h (0, 0) := by
  obtain ⟨a_lt29, a_K0, a_R0_0, a_R0_1, a_R0_2, a_R0_3, a_R0_4, a_R0_5, a_R0_6, a_K16, a_L16, a_K17, a_L17, a_K1, a_K3, a_K5, a_K9, a_K11⟩ := a_h
  have a_lt28 : a + 28 < jN (jG0 sc) := Nat.lt_of_succ_lt a_lt29
  have a_lt27 : a + 27 < jN (jG0 sc) := Nat.lt_of_succ_lt a_lt28
  have a_lt26 : a + 26 < jN (jG0 sc) := Nat.lt_of_succ_lt a_lt27
  have a_lt25 : a + 25 < jN (jG0 sc) := Nat.lt_of_succ_lt a_lt26
  have a_lt24 : a + 24 < jN (jG0 sc) := Nat.lt_of_succ_lt a_lt25
  have a_lt23 : a + 23 < jN (jG0 sc) := Nat.lt_of_succ_lt a_lt24
  have a_lt22 : a + 22 < jN (jG0 sc) := Nat.lt_of_succ_lt a_lt23
  have a_lt21 : a + 21 < jN (jG0 sc) := Nat.lt_of_succ_lt a_lt22
  have a_lt20 : a + 20 < jN (jG0 sc) := Nat.lt_of_succ_lt a_lt21
  have a_lt19 : a + 19 < jN (jG0 sc) := Nat.lt_of_succ_lt a_lt20
  have a_lt18 : a + 18 < jN (jG0 sc) := Nat.lt_of_succ_lt a_lt19
  have a_lt17 : a + 17 < jN (jG0 sc) := Nat.lt_of_succ_lt a_lt18
  have a_lt16 : a + 16 < jN (jG0 sc) := Nat.lt_of_succ_lt a_lt17
  have a_lt15 : a + 15 < jN (jG0 sc) := Nat.lt_of_succ_lt a_lt16
  have a_lt14 : a + 14 < jN (jG0 sc) := Nat.lt_of_succ_lt a_lt15
  have a_lt13 : a + 13 < jN (jG0 sc) := Nat.lt_of_succ_lt a_lt14
  have a_lt12 : a + 12 < jN (jG0 sc) := Nat.lt_of_succ_lt a_lt13
  have a_lt11 : a + 11 < jN (jG0 sc) := Nat.lt_of_succ_lt a_lt12
  have a_lt10 : a + 10 < jN (jG0 sc) := Nat.lt_of_succ_lt a_lt11
  have a_lt9 : a + 9 < jN (jG0 sc) := Nat.lt_of_succ_lt a_lt10
  have a_lt8 : a + 8 < jN (jG0 sc) := Nat.lt_of_succ_lt a_lt9
  have a_lt7 : a + 7 < jN (jG0 sc) := Nat.lt_of_succ_lt a_lt8
  have a_lt6 : a + 6 < jN (jG0 sc) := Nat.lt_of_succ_lt a_lt7
  have a_lt5 : a + 5 < jN (jG0 sc) := Nat.lt_of_succ_lt a_lt6
  have a_lt4 : a + 4 < jN (jG0 sc) := Nat.lt_of_succ_lt a_lt5
  have a_lt3 : a + 3 < jN (jG0 sc) := Nat.lt_of_succ_lt a_lt4
  have a_lt2 : a + 2 < jN (jG0 sc) := Nat.lt_of_succ_lt a_lt3
  have a_lt1 : a + 1 < jN (jG0 sc) := Nat.lt_of_succ_lt a_lt2
  have a_lt0 : a + 0 < jN (jG0 sc) := Nat.lt_of_succ_lt a_lt1
  obtain ⟨t_lt29, t_K0, t_R0_0, t_R0_1, t_R0_2, t_R0_3, t_R0_4, t_R0_5, t_R0_6, t_K16, t_L16, t_K17, t_L17, t_K1, t_K3, t_K5, t_K9, t_K11⟩ := t_h
  have t_lt28 : t + 28 < jN (jG0 sc) := Nat.lt_of_succ_lt t_lt29
  have t_lt27 : t + 27 < jN (jG0 sc) := Nat.lt_of_succ_lt t_lt28
  have t_lt26 : t + 26 < jN (jG0 sc) := Nat.lt_of_succ_lt t_lt27
  have t_lt25 : t + 25 < jN (jG0 sc) := Nat.lt_of_succ_lt t_lt26
  have t_lt24 : t + 24 < jN (jG0 sc) := Nat.lt_of_succ_lt t_lt25
  have t_lt23 : t + 23 < jN (jG0 sc) := Nat.lt_of_succ_lt t_lt24
  have t_lt22 : t + 22 < jN (jG0 sc) := Nat.lt_of_succ_lt t_lt23
  have t_lt21 : t + 21 < jN (jG0 sc) := Nat.lt_of_succ_lt t_lt22
  have t_lt20 : t + 20 < jN (jG0 sc) := Nat.lt_of_succ_lt t_lt21
  have t_lt19 : t + 19 < jN (jG0 sc) := Nat.lt_of_succ_lt t_lt20
  have t_lt18 : t + 18 < jN (jG0 sc) := Nat.lt_of_succ_lt t_lt19
  have t_lt17 : t + 17 < jN (jG0 sc) := Nat.lt_of_succ_lt t_lt18
  have t_lt16 : t + 16 < jN (jG0 sc) := Nat.lt_of_succ_lt t_lt17
  have t_lt15 : t + 15 < jN (jG0 sc) := Nat.lt_of_succ_lt t_lt16
  have t_lt14 : t + 14 < jN (jG0 sc) := Nat.lt_of_succ_lt t_lt15
  have t_lt13 : t + 13 < jN (jG0 sc) := Nat.lt_of_succ_lt t_lt14
  have t_lt12 : t + 12 < jN (jG0 sc) := Nat.lt_of_succ_lt t_lt13
  have t_lt11 : t + 11 < jN (jG0 sc) := Nat.lt_of_succ_lt t_lt12
  have t_lt10 : t + 10 < jN (jG0 sc) := Nat.lt_of_succ_lt t_lt11
  have t_lt9 : t + 9 < jN (jG0 sc) := Nat.lt_of_succ_lt t_lt10
  have t_lt8 : t + 8 < jN (jG0 sc) := Nat.lt_of_succ_lt t_lt9
  have t_lt7 : t + 7 < jN (jG0 sc) := Nat.lt_of_succ_lt t_lt8
  have t_lt6 : t + 6 < jN (jG0 sc) := Nat.lt_of_succ_lt t_lt7
  have t_lt5 : t + 5 < jN (jG0 sc) := Nat.lt_of_succ_lt t_lt6
  have t_lt4 : t + 4 < jN (jG0 sc) := Nat.lt_of_succ_lt t_lt5
  have t_lt3 : t + 3 < jN (jG0 sc) := Nat.lt_of_succ_lt t_lt4
  have t_lt2 : t + 2 < jN (jG0 sc) := Nat.lt_of_succ_lt t_lt3
  have t_lt1 : t + 1 < jN (jG0 sc) := Nat.lt_of_succ_lt t_lt2
  have t_lt0 : t + 0 < jN (jG0 sc) := Nat.lt_of_succ_lt t_lt1
  refine j_aload_n (i := 0) rfl dX6_copyOf_89 ?_
  refine j_getR (idx := 46) (ci := 6) (k := 6) (nest := false) (show (6, 46, 6, 6, false) ∈ jFT by decide) rfl (t_lt0) t_K0 (a := (t + 17)) t_R0_6 dX6_copyOf_90 ?_
  refine j_iload_n (i := 2) rfl dX6_copyOf_93 ?_
  refine j_aald (t_lt17) t_K17 (by rw [show jL (jG0 sc) (t + 17) = 6 from t_L17]; exact o1) (a := q1) o2 dX6_copyOf_94 ?_
  obtain ⟨q1_lt1, q1_K0, q1_R0_0, q1_K1, q1_L1⟩ := o3
  have q1_lt0 : q1 + 0 < jN (jG0 sc) := Nat.lt_of_succ_lt q1_lt1
  refine j_aload_n (i := 1) rfl dX6_copyOf_95 ?_
  refine j_getR (idx := 46) (ci := 6) (k := 6) (nest := false) (show (6, 46, 6, 6, false) ∈ jFT by decide) rfl (a_lt0) a_K0 (a := (a + 17)) a_R0_6 dX6_copyOf_96 ?_
  refine j_iload_n (i := 2) rfl dX6_copyOf_99 ?_
  refine j_aald (a_lt17) a_K17 (by rw [show jL (jG0 sc) (a + 17) = 6 from a_L17]; exact o4) (a := q2) o5 dX6_copyOf_100 ?_
  obtain ⟨q2_lt1, q2_K0, q2_R0_0, q2_K1, q2_L1⟩ := o6
  have q2_lt0 : q2 + 0 < jN (jG0 sc) := Nat.lt_of_succ_lt q2_lt1
  refine j_callVN (idx := 57) (As := [.ref q2]) (ci := 4) (n := 1) k1 jvoid_nt (jTbl (jtb3 88 rfl)) sX4_copyOf kX4_copyOf rfl ⟨rfl, by decide +kernel, by decide +kernel, by decide +kernel⟩ rfl ⟨by decide, by decide⟩ (q1_lt0) q1_K0 (Nat.le_of_ble_eq_true rfl) (Nat.le_of_ble_eq_true rfl) ⟨Nat.zero_le _, Nat.zero_le _⟩ dX6_copyOf_101 (fun r Γ' h3 q => ?_)
  obtain ⟨q0, rfl, p3⟩ := q; cases q0
  refine j_eqst [] (by rfl) ?_
  refine j_iinc (i := 2) (n := 1) rfl dX6_copyOf_104 (Nat.le_of_ble_eq_true rfl) ?_
  refine j_eqlv [some (.ref t), some (.ref a), some (.int (l2 + 1))] rfl ?_
  refine j_goto (off := -24) 83 dX6_copyOf_107 (by decide) ?_
  exact j_le [some (.ref t), some (.ref a), some (.int (l2 + 1))] (And.intro rfl (And.intro rfl (And.intro rfl True.intro))) (v1 h3 p3)
set_option maxRecDepth 100000 in
theorem bX6_copyOf_110 {sc : Nat × (Nat → Int32)} {h : jH} {Q : jQ} {a : Nat} {t : Nat} {l2 : Int32} (a_h : jI6 a) (t_h : jI6 t)
    (v1 : Q (.inl none) (jG0 sc) (jput (jput h t 7 (h a 7)) t 8 ((jput h t 7 (h a 7)) a 8))) :
    WP mX6_copyOf Q 110 [some (.ref t), some (.ref a), some (.int l2)] [] (jG0 sc) h (0, 0) := by
  obtain ⟨a_lt29, a_K0, a_R0_0, a_R0_1, a_R0_2, a_R0_3, a_R0_4, a_R0_5, a_R0_6, a_K16, a_L16, a_K17, a_L17, a_K1, a_K3, a_K5, a_K9, a_K11⟩ := a_h
  have a_lt28 : a + 28 < jN (jG0 sc) := Nat.lt_of_succ_lt a_lt29
  have a_lt27 : a + 27 < jN (jG0 sc) := Nat.lt_of_succ_lt a_lt28
  have a_lt26 : a + 26 < jN (jG0 sc) := Nat.lt_of_succ_lt a_lt27
  have a_lt25 : a + 25 < jN (jG0 sc) := Nat.lt_of_succ_lt a_lt26
  have a_lt24 : a + 24 < jN (jG0 sc) := Nat.lt_of_succ_lt a_lt25
  have a_lt23 : a + 23 < jN (jG0 sc) := Nat.lt_of_succ_lt a_lt24
  have a_lt22 : a + 22 < jN (jG0 sc) := Nat.lt_of_succ_lt a_lt23
  have a_lt21 : a + 21 < jN (jG0 sc) := Nat.lt_of_succ_lt a_lt22
  have a_lt20 : a + 20 < jN (jG0 sc) := Nat.lt_of_succ_lt a_lt21
  have a_lt19 : a + 19 < jN (jG0 sc) := Nat.lt_of_succ_lt a_lt20
  have a_lt18 : a + 18 < jN (jG0 sc) := Nat.lt_of_succ_lt a_lt19
  have a_lt17 : a + 17 < jN (jG0 sc) := Nat.lt_of_succ_lt a_lt18
  have a_lt16 : a + 16 < jN (jG0 sc) := Nat.lt_of_succ_lt a_lt17
  have a_lt15 : a + 15 < jN (jG0 sc) := Nat.lt_of_succ_lt a_lt16
  have a_lt14 : a + 14 < jN (jG0 sc) := Nat.lt_of_succ_lt a_lt15
  have a_lt13 : a + 13 < jN (jG0 sc) := Nat.lt_of_succ_lt a_lt14
  have a_lt12 : a + 12 < jN (jG0 sc) := Nat.lt_of_succ_lt a_lt13
  have a_lt11 : a + 11 < jN (jG0 sc) := Nat.lt_of_succ_lt a_lt12
  have a_lt10 : a + 10 < jN (jG0 sc) := Nat.lt_of_succ_lt a_lt11
  have a_lt9 : a + 9 < jN (jG0 sc) := Nat.lt_of_succ_lt a_lt10
  have a_lt8 : a + 8 < jN (jG0 sc) := Nat.lt_of_succ_lt a_lt9
  have a_lt7 : a + 7 < jN (jG0 sc) := Nat.lt_of_succ_lt a_lt8
  have a_lt6 : a + 6 < jN (jG0 sc) := Nat.lt_of_succ_lt a_lt7
  have a_lt5 : a + 5 < jN (jG0 sc) := Nat.lt_of_succ_lt a_lt6
  have a_lt4 : a + 4 < jN (jG0 sc) := Nat.lt_of_succ_lt a_lt5
  have a_lt3 : a + 3 < jN (jG0 sc) := Nat.lt_of_succ_lt a_lt4
  have a_lt2 : a + 2 < jN (jG0 sc) := Nat.lt_of_succ_lt a_lt3
  have a_lt1 : a + 1 < jN (jG0 sc) := Nat.lt_of_succ_lt a_lt2
  have a_lt0 : a + 0 < jN (jG0 sc) := Nat.lt_of_succ_lt a_lt1
  obtain ⟨t_lt29, t_K0, t_R0_0, t_R0_1, t_R0_2, t_R0_3, t_R0_4, t_R0_5, t_R0_6, t_K16, t_L16, t_K17, t_L17, t_K1, t_K3, t_K5, t_K9, t_K11⟩ := t_h
  have t_lt28 : t + 28 < jN (jG0 sc) := Nat.lt_of_succ_lt t_lt29
  have t_lt27 : t + 27 < jN (jG0 sc) := Nat.lt_of_succ_lt t_lt28
  have t_lt26 : t + 26 < jN (jG0 sc) := Nat.lt_of_succ_lt t_lt27
  have t_lt25 : t + 25 < jN (jG0 sc) := Nat.lt_of_succ_lt t_lt26
  have t_lt24 : t + 24 < jN (jG0 sc) := Nat.lt_of_succ_lt t_lt25
  have t_lt23 : t + 23 < jN (jG0 sc) := Nat.lt_of_succ_lt t_lt24
  have t_lt22 : t + 22 < jN (jG0 sc) := Nat.lt_of_succ_lt t_lt23
  have t_lt21 : t + 21 < jN (jG0 sc) := Nat.lt_of_succ_lt t_lt22
  have t_lt20 : t + 20 < jN (jG0 sc) := Nat.lt_of_succ_lt t_lt21
  have t_lt19 : t + 19 < jN (jG0 sc) := Nat.lt_of_succ_lt t_lt20
  have t_lt18 : t + 18 < jN (jG0 sc) := Nat.lt_of_succ_lt t_lt19
  have t_lt17 : t + 17 < jN (jG0 sc) := Nat.lt_of_succ_lt t_lt18
  have t_lt16 : t + 16 < jN (jG0 sc) := Nat.lt_of_succ_lt t_lt17
  have t_lt15 : t + 15 < jN (jG0 sc) := Nat.lt_of_succ_lt t_lt16
  have t_lt14 : t + 14 < jN (jG0 sc) := Nat.lt_of_succ_lt t_lt15
  have t_lt13 : t + 13 < jN (jG0 sc) := Nat.lt_of_succ_lt t_lt14
  have t_lt12 : t + 12 < jN (jG0 sc) := Nat.lt_of_succ_lt t_lt13
  have t_lt11 : t + 11 < jN (jG0 sc) := Nat.lt_of_succ_lt t_lt12
  have t_lt10 : t + 10 < jN (jG0 sc) := Nat.lt_of_succ_lt t_lt11
  have t_lt9 : t + 9 < jN (jG0 sc) := Nat.lt_of_succ_lt t_lt10
  have t_lt8 : t + 8 < jN (jG0 sc) := Nat.lt_of_succ_lt t_lt9
  have t_lt7 : t + 7 < jN (jG0 sc) := Nat.lt_of_succ_lt t_lt8
  have t_lt6 : t + 6 < jN (jG0 sc) := Nat.lt_of_succ_lt t_lt7
  have t_lt5 : t + 5 < jN (jG0 sc) := Nat.lt_of_succ_lt t_lt6
  have t_lt4 : t + 4 < jN (jG0 sc) := Nat.lt_of_succ_lt t_lt5
  have t_lt3 : t + 3 < jN (jG0 sc) := Nat.lt_of_succ_lt t_lt4
  have t_lt2 : t + 2 < jN (jG0 sc) := Nat.lt_of_succ_lt t_lt3
  have t_lt1 : t + 1 < jN (jG0 sc) := Nat.lt_of_succ_lt t_lt2
  have t_lt0 : t + 0 < jN (jG0 sc) := Nat.lt_of_succ_lt t_lt1
  refine j_aload_n (i := 0) rfl dX6_copyOf_110 ?_
  refine j_aload_n (i := 1) rfl dX6_copyOf_111 ?_
  refine j_getI (idx := 54) (ci := 6) (k := 7) (nest := false) (show (6, 54, 6, 7, false) ∈ jFT by decide) rfl (a_lt0) a_K0 dX6_copyOf_112 ?_
  refine j_putI (idx := 54) (ci := 6) (k := 7) (nest := false) (show (6, 54, 6, 7, false) ∈ jFT by decide) rfl rfl rfl rfl (t_lt0) t_K0 dX6_copyOf_115 ?_
  refine j_aload_n (i := 0) rfl dX6_copyOf_118 ?_
  refine j_aload_n (i := 1) rfl dX6_copyOf_119 ?_
  refine j_getI (idx := 50) (ci := 6) (k := 8) (nest := false) (show (6, 50, 6, 8, false) ∈ jFT by decide) rfl (a_lt0) a_K0 dX6_copyOf_120 ?_
  refine j_putI (idx := 50) (ci := 6) (k := 8) (nest := false) (show (6, 50, 6, 8, false) ∈ jFT by decide) rfl rfl rfl rfl (t_lt0) t_K0 dX6_copyOf_123 ?_
  exact j_vret rfl (Nat.zero_le _) (Nat.zero_le _) dX6_copyOf_126 v1
set_option maxRecDepth 100000 in
theorem rX6_copyOf_0 {sc : Nat × (Nat → Int32)} {h : jH} {Q : jQ} {a : Nat} {t : Nat} {P1 : jH → Prop} {P2 : jH → Prop} {P3 : jH → Prop} {P4 : jH → Prop} {P5 : jH → Prop} (a_h : jI6 a) (t_h : jI6 t)
    (k1 : JM mX4_copyOf [.ref (t + 1), .ref (a + 1)] (jG0 sc) h (jvoid sc P1))
    (k2 : ∀ h1 : jH, P1 h1 → JM mX4_copyOf [.ref (t + 3), .ref (a + 3)] (jG0 sc) h1 (jvoid sc P2))
    (k3 : ∀ h1 : jH, P1 h1 → ∀ h2 : jH, P2 h2 → JM mX5_copyOf [.ref (t + 5), .ref (a + 5)] (jG0 sc) h2 (jvoid sc P3))
    (k4 : ∀ h1 : jH, P1 h1 → ∀ h2 : jH, P2 h2 → ∀ h3 : jH, P3 h3 → JM mX1_copyOf [.ref (t + 9), .ref (a + 9)] (jG0 sc) h3 (jvoid sc P4))
    (k5 : ∀ h1 : jH, P1 h1 → ∀ h2 : jH, P2 h2 → ∀ h3 : jH, P3 h3 → ∀ h4 : jH, P4 h4 → JM mX9_copyOf [.ref (t + 11), .ref (a + 11)] (jG0 sc) h4 (jvoid sc P5))
    (v1 : ∀ h1 : jH, P1 h1 → ∀ h2 : jH, P2 h2 → ∀ h3 : jH, P3 h3 → ∀ h4 : jH, P4 h4 → ∀ h5 : jH, P5 h5 → WP mX6_copyOf Q 57 [some (.ref t), some (.ref a), some (.int 0)] [] (jG0 sc) h5 (0, 0)) :
    WP mX6_copyOf Q 0 [some (.ref t), some (.ref a), none] [] (jG0 sc) h (0, 0) := by
  exact (bX6_copyOf_0 a_h t_h k1 (fun h1 p1 => (k2 h1 p1)) (fun h1 p1 h2 p2 => (bX6_copyOf_30 a_h t_h (k3 h1 p1 h2 p2) (fun h3 p3 => (k4 h1 p1 h2 p2 h3 p3)) (fun h3 p3 h4 p4 => (k5 h1 p1 h2 p2 h3 p3 h4 p4)) (fun h3 p3 h4 p4 h5 p5 => (v1 h1 p1 h2 p2 h3 p3 h4 p4 h5 p5)))))
set_option maxRecDepth 100000 in
theorem rX6_copyOf_57 {sc : Nat × (Nat → Int32)} {h : jH} {Q : jQ} {a : Nat} {t : Nat} {l2 : Int32} (a_h : jI6 a) (t_h : jI6 t)
    (v1 : 6 ≤ l2 → WP mX6_copyOf Q 83 [some (.ref t), some (.ref a), some (.int 0)] [] (jG0 sc) h (0, 0))
    (o1 : ¬ 6 ≤ l2 → vp_in l2 6)
    (v2 : ¬ 6 ≤ l2 → WP mX6_copyOf Q 57 [some (.ref t), some (.ref a), some (.int (l2 + 1))] [] (jG0 sc) (jput h (t + 16) l2.toNatClampNeg (h (a + 16) l2.toNatClampNeg)) (0, 0)) :
    WP mX6_copyOf Q 57 [some (.ref t), some (.ref a), some (.int l2)] [] (jG0 sc) h (0, 0) := by
  exact (bX6_copyOf_57 a_h t_h (fun c1 => (bX6_copyOf_81 a_h t_h (v1 c1))) (fun c1 => (bX6_copyOf_63 a_h t_h (o1 c1) (o1 c1) (v2 c1))))
set_option maxRecDepth 100000 in
theorem rX6_copyOf_83 {sc : Nat × (Nat → Int32)} {h : jH} {Q : jQ} {a : Nat} {t : Nat} {l2 : Int32} {q1 : Nat} {q2 : Nat} {P1 : jH → Prop} (a_h : jI6 a) (t_h : jI6 t)
    (v1 : 6 ≤ l2 → Q (.inl none) (jG0 sc) (jput (jput h t 7 (h a 7)) t 8 ((jput h t 7 (h a 7)) a 8)))
    (o1 : ¬ 6 ≤ l2 → vp_in l2 6)
    (o2 : ¬ 6 ≤ l2 → (jRt.getD (t + 17) []).getD l2.toNatClampNeg none = some q1)
    (o3 : ¬ 6 ≤ l2 → jI4 q1)
    (o4 : ¬ 6 ≤ l2 → (jRt.getD (a + 17) []).getD l2.toNatClampNeg none = some q2)
    (o5 : ¬ 6 ≤ l2 → jI4 q2)
    (k1 : ¬ 6 ≤ l2 → JM mX4_copyOf [.ref q1, .ref q2] (jG0 sc) h (jvoid sc P1))
    (v2 : ¬ 6 ≤ l2 → ∀ h3 : jH, P1 h3 → WP mX6_copyOf Q 83 [some (.ref t), some (.ref a), some (.int (l2 + 1))] [] (jG0 sc) h3 (0, 0)) :
    WP mX6_copyOf Q 83 [some (.ref t), some (.ref a), some (.int l2)] [] (jG0 sc) h (0, 0) := by
  exact (bX6_copyOf_83 a_h t_h (fun c1 => (bX6_copyOf_110 a_h t_h (v1 c1))) (fun c1 => (bX6_copyOf_89 a_h t_h (o1 c1) (o2 c1) (o3 c1) (o1 c1) (o4 c1) (o5 c1) (k1 c1) (fun h3 p3 => (v2 c1 h3 p3)))))
theorem dX7_of_0 : decode (mC mX7_of) 0 = .ok (.aload_n 0, 1) := by decide +kernel
theorem dX7_of_1 : decode (mC mX7_of) 1 = .ok (.iconst 0, 1) := by decide +kernel
theorem dX7_of_2 : decode (mC mX7_of) 2 = .ok (.putfield 18, 3) := by decide +kernel
theorem dX7_of_5 : decode (mC mX7_of) 5 = .ok (.aload_n 0, 1) := by decide +kernel
theorem dX7_of_6 : decode (mC mX7_of) 6 = .ok (.iconst 0, 1) := by decide +kernel
theorem dX7_of_7 : decode (mC mX7_of) 7 = .ok (.putfield 22, 3) := by decide +kernel
theorem dX7_of_10 : decode (mC mX7_of) 10 = .ok (.iconst 0, 1) := by decide +kernel
theorem dX7_of_11 : decode (mC mX7_of) 11 = .ok (.istore 4, 2) := by decide +kernel
theorem dX7_of_13 : decode (mC mX7_of) 13 = .ok (.iload 4, 2) := by decide +kernel
theorem dX7_of_15 : decode (mC mX7_of) 15 = .ok (.aload_n 2, 1) := by decide +kernel
theorem dX7_of_16 : decode (mC mX7_of) 16 = .ok (.getfield 25, 3) := by decide +kernel
theorem dX7_of_19 : decode (mC mX7_of) 19 = .ok (.if_icmp .ge 96, 3) := by decide +kernel
theorem dX7_of_22 : decode (mC mX7_of) 22 = .ok (.iload 4, 2) := by decide +kernel
theorem dX7_of_24 : decode (mC mX7_of) 24 = .ok (.bipush 12, 2) := by decide +kernel
theorem dX7_of_26 : decode (mC mX7_of) 26 = .ok (.if_icmp .ge 89, 3) := by decide +kernel
theorem dX7_of_29 : decode (mC mX7_of) 29 = .ok (.aload_n 3, 1) := by decide +kernel
theorem dX7_of_30 : decode (mC mX7_of) 30 = .ok (.aload_n 1, 1) := by decide +kernel
theorem dX7_of_31 : decode (mC mX7_of) 31 = .ok (.aload_n 2, 1) := by decide +kernel
theorem dX7_of_32 : decode (mC mX7_of) 32 = .ok (.getfield 30, 3) := by decide +kernel
theorem dX7_of_35 : decode (mC mX7_of) 35 = .ok (.iload 4, 2) := by decide +kernel
theorem dX7_of_37 : decode (mC mX7_of) 37 = .ok (.iaload, 1) := by decide +kernel
theorem dX7_of_38 : decode (mC mX7_of) 38 = .ok (.aload_n 2, 1) := by decide +kernel
theorem dX7_of_39 : decode (mC mX7_of) 39 = .ok (.getfield 33, 3) := by decide +kernel
theorem dX7_of_42 : decode (mC mX7_of) 42 = .ok (.iload 4, 2) := by decide +kernel
theorem dX7_of_44 : decode (mC mX7_of) 44 = .ok (.iaload, 1) := by decide +kernel
theorem dX7_of_45 : decode (mC mX7_of) 45 = .ok (.invokevirtual 36, 3) := by decide +kernel
theorem dX7_of_48 : decode (mC mX7_of) 48 = .ok (.aload_n 2, 1) := by decide +kernel
theorem dX7_of_49 : decode (mC mX7_of) 49 = .ok (.getfield 42, 3) := by decide +kernel
theorem dX7_of_52 : decode (mC mX7_of) 52 = .ok (.iload 4, 2) := by decide +kernel
theorem dX7_of_54 : decode (mC mX7_of) 54 = .ok (.iaload, 1) := by decide +kernel
theorem dX7_of_55 : decode (mC mX7_of) 55 = .ok (.if_icmp .ne 19, 3) := by decide +kernel
theorem dX7_of_58 : decode (mC mX7_of) 58 = .ok (.aload_n 0, 1) := by decide +kernel
theorem dX7_of_59 : decode (mC mX7_of) 59 = .ok (.dup, 1) := by decide +kernel
theorem dX7_of_60 : decode (mC mX7_of) 60 = .ok (.getfield 18, 3) := by decide +kernel
theorem dX7_of_63 : decode (mC mX7_of) 63 = .ok (.iconst 1, 1) := by decide +kernel
theorem dX7_of_64 : decode (mC mX7_of) 64 = .ok (.iload 4, 2) := by decide +kernel
theorem dX7_of_66 : decode (mC mX7_of) 66 = .ok (.ishl, 1) := by decide +kernel
theorem dX7_of_67 : decode (mC mX7_of) 67 = .ok (.ior, 1) := by decide +kernel
theorem dX7_of_68 : decode (mC mX7_of) 68 = .ok (.putfield 18, 3) := by decide +kernel
theorem dX7_of_71 : decode (mC mX7_of) 71 = .ok (.goto 16, 3) := by decide +kernel
theorem dX7_of_74 : decode (mC mX7_of) 74 = .ok (.aload_n 0, 1) := by decide +kernel
theorem dX7_of_75 : decode (mC mX7_of) 75 = .ok (.dup, 1) := by decide +kernel
theorem dX7_of_76 : decode (mC mX7_of) 76 = .ok (.getfield 22, 3) := by decide +kernel
theorem dX7_of_79 : decode (mC mX7_of) 79 = .ok (.iconst 1, 1) := by decide +kernel
theorem dX7_of_80 : decode (mC mX7_of) 80 = .ok (.iload 4, 2) := by decide +kernel
theorem dX7_of_82 : decode (mC mX7_of) 82 = .ok (.ishl, 1) := by decide +kernel
theorem dX7_of_83 : decode (mC mX7_of) 83 = .ok (.ior, 1) := by decide +kernel
theorem dX7_of_84 : decode (mC mX7_of) 84 = .ok (.putfield 22, 3) := by decide +kernel
theorem dX7_of_87 : decode (mC mX7_of) 87 = .ok (.aload_n 0, 1) := by decide +kernel
theorem dX7_of_88 : decode (mC mX7_of) 88 = .ok (.getfield 9, 3) := by decide +kernel
theorem dX7_of_91 : decode (mC mX7_of) 91 = .ok (.iload 4, 2) := by decide +kernel
theorem dX7_of_93 : decode (mC mX7_of) 93 = .ok (.aload_n 3, 1) := by decide +kernel
theorem dX7_of_94 : decode (mC mX7_of) 94 = .ok (.getfield 45, 3) := by decide +kernel
theorem dX7_of_97 : decode (mC mX7_of) 97 = .ok (.iastore, 1) := by decide +kernel
theorem dX7_of_98 : decode (mC mX7_of) 98 = .ok (.aload_n 0, 1) := by decide +kernel
theorem dX7_of_99 : decode (mC mX7_of) 99 = .ok (.getfield 15, 3) := by decide +kernel
theorem dX7_of_102 : decode (mC mX7_of) 102 = .ok (.iload 4, 2) := by decide +kernel
theorem dX7_of_104 : decode (mC mX7_of) 104 = .ok (.aload_n 3, 1) := by decide +kernel
theorem dX7_of_105 : decode (mC mX7_of) 105 = .ok (.getfield 47, 3) := by decide +kernel
theorem dX7_of_108 : decode (mC mX7_of) 108 = .ok (.iastore, 1) := by decide +kernel
theorem dX7_of_109 : decode (mC mX7_of) 109 = .ok (.iinc 4 1, 3) := by decide +kernel
theorem dX7_of_112 : decode (mC mX7_of) 112 = .ok (.goto (-99), 3) := by decide +kernel
theorem dX7_of_115 : decode (mC mX7_of) 115 = .ok (.return_, 1) := by decide +kernel
set_option maxRecDepth 100000 in
theorem bX7_of_0 {sc : Nat × (Nat → Int32)} {h : jH} {Q : jQ} {a : Nat} {b : Nat} (a_h : jI4 a) (b_h : jI5 b)
    (v1 : WP mX7_of Q 13 [some (.ref 72), some (.ref a), some (.ref b), some (.ref 69), some (.int 0)] [] (jG0 sc) (jput (jput h 72 2 0) 72 3 0) (0, 0)) :
    WP mX7_of Q 0 [some (.ref 72), some (.ref a), some (.ref b), some (.ref 69), none] [] (jG0 sc) h (0, 0) := by
  obtain ⟨a_lt1, a_K0, a_R0_0, a_K1, a_L1⟩ := a_h
  have a_lt0 : a + 0 < jN (jG0 sc) := Nat.lt_of_succ_lt a_lt1
  obtain ⟨b_lt3, b_K0, b_R0_0, b_K1, b_L1, b_R0_1, b_K2, b_L2, b_R0_2, b_K3, b_L3⟩ := b_h
  have b_lt2 : b + 2 < jN (jG0 sc) := Nat.lt_of_succ_lt b_lt3
  have b_lt1 : b + 1 < jN (jG0 sc) := Nat.lt_of_succ_lt b_lt2
  have b_lt0 : b + 0 < jN (jG0 sc) := Nat.lt_of_succ_lt b_lt1
  refine j_aload_n (i := 0) rfl dX7_of_0 ?_
  refine j_iconst (n := 0) 0 (by decide) dX7_of_1 ?_
  refine j_putI (idx := 18) (ci := 7) (k := 2) (nest := false) (show (7, 18, 7, 2, false) ∈ jFT by decide) rfl rfl rfl rfl (Nat.le_of_ble_eq_true rfl) rfl dX7_of_2 ?_
  refine j_aload_n (i := 0) rfl dX7_of_5 ?_
  refine j_iconst (n := 0) 0 (by decide) dX7_of_6 ?_
  refine j_putI (idx := 22) (ci := 7) (k := 3) (nest := false) (show (7, 22, 7, 3, false) ∈ jFT by decide) rfl rfl rfl rfl (Nat.le_of_ble_eq_true rfl) rfl dX7_of_7 ?_
  refine j_iconst (n := 0) 0 (by decide) dX7_of_10 ?_
  refine j_istore (i := 4) dX7_of_11 (Nat.le_of_ble_eq_true rfl) ?_
  exact j_le [some (.ref 72), some (.ref a), some (.ref b), some (.ref 69), some (.int 0)] (And.intro rfl (And.intro rfl (And.intro rfl (And.intro rfl (And.intro rfl True.intro))))) v1
set_option maxRecDepth 100000 in
theorem bX7_of_13 {sc : Nat × (Nat → Int32)} {h : jH} {Q : jQ} {a : Nat} {b : Nat} {l4 : Int32} (a_h : jI4 a) (b_h : jI5 b)
    (v1 : (h b 3) ≤ l4 → WP mX7_of Q 115 [some (.ref 72), some (.ref a), some (.ref b), some (.ref 69), some (.int l4)] [] (jG0 sc) h (0, 0))
    (v2 : ¬ (h b 3) ≤ l4 → WP mX7_of Q 22 [some (.ref 72), some (.ref a), some (.ref b), some (.ref 69), some (.int l4)] [] (jG0 sc) h (0, 0)) :
    WP mX7_of Q 13 [some (.ref 72), some (.ref a), some (.ref b), some (.ref 69), some (.int l4)] [] (jG0 sc) h (0, 0) := by
  obtain ⟨a_lt1, a_K0, a_R0_0, a_K1, a_L1⟩ := a_h
  have a_lt0 : a + 0 < jN (jG0 sc) := Nat.lt_of_succ_lt a_lt1
  obtain ⟨b_lt3, b_K0, b_R0_0, b_K1, b_L1, b_R0_1, b_K2, b_L2, b_R0_2, b_K3, b_L3⟩ := b_h
  have b_lt2 : b + 2 < jN (jG0 sc) := Nat.lt_of_succ_lt b_lt3
  have b_lt1 : b + 1 < jN (jG0 sc) := Nat.lt_of_succ_lt b_lt2
  have b_lt0 : b + 0 < jN (jG0 sc) := Nat.lt_of_succ_lt b_lt1
  refine j_iload (i := 4) rfl dX7_of_13 ?_
  refine j_aload_n (i := 2) rfl dX7_of_15 ?_
  refine j_getI (idx := 25) (ci := 5) (k := 3) (nest := true) (show (7, 25, 5, 3, true) ∈ jFT by decide) rfl (b_lt0) b_K0 dX7_of_16 ?_
  refine j_icmp_ge (off := 96) 115 dX7_of_19 (by decide) (fun c1 => ?_) (fun c1 => ?_)
  · exact j_le [some (.ref 72), some (.ref a), some (.ref b), some (.ref 69), some (.int l4)] (And.intro rfl (And.intro rfl (And.intro rfl (And.intro rfl (And.intro rfl True.intro))))) (v1 c1)
  · exact j_le [some (.ref 72), some (.ref a), some (.ref b), some (.ref 69), some (.int l4)] (And.intro rfl (And.intro rfl (And.intro rfl (And.intro rfl (And.intro rfl True.intro))))) (v2 c1)
set_option maxRecDepth 100000 in
theorem bX7_of_22 {sc : Nat × (Nat → Int32)} {h : jH} {Q : jQ} {a : Nat} {b : Nat} {l4 : Int32} (a_h : jI4 a) (b_h : jI5 b)
    (v1 : 12 ≤ l4 → WP mX7_of Q 115 [some (.ref 72), some (.ref a), some (.ref b), some (.ref 69), some (.int l4)] [] (jG0 sc) h (0, 0))
    (v2 : ¬ 12 ≤ l4 → WP mX7_of Q 29 [some (.ref 72), some (.ref a), some (.ref b), some (.ref 69), some (.int l4)] [] (jG0 sc) h (0, 0)) :
    WP mX7_of Q 22 [some (.ref 72), some (.ref a), some (.ref b), some (.ref 69), some (.int l4)] [] (jG0 sc) h (0, 0) := by
  obtain ⟨a_lt1, a_K0, a_R0_0, a_K1, a_L1⟩ := a_h
  have a_lt0 : a + 0 < jN (jG0 sc) := Nat.lt_of_succ_lt a_lt1
  obtain ⟨b_lt3, b_K0, b_R0_0, b_K1, b_L1, b_R0_1, b_K2, b_L2, b_R0_2, b_K3, b_L3⟩ := b_h
  have b_lt2 : b + 2 < jN (jG0 sc) := Nat.lt_of_succ_lt b_lt3
  have b_lt1 : b + 1 < jN (jG0 sc) := Nat.lt_of_succ_lt b_lt2
  have b_lt0 : b + 0 < jN (jG0 sc) := Nat.lt_of_succ_lt b_lt1
  refine j_iload (i := 4) rfl dX7_of_22 ?_
  refine j_bipush (n := 12) 12 (by decide) dX7_of_24 ?_
  refine j_icmp_ge (off := 89) 115 dX7_of_26 (by decide) (fun c1 => ?_) (fun c1 => ?_)
  · exact j_le [some (.ref 72), some (.ref a), some (.ref b), some (.ref 69), some (.int l4)] (And.intro rfl (And.intro rfl (And.intro rfl (And.intro rfl (And.intro rfl True.intro))))) (v1 c1)
  · exact j_le [some (.ref 72), some (.ref a), some (.ref b), some (.ref 69), some (.int l4)] (And.intro rfl (And.intro rfl (And.intro rfl (And.intro rfl (And.intro rfl True.intro))))) (v2 c1)
set_option maxRecDepth 100000 in
theorem bX7_of_29 {sc : Nat × (Nat → Int32)} {h : jH} {Q : jQ} {a : Nat} {b : Nat} {l4 : Int32} {P1 : Int32 → jH → Prop} (a_h : jI4 a) (b_h : jI5 b)
    (o1 : vp_in l4 12)
    (o2 : vp_in l4 12)
    (k1 : JM mX10_through [.ref 69, .ref a, .int (h (b + 1) l4.toNatClampNeg), .int (h (b + 2) l4.toNatClampNeg)] (jG0 sc) h (jint sc P1))
    (o3 : ∀ (x1 : Int32) (h1 : jH), P1 x1 h1 → vp_in l4 12)
    (v1 : ∀ (x1 : Int32) (h1 : jH), P1 x1 h1 → ¬ x1 = (h1 (b + 3) l4.toNatClampNeg) → WP mX7_of Q 74 [some (.ref 72), some (.ref a), some (.ref b), some (.ref 69), some (.int l4)] [] (jG0 sc) h1 (0, 0))
    (v2 : ∀ (x1 : Int32) (h1 : jH), P1 x1 h1 → x1 = (h1 (b + 3) l4.toNatClampNeg) → WP mX7_of Q 58 [some (.ref 72), some (.ref a), some (.ref b), some (.ref 69), some (.int l4)] [] (jG0 sc) h1 (0, 0)) :
    WP mX7_of Q 29 [some (.ref 72), some (.ref a), some (.ref b), some (.ref 69), some (.int l4)] [] (jG0 sc) h (0, 0) := by
  obtain ⟨a_lt1, a_K0, a_R0_0, a_K1, a_L1⟩ := a_h
  have a_lt0 : a + 0 < jN (jG0 sc) := Nat.lt_of_succ_lt a_lt1
  obtain ⟨b_lt3, b_K0, b_R0_0, b_K1, b_L1, b_R0_1, b_K2, b_L2, b_R0_2, b_K3, b_L3⟩ := b_h
  have b_lt2 : b + 2 < jN (jG0 sc) := Nat.lt_of_succ_lt b_lt3
  have b_lt1 : b + 1 < jN (jG0 sc) := Nat.lt_of_succ_lt b_lt2
  have b_lt0 : b + 0 < jN (jG0 sc) := Nat.lt_of_succ_lt b_lt1
  refine j_aload_n (i := 3) rfl dX7_of_29 ?_
  refine j_aload_n (i := 1) rfl dX7_of_30 ?_
  refine j_aload_n (i := 2) rfl dX7_of_31 ?_
  refine j_getR (idx := 30) (ci := 5) (k := 0) (nest := true) (show (7, 30, 5, 0, true) ∈ jFT by decide) rfl (b_lt0) b_K0 (a := (b + 1)) b_R0_0 dX7_of_32 ?_
  refine j_iload (i := 4) rfl dX7_of_35 ?_
  refine j_iald (b_lt1) b_K1 (by rw [show jL (jG0 sc) (b + 1) = 12 from b_L1]; exact o1) dX7_of_37 ?_
  refine j_aload_n (i := 2) rfl dX7_of_38 ?_
  refine j_getR (idx := 33) (ci := 5) (k := 1) (nest := true) (show (7, 33, 5, 1, true) ∈ jFT by decide) rfl (b_lt0) b_K0 (a := (b + 2)) b_R0_1 dX7_of_39 ?_
  refine j_iload (i := 4) rfl dX7_of_42 ?_
  refine j_iald (b_lt2) b_K2 (by rw [show jL (jG0 sc) (b + 2) = 12 from b_L2]; exact o2) dX7_of_44 ?_
  refine j_callVN (idx := 36) (As := [.ref a, .int (h (b + 1) l4.toNatClampNeg), .int (h (b + 2) l4.toNatClampNeg)]) (ci := 10) (n := 3) k1 jint_nt (jTbl (jtb5 75 rfl)) sX10_through kX10_through rfl ⟨rfl, by decide +kernel, by decide +kernel, by decide +kernel⟩ rfl ⟨by decide, by decide⟩ (Nat.le_of_ble_eq_true rfl) rfl (Nat.le_of_ble_eq_true rfl) (Nat.le_of_ble_eq_true rfl) ⟨Nat.zero_le _, Nat.zero_le _⟩ dX7_of_45 (fun r Γ' h1 q => ?_)
  obtain ⟨x1, q0, rfl, p1⟩ := q; cases q0
  refine j_eqst [.int x1] (by rfl) ?_
  refine j_aload_n (i := 2) rfl dX7_of_48 ?_
  refine j_getR (idx := 42) (ci := 5) (k := 2) (nest := true) (show (7, 42, 5, 2, true) ∈ jFT by decide) rfl (b_lt0) b_K0 (a := (b + 3)) b_R0_2 dX7_of_49 ?_
  refine j_iload (i := 4) rfl dX7_of_52 ?_
  refine j_iald (b_lt3) b_K3 (by rw [show jL (jG0 sc) (b + 3) = 12 from b_L3]; exact (o3 x1 h1 p1)) dX7_of_54 ?_
  refine j_icmp_ne (off := 19) 74 dX7_of_55 (by decide) (fun c1 => ?_) (fun c1 => ?_)
  · exact j_le [some (.ref 72), some (.ref a), some (.ref b), some (.ref 69), some (.int l4)] (And.intro rfl (And.intro rfl (And.intro rfl (And.intro rfl (And.intro rfl True.intro))))) (v1 x1 h1 p1 c1)
  · exact j_le [some (.ref 72), some (.ref a), some (.ref b), some (.ref 69), some (.int l4)] (And.intro rfl (And.intro rfl (And.intro rfl (And.intro rfl (And.intro rfl True.intro))))) (v2 x1 h1 p1 c1)
set_option maxRecDepth 100000 in
theorem bX7_of_58 {sc : Nat × (Nat → Int32)} {h : jH} {Q : jQ} {a : Nat} {b : Nat} {l4 : Int32} (a_h : jI4 a) (b_h : jI5 b)
    (v1 : WP mX7_of Q 87 [some (.ref 72), some (.ref a), some (.ref b), some (.ref 69), some (.int l4)] [] (jG0 sc) (jput h 72 2 ((h 72 2) ||| ((1 : Int32) <<< (l4 &&& 31)))) (0, 0)) :
    WP mX7_of Q 58 [some (.ref 72), some (.ref a), some (.ref b), some (.ref 69), some (.int l4)] [] (jG0 sc) h (0, 0) := by
  obtain ⟨a_lt1, a_K0, a_R0_0, a_K1, a_L1⟩ := a_h
  have a_lt0 : a + 0 < jN (jG0 sc) := Nat.lt_of_succ_lt a_lt1
  obtain ⟨b_lt3, b_K0, b_R0_0, b_K1, b_L1, b_R0_1, b_K2, b_L2, b_R0_2, b_K3, b_L3⟩ := b_h
  have b_lt2 : b + 2 < jN (jG0 sc) := Nat.lt_of_succ_lt b_lt3
  have b_lt1 : b + 1 < jN (jG0 sc) := Nat.lt_of_succ_lt b_lt2
  have b_lt0 : b + 0 < jN (jG0 sc) := Nat.lt_of_succ_lt b_lt1
  refine j_aload_n (i := 0) rfl dX7_of_58 ?_
  refine j_dup rfl dX7_of_59 ?_
  refine j_getI (idx := 18) (ci := 7) (k := 2) (nest := false) (show (7, 18, 7, 2, false) ∈ jFT by decide) rfl (Nat.le_of_ble_eq_true rfl) rfl dX7_of_60 ?_
  refine j_iconst (n := 1) 1 (by decide) dX7_of_63 ?_
  refine j_iload (i := 4) rfl dX7_of_64 ?_
  refine j_ishl dX7_of_66 ?_
  refine j_ior dX7_of_67 ?_
  refine j_putI (idx := 18) (ci := 7) (k := 2) (nest := false) (show (7, 18, 7, 2, false) ∈ jFT by decide) rfl rfl rfl rfl (Nat.le_of_ble_eq_true rfl) rfl dX7_of_68 ?_
  refine j_goto (off := 16) 87 dX7_of_71 (by decide) ?_
  exact j_le [some (.ref 72), some (.ref a), some (.ref b), some (.ref 69), some (.int l4)] (And.intro rfl (And.intro rfl (And.intro rfl (And.intro rfl (And.intro rfl True.intro))))) v1
set_option maxRecDepth 100000 in
theorem bX7_of_74 {sc : Nat × (Nat → Int32)} {h : jH} {Q : jQ} {a : Nat} {b : Nat} {l4 : Int32} (a_h : jI4 a) (b_h : jI5 b)
    (v1 : WP mX7_of Q 87 [some (.ref 72), some (.ref a), some (.ref b), some (.ref 69), some (.int l4)] [] (jG0 sc) (jput h 72 3 ((h 72 3) ||| ((1 : Int32) <<< (l4 &&& 31)))) (0, 0)) :
    WP mX7_of Q 74 [some (.ref 72), some (.ref a), some (.ref b), some (.ref 69), some (.int l4)] [] (jG0 sc) h (0, 0) := by
  obtain ⟨a_lt1, a_K0, a_R0_0, a_K1, a_L1⟩ := a_h
  have a_lt0 : a + 0 < jN (jG0 sc) := Nat.lt_of_succ_lt a_lt1
  obtain ⟨b_lt3, b_K0, b_R0_0, b_K1, b_L1, b_R0_1, b_K2, b_L2, b_R0_2, b_K3, b_L3⟩ := b_h
  have b_lt2 : b + 2 < jN (jG0 sc) := Nat.lt_of_succ_lt b_lt3
  have b_lt1 : b + 1 < jN (jG0 sc) := Nat.lt_of_succ_lt b_lt2
  have b_lt0 : b + 0 < jN (jG0 sc) := Nat.lt_of_succ_lt b_lt1
  refine j_aload_n (i := 0) rfl dX7_of_74 ?_
  refine j_dup rfl dX7_of_75 ?_
  refine j_getI (idx := 22) (ci := 7) (k := 3) (nest := false) (show (7, 22, 7, 3, false) ∈ jFT by decide) rfl (Nat.le_of_ble_eq_true rfl) rfl dX7_of_76 ?_
  refine j_iconst (n := 1) 1 (by decide) dX7_of_79 ?_
  refine j_iload (i := 4) rfl dX7_of_80 ?_
  refine j_ishl dX7_of_82 ?_
  refine j_ior dX7_of_83 ?_
  refine j_putI (idx := 22) (ci := 7) (k := 3) (nest := false) (show (7, 22, 7, 3, false) ∈ jFT by decide) rfl rfl rfl rfl (Nat.le_of_ble_eq_true rfl) rfl dX7_of_84 ?_
  exact j_le [some (.ref 72), some (.ref a), some (.ref b), some (.ref 69), some (.int l4)] (And.intro rfl (And.intro rfl (And.intro rfl (And.intro rfl (And.intro rfl True.intro))))) v1
set_option maxRecDepth 100000 in
theorem bX7_of_87 {sc : Nat × (Nat → Int32)} {h : jH} {Q : jQ} {a : Nat} {b : Nat} {l4 : Int32} (a_h : jI4 a) (b_h : jI5 b)
    (o1 : vp_in l4 12)
    (o2 : vp_in l4 12)
    (v1 : WP mX7_of Q 13 [some (.ref 72), some (.ref a), some (.ref b), some (.ref 69), some (.int (l4 + 1))] [] (jG0 sc) (jput (jput h 73 l4.toNatClampNeg (h 69 7)) 74 l4.toNatClampNeg ((jput h 73 l4.toNatClampNeg (h 69 7)) 69 9)) (0, 0)) :
    WP mX7_of Q 87 [some (.ref 72), some (.ref a), some (.ref b), some (.ref 69), some (.int l4)] [] (jG0 sc) h (0, 0) := by
  obtain ⟨a_lt1, a_K0, a_R0_0, a_K1, a_L1⟩ := a_h
  have a_lt0 : a + 0 < jN (jG0 sc) := Nat.lt_of_succ_lt a_lt1
  obtain ⟨b_lt3, b_K0, b_R0_0, b_K1, b_L1, b_R0_1, b_K2, b_L2, b_R0_2, b_K3, b_L3⟩ := b_h
  have b_lt2 : b + 2 < jN (jG0 sc) := Nat.lt_of_succ_lt b_lt3
  have b_lt1 : b + 1 < jN (jG0 sc) := Nat.lt_of_succ_lt b_lt2
  have b_lt0 : b + 0 < jN (jG0 sc) := Nat.lt_of_succ_lt b_lt1
  refine j_aload_n (i := 0) rfl dX7_of_87 ?_
  refine j_getR (idx := 9) (ci := 7) (k := 0) (nest := false) (show (7, 9, 7, 0, false) ∈ jFT by decide) rfl (Nat.le_of_ble_eq_true rfl) rfl (a := 73) rfl dX7_of_88 ?_
  refine j_iload (i := 4) rfl dX7_of_91 ?_
  refine j_aload_n (i := 3) rfl dX7_of_93 ?_
  refine j_getI (idx := 45) (ci := 10) (k := 7) (nest := true) (show (7, 45, 10, 7, true) ∈ jFT by decide) rfl (Nat.le_of_ble_eq_true rfl) rfl dX7_of_94 ?_
  refine j_iast (Nat.le_of_ble_eq_true rfl) rfl o1 dX7_of_97 ?_
  refine j_aload_n (i := 0) rfl dX7_of_98 ?_
  refine j_getR (idx := 15) (ci := 7) (k := 1) (nest := false) (show (7, 15, 7, 1, false) ∈ jFT by decide) rfl (Nat.le_of_ble_eq_true rfl) rfl (a := 74) rfl dX7_of_99 ?_
  refine j_iload (i := 4) rfl dX7_of_102 ?_
  refine j_aload_n (i := 3) rfl dX7_of_104 ?_
  refine j_getI (idx := 47) (ci := 10) (k := 9) (nest := true) (show (7, 47, 10, 9, true) ∈ jFT by decide) rfl (Nat.le_of_ble_eq_true rfl) rfl dX7_of_105 ?_
  refine j_iast (Nat.le_of_ble_eq_true rfl) rfl o2 dX7_of_108 ?_
  refine j_iinc (i := 4) (n := 1) rfl dX7_of_109 (Nat.le_of_ble_eq_true rfl) ?_
  refine j_eqlv [some (.ref 72), some (.ref a), some (.ref b), some (.ref 69), some (.int (l4 + 1))] rfl ?_
  refine j_goto (off := -99) 13 dX7_of_112 (by decide) ?_
  exact j_le [some (.ref 72), some (.ref a), some (.ref b), some (.ref 69), some (.int (l4 + 1))] (And.intro rfl (And.intro rfl (And.intro rfl (And.intro rfl (And.intro rfl True.intro))))) v1
set_option maxRecDepth 100000 in
theorem bX7_of_115 {sc : Nat × (Nat → Int32)} {h : jH} {Q : jQ} {a : Nat} {b : Nat} {l4 : Int32} (a_h : jI4 a) (b_h : jI5 b)
    (v1 : Q (.inl none) (jG0 sc) h) :
    WP mX7_of Q 115 [some (.ref 72), some (.ref a), some (.ref b), some (.ref 69), some (.int l4)] [] (jG0 sc) h (0, 0) := by
  obtain ⟨a_lt1, a_K0, a_R0_0, a_K1, a_L1⟩ := a_h
  have a_lt0 : a + 0 < jN (jG0 sc) := Nat.lt_of_succ_lt a_lt1
  obtain ⟨b_lt3, b_K0, b_R0_0, b_K1, b_L1, b_R0_1, b_K2, b_L2, b_R0_2, b_K3, b_L3⟩ := b_h
  have b_lt2 : b + 2 < jN (jG0 sc) := Nat.lt_of_succ_lt b_lt3
  have b_lt1 : b + 1 < jN (jG0 sc) := Nat.lt_of_succ_lt b_lt2
  have b_lt0 : b + 0 < jN (jG0 sc) := Nat.lt_of_succ_lt b_lt1
  exact j_vret rfl (Nat.zero_le _) (Nat.zero_le _) dX7_of_115 v1
set_option maxRecDepth 100000 in
theorem rX7_of_0 {sc : Nat × (Nat → Int32)} {h : jH} {Q : jQ} {a : Nat} {b : Nat} (a_h : jI4 a) (b_h : jI5 b)
    (v1 : WP mX7_of Q 13 [some (.ref 72), some (.ref a), some (.ref b), some (.ref 69), some (.int 0)] [] (jG0 sc) (jput (jput h 72 2 0) 72 3 0) (0, 0)) :
    WP mX7_of Q 0 [some (.ref 72), some (.ref a), some (.ref b), some (.ref 69), none] [] (jG0 sc) h (0, 0) := by
  exact (bX7_of_0 a_h b_h v1)
set_option maxRecDepth 100000 in
theorem rX7_of_13 {sc : Nat × (Nat → Int32)} {h : jH} {Q : jQ} {a : Nat} {b : Nat} {l4 : Int32} {P1 : Int32 → jH → Prop} (a_h : jI4 a) (b_h : jI5 b)
    (v1 : (h b 3) ≤ l4 → Q (.inl none) (jG0 sc) h)
    (v2 : ¬ (h b 3) ≤ l4 → 12 ≤ l4 → Q (.inl none) (jG0 sc) h)
    (o1 : ¬ (h b 3) ≤ l4 → ¬ 12 ≤ l4 → vp_in l4 12)
    (k1 : ¬ (h b 3) ≤ l4 → ¬ 12 ≤ l4 → JM mX10_through [.ref 69, .ref a, .int (h (b + 1) l4.toNatClampNeg), .int (h (b + 2) l4.toNatClampNeg)] (jG0 sc) h (jint sc P1))
    (o2 : ¬ (h b 3) ≤ l4 → ¬ 12 ≤ l4 → ∀ (x1 : Int32) (h1 : jH), P1 x1 h1 → vp_in l4 12)
    (o3 : ¬ (h b 3) ≤ l4 → ¬ 12 ≤ l4 → ∀ (x1 : Int32) (h1 : jH), P1 x1 h1 → ¬ x1 = (h1 (b + 3) l4.toNatClampNeg) → vp_in l4 12)
    (v3 : ¬ (h b 3) ≤ l4 → ¬ 12 ≤ l4 → ∀ (x1 : Int32) (h1 : jH), P1 x1 h1 → ¬ x1 = (h1 (b + 3) l4.toNatClampNeg) → WP mX7_of Q 13 [some (.ref 72), some (.ref a), some (.ref b), some (.ref 69), some (.int (l4 + 1))] [] (jG0 sc) (jput (jput (jput h1 72 3 ((h1 72 3) ||| ((1 : Int32) <<< (l4 &&& 31)))) 73 l4.toNatClampNeg ((jput h1 72 3 ((h1 72 3) ||| ((1 : Int32) <<< (l4 &&& 31)))) 69 7)) 74 l4.toNatClampNeg ((jput (jput h1 72 3 ((h1 72 3) ||| ((1 : Int32) <<< (l4 &&& 31)))) 73 l4.toNatClampNeg ((jput h1 72 3 ((h1 72 3) ||| ((1 : Int32) <<< (l4 &&& 31)))) 69 7)) 69 9)) (0, 0))
    (o4 : ¬ (h b 3) ≤ l4 → ¬ 12 ≤ l4 → ∀ (x1 : Int32) (h1 : jH), P1 x1 h1 → x1 = (h1 (b + 3) l4.toNatClampNeg) → vp_in l4 12)
    (v4 : ¬ (h b 3) ≤ l4 → ¬ 12 ≤ l4 → ∀ (x1 : Int32) (h1 : jH), P1 x1 h1 → x1 = (h1 (b + 3) l4.toNatClampNeg) → WP mX7_of Q 13 [some (.ref 72), some (.ref a), some (.ref b), some (.ref 69), some (.int (l4 + 1))] [] (jG0 sc) (jput (jput (jput h1 72 2 ((h1 72 2) ||| ((1 : Int32) <<< (l4 &&& 31)))) 73 l4.toNatClampNeg ((jput h1 72 2 ((h1 72 2) ||| ((1 : Int32) <<< (l4 &&& 31)))) 69 7)) 74 l4.toNatClampNeg ((jput (jput h1 72 2 ((h1 72 2) ||| ((1 : Int32) <<< (l4 &&& 31)))) 73 l4.toNatClampNeg ((jput h1 72 2 ((h1 72 2) ||| ((1 : Int32) <<< (l4 &&& 31)))) 69 7)) 69 9)) (0, 0)) :
    WP mX7_of Q 13 [some (.ref 72), some (.ref a), some (.ref b), some (.ref 69), some (.int l4)] [] (jG0 sc) h (0, 0) := by
  exact (bX7_of_13 a_h b_h (fun c1 => (bX7_of_115 a_h b_h (v1 c1))) (fun c1 => (bX7_of_22 a_h b_h (fun c2 => (bX7_of_115 a_h b_h (v2 c1 c2))) (fun c2 => (bX7_of_29 a_h b_h (o1 c1 c2) (o1 c1 c2) (k1 c1 c2) (fun x1 h1 p1 => (o2 c1 c2 x1 h1 p1)) (fun x1 h1 p1 c3 => (bX7_of_74 a_h b_h (bX7_of_87 a_h b_h (o3 c1 c2 x1 h1 p1 c3) (o3 c1 c2 x1 h1 p1 c3) (v3 c1 c2 x1 h1 p1 c3)))) (fun x1 h1 p1 c3 => (bX7_of_58 a_h b_h (bX7_of_87 a_h b_h (o4 c1 c2 x1 h1 p1 c3) (o4 c1 c2 x1 h1 p1 c3) (v4 c1 c2 x1 h1 p1 c3)))))))))
theorem dX7_doneIn_0 : decode (mC mX7_doneIn) 0 = .ok (.iconst 0, 1) := by decide +kernel
theorem dX7_doneIn_1 : decode (mC mX7_doneIn) 1 = .ok (.istore_n 3, 1) := by decide +kernel
theorem dX7_doneIn_2 : decode (mC mX7_doneIn) 2 = .ok (.iconst 0, 1) := by decide +kernel
theorem dX7_doneIn_3 : decode (mC mX7_doneIn) 3 = .ok (.istore 4, 2) := by decide +kernel
theorem dX7_doneIn_5 : decode (mC mX7_doneIn) 5 = .ok (.iload 4, 2) := by decide +kernel
theorem dX7_doneIn_7 : decode (mC mX7_doneIn) 7 = .ok (.bipush 12, 2) := by decide +kernel
theorem dX7_doneIn_9 : decode (mC mX7_doneIn) 9 = .ok (.if_icmp .ge 37, 3) := by decide +kernel
theorem dX7_doneIn_12 : decode (mC mX7_doneIn) 12 = .ok (.iload_n 3, 1) := by decide +kernel
theorem dX7_doneIn_13 : decode (mC mX7_doneIn) 13 = .ok (.iload_n 2, 1) := by decide +kernel
theorem dX7_doneIn_14 : decode (mC mX7_doneIn) 14 = .ok (.iload 4, 2) := by decide +kernel
theorem dX7_doneIn_16 : decode (mC mX7_doneIn) 16 = .ok (.ishr, 1) := by decide +kernel
theorem dX7_doneIn_17 : decode (mC mX7_doneIn) 17 = .ok (.iconst 1, 1) := by decide +kernel
theorem dX7_doneIn_18 : decode (mC mX7_doneIn) 18 = .ok (.iand, 1) := by decide +kernel
theorem dX7_doneIn_19 : decode (mC mX7_doneIn) 19 = .ok (.iconst 1, 1) := by decide +kernel
theorem dX7_doneIn_20 : decode (mC mX7_doneIn) 20 = .ok (.if_icmp .ne 17, 3) := by decide +kernel
theorem dX7_doneIn_23 : decode (mC mX7_doneIn) 23 = .ok (.aload_n 0, 1) := by decide +kernel
theorem dX7_doneIn_24 : decode (mC mX7_doneIn) 24 = .ok (.getfield 9, 3) := by decide +kernel
theorem dX7_doneIn_27 : decode (mC mX7_doneIn) 27 = .ok (.iload 4, 2) := by decide +kernel
theorem dX7_doneIn_29 : decode (mC mX7_doneIn) 29 = .ok (.iaload, 1) := by decide +kernel
theorem dX7_doneIn_30 : decode (mC mX7_doneIn) 30 = .ok (.iload_n 1, 1) := by decide +kernel
theorem dX7_doneIn_31 : decode (mC mX7_doneIn) 31 = .ok (.ishr, 1) := by decide +kernel
theorem dX7_doneIn_32 : decode (mC mX7_doneIn) 32 = .ok (.iconst 1, 1) := by decide +kernel
theorem dX7_doneIn_33 : decode (mC mX7_doneIn) 33 = .ok (.iand, 1) := by decide +kernel
theorem dX7_doneIn_34 : decode (mC mX7_doneIn) 34 = .ok (.goto 4, 3) := by decide +kernel
theorem dX7_doneIn_37 : decode (mC mX7_doneIn) 37 = .ok (.iconst 0, 1) := by decide +kernel
theorem dX7_doneIn_38 : decode (mC mX7_doneIn) 38 = .ok (.iadd, 1) := by decide +kernel
theorem dX7_doneIn_39 : decode (mC mX7_doneIn) 39 = .ok (.istore_n 3, 1) := by decide +kernel
theorem dX7_doneIn_40 : decode (mC mX7_doneIn) 40 = .ok (.iinc 4 1, 3) := by decide +kernel
theorem dX7_doneIn_43 : decode (mC mX7_doneIn) 43 = .ok (.goto (-38), 3) := by decide +kernel
theorem dX7_doneIn_46 : decode (mC mX7_doneIn) 46 = .ok (.iload_n 3, 1) := by decide +kernel
theorem dX7_doneIn_47 : decode (mC mX7_doneIn) 47 = .ok (.ireturn, 1) := by decide +kernel
set_option maxRecDepth 100000 in
theorem bX7_doneIn_0 {sc : Nat × (Nat → Int32)} {h : jH} {Q : jQ} {l1 l2 : Int32}
    (v1 : WP mX7_doneIn Q 5 [some (.ref 72), some (.int l1), some (.int l2), some (.int 0), some (.int 0)] [] (jG0 sc) h (0, 0)) :
    WP mX7_doneIn Q 0 [some (.ref 72), some (.int l1), some (.int l2), none, none] [] (jG0 sc) h (0, 0) := by
  refine j_iconst (n := 0) 0 (by decide) dX7_doneIn_0 ?_
  refine j_istore_n (i := 3) dX7_doneIn_1 (Nat.le_of_ble_eq_true rfl) ?_
  refine j_iconst (n := 0) 0 (by decide) dX7_doneIn_2 ?_
  refine j_istore (i := 4) dX7_doneIn_3 (Nat.le_of_ble_eq_true rfl) ?_
  exact j_le [some (.ref 72), some (.int l1), some (.int l2), some (.int 0), some (.int 0)] (And.intro rfl (And.intro rfl (And.intro rfl (And.intro rfl (And.intro rfl True.intro))))) v1
set_option maxRecDepth 100000 in
theorem bX7_doneIn_5 {sc : Nat × (Nat → Int32)} {h : jH} {Q : jQ} {l1 l2 l3 l4 : Int32}
    (v1 : 12 ≤ l4 → WP mX7_doneIn Q 46 [some (.ref 72), some (.int l1), some (.int l2), some (.int l3), some (.int l4)] [] (jG0 sc) h (0, 0))
    (v2 : ¬ 12 ≤ l4 → WP mX7_doneIn Q 12 [some (.ref 72), some (.int l1), some (.int l2), some (.int l3), some (.int l4)] [] (jG0 sc) h (0, 0)) :
    WP mX7_doneIn Q 5 [some (.ref 72), some (.int l1), some (.int l2), some (.int l3), some (.int l4)] [] (jG0 sc) h (0, 0) := by
  refine j_iload (i := 4) rfl dX7_doneIn_5 ?_
  refine j_bipush (n := 12) 12 (by decide) dX7_doneIn_7 ?_
  refine j_icmp_ge (off := 37) 46 dX7_doneIn_9 (by decide) (fun c1 => ?_) (fun c1 => ?_)
  · exact j_le [some (.ref 72), some (.int l1), some (.int l2), some (.int l3), some (.int l4)] (And.intro rfl (And.intro rfl (And.intro rfl (And.intro rfl (And.intro rfl True.intro))))) (v1 c1)
  · exact j_le [some (.ref 72), some (.int l1), some (.int l2), some (.int l3), some (.int l4)] (And.intro rfl (And.intro rfl (And.intro rfl (And.intro rfl (And.intro rfl True.intro))))) (v2 c1)
set_option maxRecDepth 100000 in
theorem bX7_doneIn_12 {sc : Nat × (Nat → Int32)} {h : jH} {Q : jQ} {l1 l2 l3 l4 : Int32}
    (v1 : ¬ ((l2 >>> (l4 &&& 31)) &&& 1) = 1 → WP mX7_doneIn Q 37 [some (.ref 72), some (.int l1), some (.int l2), some (.int l3), some (.int l4)] [.int l3] (jG0 sc) h (0, 0))
    (v2 : ((l2 >>> (l4 &&& 31)) &&& 1) = 1 → WP mX7_doneIn Q 23 [some (.ref 72), some (.int l1), some (.int l2), some (.int l3), some (.int l4)] [.int l3] (jG0 sc) h (0, 0)) :
    WP mX7_doneIn Q 12 [some (.ref 72), some (.int l1), some (.int l2), some (.int l3), some (.int l4)] [] (jG0 sc) h (0, 0) := by
  refine j_iload_n (i := 3) rfl dX7_doneIn_12 ?_
  refine j_iload_n (i := 2) rfl dX7_doneIn_13 ?_
  refine j_iload (i := 4) rfl dX7_doneIn_14 ?_
  refine j_ishr dX7_doneIn_16 ?_
  refine j_iconst (n := 1) 1 (by decide) dX7_doneIn_17 ?_
  refine j_iand dX7_doneIn_18 ?_
  refine j_iconst (n := 1) 1 (by decide) dX7_doneIn_19 ?_
  refine j_icmp_ne (off := 17) 37 dX7_doneIn_20 (by decide) (fun c1 => ?_) (fun c1 => ?_)
  · exact j_le [some (.ref 72), some (.int l1), some (.int l2), some (.int l3), some (.int l4)] (And.intro rfl (And.intro rfl (And.intro rfl (And.intro rfl (And.intro rfl True.intro))))) (v1 c1)
  · exact j_le [some (.ref 72), some (.int l1), some (.int l2), some (.int l3), some (.int l4)] (And.intro rfl (And.intro rfl (And.intro rfl (And.intro rfl (And.intro rfl True.intro))))) (v2 c1)
set_option maxRecDepth 100000 in
theorem bX7_doneIn_23 {sc : Nat × (Nat → Int32)} {h : jH} {Q : jQ} {l1 l2 l3 l4 s0 : Int32}
    (o1 : vp_in l4 12)
    (v1 : WP mX7_doneIn Q 38 [some (.ref 72), some (.int l1), some (.int l2), some (.int l3), some (.int l4)] [.int (((h 73 l4.toNatClampNeg) >>> (l1 &&& 31)) &&& 1), .int s0] (jG0 sc) h (0, 0)) :
    WP mX7_doneIn Q 23 [some (.ref 72), some (.int l1), some (.int l2), some (.int l3), some (.int l4)] [.int s0] (jG0 sc) h (0, 0) := by
  refine j_aload_n (i := 0) rfl dX7_doneIn_23 ?_
  refine j_getR (idx := 9) (ci := 7) (k := 0) (nest := false) (show (7, 9, 7, 0, false) ∈ jFT by decide) rfl (Nat.le_of_ble_eq_true rfl) rfl (a := 73) rfl dX7_doneIn_24 ?_
  refine j_iload (i := 4) rfl dX7_doneIn_27 ?_
  refine j_iald (Nat.le_of_ble_eq_true rfl) rfl o1 dX7_doneIn_29 ?_
  refine j_iload_n (i := 1) rfl dX7_doneIn_30 ?_
  refine j_ishr dX7_doneIn_31 ?_
  refine j_iconst (n := 1) 1 (by decide) dX7_doneIn_32 ?_
  refine j_iand dX7_doneIn_33 ?_
  refine j_goto (off := 4) 38 dX7_doneIn_34 (by decide) ?_
  exact j_le [some (.ref 72), some (.int l1), some (.int l2), some (.int l3), some (.int l4)] (And.intro rfl (And.intro rfl (And.intro rfl (And.intro rfl (And.intro rfl True.intro))))) v1
set_option maxRecDepth 100000 in
theorem bX7_doneIn_37 {sc : Nat × (Nat → Int32)} {h : jH} {Q : jQ} {l1 l2 l3 l4 s0 : Int32}
    (v1 : WP mX7_doneIn Q 38 [some (.ref 72), some (.int l1), some (.int l2), some (.int l3), some (.int l4)] [.int 0, .int s0] (jG0 sc) h (0, 0)) :
    WP mX7_doneIn Q 37 [some (.ref 72), some (.int l1), some (.int l2), some (.int l3), some (.int l4)] [.int s0] (jG0 sc) h (0, 0) := by
  refine j_iconst (n := 0) 0 (by decide) dX7_doneIn_37 ?_
  exact j_le [some (.ref 72), some (.int l1), some (.int l2), some (.int l3), some (.int l4)] (And.intro rfl (And.intro rfl (And.intro rfl (And.intro rfl (And.intro rfl True.intro))))) v1
set_option maxRecDepth 100000 in
theorem bX7_doneIn_38 {sc : Nat × (Nat → Int32)} {h : jH} {Q : jQ} {l1 l2 l3 l4 s0 s1 : Int32}
    (v1 : WP mX7_doneIn Q 5 [some (.ref 72), some (.int l1), some (.int l2), some (.int (s1 + s0)), some (.int (l4 + 1))] [] (jG0 sc) h (0, 0)) :
    WP mX7_doneIn Q 38 [some (.ref 72), some (.int l1), some (.int l2), some (.int l3), some (.int l4)] [.int s0, .int s1] (jG0 sc) h (0, 0) := by
  refine j_iadd dX7_doneIn_38 ?_
  refine j_istore_n (i := 3) dX7_doneIn_39 (Nat.le_of_ble_eq_true rfl) ?_
  refine j_iinc (i := 4) (n := 1) rfl dX7_doneIn_40 (Nat.le_of_ble_eq_true rfl) ?_
  refine j_eqlv [some (.ref 72), some (.int l1), some (.int l2), some (.int (s1 + s0)), some (.int (l4 + 1))] rfl ?_
  refine j_goto (off := -38) 5 dX7_doneIn_43 (by decide) ?_
  exact j_le [some (.ref 72), some (.int l1), some (.int l2), some (.int (s1 + s0)), some (.int (l4 + 1))] (And.intro rfl (And.intro rfl (And.intro rfl (And.intro rfl (And.intro rfl True.intro))))) v1
set_option maxRecDepth 100000 in
theorem bX7_doneIn_46 {sc : Nat × (Nat → Int32)} {h : jH} {Q : jQ} {l1 l2 l3 l4 : Int32}
    (v1 : Q (.inl (some (.int l3))) (jG0 sc) h) :
    WP mX7_doneIn Q 46 [some (.ref 72), some (.int l1), some (.int l2), some (.int l3), some (.int l4)] [] (jG0 sc) h (0, 0) := by
  refine j_iload_n (i := 3) rfl dX7_doneIn_46 ?_
  exact j_iret rfl rfl (Nat.zero_le _) (Nat.zero_le _) dX7_doneIn_47 v1
set_option maxRecDepth 100000 in
theorem rX7_doneIn_0 {sc : Nat × (Nat → Int32)} {h : jH} {Q : jQ} {l1 l2 : Int32}
    (v1 : WP mX7_doneIn Q 5 [some (.ref 72), some (.int l1), some (.int l2), some (.int 0), some (.int 0)] [] (jG0 sc) h (0, 0)) :
    WP mX7_doneIn Q 0 [some (.ref 72), some (.int l1), some (.int l2), none, none] [] (jG0 sc) h (0, 0) := by
  exact (bX7_doneIn_0 v1)
set_option maxRecDepth 100000 in
theorem rX7_doneIn_5 {sc : Nat × (Nat → Int32)} {h : jH} {Q : jQ} {l1 l2 l3 l4 : Int32}
    (v1 : 12 ≤ l4 → Q (.inl (some (.int l3))) (jG0 sc) h)
    (v2 : ¬ 12 ≤ l4 → ¬ ((l2 >>> (l4 &&& 31)) &&& 1) = 1 → WP mX7_doneIn Q 5 [some (.ref 72), some (.int l1), some (.int l2), some (.int (l3 + 0)), some (.int (l4 + 1))] [] (jG0 sc) h (0, 0))
    (o1 : ¬ 12 ≤ l4 → ((l2 >>> (l4 &&& 31)) &&& 1) = 1 → vp_in l4 12)
    (v3 : ¬ 12 ≤ l4 → ((l2 >>> (l4 &&& 31)) &&& 1) = 1 → WP mX7_doneIn Q 5 [some (.ref 72), some (.int l1), some (.int l2), some (.int (l3 + (((h 73 l4.toNatClampNeg) >>> (l1 &&& 31)) &&& 1))), some (.int (l4 + 1))] [] (jG0 sc) h (0, 0)) :
    WP mX7_doneIn Q 5 [some (.ref 72), some (.int l1), some (.int l2), some (.int l3), some (.int l4)] [] (jG0 sc) h (0, 0) := by
  exact (bX7_doneIn_5 (fun c1 => (bX7_doneIn_46 (v1 c1))) (fun c1 => (bX7_doneIn_12 (fun c2 => (bX7_doneIn_37 (bX7_doneIn_38 (v2 c1 c2)))) (fun c2 => (bX7_doneIn_23 (o1 c1 c2) (bX7_doneIn_38 (v3 c1 c2)))))))
theorem dX7_sharedSlice_0 : decode (mC mX7_sharedSlice) 0 = .ok (.iconst (-1), 1) := by decide +kernel
theorem dX7_sharedSlice_1 : decode (mC mX7_sharedSlice) 1 = .ok (.istore_n 1, 1) := by decide +kernel
theorem dX7_sharedSlice_2 : decode (mC mX7_sharedSlice) 2 = .ok (.iconst 0, 1) := by decide +kernel
theorem dX7_sharedSlice_3 : decode (mC mX7_sharedSlice) 3 = .ok (.istore_n 2, 1) := by decide +kernel
theorem dX7_sharedSlice_4 : decode (mC mX7_sharedSlice) 4 = .ok (.iload_n 2, 1) := by decide +kernel
theorem dX7_sharedSlice_5 : decode (mC mX7_sharedSlice) 5 = .ok (.bipush 12, 2) := by decide +kernel
theorem dX7_sharedSlice_7 : decode (mC mX7_sharedSlice) 7 = .ok (.if_icmp .ge 34, 3) := by decide +kernel
theorem dX7_sharedSlice_10 : decode (mC mX7_sharedSlice) 10 = .ok (.iload_n 1, 1) := by decide +kernel
theorem dX7_sharedSlice_11 : decode (mC mX7_sharedSlice) 11 = .ok (.aload_n 0, 1) := by decide +kernel
theorem dX7_sharedSlice_12 : decode (mC mX7_sharedSlice) 12 = .ok (.getfield 22, 3) := by decide +kernel
theorem dX7_sharedSlice_15 : decode (mC mX7_sharedSlice) 15 = .ok (.iload_n 2, 1) := by decide +kernel
theorem dX7_sharedSlice_16 : decode (mC mX7_sharedSlice) 16 = .ok (.ishr, 1) := by decide +kernel
theorem dX7_sharedSlice_17 : decode (mC mX7_sharedSlice) 17 = .ok (.iconst 1, 1) := by decide +kernel
theorem dX7_sharedSlice_18 : decode (mC mX7_sharedSlice) 18 = .ok (.iand, 1) := by decide +kernel
theorem dX7_sharedSlice_19 : decode (mC mX7_sharedSlice) 19 = .ok (.iconst 1, 1) := by decide +kernel
theorem dX7_sharedSlice_20 : decode (mC mX7_sharedSlice) 20 = .ok (.if_icmp .ne 12, 3) := by decide +kernel
theorem dX7_sharedSlice_23 : decode (mC mX7_sharedSlice) 23 = .ok (.aload_n 0, 1) := by decide +kernel
theorem dX7_sharedSlice_24 : decode (mC mX7_sharedSlice) 24 = .ok (.getfield 15, 3) := by decide +kernel
theorem dX7_sharedSlice_27 : decode (mC mX7_sharedSlice) 27 = .ok (.iload_n 2, 1) := by decide +kernel
theorem dX7_sharedSlice_28 : decode (mC mX7_sharedSlice) 28 = .ok (.iaload, 1) := by decide +kernel
theorem dX7_sharedSlice_29 : decode (mC mX7_sharedSlice) 29 = .ok (.goto 4, 3) := by decide +kernel
theorem dX7_sharedSlice_32 : decode (mC mX7_sharedSlice) 32 = .ok (.iconst (-1), 1) := by decide +kernel
theorem dX7_sharedSlice_33 : decode (mC mX7_sharedSlice) 33 = .ok (.iand, 1) := by decide +kernel
theorem dX7_sharedSlice_34 : decode (mC mX7_sharedSlice) 34 = .ok (.istore_n 1, 1) := by decide +kernel
theorem dX7_sharedSlice_35 : decode (mC mX7_sharedSlice) 35 = .ok (.iinc 2 1, 3) := by decide +kernel
theorem dX7_sharedSlice_38 : decode (mC mX7_sharedSlice) 38 = .ok (.goto (-34), 3) := by decide +kernel
theorem dX7_sharedSlice_41 : decode (mC mX7_sharedSlice) 41 = .ok (.iload_n 1, 1) := by decide +kernel
theorem dX7_sharedSlice_42 : decode (mC mX7_sharedSlice) 42 = .ok (.ireturn, 1) := by decide +kernel
set_option maxRecDepth 100000 in
theorem bX7_sharedSlice_0 {sc : Nat × (Nat → Int32)} {h : jH} {Q : jQ}
    (v1 : WP mX7_sharedSlice Q 4 [some (.ref 72), some (.int (-1)), some (.int 0)] [] (jG0 sc) h (0, 0)) :
    WP mX7_sharedSlice Q 0 [some (.ref 72), none, none] [] (jG0 sc) h (0, 0) := by
  refine j_iconst (n := (-1)) (-1) (by decide) dX7_sharedSlice_0 ?_
  refine j_istore_n (i := 1) dX7_sharedSlice_1 (Nat.le_of_ble_eq_true rfl) ?_
  refine j_iconst (n := 0) 0 (by decide) dX7_sharedSlice_2 ?_
  refine j_istore_n (i := 2) dX7_sharedSlice_3 (Nat.le_of_ble_eq_true rfl) ?_
  exact j_le [some (.ref 72), some (.int (-1)), some (.int 0)] (And.intro rfl (And.intro rfl (And.intro rfl True.intro))) v1
set_option maxRecDepth 100000 in
theorem bX7_sharedSlice_4 {sc : Nat × (Nat → Int32)} {h : jH} {Q : jQ} {l1 l2 : Int32}
    (v1 : 12 ≤ l2 → WP mX7_sharedSlice Q 41 [some (.ref 72), some (.int l1), some (.int l2)] [] (jG0 sc) h (0, 0))
    (v2 : ¬ 12 ≤ l2 → WP mX7_sharedSlice Q 10 [some (.ref 72), some (.int l1), some (.int l2)] [] (jG0 sc) h (0, 0)) :
    WP mX7_sharedSlice Q 4 [some (.ref 72), some (.int l1), some (.int l2)] [] (jG0 sc) h (0, 0) := by
  refine j_iload_n (i := 2) rfl dX7_sharedSlice_4 ?_
  refine j_bipush (n := 12) 12 (by decide) dX7_sharedSlice_5 ?_
  refine j_icmp_ge (off := 34) 41 dX7_sharedSlice_7 (by decide) (fun c1 => ?_) (fun c1 => ?_)
  · exact j_le [some (.ref 72), some (.int l1), some (.int l2)] (And.intro rfl (And.intro rfl (And.intro rfl True.intro))) (v1 c1)
  · exact j_le [some (.ref 72), some (.int l1), some (.int l2)] (And.intro rfl (And.intro rfl (And.intro rfl True.intro))) (v2 c1)
set_option maxRecDepth 100000 in
theorem bX7_sharedSlice_10 {sc : Nat × (Nat → Int32)} {h : jH} {Q : jQ} {l1 l2 : Int32}
    (v1 : ¬ (((h 72 3) >>> (l2 &&& 31)) &&& 1) = 1 → WP mX7_sharedSlice Q 32 [some (.ref 72), some (.int l1), some (.int l2)] [.int l1] (jG0 sc) h (0, 0))
    (v2 : (((h 72 3) >>> (l2 &&& 31)) &&& 1) = 1 → WP mX7_sharedSlice Q 23 [some (.ref 72), some (.int l1), some (.int l2)] [.int l1] (jG0 sc) h (0, 0)) :
    WP mX7_sharedSlice Q 10 [some (.ref 72), some (.int l1), some (.int l2)] [] (jG0 sc) h (0, 0) := by
  refine j_iload_n (i := 1) rfl dX7_sharedSlice_10 ?_
  refine j_aload_n (i := 0) rfl dX7_sharedSlice_11 ?_
  refine j_getI (idx := 22) (ci := 7) (k := 3) (nest := false) (show (7, 22, 7, 3, false) ∈ jFT by decide) rfl (Nat.le_of_ble_eq_true rfl) rfl dX7_sharedSlice_12 ?_
  refine j_iload_n (i := 2) rfl dX7_sharedSlice_15 ?_
  refine j_ishr dX7_sharedSlice_16 ?_
  refine j_iconst (n := 1) 1 (by decide) dX7_sharedSlice_17 ?_
  refine j_iand dX7_sharedSlice_18 ?_
  refine j_iconst (n := 1) 1 (by decide) dX7_sharedSlice_19 ?_
  refine j_icmp_ne (off := 12) 32 dX7_sharedSlice_20 (by decide) (fun c1 => ?_) (fun c1 => ?_)
  · exact j_le [some (.ref 72), some (.int l1), some (.int l2)] (And.intro rfl (And.intro rfl (And.intro rfl True.intro))) (v1 c1)
  · exact j_le [some (.ref 72), some (.int l1), some (.int l2)] (And.intro rfl (And.intro rfl (And.intro rfl True.intro))) (v2 c1)
set_option maxRecDepth 100000 in
theorem bX7_sharedSlice_23 {sc : Nat × (Nat → Int32)} {h : jH} {Q : jQ} {l1 l2 s0 : Int32}
    (o1 : vp_in l2 12)
    (v1 : WP mX7_sharedSlice Q 33 [some (.ref 72), some (.int l1), some (.int l2)] [.int (h 74 l2.toNatClampNeg), .int s0] (jG0 sc) h (0, 0)) :
    WP mX7_sharedSlice Q 23 [some (.ref 72), some (.int l1), some (.int l2)] [.int s0] (jG0 sc) h (0, 0) := by
  refine j_aload_n (i := 0) rfl dX7_sharedSlice_23 ?_
  refine j_getR (idx := 15) (ci := 7) (k := 1) (nest := false) (show (7, 15, 7, 1, false) ∈ jFT by decide) rfl (Nat.le_of_ble_eq_true rfl) rfl (a := 74) rfl dX7_sharedSlice_24 ?_
  refine j_iload_n (i := 2) rfl dX7_sharedSlice_27 ?_
  refine j_iald (Nat.le_of_ble_eq_true rfl) rfl o1 dX7_sharedSlice_28 ?_
  refine j_goto (off := 4) 33 dX7_sharedSlice_29 (by decide) ?_
  exact j_le [some (.ref 72), some (.int l1), some (.int l2)] (And.intro rfl (And.intro rfl (And.intro rfl True.intro))) v1
set_option maxRecDepth 100000 in
theorem bX7_sharedSlice_32 {sc : Nat × (Nat → Int32)} {h : jH} {Q : jQ} {l1 l2 s0 : Int32}
    (v1 : WP mX7_sharedSlice Q 33 [some (.ref 72), some (.int l1), some (.int l2)] [.int (-1), .int s0] (jG0 sc) h (0, 0)) :
    WP mX7_sharedSlice Q 32 [some (.ref 72), some (.int l1), some (.int l2)] [.int s0] (jG0 sc) h (0, 0) := by
  refine j_iconst (n := (-1)) (-1) (by decide) dX7_sharedSlice_32 ?_
  exact j_le [some (.ref 72), some (.int l1), some (.int l2)] (And.intro rfl (And.intro rfl (And.intro rfl True.intro))) v1
set_option maxRecDepth 100000 in
theorem bX7_sharedSlice_33 {sc : Nat × (Nat → Int32)} {h : jH} {Q : jQ} {l1 l2 s0 s1 : Int32}
    (v1 : WP mX7_sharedSlice Q 4 [some (.ref 72), some (.int (s1 &&& s0)), some (.int (l2 + 1))] [] (jG0 sc) h (0, 0)) :
    WP mX7_sharedSlice Q 33 [some (.ref 72), some (.int l1), some (.int l2)] [.int s0, .int s1] (jG0 sc) h (0, 0) := by
  refine j_iand dX7_sharedSlice_33 ?_
  refine j_istore_n (i := 1) dX7_sharedSlice_34 (Nat.le_of_ble_eq_true rfl) ?_
  refine j_iinc (i := 2) (n := 1) rfl dX7_sharedSlice_35 (Nat.le_of_ble_eq_true rfl) ?_
  refine j_eqlv [some (.ref 72), some (.int (s1 &&& s0)), some (.int (l2 + 1))] rfl ?_
  refine j_goto (off := -34) 4 dX7_sharedSlice_38 (by decide) ?_
  exact j_le [some (.ref 72), some (.int (s1 &&& s0)), some (.int (l2 + 1))] (And.intro rfl (And.intro rfl (And.intro rfl True.intro))) v1
set_option maxRecDepth 100000 in
theorem bX7_sharedSlice_41 {sc : Nat × (Nat → Int32)} {h : jH} {Q : jQ} {l1 l2 : Int32}
    (v1 : Q (.inl (some (.int l1))) (jG0 sc) h) :
    WP mX7_sharedSlice Q 41 [some (.ref 72), some (.int l1), some (.int l2)] [] (jG0 sc) h (0, 0) := by
  refine j_iload_n (i := 1) rfl dX7_sharedSlice_41 ?_
  exact j_iret rfl rfl (Nat.zero_le _) (Nat.zero_le _) dX7_sharedSlice_42 v1
set_option maxRecDepth 100000 in
theorem rX7_sharedSlice_0 {sc : Nat × (Nat → Int32)} {h : jH} {Q : jQ}
    (v1 : WP mX7_sharedSlice Q 4 [some (.ref 72), some (.int (-1)), some (.int 0)] [] (jG0 sc) h (0, 0)) :
    WP mX7_sharedSlice Q 0 [some (.ref 72), none, none] [] (jG0 sc) h (0, 0) := by
  exact (bX7_sharedSlice_0 v1)
set_option maxRecDepth 100000 in
theorem rX7_sharedSlice_4 {sc : Nat × (Nat → Int32)} {h : jH} {Q : jQ} {l1 l2 : Int32}
    (v1 : 12 ≤ l2 → Q (.inl (some (.int l1))) (jG0 sc) h)
    (v2 : ¬ 12 ≤ l2 → ¬ (((h 72 3) >>> (l2 &&& 31)) &&& 1) = 1 → WP mX7_sharedSlice Q 4 [some (.ref 72), some (.int (l1 &&& ((-1) : Int32))), some (.int (l2 + 1))] [] (jG0 sc) h (0, 0))
    (o1 : ¬ 12 ≤ l2 → (((h 72 3) >>> (l2 &&& 31)) &&& 1) = 1 → vp_in l2 12)
    (v3 : ¬ 12 ≤ l2 → (((h 72 3) >>> (l2 &&& 31)) &&& 1) = 1 → WP mX7_sharedSlice Q 4 [some (.ref 72), some (.int (l1 &&& (h 74 l2.toNatClampNeg))), some (.int (l2 + 1))] [] (jG0 sc) h (0, 0)) :
    WP mX7_sharedSlice Q 4 [some (.ref 72), some (.int l1), some (.int l2)] [] (jG0 sc) h (0, 0) := by
  exact (bX7_sharedSlice_4 (fun c1 => (bX7_sharedSlice_41 (v1 c1))) (fun c1 => (bX7_sharedSlice_10 (fun c2 => (bX7_sharedSlice_32 (bX7_sharedSlice_33 (v2 c1 c2)))) (fun c2 => (bX7_sharedSlice_23 (o1 c1 c2) (bX7_sharedSlice_33 (v3 c1 c2)))))))
