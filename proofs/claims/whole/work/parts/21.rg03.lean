theorem dX1_add_0 : decode (mC mX1_add) 0 = .ok (.aload_n 0, 1) := by decide +kernel
theorem dX1_add_1 : decode (mC mX1_add) 1 = .ok (.getfield 15, 3) := by decide +kernel
theorem dX1_add_4 : decode (mC mX1_add) 4 = .ok (.ifCond .lt 35, 3) := by decide +kernel
theorem dX1_add_7 : decode (mC mX1_add) 7 = .ok (.aload_n 0, 1) := by decide +kernel
theorem dX1_add_8 : decode (mC mX1_add) 8 = .ok (.getfield 15, 3) := by decide +kernel
theorem dX1_add_11 : decode (mC mX1_add) 11 = .ok (.aload_n 0, 1) := by decide +kernel
theorem dX1_add_12 : decode (mC mX1_add) 12 = .ok (.getfield 9, 3) := by decide +kernel
theorem dX1_add_15 : decode (mC mX1_add) 15 = .ok (.arraylength, 1) := by decide +kernel
theorem dX1_add_16 : decode (mC mX1_add) 16 = .ok (.if_icmp .ge 23, 3) := by decide +kernel
theorem dX1_add_19 : decode (mC mX1_add) 19 = .ok (.aload_n 0, 1) := by decide +kernel
theorem dX1_add_20 : decode (mC mX1_add) 20 = .ok (.getfield 9, 3) := by decide +kernel
theorem dX1_add_23 : decode (mC mX1_add) 23 = .ok (.aload_n 0, 1) := by decide +kernel
theorem dX1_add_24 : decode (mC mX1_add) 24 = .ok (.getfield 15, 3) := by decide +kernel
theorem dX1_add_27 : decode (mC mX1_add) 27 = .ok (.iload_n 1, 1) := by decide +kernel
theorem dX1_add_28 : decode (mC mX1_add) 28 = .ok (.iastore, 1) := by decide +kernel
theorem dX1_add_29 : decode (mC mX1_add) 29 = .ok (.aload_n 0, 1) := by decide +kernel
theorem dX1_add_30 : decode (mC mX1_add) 30 = .ok (.dup, 1) := by decide +kernel
theorem dX1_add_31 : decode (mC mX1_add) 31 = .ok (.getfield 15, 3) := by decide +kernel
theorem dX1_add_34 : decode (mC mX1_add) 34 = .ok (.iconst 1, 1) := by decide +kernel
theorem dX1_add_35 : decode (mC mX1_add) 35 = .ok (.iadd, 1) := by decide +kernel
theorem dX1_add_36 : decode (mC mX1_add) 36 = .ok (.putfield 15, 3) := by decide +kernel
theorem dX1_add_39 : decode (mC mX1_add) 39 = .ok (.return_, 1) := by decide +kernel
set_option maxRecDepth 100000 in
theorem bX1_add_0 {sc : Nat × (Nat → Int32)} {h : jH} {Q : jQ} {t : Nat} {l1 : Int32} (t_h : jI1 t)
    (v1 : (h t 1) < 0 → WP mX1_add Q 39 [some (.ref t), some (.int l1)] [] (jG0 sc) h (0, 0))
    (v2 : ¬ (h t 1) < 0 → WP mX1_add Q 7 [some (.ref t), some (.int l1)] [] (jG0 sc) h (0, 0)) :
    WP mX1_add Q 0 [some (.ref t), some (.int l1)] [] (jG0 sc) h (0, 0) := by
  obtain ⟨t_lt1, t_K0, t_R0_0, t_K1, t_L1⟩ := t_h
  have t_lt0 : t + 0 < jN (jG0 sc) := Nat.lt_of_succ_lt t_lt1
  refine j_aload_n (i := 0) rfl dX1_add_0 ?_
  refine j_getI (idx := 15) (ci := 1) (k := 1) (nest := false) (show (1, 15, 1, 1, false) ∈ jFT by decide) rfl (t_lt0) t_K0 dX1_add_1 ?_
  refine j_if_lt (off := 35) 39 dX1_add_4 (by decide) (fun c1 => ?_) (fun c1 => ?_)
  · exact j_le [some (.ref t), some (.int l1)] (And.intro rfl (And.intro rfl True.intro)) (v1 c1)
  · exact j_le [some (.ref t), some (.int l1)] (And.intro rfl (And.intro rfl True.intro)) (v2 c1)
set_option maxRecDepth 100000 in
theorem bX1_add_7 {sc : Nat × (Nat → Int32)} {h : jH} {Q : jQ} {t : Nat} {l1 : Int32} (t_h : jI1 t)
    (v1 : 400 ≤ (h t 1) → WP mX1_add Q 39 [some (.ref t), some (.int l1)] [] (jG0 sc) h (0, 0))
    (v2 : ¬ 400 ≤ (h t 1) → WP mX1_add Q 19 [some (.ref t), some (.int l1)] [] (jG0 sc) h (0, 0)) :
    WP mX1_add Q 7 [some (.ref t), some (.int l1)] [] (jG0 sc) h (0, 0) := by
  obtain ⟨t_lt1, t_K0, t_R0_0, t_K1, t_L1⟩ := t_h
  have t_lt0 : t + 0 < jN (jG0 sc) := Nat.lt_of_succ_lt t_lt1
  refine j_aload_n (i := 0) rfl dX1_add_7 ?_
  refine j_getI (idx := 15) (ci := 1) (k := 1) (nest := false) (show (1, 15, 1, 1, false) ∈ jFT by decide) rfl (t_lt0) t_K0 dX1_add_8 ?_
  refine j_aload_n (i := 0) rfl dX1_add_11 ?_
  refine j_getR (idx := 9) (ci := 1) (k := 0) (nest := false) (show (1, 9, 1, 0, false) ∈ jFT by decide) rfl (t_lt0) t_K0 (a := (t + 1)) t_R0_0 dX1_add_12 ?_
  refine j_alen (t_lt1) t_K1 rfl 400 (by rw [show jL (jG0 sc) (t + 1) = 400 from t_L1]; rfl) dX1_add_15 ?_
  refine j_icmp_ge (off := 23) 39 dX1_add_16 (by decide) (fun c1 => ?_) (fun c1 => ?_)
  · exact j_le [some (.ref t), some (.int l1)] (And.intro rfl (And.intro rfl True.intro)) (v1 c1)
  · exact j_le [some (.ref t), some (.int l1)] (And.intro rfl (And.intro rfl True.intro)) (v2 c1)
set_option maxRecDepth 100000 in
theorem bX1_add_19 {sc : Nat × (Nat → Int32)} {h : jH} {Q : jQ} {t : Nat} {l1 : Int32} (t_h : jI1 t)
    (o1 : vp_in (h t 1) 400)
    (v1 : WP mX1_add Q 39 [some (.ref t), some (.int l1)] [] (jG0 sc) (jput (jput h (t + 1) ((h t 1).toNatClampNeg) l1) t 1 (((jput h (t + 1) ((h t 1).toNatClampNeg) l1) t 1) + 1)) (0, 0)) :
    WP mX1_add Q 19 [some (.ref t), some (.int l1)] [] (jG0 sc) h (0, 0) := by
  obtain ⟨t_lt1, t_K0, t_R0_0, t_K1, t_L1⟩ := t_h
  have t_lt0 : t + 0 < jN (jG0 sc) := Nat.lt_of_succ_lt t_lt1
  refine j_aload_n (i := 0) rfl dX1_add_19 ?_
  refine j_getR (idx := 9) (ci := 1) (k := 0) (nest := false) (show (1, 9, 1, 0, false) ∈ jFT by decide) rfl (t_lt0) t_K0 (a := (t + 1)) t_R0_0 dX1_add_20 ?_
  refine j_aload_n (i := 0) rfl dX1_add_23 ?_
  refine j_getI (idx := 15) (ci := 1) (k := 1) (nest := false) (show (1, 15, 1, 1, false) ∈ jFT by decide) rfl (t_lt0) t_K0 dX1_add_24 ?_
  refine j_iload_n (i := 1) rfl dX1_add_27 ?_
  refine j_iast (t_lt1) t_K1 (by rw [show jL (jG0 sc) (t + 1) = 400 from t_L1]; exact o1) dX1_add_28 ?_
  refine j_aload_n (i := 0) rfl dX1_add_29 ?_
  refine j_dup rfl dX1_add_30 ?_
  refine j_getI (idx := 15) (ci := 1) (k := 1) (nest := false) (show (1, 15, 1, 1, false) ∈ jFT by decide) rfl (t_lt0) t_K0 dX1_add_31 ?_
  refine j_iconst (n := 1) 1 (by decide) dX1_add_34 ?_
  refine j_iadd dX1_add_35 ?_
  refine j_putI (idx := 15) (ci := 1) (k := 1) (nest := false) (show (1, 15, 1, 1, false) ∈ jFT by decide) rfl rfl rfl rfl (t_lt0) t_K0 dX1_add_36 ?_
  exact j_le [some (.ref t), some (.int l1)] (And.intro rfl (And.intro rfl True.intro)) v1
set_option maxRecDepth 100000 in
theorem bX1_add_39 {sc : Nat × (Nat → Int32)} {h : jH} {Q : jQ} {t : Nat} {l1 : Int32} (t_h : jI1 t)
    (v1 : Q (.inl none) (jG0 sc) h) :
    WP mX1_add Q 39 [some (.ref t), some (.int l1)] [] (jG0 sc) h (0, 0) := by
  obtain ⟨t_lt1, t_K0, t_R0_0, t_K1, t_L1⟩ := t_h
  have t_lt0 : t + 0 < jN (jG0 sc) := Nat.lt_of_succ_lt t_lt1
  exact j_vret rfl (Nat.zero_le _) (Nat.zero_le _) dX1_add_39 v1
set_option maxRecDepth 100000 in
theorem rX1_add_0 {sc : Nat × (Nat → Int32)} {h : jH} {Q : jQ} {t : Nat} {l1 : Int32} (t_h : jI1 t)
    (v1 : (h t 1) < 0 → Q (.inl none) (jG0 sc) h)
    (v2 : ¬ (h t 1) < 0 → 400 ≤ (h t 1) → Q (.inl none) (jG0 sc) h)
    (o1 : ¬ (h t 1) < 0 → ¬ 400 ≤ (h t 1) → vp_in (h t 1) 400)
    (v3 : ¬ (h t 1) < 0 → ¬ 400 ≤ (h t 1) → Q (.inl none) (jG0 sc) (jput (jput h (t + 1) ((h t 1).toNatClampNeg) l1) t 1 (((jput h (t + 1) ((h t 1).toNatClampNeg) l1) t 1) + 1))) :
    WP mX1_add Q 0 [some (.ref t), some (.int l1)] [] (jG0 sc) h (0, 0) := by
  exact (bX1_add_0 t_h (fun c1 => (bX1_add_39 t_h (v1 c1))) (fun c1 => (bX1_add_7 t_h (fun c2 => (bX1_add_39 t_h (v2 c1 c2))) (fun c2 => (bX1_add_19 t_h (o1 c1 c2) (bX1_add_39 t_h (v3 c1 c2)))))))
theorem dX1_comparison_0 : decode (mC mX1_comparison) 0 = .ok (.iload_n 0, 1) := by decide +kernel
theorem dX1_comparison_1 : decode (mC mX1_comparison) 1 = .ok (.iload_n 2, 1) := by decide +kernel
theorem dX1_comparison_2 : decode (mC mX1_comparison) 2 = .ok (.bipush 14, 2) := by decide +kernel
theorem dX1_comparison_4 : decode (mC mX1_comparison) 4 = .ok (.ishl, 1) := by decide +kernel
theorem dX1_comparison_5 : decode (mC mX1_comparison) 5 = .ok (.ior, 1) := by decide +kernel
theorem dX1_comparison_6 : decode (mC mX1_comparison) 6 = .ok (.iload_n 1, 1) := by decide +kernel
theorem dX1_comparison_7 : decode (mC mX1_comparison) 7 = .ok (.bipush 6, 2) := by decide +kernel
theorem dX1_comparison_9 : decode (mC mX1_comparison) 9 = .ok (.isub, 1) := by decide +kernel
theorem dX1_comparison_10 : decode (mC mX1_comparison) 10 = .ok (.bipush 28, 2) := by decide +kernel
theorem dX1_comparison_12 : decode (mC mX1_comparison) 12 = .ok (.ishl, 1) := by decide +kernel
theorem dX1_comparison_13 : decode (mC mX1_comparison) 13 = .ok (.ior, 1) := by decide +kernel
theorem dX1_comparison_14 : decode (mC mX1_comparison) 14 = .ok (.ireturn, 1) := by decide +kernel
set_option maxRecDepth 100000 in
theorem bX1_comparison_0 {sc : Nat × (Nat → Int32)} {h : jH} {Q : jQ} {l0 l1 l2 : Int32}
    (v1 : Q (.inl (some (.int ((l0 ||| (l2 <<< 14)) ||| ((l1 - 6) <<< 28))))) (jG0 sc) h) :
    WP mX1_comparison Q 0 [some (.int l0), some (.int l1), some (.int l2)] [] (jG0 sc) h (0, 0) := by
  refine j_iload_n (i := 0) rfl dX1_comparison_0 ?_
  refine j_iload_n (i := 2) rfl dX1_comparison_1 ?_
  refine j_bipush (n := 14) 14 (by decide) dX1_comparison_2 ?_
  refine j_ishl dX1_comparison_4 ?_
  refine j_eqst [.int (l2 <<< 14), .int l0] (by rfl) ?_
  refine j_ior dX1_comparison_5 ?_
  refine j_iload_n (i := 1) rfl dX1_comparison_6 ?_
  refine j_bipush (n := 6) 6 (by decide) dX1_comparison_7 ?_
  refine j_isub dX1_comparison_9 ?_
  refine j_bipush (n := 28) 28 (by decide) dX1_comparison_10 ?_
  refine j_ishl dX1_comparison_12 ?_
  refine j_eqst [.int ((l1 - 6) <<< 28), .int (l0 ||| (l2 <<< 14))] (by rfl) ?_
  refine j_ior dX1_comparison_13 ?_
  exact j_iret rfl rfl (Nat.zero_le _) (Nat.zero_le _) dX1_comparison_14 v1
set_option maxRecDepth 100000 in
theorem rX1_comparison_0 {sc : Nat × (Nat → Int32)} {h : jH} {Q : jQ} {l0 l1 l2 : Int32}
    (v1 : Q (.inl (some (.int ((l0 ||| (l2 <<< 14)) ||| ((l1 - 6) <<< 28))))) (jG0 sc) h) :
    WP mX1_comparison Q 0 [some (.int l0), some (.int l1), some (.int l2)] [] (jG0 sc) h (0, 0) := by
  exact (bX1_comparison_0 v1)
theorem dX1_holds_0 : decode (mC mX1_holds) 0 = .ok (.iconst 0, 1) := by decide +kernel
theorem dX1_holds_1 : decode (mC mX1_holds) 1 = .ok (.istore 4, 2) := by decide +kernel
theorem dX1_holds_3 : decode (mC mX1_holds) 3 = .ok (.iconst 0, 1) := by decide +kernel
theorem dX1_holds_4 : decode (mC mX1_holds) 4 = .ok (.istore 5, 2) := by decide +kernel
theorem dX1_holds_6 : decode (mC mX1_holds) 6 = .ok (.iload 5, 2) := by decide +kernel
theorem dX1_holds_8 : decode (mC mX1_holds) 8 = .ok (.aload_n 0, 1) := by decide +kernel
theorem dX1_holds_9 : decode (mC mX1_holds) 9 = .ok (.getfield 15, 3) := by decide +kernel
theorem dX1_holds_12 : decode (mC mX1_holds) 12 = .ok (.if_icmp .ge 112, 3) := by decide +kernel
theorem dX1_holds_15 : decode (mC mX1_holds) 15 = .ok (.iload 5, 2) := by decide +kernel
theorem dX1_holds_17 : decode (mC mX1_holds) 17 = .ok (.aload_n 0, 1) := by decide +kernel
theorem dX1_holds_18 : decode (mC mX1_holds) 18 = .ok (.getfield 9, 3) := by decide +kernel
theorem dX1_holds_21 : decode (mC mX1_holds) 21 = .ok (.arraylength, 1) := by decide +kernel
theorem dX1_holds_22 : decode (mC mX1_holds) 22 = .ok (.if_icmp .ge 102, 3) := by decide +kernel
theorem dX1_holds_25 : decode (mC mX1_holds) 25 = .ok (.aload_n 0, 1) := by decide +kernel
theorem dX1_holds_26 : decode (mC mX1_holds) 26 = .ok (.getfield 9, 3) := by decide +kernel
theorem dX1_holds_29 : decode (mC mX1_holds) 29 = .ok (.iload 5, 2) := by decide +kernel
theorem dX1_holds_31 : decode (mC mX1_holds) 31 = .ok (.iaload, 1) := by decide +kernel
theorem dX1_holds_32 : decode (mC mX1_holds) 32 = .ok (.istore 6, 2) := by decide +kernel
theorem dX1_holds_34 : decode (mC mX1_holds) 34 = .ok (.iload 6, 2) := by decide +kernel
theorem dX1_holds_36 : decode (mC mX1_holds) 36 = .ok (.ifCond .lt 29, 3) := by decide +kernel
theorem dX1_holds_39 : decode (mC mX1_holds) 39 = .ok (.iload 4, 2) := by decide +kernel
theorem dX1_holds_41 : decode (mC mX1_holds) 41 = .ok (.iconst 1, 1) := by decide +kernel
theorem dX1_holds_42 : decode (mC mX1_holds) 42 = .ok (.ishl, 1) := by decide +kernel
theorem dX1_holds_43 : decode (mC mX1_holds) 43 = .ok (.iload 6, 2) := by decide +kernel
theorem dX1_holds_45 : decode (mC mX1_holds) 45 = .ok (.iload_n 1, 1) := by decide +kernel
theorem dX1_holds_46 : decode (mC mX1_holds) 46 = .ok (.iload_n 2, 1) := by decide +kernel
theorem dX1_holds_47 : decode (mC mX1_holds) 47 = .ok (.iload_n 3, 1) := by decide +kernel
theorem dX1_holds_48 : decode (mC mX1_holds) 48 = .ok (.invokestatic 19, 3) := by decide +kernel
theorem dX1_holds_51 : decode (mC mX1_holds) 51 = .ok (.ifCond .eq 7, 3) := by decide +kernel
theorem dX1_holds_54 : decode (mC mX1_holds) 54 = .ok (.iconst 1, 1) := by decide +kernel
theorem dX1_holds_55 : decode (mC mX1_holds) 55 = .ok (.goto 4, 3) := by decide +kernel
theorem dX1_holds_58 : decode (mC mX1_holds) 58 = .ok (.iconst 0, 1) := by decide +kernel
theorem dX1_holds_59 : decode (mC mX1_holds) 59 = .ok (.ior, 1) := by decide +kernel
theorem dX1_holds_60 : decode (mC mX1_holds) 60 = .ok (.istore 4, 2) := by decide +kernel
theorem dX1_holds_62 : decode (mC mX1_holds) 62 = .ok (.goto 56, 3) := by decide +kernel
theorem dX1_holds_65 : decode (mC mX1_holds) 65 = .ok (.iload 6, 2) := by decide +kernel
theorem dX1_holds_67 : decode (mC mX1_holds) 67 = .ok (.bipush (-3), 2) := by decide +kernel
theorem dX1_holds_69 : decode (mC mX1_holds) 69 = .ok (.if_icmp .ne 12, 3) := by decide +kernel
theorem dX1_holds_72 : decode (mC mX1_holds) 72 = .ok (.iload 4, 2) := by decide +kernel
theorem dX1_holds_74 : decode (mC mX1_holds) 74 = .ok (.iconst 1, 1) := by decide +kernel
theorem dX1_holds_75 : decode (mC mX1_holds) 75 = .ok (.ixor, 1) := by decide +kernel
theorem dX1_holds_76 : decode (mC mX1_holds) 76 = .ok (.istore 4, 2) := by decide +kernel
theorem dX1_holds_78 : decode (mC mX1_holds) 78 = .ok (.goto 40, 3) := by decide +kernel
theorem dX1_holds_81 : decode (mC mX1_holds) 81 = .ok (.iload 4, 2) := by decide +kernel
theorem dX1_holds_83 : decode (mC mX1_holds) 83 = .ok (.iconst 1, 1) := by decide +kernel
theorem dX1_holds_84 : decode (mC mX1_holds) 84 = .ok (.iand, 1) := by decide +kernel
theorem dX1_holds_85 : decode (mC mX1_holds) 85 = .ok (.istore 7, 2) := by decide +kernel
theorem dX1_holds_87 : decode (mC mX1_holds) 87 = .ok (.iload 4, 2) := by decide +kernel
theorem dX1_holds_89 : decode (mC mX1_holds) 89 = .ok (.iconst 1, 1) := by decide +kernel
theorem dX1_holds_90 : decode (mC mX1_holds) 90 = .ok (.iushr, 1) := by decide +kernel
theorem dX1_holds_91 : decode (mC mX1_holds) 91 = .ok (.istore 4, 2) := by decide +kernel
theorem dX1_holds_93 : decode (mC mX1_holds) 93 = .ok (.iload 6, 2) := by decide +kernel
theorem dX1_holds_95 : decode (mC mX1_holds) 95 = .ok (.bipush (-2), 2) := by decide +kernel
theorem dX1_holds_97 : decode (mC mX1_holds) 97 = .ok (.if_icmp .ne 11, 3) := by decide +kernel
theorem dX1_holds_100 : decode (mC mX1_holds) 100 = .ok (.iload 4, 2) := by decide +kernel
theorem dX1_holds_102 : decode (mC mX1_holds) 102 = .ok (.iload 7, 2) := by decide +kernel
theorem dX1_holds_104 : decode (mC mX1_holds) 104 = .ok (.ior, 1) := by decide +kernel
theorem dX1_holds_105 : decode (mC mX1_holds) 105 = .ok (.goto 11, 3) := by decide +kernel
theorem dX1_holds_108 : decode (mC mX1_holds) 108 = .ok (.iload 4, 2) := by decide +kernel
theorem dX1_holds_110 : decode (mC mX1_holds) 110 = .ok (.iload 7, 2) := by decide +kernel
theorem dX1_holds_112 : decode (mC mX1_holds) 112 = .ok (.bipush (-2), 2) := by decide +kernel
theorem dX1_holds_114 : decode (mC mX1_holds) 114 = .ok (.ior, 1) := by decide +kernel
theorem dX1_holds_115 : decode (mC mX1_holds) 115 = .ok (.iand, 1) := by decide +kernel
theorem dX1_holds_116 : decode (mC mX1_holds) 116 = .ok (.istore 4, 2) := by decide +kernel
theorem dX1_holds_118 : decode (mC mX1_holds) 118 = .ok (.iinc 5 1, 3) := by decide +kernel
theorem dX1_holds_121 : decode (mC mX1_holds) 121 = .ok (.goto (-115), 3) := by decide +kernel
theorem dX1_holds_124 : decode (mC mX1_holds) 124 = .ok (.iload 4, 2) := by decide +kernel
theorem dX1_holds_126 : decode (mC mX1_holds) 126 = .ok (.iconst 1, 1) := by decide +kernel
theorem dX1_holds_127 : decode (mC mX1_holds) 127 = .ok (.iand, 1) := by decide +kernel
theorem dX1_holds_128 : decode (mC mX1_holds) 128 = .ok (.iconst 1, 1) := by decide +kernel
theorem dX1_holds_129 : decode (mC mX1_holds) 129 = .ok (.if_icmp .ne 7, 3) := by decide +kernel
theorem dX1_holds_132 : decode (mC mX1_holds) 132 = .ok (.iconst 1, 1) := by decide +kernel
theorem dX1_holds_133 : decode (mC mX1_holds) 133 = .ok (.goto 4, 3) := by decide +kernel
theorem dX1_holds_136 : decode (mC mX1_holds) 136 = .ok (.iconst 0, 1) := by decide +kernel
theorem dX1_holds_137 : decode (mC mX1_holds) 137 = .ok (.ireturn, 1) := by decide +kernel
set_option maxRecDepth 100000 in
theorem bX1_holds_0 {sc : Nat × (Nat → Int32)} {h : jH} {Q : jQ} {t : Nat} {l1 l2 l3 : Int32} (t_h : jI1 t)
    (v1 : WP mX1_holds Q 6 [some (.ref t), some (.int l1), some (.int l2), some (.int l3), some (.int 0), some (.int 0), none, none] [] (jG0 sc) h (0, 0)) :
    WP mX1_holds Q 0 [some (.ref t), some (.int l1), some (.int l2), some (.int l3), none, none, none, none] [] (jG0 sc) h (0, 0) := by
  obtain ⟨t_lt1, t_K0, t_R0_0, t_K1, t_L1⟩ := t_h
  have t_lt0 : t + 0 < jN (jG0 sc) := Nat.lt_of_succ_lt t_lt1
  refine j_iconst (n := 0) 0 (by decide) dX1_holds_0 ?_
  refine j_istore (i := 4) dX1_holds_1 (Nat.le_of_ble_eq_true rfl) ?_
  refine j_iconst (n := 0) 0 (by decide) dX1_holds_3 ?_
  refine j_istore (i := 5) dX1_holds_4 (Nat.le_of_ble_eq_true rfl) ?_
  exact j_le [some (.ref t), some (.int l1), some (.int l2), some (.int l3), some (.int 0), some (.int 0), none, none] (And.intro rfl (And.intro rfl (And.intro rfl (And.intro rfl (And.intro rfl (And.intro rfl True.intro)))))) v1
set_option maxRecDepth 100000 in
theorem bX1_holds_6 {sc : Nat × (Nat → Int32)} {h : jH} {Q : jQ} {t : Nat} {l1 l2 l3 l4 l5 : Int32} (t_h : jI1 t)
    (v1 : (h t 1) ≤ l5 → WP mX1_holds Q 124 [some (.ref t), some (.int l1), some (.int l2), some (.int l3), some (.int l4), some (.int l5), none, none] [] (jG0 sc) h (0, 0))
    (v2 : ¬ (h t 1) ≤ l5 → WP mX1_holds Q 15 [some (.ref t), some (.int l1), some (.int l2), some (.int l3), some (.int l4), some (.int l5), none, none] [] (jG0 sc) h (0, 0)) :
    WP mX1_holds Q 6 [some (.ref t), some (.int l1), some (.int l2), some (.int l3), some (.int l4), some (.int l5), none, none] [] (jG0 sc) h (0, 0) := by
  obtain ⟨t_lt1, t_K0, t_R0_0, t_K1, t_L1⟩ := t_h
  have t_lt0 : t + 0 < jN (jG0 sc) := Nat.lt_of_succ_lt t_lt1
  refine j_iload (i := 5) rfl dX1_holds_6 ?_
  refine j_aload_n (i := 0) rfl dX1_holds_8 ?_
  refine j_getI (idx := 15) (ci := 1) (k := 1) (nest := false) (show (1, 15, 1, 1, false) ∈ jFT by decide) rfl (t_lt0) t_K0 dX1_holds_9 ?_
  refine j_icmp_ge (off := 112) 124 dX1_holds_12 (by decide) (fun c1 => ?_) (fun c1 => ?_)
  · exact j_le [some (.ref t), some (.int l1), some (.int l2), some (.int l3), some (.int l4), some (.int l5), none, none] (And.intro rfl (And.intro rfl (And.intro rfl (And.intro rfl (And.intro rfl (And.intro rfl True.intro)))))) (v1 c1)
  · exact j_le [some (.ref t), some (.int l1), some (.int l2), some (.int l3), some (.int l4), some (.int l5), none, none] (And.intro rfl (And.intro rfl (And.intro rfl (And.intro rfl (And.intro rfl (And.intro rfl True.intro)))))) (v2 c1)
set_option maxRecDepth 100000 in
theorem bX1_holds_15 {sc : Nat × (Nat → Int32)} {h : jH} {Q : jQ} {t : Nat} {l1 l2 l3 l4 l5 : Int32} (t_h : jI1 t)
    (v1 : 400 ≤ l5 → WP mX1_holds Q 124 [some (.ref t), some (.int l1), some (.int l2), some (.int l3), some (.int l4), some (.int l5), none, none] [] (jG0 sc) h (0, 0))
    (v2 : ¬ 400 ≤ l5 → WP mX1_holds Q 25 [some (.ref t), some (.int l1), some (.int l2), some (.int l3), some (.int l4), some (.int l5), none, none] [] (jG0 sc) h (0, 0)) :
    WP mX1_holds Q 15 [some (.ref t), some (.int l1), some (.int l2), some (.int l3), some (.int l4), some (.int l5), none, none] [] (jG0 sc) h (0, 0) := by
  obtain ⟨t_lt1, t_K0, t_R0_0, t_K1, t_L1⟩ := t_h
  have t_lt0 : t + 0 < jN (jG0 sc) := Nat.lt_of_succ_lt t_lt1
  refine j_iload (i := 5) rfl dX1_holds_15 ?_
  refine j_aload_n (i := 0) rfl dX1_holds_17 ?_
  refine j_getR (idx := 9) (ci := 1) (k := 0) (nest := false) (show (1, 9, 1, 0, false) ∈ jFT by decide) rfl (t_lt0) t_K0 (a := (t + 1)) t_R0_0 dX1_holds_18 ?_
  refine j_alen (t_lt1) t_K1 rfl 400 (by rw [show jL (jG0 sc) (t + 1) = 400 from t_L1]; rfl) dX1_holds_21 ?_
  refine j_icmp_ge (off := 102) 124 dX1_holds_22 (by decide) (fun c1 => ?_) (fun c1 => ?_)
  · exact j_le [some (.ref t), some (.int l1), some (.int l2), some (.int l3), some (.int l4), some (.int l5), none, none] (And.intro rfl (And.intro rfl (And.intro rfl (And.intro rfl (And.intro rfl (And.intro rfl True.intro)))))) (v1 c1)
  · exact j_le [some (.ref t), some (.int l1), some (.int l2), some (.int l3), some (.int l4), some (.int l5), none, none] (And.intro rfl (And.intro rfl (And.intro rfl (And.intro rfl (And.intro rfl (And.intro rfl True.intro)))))) (v2 c1)
set_option maxRecDepth 100000 in
theorem bX1_holds_25 {sc : Nat × (Nat → Int32)} {h : jH} {Q : jQ} {t : Nat} {l1 l2 l3 l4 l5 : Int32} (t_h : jI1 t)
    (o1 : vp_in l5 400)
    (v1 : (h (t + 1) l5.toNatClampNeg) < 0 → WP mX1_holds Q 65 [some (.ref t), some (.int l1), some (.int l2), some (.int l3), some (.int l4), some (.int l5), some (.int (h (t + 1) l5.toNatClampNeg)), none] [] (jG0 sc) h (0, 0))
    (v2 : ¬ (h (t + 1) l5.toNatClampNeg) < 0 → WP mX1_holds Q 39 [some (.ref t), some (.int l1), some (.int l2), some (.int l3), some (.int l4), some (.int l5), some (.int (h (t + 1) l5.toNatClampNeg)), none] [] (jG0 sc) h (0, 0)) :
    WP mX1_holds Q 25 [some (.ref t), some (.int l1), some (.int l2), some (.int l3), some (.int l4), some (.int l5), none, none] [] (jG0 sc) h (0, 0) := by
  obtain ⟨t_lt1, t_K0, t_R0_0, t_K1, t_L1⟩ := t_h
  have t_lt0 : t + 0 < jN (jG0 sc) := Nat.lt_of_succ_lt t_lt1
  refine j_aload_n (i := 0) rfl dX1_holds_25 ?_
  refine j_getR (idx := 9) (ci := 1) (k := 0) (nest := false) (show (1, 9, 1, 0, false) ∈ jFT by decide) rfl (t_lt0) t_K0 (a := (t + 1)) t_R0_0 dX1_holds_26 ?_
  refine j_iload (i := 5) rfl dX1_holds_29 ?_
  refine j_iald (t_lt1) t_K1 (by rw [show jL (jG0 sc) (t + 1) = 400 from t_L1]; exact o1) dX1_holds_31 ?_
  refine j_istore (i := 6) dX1_holds_32 (Nat.le_of_ble_eq_true rfl) ?_
  refine j_iload (i := 6) rfl dX1_holds_34 ?_
  refine j_if_lt (off := 29) 65 dX1_holds_36 (by decide) (fun c1 => ?_) (fun c1 => ?_)
  · exact j_le [some (.ref t), some (.int l1), some (.int l2), some (.int l3), some (.int l4), some (.int l5), some (.int (h (t + 1) l5.toNatClampNeg)), none] (And.intro rfl (And.intro rfl (And.intro rfl (And.intro rfl (And.intro rfl (And.intro rfl (And.intro rfl True.intro))))))) (v1 c1)
  · exact j_le [some (.ref t), some (.int l1), some (.int l2), some (.int l3), some (.int l4), some (.int l5), some (.int (h (t + 1) l5.toNatClampNeg)), none] (And.intro rfl (And.intro rfl (And.intro rfl (And.intro rfl (And.intro rfl (And.intro rfl (And.intro rfl True.intro))))))) (v2 c1)
set_option maxRecDepth 100000 in
theorem bX1_holds_39 {sc : Nat × (Nat → Int32)} {h : jH} {Q : jQ} {t : Nat} {l1 l2 l3 l4 l5 l6 : Int32} {P1 : Int32 → jH → Prop} (t_h : jI1 t)
    (k1 : JM mX1_compares [.int l6, .int l1, .int l2, .int l3] (jG0 sc) h (jint sc P1))
    (v1 : ∀ (x1 : Int32) (h1 : jH), P1 x1 h1 → x1 = 0 → WP mX1_holds Q 58 [some (.ref t), some (.int l1), some (.int l2), some (.int l3), some (.int l4), some (.int l5), some (.int l6), none] [.int (l4 <<< 1)] (jG0 sc) h1 (0, 0))
    (v2 : ∀ (x1 : Int32) (h1 : jH), P1 x1 h1 → ¬ x1 = 0 → WP mX1_holds Q 54 [some (.ref t), some (.int l1), some (.int l2), some (.int l3), some (.int l4), some (.int l5), some (.int l6), none] [.int (l4 <<< 1)] (jG0 sc) h1 (0, 0)) :
    WP mX1_holds Q 39 [some (.ref t), some (.int l1), some (.int l2), some (.int l3), some (.int l4), some (.int l5), some (.int l6), none] [] (jG0 sc) h (0, 0) := by
  obtain ⟨t_lt1, t_K0, t_R0_0, t_K1, t_L1⟩ := t_h
  have t_lt0 : t + 0 < jN (jG0 sc) := Nat.lt_of_succ_lt t_lt1
  refine j_iload (i := 4) rfl dX1_holds_39 ?_
  refine j_iconst (n := 1) 1 (by decide) dX1_holds_41 ?_
  refine j_ishl dX1_holds_42 ?_
  refine j_eqst [.int (l4 <<< 1)] (by rfl) ?_
  refine j_iload (i := 6) rfl dX1_holds_43 ?_
  refine j_iload_n (i := 1) rfl dX1_holds_45 ?_
  refine j_iload_n (i := 2) rfl dX1_holds_46 ?_
  refine j_iload_n (i := 3) rfl dX1_holds_47 ?_
  refine j_callS (idx := 19) (As := [.int l6, .int l1, .int l2, .int l3]) (n := 4) k1 jint_nt (jlkT (jtb5 209 rfl) rfl) sX1_compares kX1_compares rfl ⟨by decide +kernel, by decide +kernel, by decide +kernel⟩ rfl ⟨by decide, by decide⟩ (Nat.le_of_ble_eq_true rfl) ⟨Nat.zero_le _, Nat.zero_le _⟩ dX1_holds_48 (fun r Γ' h1 q => ?_)
  obtain ⟨x1, q0, rfl, p1⟩ := q; cases q0
  refine j_eqst [.int x1, .int (l4 <<< 1)] (by rfl) ?_
  refine j_if_eq (off := 7) 58 dX1_holds_51 (by decide) (fun c1 => ?_) (fun c1 => ?_)
  · exact j_le [some (.ref t), some (.int l1), some (.int l2), some (.int l3), some (.int l4), some (.int l5), some (.int l6), none] (And.intro rfl (And.intro rfl (And.intro rfl (And.intro rfl (And.intro rfl (And.intro rfl (And.intro rfl True.intro))))))) (v1 x1 h1 p1 c1)
  · exact j_le [some (.ref t), some (.int l1), some (.int l2), some (.int l3), some (.int l4), some (.int l5), some (.int l6), none] (And.intro rfl (And.intro rfl (And.intro rfl (And.intro rfl (And.intro rfl (And.intro rfl (And.intro rfl True.intro))))))) (v2 x1 h1 p1 c1)
set_option maxRecDepth 100000 in
theorem bX1_holds_54 {sc : Nat × (Nat → Int32)} {h : jH} {Q : jQ} {t : Nat} {l1 l2 l3 l4 l5 l6 s0 : Int32} (t_h : jI1 t)
    (v1 : WP mX1_holds Q 59 [some (.ref t), some (.int l1), some (.int l2), some (.int l3), some (.int l4), some (.int l5), some (.int l6), none] [.int 1, .int s0] (jG0 sc) h (0, 0)) :
    WP mX1_holds Q 54 [some (.ref t), some (.int l1), some (.int l2), some (.int l3), some (.int l4), some (.int l5), some (.int l6), none] [.int s0] (jG0 sc) h (0, 0) := by
  obtain ⟨t_lt1, t_K0, t_R0_0, t_K1, t_L1⟩ := t_h
  have t_lt0 : t + 0 < jN (jG0 sc) := Nat.lt_of_succ_lt t_lt1
  refine j_iconst (n := 1) 1 (by decide) dX1_holds_54 ?_
  refine j_goto (off := 4) 59 dX1_holds_55 (by decide) ?_
  exact j_le [some (.ref t), some (.int l1), some (.int l2), some (.int l3), some (.int l4), some (.int l5), some (.int l6), none] (And.intro rfl (And.intro rfl (And.intro rfl (And.intro rfl (And.intro rfl (And.intro rfl (And.intro rfl True.intro))))))) v1
set_option maxRecDepth 100000 in
theorem bX1_holds_58 {sc : Nat × (Nat → Int32)} {h : jH} {Q : jQ} {t : Nat} {l1 l2 l3 l4 l5 l6 s0 : Int32} (t_h : jI1 t)
    (v1 : WP mX1_holds Q 59 [some (.ref t), some (.int l1), some (.int l2), some (.int l3), some (.int l4), some (.int l5), some (.int l6), none] [.int 0, .int s0] (jG0 sc) h (0, 0)) :
    WP mX1_holds Q 58 [some (.ref t), some (.int l1), some (.int l2), some (.int l3), some (.int l4), some (.int l5), some (.int l6), none] [.int s0] (jG0 sc) h (0, 0) := by
  obtain ⟨t_lt1, t_K0, t_R0_0, t_K1, t_L1⟩ := t_h
  have t_lt0 : t + 0 < jN (jG0 sc) := Nat.lt_of_succ_lt t_lt1
  refine j_iconst (n := 0) 0 (by decide) dX1_holds_58 ?_
  exact j_le [some (.ref t), some (.int l1), some (.int l2), some (.int l3), some (.int l4), some (.int l5), some (.int l6), none] (And.intro rfl (And.intro rfl (And.intro rfl (And.intro rfl (And.intro rfl (And.intro rfl (And.intro rfl True.intro))))))) v1
set_option maxRecDepth 100000 in
theorem bX1_holds_59 {sc : Nat × (Nat → Int32)} {h : jH} {Q : jQ} {t : Nat} {l1 l2 l3 l4 l5 l6 s0 s1 : Int32} (t_h : jI1 t)
    (v1 : WP mX1_holds Q 118 [some (.ref t), some (.int l1), some (.int l2), some (.int l3), some (.int (s1 ||| s0)), some (.int l5), some (.int l6), none] [] (jG0 sc) h (0, 0)) :
    WP mX1_holds Q 59 [some (.ref t), some (.int l1), some (.int l2), some (.int l3), some (.int l4), some (.int l5), some (.int l6), none] [.int s0, .int s1] (jG0 sc) h (0, 0) := by
  obtain ⟨t_lt1, t_K0, t_R0_0, t_K1, t_L1⟩ := t_h
  have t_lt0 : t + 0 < jN (jG0 sc) := Nat.lt_of_succ_lt t_lt1
  refine j_ior dX1_holds_59 ?_
  refine j_istore (i := 4) dX1_holds_60 (Nat.le_of_ble_eq_true rfl) ?_
  refine j_goto (off := 56) 118 dX1_holds_62 (by decide) ?_
  exact j_le [some (.ref t), some (.int l1), some (.int l2), some (.int l3), some (.int (s1 ||| s0)), some (.int l5), some (.int l6), none] (And.intro rfl (And.intro rfl (And.intro rfl (And.intro rfl (And.intro rfl (And.intro rfl (And.intro rfl True.intro))))))) v1
set_option maxRecDepth 100000 in
theorem bX1_holds_65 {sc : Nat × (Nat → Int32)} {h : jH} {Q : jQ} {t : Nat} {l1 l2 l3 l4 l5 l6 : Int32} (t_h : jI1 t)
    (v1 : ¬ l6 = (-3) → WP mX1_holds Q 81 [some (.ref t), some (.int l1), some (.int l2), some (.int l3), some (.int l4), some (.int l5), some (.int l6), none] [] (jG0 sc) h (0, 0))
    (v2 : l6 = (-3) → WP mX1_holds Q 72 [some (.ref t), some (.int l1), some (.int l2), some (.int l3), some (.int l4), some (.int l5), some (.int l6), none] [] (jG0 sc) h (0, 0)) :
    WP mX1_holds Q 65 [some (.ref t), some (.int l1), some (.int l2), some (.int l3), some (.int l4), some (.int l5), some (.int l6), none] [] (jG0 sc) h (0, 0) := by
  obtain ⟨t_lt1, t_K0, t_R0_0, t_K1, t_L1⟩ := t_h
  have t_lt0 : t + 0 < jN (jG0 sc) := Nat.lt_of_succ_lt t_lt1
  refine j_iload (i := 6) rfl dX1_holds_65 ?_
  refine j_bipush (n := (-3)) (-3) (by decide) dX1_holds_67 ?_
  refine j_icmp_ne (off := 12) 81 dX1_holds_69 (by decide) (fun c1 => ?_) (fun c1 => ?_)
  · exact j_le [some (.ref t), some (.int l1), some (.int l2), some (.int l3), some (.int l4), some (.int l5), some (.int l6), none] (And.intro rfl (And.intro rfl (And.intro rfl (And.intro rfl (And.intro rfl (And.intro rfl (And.intro rfl True.intro))))))) (v1 c1)
  · exact j_le [some (.ref t), some (.int l1), some (.int l2), some (.int l3), some (.int l4), some (.int l5), some (.int l6), none] (And.intro rfl (And.intro rfl (And.intro rfl (And.intro rfl (And.intro rfl (And.intro rfl (And.intro rfl True.intro))))))) (v2 c1)
set_option maxRecDepth 100000 in
theorem bX1_holds_72 {sc : Nat × (Nat → Int32)} {h : jH} {Q : jQ} {t : Nat} {l1 l2 l3 l4 l5 l6 : Int32} (t_h : jI1 t)
    (v1 : WP mX1_holds Q 118 [some (.ref t), some (.int l1), some (.int l2), some (.int l3), some (.int (l4 ^^^ 1)), some (.int l5), some (.int l6), none] [] (jG0 sc) h (0, 0)) :
    WP mX1_holds Q 72 [some (.ref t), some (.int l1), some (.int l2), some (.int l3), some (.int l4), some (.int l5), some (.int l6), none] [] (jG0 sc) h (0, 0) := by
  obtain ⟨t_lt1, t_K0, t_R0_0, t_K1, t_L1⟩ := t_h
  have t_lt0 : t + 0 < jN (jG0 sc) := Nat.lt_of_succ_lt t_lt1
  refine j_iload (i := 4) rfl dX1_holds_72 ?_
  refine j_iconst (n := 1) 1 (by decide) dX1_holds_74 ?_
  refine j_ixor dX1_holds_75 ?_
  refine j_istore (i := 4) dX1_holds_76 (Nat.le_of_ble_eq_true rfl) ?_
  refine j_goto (off := 40) 118 dX1_holds_78 (by decide) ?_
  exact j_le [some (.ref t), some (.int l1), some (.int l2), some (.int l3), some (.int (l4 ^^^ 1)), some (.int l5), some (.int l6), none] (And.intro rfl (And.intro rfl (And.intro rfl (And.intro rfl (And.intro rfl (And.intro rfl (And.intro rfl True.intro))))))) v1
set_option maxRecDepth 100000 in
theorem bX1_holds_81 {sc : Nat × (Nat → Int32)} {h : jH} {Q : jQ} {t : Nat} {l1 l2 l3 l4 l5 l6 : Int32} (t_h : jI1 t)
    (v1 : ¬ l6 = (-2) → WP mX1_holds Q 108 [some (.ref t), some (.int l1), some (.int l2), some (.int l3), some (.int ((l4.toUInt32 >>> (((1 : Int32)).toUInt32 &&& Int32.toUInt32 31)).toInt32)), some (.int l5), some (.int l6), some (.int (l4 &&& 1))] [] (jG0 sc) h (0, 0))
    (v2 : l6 = (-2) → WP mX1_holds Q 100 [some (.ref t), some (.int l1), some (.int l2), some (.int l3), some (.int ((l4.toUInt32 >>> (((1 : Int32)).toUInt32 &&& Int32.toUInt32 31)).toInt32)), some (.int l5), some (.int l6), some (.int (l4 &&& 1))] [] (jG0 sc) h (0, 0)) :
    WP mX1_holds Q 81 [some (.ref t), some (.int l1), some (.int l2), some (.int l3), some (.int l4), some (.int l5), some (.int l6), none] [] (jG0 sc) h (0, 0) := by
  obtain ⟨t_lt1, t_K0, t_R0_0, t_K1, t_L1⟩ := t_h
  have t_lt0 : t + 0 < jN (jG0 sc) := Nat.lt_of_succ_lt t_lt1
  refine j_iload (i := 4) rfl dX1_holds_81 ?_
  refine j_iconst (n := 1) 1 (by decide) dX1_holds_83 ?_
  refine j_iand dX1_holds_84 ?_
  refine j_istore (i := 7) dX1_holds_85 (Nat.le_of_ble_eq_true rfl) ?_
  refine j_iload (i := 4) rfl dX1_holds_87 ?_
  refine j_iconst (n := 1) 1 (by decide) dX1_holds_89 ?_
  refine j_iushr dX1_holds_90 ?_
  refine j_istore (i := 4) dX1_holds_91 (Nat.le_of_ble_eq_true rfl) ?_
  refine j_iload (i := 6) rfl dX1_holds_93 ?_
  refine j_bipush (n := (-2)) (-2) (by decide) dX1_holds_95 ?_
  refine j_icmp_ne (off := 11) 108 dX1_holds_97 (by decide) (fun c1 => ?_) (fun c1 => ?_)
  · exact j_le [some (.ref t), some (.int l1), some (.int l2), some (.int l3), some (.int ((l4.toUInt32 >>> (((1 : Int32)).toUInt32 &&& Int32.toUInt32 31)).toInt32)), some (.int l5), some (.int l6), some (.int (l4 &&& 1))] (And.intro rfl (And.intro rfl (And.intro rfl (And.intro rfl (And.intro rfl (And.intro rfl (And.intro rfl (And.intro rfl True.intro)))))))) (v1 c1)
  · exact j_le [some (.ref t), some (.int l1), some (.int l2), some (.int l3), some (.int ((l4.toUInt32 >>> (((1 : Int32)).toUInt32 &&& Int32.toUInt32 31)).toInt32)), some (.int l5), some (.int l6), some (.int (l4 &&& 1))] (And.intro rfl (And.intro rfl (And.intro rfl (And.intro rfl (And.intro rfl (And.intro rfl (And.intro rfl (And.intro rfl True.intro)))))))) (v2 c1)
set_option maxRecDepth 100000 in
theorem bX1_holds_100 {sc : Nat × (Nat → Int32)} {h : jH} {Q : jQ} {t : Nat} {l1 l2 l3 l4 l5 l6 l7 : Int32} (t_h : jI1 t)
    (v1 : WP mX1_holds Q 116 [some (.ref t), some (.int l1), some (.int l2), some (.int l3), some (.int l4), some (.int l5), some (.int l6), some (.int l7)] [.int (l4 ||| l7)] (jG0 sc) h (0, 0)) :
    WP mX1_holds Q 100 [some (.ref t), some (.int l1), some (.int l2), some (.int l3), some (.int l4), some (.int l5), some (.int l6), some (.int l7)] [] (jG0 sc) h (0, 0) := by
  obtain ⟨t_lt1, t_K0, t_R0_0, t_K1, t_L1⟩ := t_h
  have t_lt0 : t + 0 < jN (jG0 sc) := Nat.lt_of_succ_lt t_lt1
  refine j_iload (i := 4) rfl dX1_holds_100 ?_
  refine j_iload (i := 7) rfl dX1_holds_102 ?_
  refine j_ior dX1_holds_104 ?_
  refine j_goto (off := 11) 116 dX1_holds_105 (by decide) ?_
  exact j_le [some (.ref t), some (.int l1), some (.int l2), some (.int l3), some (.int l4), some (.int l5), some (.int l6), some (.int l7)] (And.intro rfl (And.intro rfl (And.intro rfl (And.intro rfl (And.intro rfl (And.intro rfl (And.intro rfl (And.intro rfl True.intro)))))))) v1
set_option maxRecDepth 100000 in
theorem bX1_holds_108 {sc : Nat × (Nat → Int32)} {h : jH} {Q : jQ} {t : Nat} {l1 l2 l3 l4 l5 l6 l7 : Int32} (t_h : jI1 t)
    (v1 : WP mX1_holds Q 116 [some (.ref t), some (.int l1), some (.int l2), some (.int l3), some (.int l4), some (.int l5), some (.int l6), some (.int l7)] [.int (l4 &&& (l7 ||| ((-2) : Int32)))] (jG0 sc) h (0, 0)) :
    WP mX1_holds Q 108 [some (.ref t), some (.int l1), some (.int l2), some (.int l3), some (.int l4), some (.int l5), some (.int l6), some (.int l7)] [] (jG0 sc) h (0, 0) := by
  obtain ⟨t_lt1, t_K0, t_R0_0, t_K1, t_L1⟩ := t_h
  have t_lt0 : t + 0 < jN (jG0 sc) := Nat.lt_of_succ_lt t_lt1
  refine j_iload (i := 4) rfl dX1_holds_108 ?_
  refine j_iload (i := 7) rfl dX1_holds_110 ?_
  refine j_bipush (n := (-2)) (-2) (by decide) dX1_holds_112 ?_
  refine j_ior dX1_holds_114 ?_
  refine j_iand dX1_holds_115 ?_
  exact j_le [some (.ref t), some (.int l1), some (.int l2), some (.int l3), some (.int l4), some (.int l5), some (.int l6), some (.int l7)] (And.intro rfl (And.intro rfl (And.intro rfl (And.intro rfl (And.intro rfl (And.intro rfl (And.intro rfl (And.intro rfl True.intro)))))))) v1
set_option maxRecDepth 100000 in
theorem bX1_holds_116 {sc : Nat × (Nat → Int32)} {h : jH} {Q : jQ} {t : Nat} {l1 l2 l3 l4 l5 l6 l7 s0 : Int32} (t_h : jI1 t)
    (v1 : WP mX1_holds Q 118 [some (.ref t), some (.int l1), some (.int l2), some (.int l3), some (.int s0), some (.int l5), some (.int l6), none] [] (jG0 sc) h (0, 0)) :
    WP mX1_holds Q 116 [some (.ref t), some (.int l1), some (.int l2), some (.int l3), some (.int l4), some (.int l5), some (.int l6), some (.int l7)] [.int s0] (jG0 sc) h (0, 0) := by
  obtain ⟨t_lt1, t_K0, t_R0_0, t_K1, t_L1⟩ := t_h
  have t_lt0 : t + 0 < jN (jG0 sc) := Nat.lt_of_succ_lt t_lt1
  refine j_istore (i := 4) dX1_holds_116 (Nat.le_of_ble_eq_true rfl) ?_
  exact j_le [some (.ref t), some (.int l1), some (.int l2), some (.int l3), some (.int s0), some (.int l5), some (.int l6), none] (And.intro rfl (And.intro rfl (And.intro rfl (And.intro rfl (And.intro rfl (And.intro rfl (And.intro rfl True.intro))))))) v1
set_option maxRecDepth 100000 in
theorem bX1_holds_118 {sc : Nat × (Nat → Int32)} {h : jH} {Q : jQ} {t : Nat} {l1 l2 l3 l4 l5 l6 : Int32} (t_h : jI1 t)
    (v1 : WP mX1_holds Q 6 [some (.ref t), some (.int l1), some (.int l2), some (.int l3), some (.int l4), some (.int (l5 + 1)), none, none] [] (jG0 sc) h (0, 0)) :
    WP mX1_holds Q 118 [some (.ref t), some (.int l1), some (.int l2), some (.int l3), some (.int l4), some (.int l5), some (.int l6), none] [] (jG0 sc) h (0, 0) := by
  obtain ⟨t_lt1, t_K0, t_R0_0, t_K1, t_L1⟩ := t_h
  have t_lt0 : t + 0 < jN (jG0 sc) := Nat.lt_of_succ_lt t_lt1
  refine j_iinc (i := 5) (n := 1) rfl dX1_holds_118 (Nat.le_of_ble_eq_true rfl) ?_
  refine j_eqlv [some (.ref t), some (.int l1), some (.int l2), some (.int l3), some (.int l4), some (.int (l5 + 1)), some (.int l6), none] rfl ?_
  refine j_goto (off := -115) 6 dX1_holds_121 (by decide) ?_
  exact j_le [some (.ref t), some (.int l1), some (.int l2), some (.int l3), some (.int l4), some (.int (l5 + 1)), none, none] (And.intro rfl (And.intro rfl (And.intro rfl (And.intro rfl (And.intro rfl (And.intro rfl True.intro)))))) v1
set_option maxRecDepth 100000 in
theorem bX1_holds_124 {sc : Nat × (Nat → Int32)} {h : jH} {Q : jQ} {t : Nat} {l1 l2 l3 l4 l5 : Int32} (t_h : jI1 t)
    (v1 : ¬ (l4 &&& 1) = 1 → WP mX1_holds Q 136 [some (.ref t), some (.int l1), some (.int l2), some (.int l3), some (.int l4), some (.int l5), none, none] [] (jG0 sc) h (0, 0))
    (v2 : (l4 &&& 1) = 1 → WP mX1_holds Q 132 [some (.ref t), some (.int l1), some (.int l2), some (.int l3), some (.int l4), some (.int l5), none, none] [] (jG0 sc) h (0, 0)) :
    WP mX1_holds Q 124 [some (.ref t), some (.int l1), some (.int l2), some (.int l3), some (.int l4), some (.int l5), none, none] [] (jG0 sc) h (0, 0) := by
  obtain ⟨t_lt1, t_K0, t_R0_0, t_K1, t_L1⟩ := t_h
  have t_lt0 : t + 0 < jN (jG0 sc) := Nat.lt_of_succ_lt t_lt1
  refine j_iload (i := 4) rfl dX1_holds_124 ?_
  refine j_iconst (n := 1) 1 (by decide) dX1_holds_126 ?_
  refine j_iand dX1_holds_127 ?_
  refine j_iconst (n := 1) 1 (by decide) dX1_holds_128 ?_
  refine j_icmp_ne (off := 7) 136 dX1_holds_129 (by decide) (fun c1 => ?_) (fun c1 => ?_)
  · exact j_le [some (.ref t), some (.int l1), some (.int l2), some (.int l3), some (.int l4), some (.int l5), none, none] (And.intro rfl (And.intro rfl (And.intro rfl (And.intro rfl (And.intro rfl (And.intro rfl True.intro)))))) (v1 c1)
  · exact j_le [some (.ref t), some (.int l1), some (.int l2), some (.int l3), some (.int l4), some (.int l5), none, none] (And.intro rfl (And.intro rfl (And.intro rfl (And.intro rfl (And.intro rfl (And.intro rfl True.intro)))))) (v2 c1)
set_option maxRecDepth 100000 in
theorem bX1_holds_132 {sc : Nat × (Nat → Int32)} {h : jH} {Q : jQ} {t : Nat} {l1 l2 l3 l4 l5 : Int32} (t_h : jI1 t)
    (v1 : WP mX1_holds Q 137 [some (.ref t), some (.int l1), some (.int l2), some (.int l3), some (.int l4), some (.int l5), none, none] [.int 1] (jG0 sc) h (0, 0)) :
    WP mX1_holds Q 132 [some (.ref t), some (.int l1), some (.int l2), some (.int l3), some (.int l4), some (.int l5), none, none] [] (jG0 sc) h (0, 0) := by
  obtain ⟨t_lt1, t_K0, t_R0_0, t_K1, t_L1⟩ := t_h
  have t_lt0 : t + 0 < jN (jG0 sc) := Nat.lt_of_succ_lt t_lt1
  refine j_iconst (n := 1) 1 (by decide) dX1_holds_132 ?_
  refine j_goto (off := 4) 137 dX1_holds_133 (by decide) ?_
  exact j_le [some (.ref t), some (.int l1), some (.int l2), some (.int l3), some (.int l4), some (.int l5), none, none] (And.intro rfl (And.intro rfl (And.intro rfl (And.intro rfl (And.intro rfl (And.intro rfl True.intro)))))) v1
set_option maxRecDepth 100000 in
theorem bX1_holds_136 {sc : Nat × (Nat → Int32)} {h : jH} {Q : jQ} {t : Nat} {l1 l2 l3 l4 l5 : Int32} (t_h : jI1 t)
    (v1 : WP mX1_holds Q 137 [some (.ref t), some (.int l1), some (.int l2), some (.int l3), some (.int l4), some (.int l5), none, none] [.int 0] (jG0 sc) h (0, 0)) :
    WP mX1_holds Q 136 [some (.ref t), some (.int l1), some (.int l2), some (.int l3), some (.int l4), some (.int l5), none, none] [] (jG0 sc) h (0, 0) := by
  obtain ⟨t_lt1, t_K0, t_R0_0, t_K1, t_L1⟩ := t_h
  have t_lt0 : t + 0 < jN (jG0 sc) := Nat.lt_of_succ_lt t_lt1
  refine j_iconst (n := 0) 0 (by decide) dX1_holds_136 ?_
  exact j_le [some (.ref t), some (.int l1), some (.int l2), some (.int l3), some (.int l4), some (.int l5), none, none] (And.intro rfl (And.intro rfl (And.intro rfl (And.intro rfl (And.intro rfl (And.intro rfl True.intro)))))) v1
set_option maxRecDepth 100000 in
theorem bX1_holds_137 {sc : Nat × (Nat → Int32)} {h : jH} {Q : jQ} {t : Nat} {l1 l2 l3 l4 l5 s0 : Int32} (t_h : jI1 t)
    (o1 : s0 = 0 ∨ s0 = 1)
    (v1 : Q (.inl (some (.int s0))) (jG0 sc) h) :
    WP mX1_holds Q 137 [some (.ref t), some (.int l1), some (.int l2), some (.int l3), some (.int l4), some (.int l5), none, none] [.int s0] (jG0 sc) h (0, 0) := by
  obtain ⟨t_lt1, t_K0, t_R0_0, t_K1, t_L1⟩ := t_h
  have t_lt0 : t + 0 < jN (jG0 sc) := Nat.lt_of_succ_lt t_lt1
  exact j_iret rfl (jbn o1) (Nat.zero_le _) (Nat.zero_le _) dX1_holds_137 v1
set_option maxRecDepth 100000 in
theorem rX1_holds_0 {sc : Nat × (Nat → Int32)} {h : jH} {Q : jQ} {t : Nat} {l1 l2 l3 : Int32} (t_h : jI1 t)
    (v1 : WP mX1_holds Q 6 [some (.ref t), some (.int l1), some (.int l2), some (.int l3), some (.int 0), some (.int 0), none, none] [] (jG0 sc) h (0, 0)) :
    WP mX1_holds Q 0 [some (.ref t), some (.int l1), some (.int l2), some (.int l3), none, none, none, none] [] (jG0 sc) h (0, 0) := by
  exact (bX1_holds_0 t_h v1)
set_option maxRecDepth 100000 in
theorem rX1_holds_6 {sc : Nat × (Nat → Int32)} {h : jH} {Q : jQ} {t : Nat} {l1 l2 l3 l4 l5 : Int32} {P1 : Int32 → jH → Prop} (t_h : jI1 t)
    (v1 : (h t 1) ≤ l5 → ¬ (l4 &&& 1) = 1 → Q (.inl (some (.int 0))) (jG0 sc) h)
    (v2 : (h t 1) ≤ l5 → (l4 &&& 1) = 1 → Q (.inl (some (.int 1))) (jG0 sc) h)
    (v3 : ¬ (h t 1) ≤ l5 → 400 ≤ l5 → ¬ (l4 &&& 1) = 1 → Q (.inl (some (.int 0))) (jG0 sc) h)
    (v4 : ¬ (h t 1) ≤ l5 → 400 ≤ l5 → (l4 &&& 1) = 1 → Q (.inl (some (.int 1))) (jG0 sc) h)
    (o1 : ¬ (h t 1) ≤ l5 → ¬ 400 ≤ l5 → vp_in l5 400)
    (v5 : ¬ (h t 1) ≤ l5 → ¬ 400 ≤ l5 → (h (t + 1) l5.toNatClampNeg) < 0 → ¬ (h (t + 1) l5.toNatClampNeg) = (-3) → ¬ (h (t + 1) l5.toNatClampNeg) = (-2) → WP mX1_holds Q 6 [some (.ref t), some (.int l1), some (.int l2), some (.int l3), some (.int (((l4.toUInt32 >>> (((1 : Int32)).toUInt32 &&& Int32.toUInt32 31)).toInt32) &&& ((l4 &&& 1) ||| ((-2) : Int32)))), some (.int (l5 + 1)), none, none] [] (jG0 sc) h (0, 0))
    (v6 : ¬ (h t 1) ≤ l5 → ¬ 400 ≤ l5 → (h (t + 1) l5.toNatClampNeg) < 0 → ¬ (h (t + 1) l5.toNatClampNeg) = (-3) → (h (t + 1) l5.toNatClampNeg) = (-2) → WP mX1_holds Q 6 [some (.ref t), some (.int l1), some (.int l2), some (.int l3), some (.int (((l4.toUInt32 >>> (((1 : Int32)).toUInt32 &&& Int32.toUInt32 31)).toInt32) ||| (l4 &&& 1))), some (.int (l5 + 1)), none, none] [] (jG0 sc) h (0, 0))
    (v7 : ¬ (h t 1) ≤ l5 → ¬ 400 ≤ l5 → (h (t + 1) l5.toNatClampNeg) < 0 → (h (t + 1) l5.toNatClampNeg) = (-3) → WP mX1_holds Q 6 [some (.ref t), some (.int l1), some (.int l2), some (.int l3), some (.int (l4 ^^^ 1)), some (.int (l5 + 1)), none, none] [] (jG0 sc) h (0, 0))
    (k1 : ¬ (h t 1) ≤ l5 → ¬ 400 ≤ l5 → ¬ (h (t + 1) l5.toNatClampNeg) < 0 → JM mX1_compares [.int (h (t + 1) l5.toNatClampNeg), .int l1, .int l2, .int l3] (jG0 sc) h (jint sc P1))
    (v8 : ¬ (h t 1) ≤ l5 → ¬ 400 ≤ l5 → ¬ (h (t + 1) l5.toNatClampNeg) < 0 → ∀ (x1 : Int32) (h1 : jH), P1 x1 h1 → x1 = 0 → WP mX1_holds Q 6 [some (.ref t), some (.int l1), some (.int l2), some (.int l3), some (.int ((l4 <<< 1) ||| 0)), some (.int (l5 + 1)), none, none] [] (jG0 sc) h1 (0, 0))
    (v9 : ¬ (h t 1) ≤ l5 → ¬ 400 ≤ l5 → ¬ (h (t + 1) l5.toNatClampNeg) < 0 → ∀ (x1 : Int32) (h1 : jH), P1 x1 h1 → ¬ x1 = 0 → WP mX1_holds Q 6 [some (.ref t), some (.int l1), some (.int l2), some (.int l3), some (.int ((l4 <<< 1) ||| 1)), some (.int (l5 + 1)), none, none] [] (jG0 sc) h1 (0, 0)) :
    WP mX1_holds Q 6 [some (.ref t), some (.int l1), some (.int l2), some (.int l3), some (.int l4), some (.int l5), none, none] [] (jG0 sc) h (0, 0) := by
  exact (bX1_holds_6 t_h (fun c1 => (bX1_holds_124 t_h (fun c2 => (bX1_holds_136 t_h (bX1_holds_137 t_h (by decide) (v1 c1 c2)))) (fun c2 => (bX1_holds_132 t_h (bX1_holds_137 t_h (by decide) (v2 c1 c2)))))) (fun c1 => (bX1_holds_15 t_h (fun c3 => (bX1_holds_124 t_h (fun c4 => (bX1_holds_136 t_h (bX1_holds_137 t_h (by decide) (v3 c1 c3 c4)))) (fun c4 => (bX1_holds_132 t_h (bX1_holds_137 t_h (by decide) (v4 c1 c3 c4)))))) (fun c3 => (bX1_holds_25 t_h (o1 c1 c3) (fun c5 => (bX1_holds_65 t_h (fun c6 => (bX1_holds_81 t_h (fun c7 => (bX1_holds_108 t_h (bX1_holds_116 t_h (bX1_holds_118 t_h (v5 c1 c3 c5 c6 c7))))) (fun c7 => (bX1_holds_100 t_h (bX1_holds_116 t_h (bX1_holds_118 t_h (v6 c1 c3 c5 c6 c7))))))) (fun c6 => (bX1_holds_72 t_h (bX1_holds_118 t_h (v7 c1 c3 c5 c6)))))) (fun c5 => (bX1_holds_39 t_h (k1 c1 c3 c5) (fun x1 h1 p1 c8 => (bX1_holds_58 t_h (bX1_holds_59 t_h (bX1_holds_118 t_h (v8 c1 c3 c5 x1 h1 p1 c8))))) (fun x1 h1 p1 c8 => (bX1_holds_54 t_h (bX1_holds_59 t_h (bX1_holds_118 t_h (v9 c1 c3 c5 x1 h1 p1 c8))))))))))))
theorem dX1_compares_0 : decode (mC mX1_compares) 0 = .ok (.iload_n 0, 1) := by decide +kernel
theorem dX1_compares_1 : decode (mC mX1_compares) 1 = .ok (.sipush 16383, 3) := by decide +kernel
theorem dX1_compares_4 : decode (mC mX1_compares) 4 = .ok (.iand, 1) := by decide +kernel
theorem dX1_compares_5 : decode (mC mX1_compares) 5 = .ok (.iload_n 1, 1) := by decide +kernel
theorem dX1_compares_6 : decode (mC mX1_compares) 6 = .ok (.iload_n 2, 1) := by decide +kernel
theorem dX1_compares_7 : decode (mC mX1_compares) 7 = .ok (.iload_n 3, 1) := by decide +kernel
theorem dX1_compares_8 : decode (mC mX1_compares) 8 = .ok (.invokestatic 23, 3) := by decide +kernel
theorem dX1_compares_11 : decode (mC mX1_compares) 11 = .ok (.istore 4, 2) := by decide +kernel
theorem dX1_compares_13 : decode (mC mX1_compares) 13 = .ok (.iload_n 0, 1) := by decide +kernel
theorem dX1_compares_14 : decode (mC mX1_compares) 14 = .ok (.bipush 14, 2) := by decide +kernel
theorem dX1_compares_16 : decode (mC mX1_compares) 16 = .ok (.ishr, 1) := by decide +kernel
theorem dX1_compares_17 : decode (mC mX1_compares) 17 = .ok (.sipush 16383, 3) := by decide +kernel
theorem dX1_compares_20 : decode (mC mX1_compares) 20 = .ok (.iand, 1) := by decide +kernel
theorem dX1_compares_21 : decode (mC mX1_compares) 21 = .ok (.iload_n 1, 1) := by decide +kernel
theorem dX1_compares_22 : decode (mC mX1_compares) 22 = .ok (.iload_n 2, 1) := by decide +kernel
theorem dX1_compares_23 : decode (mC mX1_compares) 23 = .ok (.iload_n 3, 1) := by decide +kernel
theorem dX1_compares_24 : decode (mC mX1_compares) 24 = .ok (.invokestatic 23, 3) := by decide +kernel
theorem dX1_compares_27 : decode (mC mX1_compares) 27 = .ok (.istore 5, 2) := by decide +kernel
theorem dX1_compares_29 : decode (mC mX1_compares) 29 = .ok (.iload_n 0, 1) := by decide +kernel
theorem dX1_compares_30 : decode (mC mX1_compares) 30 = .ok (.bipush 28, 2) := by decide +kernel
theorem dX1_compares_32 : decode (mC mX1_compares) 32 = .ok (.ishr, 1) := by decide +kernel
theorem dX1_compares_33 : decode (mC mX1_compares) 33 = .ok (.iconst 3, 1) := by decide +kernel
theorem dX1_compares_34 : decode (mC mX1_compares) 34 = .ok (.iand, 1) := by decide +kernel
theorem dX1_compares_35 : decode (mC mX1_compares) 35 = .ok (.bipush 6, 2) := by decide +kernel
theorem dX1_compares_37 : decode (mC mX1_compares) 37 = .ok (.iadd, 1) := by decide +kernel
theorem dX1_compares_38 : decode (mC mX1_compares) 38 = .ok (.istore 6, 2) := by decide +kernel
theorem dX1_compares_40 : decode (mC mX1_compares) 40 = .ok (.iload 6, 2) := by decide +kernel
theorem dX1_compares_42 : decode (mC mX1_compares) 42 = .ok (.bipush 6, 2) := by decide +kernel
theorem dX1_compares_44 : decode (mC mX1_compares) 44 = .ok (.if_icmp .ne 16, 3) := by decide +kernel
theorem dX1_compares_47 : decode (mC mX1_compares) 47 = .ok (.iload 4, 2) := by decide +kernel
theorem dX1_compares_49 : decode (mC mX1_compares) 49 = .ok (.iload 5, 2) := by decide +kernel
theorem dX1_compares_51 : decode (mC mX1_compares) 51 = .ok (.if_icmp .ge 7, 3) := by decide +kernel
theorem dX1_compares_54 : decode (mC mX1_compares) 54 = .ok (.iconst 1, 1) := by decide +kernel
theorem dX1_compares_55 : decode (mC mX1_compares) 55 = .ok (.goto 4, 3) := by decide +kernel
theorem dX1_compares_58 : decode (mC mX1_compares) 58 = .ok (.iconst 0, 1) := by decide +kernel
theorem dX1_compares_59 : decode (mC mX1_compares) 59 = .ok (.ireturn, 1) := by decide +kernel
theorem dX1_compares_60 : decode (mC mX1_compares) 60 = .ok (.iload 6, 2) := by decide +kernel
theorem dX1_compares_62 : decode (mC mX1_compares) 62 = .ok (.bipush 7, 2) := by decide +kernel
theorem dX1_compares_64 : decode (mC mX1_compares) 64 = .ok (.if_icmp .ne 18, 3) := by decide +kernel
theorem dX1_compares_67 : decode (mC mX1_compares) 67 = .ok (.iload 4, 2) := by decide +kernel
theorem dX1_compares_69 : decode (mC mX1_compares) 69 = .ok (.iload 5, 2) := by decide +kernel
theorem dX1_compares_71 : decode (mC mX1_compares) 71 = .ok (.if_icmp .le 7, 3) := by decide +kernel
theorem dX1_compares_74 : decode (mC mX1_compares) 74 = .ok (.iconst 1, 1) := by decide +kernel
theorem dX1_compares_75 : decode (mC mX1_compares) 75 = .ok (.goto 19, 3) := by decide +kernel
theorem dX1_compares_78 : decode (mC mX1_compares) 78 = .ok (.iconst 0, 1) := by decide +kernel
theorem dX1_compares_79 : decode (mC mX1_compares) 79 = .ok (.goto 15, 3) := by decide +kernel
theorem dX1_compares_82 : decode (mC mX1_compares) 82 = .ok (.iload 4, 2) := by decide +kernel
theorem dX1_compares_84 : decode (mC mX1_compares) 84 = .ok (.iload 5, 2) := by decide +kernel
theorem dX1_compares_86 : decode (mC mX1_compares) 86 = .ok (.if_icmp .ne 7, 3) := by decide +kernel
theorem dX1_compares_89 : decode (mC mX1_compares) 89 = .ok (.iconst 1, 1) := by decide +kernel
theorem dX1_compares_90 : decode (mC mX1_compares) 90 = .ok (.goto 4, 3) := by decide +kernel
theorem dX1_compares_93 : decode (mC mX1_compares) 93 = .ok (.iconst 0, 1) := by decide +kernel
theorem dX1_compares_94 : decode (mC mX1_compares) 94 = .ok (.ireturn, 1) := by decide +kernel
set_option maxRecDepth 100000 in
theorem bX1_compares_0 {sc : Nat × (Nat → Int32)} {h : jH} {Q : jQ} {l0 l1 l2 l3 : Int32} {P1 : Int32 → jH → Prop} {P2 : Int32 → jH → Prop}
    (k1 : JM mX1_valueOf [.int (l0 &&& 16383), .int l1, .int l2, .int l3] (jG0 sc) h (jint sc P1))
    (k2 : ∀ (x1 : Int32) (h1 : jH), P1 x1 h1 → JM mX1_valueOf [.int ((l0 >>> 14) &&& 16383), .int l1, .int l2, .int l3] (jG0 sc) h1 (jint sc P2))
    (v1 : ∀ (x1 : Int32) (h1 : jH), P1 x1 h1 → ∀ (x2 : Int32) (h2 : jH), P2 x2 h2 → WP mX1_compares Q 27 [some (.int l0), some (.int l1), some (.int l2), some (.int l3), some (.int x1), none, none] [.int x2] (jG0 sc) h2 (0, 0)) :
    WP mX1_compares Q 0 [some (.int l0), some (.int l1), some (.int l2), some (.int l3), none, none, none] [] (jG0 sc) h (0, 0) := by
  refine j_iload_n (i := 0) rfl dX1_compares_0 ?_
  refine j_sipush (n := 16383) 16383 (by decide) dX1_compares_1 ?_
  refine j_iand dX1_compares_4 ?_
  refine j_iload_n (i := 1) rfl dX1_compares_5 ?_
  refine j_iload_n (i := 2) rfl dX1_compares_6 ?_
  refine j_iload_n (i := 3) rfl dX1_compares_7 ?_
  refine j_callS (idx := 23) (As := [.int (l0 &&& 16383), .int l1, .int l2, .int l3]) (n := 4) k1 jint_nt (jlkT (jtb5 212 rfl) rfl) sX1_valueOf kX1_valueOf rfl ⟨by decide +kernel, by decide +kernel, by decide +kernel⟩ rfl ⟨by decide, by decide⟩ (Nat.le_of_ble_eq_true rfl) ⟨Nat.zero_le _, Nat.zero_le _⟩ dX1_compares_8 (fun r Γ' h1 q => ?_)
  obtain ⟨x1, q0, rfl, p1⟩ := q; cases q0
  refine j_eqst [.int x1] (by rfl) ?_
  refine j_istore (i := 4) dX1_compares_11 (Nat.le_of_ble_eq_true rfl) ?_
  refine j_iload_n (i := 0) rfl dX1_compares_13 ?_
  refine j_bipush (n := 14) 14 (by decide) dX1_compares_14 ?_
  refine j_ishr dX1_compares_16 ?_
  refine j_eqst [.int (l0 >>> 14)] (by rfl) ?_
  refine j_sipush (n := 16383) 16383 (by decide) dX1_compares_17 ?_
  refine j_iand dX1_compares_20 ?_
  refine j_iload_n (i := 1) rfl dX1_compares_21 ?_
  refine j_iload_n (i := 2) rfl dX1_compares_22 ?_
  refine j_iload_n (i := 3) rfl dX1_compares_23 ?_
  refine j_callS (idx := 23) (As := [.int ((l0 >>> 14) &&& 16383), .int l1, .int l2, .int l3]) (n := 4) (k2 x1 h1 p1) jint_nt (jlkT (jtb5 212 rfl) rfl) sX1_valueOf kX1_valueOf rfl ⟨by decide +kernel, by decide +kernel, by decide +kernel⟩ rfl ⟨by decide, by decide⟩ (Nat.le_of_ble_eq_true rfl) ⟨Nat.zero_le _, Nat.zero_le _⟩ dX1_compares_24 (fun r Γ' h2 q => ?_)
  obtain ⟨x2, q0, rfl, p2⟩ := q; cases q0
  refine j_eqst [.int x2] (by rfl) ?_
  exact j_le [some (.int l0), some (.int l1), some (.int l2), some (.int l3), some (.int x1), none, none] (And.intro rfl (And.intro rfl (And.intro rfl (And.intro rfl (And.intro rfl True.intro))))) (v1 x1 h1 p1 x2 h2 p2)
set_option maxRecDepth 100000 in
theorem bX1_compares_27 {sc : Nat × (Nat → Int32)} {h : jH} {Q : jQ} {l0 l1 l2 l3 l4 s0 : Int32}
    (v1 : ¬ (((l0 >>> 28) &&& 3) + 6) = 6 → WP mX1_compares Q 60 [some (.int l0), some (.int l1), some (.int l2), some (.int l3), some (.int l4), some (.int s0), some (.int (((l0 >>> 28) &&& 3) + 6))] [] (jG0 sc) h (0, 0))
    (v2 : (((l0 >>> 28) &&& 3) + 6) = 6 → WP mX1_compares Q 47 [some (.int l0), some (.int l1), some (.int l2), some (.int l3), some (.int l4), some (.int s0), some (.int (((l0 >>> 28) &&& 3) + 6))] [] (jG0 sc) h (0, 0)) :
    WP mX1_compares Q 27 [some (.int l0), some (.int l1), some (.int l2), some (.int l3), some (.int l4), none, none] [.int s0] (jG0 sc) h (0, 0) := by
  refine j_istore (i := 5) dX1_compares_27 (Nat.le_of_ble_eq_true rfl) ?_
  refine j_iload_n (i := 0) rfl dX1_compares_29 ?_
  refine j_bipush (n := 28) 28 (by decide) dX1_compares_30 ?_
  refine j_ishr dX1_compares_32 ?_
  refine j_eqst [.int (l0 >>> 28)] (by rfl) ?_
  refine j_iconst (n := 3) 3 (by decide) dX1_compares_33 ?_
  refine j_iand dX1_compares_34 ?_
  refine j_bipush (n := 6) 6 (by decide) dX1_compares_35 ?_
  refine j_iadd dX1_compares_37 ?_
  refine j_istore (i := 6) dX1_compares_38 (Nat.le_of_ble_eq_true rfl) ?_
  refine j_iload (i := 6) rfl dX1_compares_40 ?_
  refine j_bipush (n := 6) 6 (by decide) dX1_compares_42 ?_
  refine j_icmp_ne (off := 16) 60 dX1_compares_44 (by decide) (fun c1 => ?_) (fun c1 => ?_)
  · exact j_le [some (.int l0), some (.int l1), some (.int l2), some (.int l3), some (.int l4), some (.int s0), some (.int (((l0 >>> 28) &&& 3) + 6))] (And.intro rfl (And.intro rfl (And.intro rfl (And.intro rfl (And.intro rfl (And.intro rfl (And.intro rfl True.intro))))))) (v1 c1)
  · exact j_le [some (.int l0), some (.int l1), some (.int l2), some (.int l3), some (.int l4), some (.int s0), some (.int (((l0 >>> 28) &&& 3) + 6))] (And.intro rfl (And.intro rfl (And.intro rfl (And.intro rfl (And.intro rfl (And.intro rfl (And.intro rfl True.intro))))))) (v2 c1)
set_option maxRecDepth 100000 in
theorem bX1_compares_47 {sc : Nat × (Nat → Int32)} {h : jH} {Q : jQ} {l0 l1 l2 l3 l4 l5 l6 : Int32}
    (v1 : l5 ≤ l4 → WP mX1_compares Q 58 [some (.int l0), some (.int l1), some (.int l2), some (.int l3), some (.int l4), some (.int l5), some (.int l6)] [] (jG0 sc) h (0, 0))
    (v2 : ¬ l5 ≤ l4 → WP mX1_compares Q 54 [some (.int l0), some (.int l1), some (.int l2), some (.int l3), some (.int l4), some (.int l5), some (.int l6)] [] (jG0 sc) h (0, 0)) :
    WP mX1_compares Q 47 [some (.int l0), some (.int l1), some (.int l2), some (.int l3), some (.int l4), some (.int l5), some (.int l6)] [] (jG0 sc) h (0, 0) := by
  refine j_iload (i := 4) rfl dX1_compares_47 ?_
  refine j_iload (i := 5) rfl dX1_compares_49 ?_
  refine j_icmp_ge (off := 7) 58 dX1_compares_51 (by decide) (fun c1 => ?_) (fun c1 => ?_)
  · exact j_le [some (.int l0), some (.int l1), some (.int l2), some (.int l3), some (.int l4), some (.int l5), some (.int l6)] (And.intro rfl (And.intro rfl (And.intro rfl (And.intro rfl (And.intro rfl (And.intro rfl (And.intro rfl True.intro))))))) (v1 c1)
  · exact j_le [some (.int l0), some (.int l1), some (.int l2), some (.int l3), some (.int l4), some (.int l5), some (.int l6)] (And.intro rfl (And.intro rfl (And.intro rfl (And.intro rfl (And.intro rfl (And.intro rfl (And.intro rfl True.intro))))))) (v2 c1)
set_option maxRecDepth 100000 in
theorem bX1_compares_54 {sc : Nat × (Nat → Int32)} {h : jH} {Q : jQ} {l0 l1 l2 l3 l4 l5 l6 : Int32}
    (v1 : WP mX1_compares Q 59 [some (.int l0), some (.int l1), some (.int l2), some (.int l3), some (.int l4), some (.int l5), some (.int l6)] [.int 1] (jG0 sc) h (0, 0)) :
    WP mX1_compares Q 54 [some (.int l0), some (.int l1), some (.int l2), some (.int l3), some (.int l4), some (.int l5), some (.int l6)] [] (jG0 sc) h (0, 0) := by
  refine j_iconst (n := 1) 1 (by decide) dX1_compares_54 ?_
  refine j_goto (off := 4) 59 dX1_compares_55 (by decide) ?_
  exact j_le [some (.int l0), some (.int l1), some (.int l2), some (.int l3), some (.int l4), some (.int l5), some (.int l6)] (And.intro rfl (And.intro rfl (And.intro rfl (And.intro rfl (And.intro rfl (And.intro rfl (And.intro rfl True.intro))))))) v1
set_option maxRecDepth 100000 in
theorem bX1_compares_58 {sc : Nat × (Nat → Int32)} {h : jH} {Q : jQ} {l0 l1 l2 l3 l4 l5 l6 : Int32}
    (v1 : WP mX1_compares Q 59 [some (.int l0), some (.int l1), some (.int l2), some (.int l3), some (.int l4), some (.int l5), some (.int l6)] [.int 0] (jG0 sc) h (0, 0)) :
    WP mX1_compares Q 58 [some (.int l0), some (.int l1), some (.int l2), some (.int l3), some (.int l4), some (.int l5), some (.int l6)] [] (jG0 sc) h (0, 0) := by
  refine j_iconst (n := 0) 0 (by decide) dX1_compares_58 ?_
  exact j_le [some (.int l0), some (.int l1), some (.int l2), some (.int l3), some (.int l4), some (.int l5), some (.int l6)] (And.intro rfl (And.intro rfl (And.intro rfl (And.intro rfl (And.intro rfl (And.intro rfl (And.intro rfl True.intro))))))) v1
set_option maxRecDepth 100000 in
theorem bX1_compares_59 {sc : Nat × (Nat → Int32)} {h : jH} {Q : jQ} {l0 l1 l2 l3 l4 l5 l6 s0 : Int32}
    (o1 : s0 = 0 ∨ s0 = 1)
    (v1 : Q (.inl (some (.int s0))) (jG0 sc) h) :
    WP mX1_compares Q 59 [some (.int l0), some (.int l1), some (.int l2), some (.int l3), some (.int l4), some (.int l5), some (.int l6)] [.int s0] (jG0 sc) h (0, 0) := by
  exact j_iret rfl (jbn o1) (Nat.zero_le _) (Nat.zero_le _) dX1_compares_59 v1
set_option maxRecDepth 100000 in
theorem bX1_compares_60 {sc : Nat × (Nat → Int32)} {h : jH} {Q : jQ} {l0 l1 l2 l3 l4 l5 l6 : Int32}
    (v1 : ¬ l6 = 7 → WP mX1_compares Q 82 [some (.int l0), some (.int l1), some (.int l2), some (.int l3), some (.int l4), some (.int l5), some (.int l6)] [] (jG0 sc) h (0, 0))
    (v2 : l6 = 7 → WP mX1_compares Q 67 [some (.int l0), some (.int l1), some (.int l2), some (.int l3), some (.int l4), some (.int l5), some (.int l6)] [] (jG0 sc) h (0, 0)) :
    WP mX1_compares Q 60 [some (.int l0), some (.int l1), some (.int l2), some (.int l3), some (.int l4), some (.int l5), some (.int l6)] [] (jG0 sc) h (0, 0) := by
  refine j_iload (i := 6) rfl dX1_compares_60 ?_
  refine j_bipush (n := 7) 7 (by decide) dX1_compares_62 ?_
  refine j_icmp_ne (off := 18) 82 dX1_compares_64 (by decide) (fun c1 => ?_) (fun c1 => ?_)
  · exact j_le [some (.int l0), some (.int l1), some (.int l2), some (.int l3), some (.int l4), some (.int l5), some (.int l6)] (And.intro rfl (And.intro rfl (And.intro rfl (And.intro rfl (And.intro rfl (And.intro rfl (And.intro rfl True.intro))))))) (v1 c1)
  · exact j_le [some (.int l0), some (.int l1), some (.int l2), some (.int l3), some (.int l4), some (.int l5), some (.int l6)] (And.intro rfl (And.intro rfl (And.intro rfl (And.intro rfl (And.intro rfl (And.intro rfl (And.intro rfl True.intro))))))) (v2 c1)
set_option maxRecDepth 100000 in
theorem bX1_compares_67 {sc : Nat × (Nat → Int32)} {h : jH} {Q : jQ} {l0 l1 l2 l3 l4 l5 l6 : Int32}
    (v1 : l4 ≤ l5 → WP mX1_compares Q 78 [some (.int l0), some (.int l1), some (.int l2), some (.int l3), some (.int l4), some (.int l5), some (.int l6)] [] (jG0 sc) h (0, 0))
    (v2 : ¬ l4 ≤ l5 → WP mX1_compares Q 74 [some (.int l0), some (.int l1), some (.int l2), some (.int l3), some (.int l4), some (.int l5), some (.int l6)] [] (jG0 sc) h (0, 0)) :
    WP mX1_compares Q 67 [some (.int l0), some (.int l1), some (.int l2), some (.int l3), some (.int l4), some (.int l5), some (.int l6)] [] (jG0 sc) h (0, 0) := by
  refine j_iload (i := 4) rfl dX1_compares_67 ?_
  refine j_iload (i := 5) rfl dX1_compares_69 ?_
  refine j_icmp_le (off := 7) 78 dX1_compares_71 (by decide) (fun c1 => ?_) (fun c1 => ?_)
  · exact j_le [some (.int l0), some (.int l1), some (.int l2), some (.int l3), some (.int l4), some (.int l5), some (.int l6)] (And.intro rfl (And.intro rfl (And.intro rfl (And.intro rfl (And.intro rfl (And.intro rfl (And.intro rfl True.intro))))))) (v1 c1)
  · exact j_le [some (.int l0), some (.int l1), some (.int l2), some (.int l3), some (.int l4), some (.int l5), some (.int l6)] (And.intro rfl (And.intro rfl (And.intro rfl (And.intro rfl (And.intro rfl (And.intro rfl (And.intro rfl True.intro))))))) (v2 c1)
set_option maxRecDepth 100000 in
theorem bX1_compares_74 {sc : Nat × (Nat → Int32)} {h : jH} {Q : jQ} {l0 l1 l2 l3 l4 l5 l6 : Int32}
    (v1 : WP mX1_compares Q 94 [some (.int l0), some (.int l1), some (.int l2), some (.int l3), some (.int l4), some (.int l5), some (.int l6)] [.int 1] (jG0 sc) h (0, 0)) :
    WP mX1_compares Q 74 [some (.int l0), some (.int l1), some (.int l2), some (.int l3), some (.int l4), some (.int l5), some (.int l6)] [] (jG0 sc) h (0, 0) := by
  refine j_iconst (n := 1) 1 (by decide) dX1_compares_74 ?_
  refine j_goto (off := 19) 94 dX1_compares_75 (by decide) ?_
  exact j_le [some (.int l0), some (.int l1), some (.int l2), some (.int l3), some (.int l4), some (.int l5), some (.int l6)] (And.intro rfl (And.intro rfl (And.intro rfl (And.intro rfl (And.intro rfl (And.intro rfl (And.intro rfl True.intro))))))) v1
set_option maxRecDepth 100000 in
theorem bX1_compares_78 {sc : Nat × (Nat → Int32)} {h : jH} {Q : jQ} {l0 l1 l2 l3 l4 l5 l6 : Int32}
    (v1 : WP mX1_compares Q 94 [some (.int l0), some (.int l1), some (.int l2), some (.int l3), some (.int l4), some (.int l5), some (.int l6)] [.int 0] (jG0 sc) h (0, 0)) :
    WP mX1_compares Q 78 [some (.int l0), some (.int l1), some (.int l2), some (.int l3), some (.int l4), some (.int l5), some (.int l6)] [] (jG0 sc) h (0, 0) := by
  refine j_iconst (n := 0) 0 (by decide) dX1_compares_78 ?_
  refine j_goto (off := 15) 94 dX1_compares_79 (by decide) ?_
  exact j_le [some (.int l0), some (.int l1), some (.int l2), some (.int l3), some (.int l4), some (.int l5), some (.int l6)] (And.intro rfl (And.intro rfl (And.intro rfl (And.intro rfl (And.intro rfl (And.intro rfl (And.intro rfl True.intro))))))) v1
set_option maxRecDepth 100000 in
theorem bX1_compares_82 {sc : Nat × (Nat → Int32)} {h : jH} {Q : jQ} {l0 l1 l2 l3 l4 l5 l6 : Int32}
    (v1 : ¬ l4 = l5 → WP mX1_compares Q 93 [some (.int l0), some (.int l1), some (.int l2), some (.int l3), some (.int l4), some (.int l5), some (.int l6)] [] (jG0 sc) h (0, 0))
    (v2 : l4 = l5 → WP mX1_compares Q 89 [some (.int l0), some (.int l1), some (.int l2), some (.int l3), some (.int l4), some (.int l5), some (.int l6)] [] (jG0 sc) h (0, 0)) :
    WP mX1_compares Q 82 [some (.int l0), some (.int l1), some (.int l2), some (.int l3), some (.int l4), some (.int l5), some (.int l6)] [] (jG0 sc) h (0, 0) := by
  refine j_iload (i := 4) rfl dX1_compares_82 ?_
  refine j_iload (i := 5) rfl dX1_compares_84 ?_
  refine j_icmp_ne (off := 7) 93 dX1_compares_86 (by decide) (fun c1 => ?_) (fun c1 => ?_)
  · exact j_le [some (.int l0), some (.int l1), some (.int l2), some (.int l3), some (.int l4), some (.int l5), some (.int l6)] (And.intro rfl (And.intro rfl (And.intro rfl (And.intro rfl (And.intro rfl (And.intro rfl (And.intro rfl True.intro))))))) (v1 c1)
  · exact j_le [some (.int l0), some (.int l1), some (.int l2), some (.int l3), some (.int l4), some (.int l5), some (.int l6)] (And.intro rfl (And.intro rfl (And.intro rfl (And.intro rfl (And.intro rfl (And.intro rfl (And.intro rfl True.intro))))))) (v2 c1)
set_option maxRecDepth 100000 in
theorem bX1_compares_89 {sc : Nat × (Nat → Int32)} {h : jH} {Q : jQ} {l0 l1 l2 l3 l4 l5 l6 : Int32}
    (v1 : WP mX1_compares Q 94 [some (.int l0), some (.int l1), some (.int l2), some (.int l3), some (.int l4), some (.int l5), some (.int l6)] [.int 1] (jG0 sc) h (0, 0)) :
    WP mX1_compares Q 89 [some (.int l0), some (.int l1), some (.int l2), some (.int l3), some (.int l4), some (.int l5), some (.int l6)] [] (jG0 sc) h (0, 0) := by
  refine j_iconst (n := 1) 1 (by decide) dX1_compares_89 ?_
  refine j_goto (off := 4) 94 dX1_compares_90 (by decide) ?_
  exact j_le [some (.int l0), some (.int l1), some (.int l2), some (.int l3), some (.int l4), some (.int l5), some (.int l6)] (And.intro rfl (And.intro rfl (And.intro rfl (And.intro rfl (And.intro rfl (And.intro rfl (And.intro rfl True.intro))))))) v1
set_option maxRecDepth 100000 in
theorem bX1_compares_93 {sc : Nat × (Nat → Int32)} {h : jH} {Q : jQ} {l0 l1 l2 l3 l4 l5 l6 : Int32}
    (v1 : WP mX1_compares Q 94 [some (.int l0), some (.int l1), some (.int l2), some (.int l3), some (.int l4), some (.int l5), some (.int l6)] [.int 0] (jG0 sc) h (0, 0)) :
    WP mX1_compares Q 93 [some (.int l0), some (.int l1), some (.int l2), some (.int l3), some (.int l4), some (.int l5), some (.int l6)] [] (jG0 sc) h (0, 0) := by
  refine j_iconst (n := 0) 0 (by decide) dX1_compares_93 ?_
  exact j_le [some (.int l0), some (.int l1), some (.int l2), some (.int l3), some (.int l4), some (.int l5), some (.int l6)] (And.intro rfl (And.intro rfl (And.intro rfl (And.intro rfl (And.intro rfl (And.intro rfl (And.intro rfl True.intro))))))) v1
set_option maxRecDepth 100000 in
theorem bX1_compares_94 {sc : Nat × (Nat → Int32)} {h : jH} {Q : jQ} {l0 l1 l2 l3 l4 l5 l6 s0 : Int32}
    (o1 : s0 = 0 ∨ s0 = 1)
    (v1 : Q (.inl (some (.int s0))) (jG0 sc) h) :
    WP mX1_compares Q 94 [some (.int l0), some (.int l1), some (.int l2), some (.int l3), some (.int l4), some (.int l5), some (.int l6)] [.int s0] (jG0 sc) h (0, 0) := by
  exact j_iret rfl (jbn o1) (Nat.zero_le _) (Nat.zero_le _) dX1_compares_94 v1
set_option maxRecDepth 100000 in
theorem rX1_compares_0 {sc : Nat × (Nat → Int32)} {h : jH} {Q : jQ} {l0 l1 l2 l3 : Int32} {P1 : Int32 → jH → Prop} {P2 : Int32 → jH → Prop}
    (k1 : JM mX1_valueOf [.int (l0 &&& 16383), .int l1, .int l2, .int l3] (jG0 sc) h (jint sc P1))
    (k2 : ∀ (x1 : Int32) (h1 : jH), P1 x1 h1 → JM mX1_valueOf [.int ((l0 >>> 14) &&& 16383), .int l1, .int l2, .int l3] (jG0 sc) h1 (jint sc P2))
    (v1 : ∀ (x1 : Int32) (h1 : jH), P1 x1 h1 → ∀ (x2 : Int32) (h2 : jH), P2 x2 h2 → ¬ (((l0 >>> 28) &&& 3) + 6) = 6 → ¬ (((l0 >>> 28) &&& 3) + 6) = 7 → ¬ x1 = x2 → Q (.inl (some (.int 0))) (jG0 sc) h2)
    (v2 : ∀ (x1 : Int32) (h1 : jH), P1 x1 h1 → ∀ (x2 : Int32) (h2 : jH), P2 x2 h2 → ¬ (((l0 >>> 28) &&& 3) + 6) = 6 → ¬ (((l0 >>> 28) &&& 3) + 6) = 7 → x1 = x2 → Q (.inl (some (.int 1))) (jG0 sc) h2)
    (v3 : ∀ (x1 : Int32) (h1 : jH), P1 x1 h1 → ∀ (x2 : Int32) (h2 : jH), P2 x2 h2 → ¬ (((l0 >>> 28) &&& 3) + 6) = 6 → (((l0 >>> 28) &&& 3) + 6) = 7 → x1 ≤ x2 → Q (.inl (some (.int 0))) (jG0 sc) h2)
    (v4 : ∀ (x1 : Int32) (h1 : jH), P1 x1 h1 → ∀ (x2 : Int32) (h2 : jH), P2 x2 h2 → ¬ (((l0 >>> 28) &&& 3) + 6) = 6 → (((l0 >>> 28) &&& 3) + 6) = 7 → ¬ x1 ≤ x2 → Q (.inl (some (.int 1))) (jG0 sc) h2)
    (v5 : ∀ (x1 : Int32) (h1 : jH), P1 x1 h1 → ∀ (x2 : Int32) (h2 : jH), P2 x2 h2 → (((l0 >>> 28) &&& 3) + 6) = 6 → x2 ≤ x1 → Q (.inl (some (.int 0))) (jG0 sc) h2)
    (v6 : ∀ (x1 : Int32) (h1 : jH), P1 x1 h1 → ∀ (x2 : Int32) (h2 : jH), P2 x2 h2 → (((l0 >>> 28) &&& 3) + 6) = 6 → ¬ x2 ≤ x1 → Q (.inl (some (.int 1))) (jG0 sc) h2) :
    WP mX1_compares Q 0 [some (.int l0), some (.int l1), some (.int l2), some (.int l3), none, none, none] [] (jG0 sc) h (0, 0) := by
  exact (bX1_compares_0 k1 (fun x1 h1 p1 => (k2 x1 h1 p1)) (fun x1 h1 p1 x2 h2 p2 => (bX1_compares_27 (fun c1 => (bX1_compares_60 (fun c2 => (bX1_compares_82 (fun c3 => (bX1_compares_93 (bX1_compares_94 (by decide) (v1 x1 h1 p1 x2 h2 p2 c1 c2 c3)))) (fun c3 => (bX1_compares_89 (bX1_compares_94 (by decide) (v2 x1 h1 p1 x2 h2 p2 c1 c2 c3)))))) (fun c2 => (bX1_compares_67 (fun c4 => (bX1_compares_78 (bX1_compares_94 (by decide) (v3 x1 h1 p1 x2 h2 p2 c1 c2 c4)))) (fun c4 => (bX1_compares_74 (bX1_compares_94 (by decide) (v4 x1 h1 p1 x2 h2 p2 c1 c2 c4)))))))) (fun c1 => (bX1_compares_47 (fun c5 => (bX1_compares_58 (bX1_compares_59 (by decide) (v5 x1 h1 p1 x2 h2 p2 c1 c5)))) (fun c5 => (bX1_compares_54 (bX1_compares_59 (by decide) (v6 x1 h1 p1 x2 h2 p2 c1 c5)))))))))
theorem dX1_valueOf_0 : decode (mC mX1_valueOf) 0 = .ok (.iload_n 0, 1) := by decide +kernel
theorem dX1_valueOf_1 : decode (mC mX1_valueOf) 1 = .ok (.ifCond .ne 5, 3) := by decide +kernel
theorem dX1_valueOf_4 : decode (mC mX1_valueOf) 4 = .ok (.iload_n 1, 1) := by decide +kernel
theorem dX1_valueOf_5 : decode (mC mX1_valueOf) 5 = .ok (.ireturn, 1) := by decide +kernel
theorem dX1_valueOf_6 : decode (mC mX1_valueOf) 6 = .ok (.iload_n 0, 1) := by decide +kernel
theorem dX1_valueOf_7 : decode (mC mX1_valueOf) 7 = .ok (.iconst 1, 1) := by decide +kernel
theorem dX1_valueOf_8 : decode (mC mX1_valueOf) 8 = .ok (.if_icmp .ne 5, 3) := by decide +kernel
theorem dX1_valueOf_11 : decode (mC mX1_valueOf) 11 = .ok (.iload_n 2, 1) := by decide +kernel
theorem dX1_valueOf_12 : decode (mC mX1_valueOf) 12 = .ok (.ireturn, 1) := by decide +kernel
theorem dX1_valueOf_13 : decode (mC mX1_valueOf) 13 = .ok (.iload_n 0, 1) := by decide +kernel
theorem dX1_valueOf_14 : decode (mC mX1_valueOf) 14 = .ok (.iconst 2, 1) := by decide +kernel
theorem dX1_valueOf_15 : decode (mC mX1_valueOf) 15 = .ok (.if_icmp .ne 7, 3) := by decide +kernel
theorem dX1_valueOf_18 : decode (mC mX1_valueOf) 18 = .ok (.iload_n 3, 1) := by decide +kernel
theorem dX1_valueOf_19 : decode (mC mX1_valueOf) 19 = .ok (.goto 7, 3) := by decide +kernel
theorem dX1_valueOf_22 : decode (mC mX1_valueOf) 22 = .ok (.iload_n 0, 1) := by decide +kernel
theorem dX1_valueOf_23 : decode (mC mX1_valueOf) 23 = .ok (.bipush 10, 2) := by decide +kernel
theorem dX1_valueOf_25 : decode (mC mX1_valueOf) 25 = .ok (.isub, 1) := by decide +kernel
theorem dX1_valueOf_26 : decode (mC mX1_valueOf) 26 = .ok (.ireturn, 1) := by decide +kernel
set_option maxRecDepth 100000 in
theorem bX1_valueOf_0 {sc : Nat × (Nat → Int32)} {h : jH} {Q : jQ} {l0 l1 l2 l3 : Int32}
    (v1 : ¬ l0 = 0 → WP mX1_valueOf Q 6 [some (.int l0), some (.int l1), some (.int l2), some (.int l3)] [] (jG0 sc) h (0, 0))
    (v2 : l0 = 0 → WP mX1_valueOf Q 4 [some (.int l0), some (.int l1), some (.int l2), some (.int l3)] [] (jG0 sc) h (0, 0)) :
    WP mX1_valueOf Q 0 [some (.int l0), some (.int l1), some (.int l2), some (.int l3)] [] (jG0 sc) h (0, 0) := by
  refine j_iload_n (i := 0) rfl dX1_valueOf_0 ?_
  refine j_if_ne (off := 5) 6 dX1_valueOf_1 (by decide) (fun c1 => ?_) (fun c1 => ?_)
  · exact j_le [some (.int l0), some (.int l1), some (.int l2), some (.int l3)] (And.intro rfl (And.intro rfl (And.intro rfl (And.intro rfl True.intro)))) (v1 c1)
  · exact j_le [some (.int l0), some (.int l1), some (.int l2), some (.int l3)] (And.intro rfl (And.intro rfl (And.intro rfl (And.intro rfl True.intro)))) (v2 c1)
set_option maxRecDepth 100000 in
theorem bX1_valueOf_4 {sc : Nat × (Nat → Int32)} {h : jH} {Q : jQ} {l0 l1 l2 l3 : Int32}
    (v1 : Q (.inl (some (.int l1))) (jG0 sc) h) :
    WP mX1_valueOf Q 4 [some (.int l0), some (.int l1), some (.int l2), some (.int l3)] [] (jG0 sc) h (0, 0) := by
  refine j_iload_n (i := 1) rfl dX1_valueOf_4 ?_
  exact j_iret rfl rfl (Nat.zero_le _) (Nat.zero_le _) dX1_valueOf_5 v1
set_option maxRecDepth 100000 in
theorem bX1_valueOf_6 {sc : Nat × (Nat → Int32)} {h : jH} {Q : jQ} {l0 l1 l2 l3 : Int32}
    (v1 : ¬ l0 = 1 → WP mX1_valueOf Q 13 [some (.int l0), some (.int l1), some (.int l2), some (.int l3)] [] (jG0 sc) h (0, 0))
    (v2 : l0 = 1 → WP mX1_valueOf Q 11 [some (.int l0), some (.int l1), some (.int l2), some (.int l3)] [] (jG0 sc) h (0, 0)) :
    WP mX1_valueOf Q 6 [some (.int l0), some (.int l1), some (.int l2), some (.int l3)] [] (jG0 sc) h (0, 0) := by
  refine j_iload_n (i := 0) rfl dX1_valueOf_6 ?_
  refine j_iconst (n := 1) 1 (by decide) dX1_valueOf_7 ?_
  refine j_icmp_ne (off := 5) 13 dX1_valueOf_8 (by decide) (fun c1 => ?_) (fun c1 => ?_)
  · exact j_le [some (.int l0), some (.int l1), some (.int l2), some (.int l3)] (And.intro rfl (And.intro rfl (And.intro rfl (And.intro rfl True.intro)))) (v1 c1)
  · exact j_le [some (.int l0), some (.int l1), some (.int l2), some (.int l3)] (And.intro rfl (And.intro rfl (And.intro rfl (And.intro rfl True.intro)))) (v2 c1)
set_option maxRecDepth 100000 in
theorem bX1_valueOf_11 {sc : Nat × (Nat → Int32)} {h : jH} {Q : jQ} {l0 l1 l2 l3 : Int32}
    (v1 : Q (.inl (some (.int l2))) (jG0 sc) h) :
    WP mX1_valueOf Q 11 [some (.int l0), some (.int l1), some (.int l2), some (.int l3)] [] (jG0 sc) h (0, 0) := by
  refine j_iload_n (i := 2) rfl dX1_valueOf_11 ?_
  exact j_iret rfl rfl (Nat.zero_le _) (Nat.zero_le _) dX1_valueOf_12 v1
set_option maxRecDepth 100000 in
theorem bX1_valueOf_13 {sc : Nat × (Nat → Int32)} {h : jH} {Q : jQ} {l0 l1 l2 l3 : Int32}
    (v1 : ¬ l0 = 2 → WP mX1_valueOf Q 22 [some (.int l0), some (.int l1), some (.int l2), some (.int l3)] [] (jG0 sc) h (0, 0))
    (v2 : l0 = 2 → WP mX1_valueOf Q 18 [some (.int l0), some (.int l1), some (.int l2), some (.int l3)] [] (jG0 sc) h (0, 0)) :
    WP mX1_valueOf Q 13 [some (.int l0), some (.int l1), some (.int l2), some (.int l3)] [] (jG0 sc) h (0, 0) := by
  refine j_iload_n (i := 0) rfl dX1_valueOf_13 ?_
  refine j_iconst (n := 2) 2 (by decide) dX1_valueOf_14 ?_
  refine j_icmp_ne (off := 7) 22 dX1_valueOf_15 (by decide) (fun c1 => ?_) (fun c1 => ?_)
  · exact j_le [some (.int l0), some (.int l1), some (.int l2), some (.int l3)] (And.intro rfl (And.intro rfl (And.intro rfl (And.intro rfl True.intro)))) (v1 c1)
  · exact j_le [some (.int l0), some (.int l1), some (.int l2), some (.int l3)] (And.intro rfl (And.intro rfl (And.intro rfl (And.intro rfl True.intro)))) (v2 c1)
set_option maxRecDepth 100000 in
theorem bX1_valueOf_18 {sc : Nat × (Nat → Int32)} {h : jH} {Q : jQ} {l0 l1 l2 l3 : Int32}
    (v1 : WP mX1_valueOf Q 26 [some (.int l0), some (.int l1), some (.int l2), some (.int l3)] [.int l3] (jG0 sc) h (0, 0)) :
    WP mX1_valueOf Q 18 [some (.int l0), some (.int l1), some (.int l2), some (.int l3)] [] (jG0 sc) h (0, 0) := by
  refine j_iload_n (i := 3) rfl dX1_valueOf_18 ?_
  refine j_goto (off := 7) 26 dX1_valueOf_19 (by decide) ?_
  exact j_le [some (.int l0), some (.int l1), some (.int l2), some (.int l3)] (And.intro rfl (And.intro rfl (And.intro rfl (And.intro rfl True.intro)))) v1
set_option maxRecDepth 100000 in
theorem bX1_valueOf_22 {sc : Nat × (Nat → Int32)} {h : jH} {Q : jQ} {l0 l1 l2 l3 : Int32}
    (v1 : WP mX1_valueOf Q 26 [some (.int l0), some (.int l1), some (.int l2), some (.int l3)] [.int (l0 - 10)] (jG0 sc) h (0, 0)) :
    WP mX1_valueOf Q 22 [some (.int l0), some (.int l1), some (.int l2), some (.int l3)] [] (jG0 sc) h (0, 0) := by
  refine j_iload_n (i := 0) rfl dX1_valueOf_22 ?_
  refine j_bipush (n := 10) 10 (by decide) dX1_valueOf_23 ?_
  refine j_isub dX1_valueOf_25 ?_
  exact j_le [some (.int l0), some (.int l1), some (.int l2), some (.int l3)] (And.intro rfl (And.intro rfl (And.intro rfl (And.intro rfl True.intro)))) v1
set_option maxRecDepth 100000 in
theorem bX1_valueOf_26 {sc : Nat × (Nat → Int32)} {h : jH} {Q : jQ} {l0 l1 l2 l3 s0 : Int32}
    (v1 : Q (.inl (some (.int s0))) (jG0 sc) h) :
    WP mX1_valueOf Q 26 [some (.int l0), some (.int l1), some (.int l2), some (.int l3)] [.int s0] (jG0 sc) h (0, 0) := by
  exact j_iret rfl rfl (Nat.zero_le _) (Nat.zero_le _) dX1_valueOf_26 v1
set_option maxRecDepth 100000 in
theorem rX1_valueOf_0 {sc : Nat × (Nat → Int32)} {h : jH} {Q : jQ} {l0 l1 l2 l3 : Int32}
    (v1 : ¬ l0 = 0 → ¬ l0 = 1 → ¬ l0 = 2 → Q (.inl (some (.int (l0 - 10)))) (jG0 sc) h)
    (v2 : ¬ l0 = 0 → ¬ l0 = 1 → l0 = 2 → Q (.inl (some (.int l3))) (jG0 sc) h)
    (v3 : ¬ l0 = 0 → l0 = 1 → Q (.inl (some (.int l2))) (jG0 sc) h)
    (v4 : l0 = 0 → Q (.inl (some (.int l1))) (jG0 sc) h) :
    WP mX1_valueOf Q 0 [some (.int l0), some (.int l1), some (.int l2), some (.int l3)] [] (jG0 sc) h (0, 0) := by
  exact (bX1_valueOf_0 (fun c1 => (bX1_valueOf_6 (fun c2 => (bX1_valueOf_13 (fun c3 => (bX1_valueOf_22 (bX1_valueOf_26 (v1 c1 c2 c3)))) (fun c3 => (bX1_valueOf_18 (bX1_valueOf_26 (v2 c1 c2 c3)))))) (fun c2 => (bX1_valueOf_11 (v3 c1 c2))))) (fun c1 => (bX1_valueOf_4 (v4 c1))))
theorem dX1_copyOf_0 : decode (mC mX1_copyOf) 0 = .ok (.iconst 0, 1) := by decide +kernel
theorem dX1_copyOf_1 : decode (mC mX1_copyOf) 1 = .ok (.istore_n 2, 1) := by decide +kernel
theorem dX1_copyOf_2 : decode (mC mX1_copyOf) 2 = .ok (.iload_n 2, 1) := by decide +kernel
theorem dX1_copyOf_3 : decode (mC mX1_copyOf) 3 = .ok (.sipush 400, 3) := by decide +kernel
theorem dX1_copyOf_6 : decode (mC mX1_copyOf) 6 = .ok (.if_icmp .ge 21, 3) := by decide +kernel
theorem dX1_copyOf_9 : decode (mC mX1_copyOf) 9 = .ok (.aload_n 0, 1) := by decide +kernel
theorem dX1_copyOf_10 : decode (mC mX1_copyOf) 10 = .ok (.getfield 9, 3) := by decide +kernel
theorem dX1_copyOf_13 : decode (mC mX1_copyOf) 13 = .ok (.iload_n 2, 1) := by decide +kernel
theorem dX1_copyOf_14 : decode (mC mX1_copyOf) 14 = .ok (.aload_n 1, 1) := by decide +kernel
theorem dX1_copyOf_15 : decode (mC mX1_copyOf) 15 = .ok (.getfield 9, 3) := by decide +kernel
theorem dX1_copyOf_18 : decode (mC mX1_copyOf) 18 = .ok (.iload_n 2, 1) := by decide +kernel
theorem dX1_copyOf_19 : decode (mC mX1_copyOf) 19 = .ok (.iaload, 1) := by decide +kernel
theorem dX1_copyOf_20 : decode (mC mX1_copyOf) 20 = .ok (.iastore, 1) := by decide +kernel
theorem dX1_copyOf_21 : decode (mC mX1_copyOf) 21 = .ok (.iinc 2 1, 3) := by decide +kernel
theorem dX1_copyOf_24 : decode (mC mX1_copyOf) 24 = .ok (.goto (-22), 3) := by decide +kernel
theorem dX1_copyOf_27 : decode (mC mX1_copyOf) 27 = .ok (.aload_n 0, 1) := by decide +kernel
theorem dX1_copyOf_28 : decode (mC mX1_copyOf) 28 = .ok (.aload_n 1, 1) := by decide +kernel
theorem dX1_copyOf_29 : decode (mC mX1_copyOf) 29 = .ok (.getfield 15, 3) := by decide +kernel
theorem dX1_copyOf_32 : decode (mC mX1_copyOf) 32 = .ok (.putfield 15, 3) := by decide +kernel
theorem dX1_copyOf_35 : decode (mC mX1_copyOf) 35 = .ok (.return_, 1) := by decide +kernel
set_option maxRecDepth 100000 in
theorem bX1_copyOf_0 {sc : Nat × (Nat → Int32)} {h : jH} {Q : jQ} {a : Nat} {t : Nat} (a_h : jI1 a) (t_h : jI1 t)
    (v1 : WP mX1_copyOf Q 2 [some (.ref t), some (.ref a), some (.int 0)] [] (jG0 sc) h (0, 0)) :
    WP mX1_copyOf Q 0 [some (.ref t), some (.ref a), none] [] (jG0 sc) h (0, 0) := by
  obtain ⟨a_lt1, a_K0, a_R0_0, a_K1, a_L1⟩ := a_h
  have a_lt0 : a + 0 < jN (jG0 sc) := Nat.lt_of_succ_lt a_lt1
  obtain ⟨t_lt1, t_K0, t_R0_0, t_K1, t_L1⟩ := t_h
  have t_lt0 : t + 0 < jN (jG0 sc) := Nat.lt_of_succ_lt t_lt1
  refine j_iconst (n := 0) 0 (by decide) dX1_copyOf_0 ?_
  refine j_istore_n (i := 2) dX1_copyOf_1 (Nat.le_of_ble_eq_true rfl) ?_
  exact j_le [some (.ref t), some (.ref a), some (.int 0)] (And.intro rfl (And.intro rfl (And.intro rfl True.intro))) v1
set_option maxRecDepth 100000 in
theorem bX1_copyOf_2 {sc : Nat × (Nat → Int32)} {h : jH} {Q : jQ} {a : Nat} {t : Nat} {l2 : Int32} (a_h : jI1 a) (t_h : jI1 t)
    (v1 : 400 ≤ l2 → WP mX1_copyOf Q 27 [some (.ref t), some (.ref a), some (.int l2)] [] (jG0 sc) h (0, 0))
    (v2 : ¬ 400 ≤ l2 → WP mX1_copyOf Q 9 [some (.ref t), some (.ref a), some (.int l2)] [] (jG0 sc) h (0, 0)) :
    WP mX1_copyOf Q 2 [some (.ref t), some (.ref a), some (.int l2)] [] (jG0 sc) h (0, 0) := by
  obtain ⟨a_lt1, a_K0, a_R0_0, a_K1, a_L1⟩ := a_h
  have a_lt0 : a + 0 < jN (jG0 sc) := Nat.lt_of_succ_lt a_lt1
  obtain ⟨t_lt1, t_K0, t_R0_0, t_K1, t_L1⟩ := t_h
  have t_lt0 : t + 0 < jN (jG0 sc) := Nat.lt_of_succ_lt t_lt1
  refine j_iload_n (i := 2) rfl dX1_copyOf_2 ?_
  refine j_sipush (n := 400) 400 (by decide) dX1_copyOf_3 ?_
  refine j_icmp_ge (off := 21) 27 dX1_copyOf_6 (by decide) (fun c1 => ?_) (fun c1 => ?_)
  · exact j_le [some (.ref t), some (.ref a), some (.int l2)] (And.intro rfl (And.intro rfl (And.intro rfl True.intro))) (v1 c1)
  · exact j_le [some (.ref t), some (.ref a), some (.int l2)] (And.intro rfl (And.intro rfl (And.intro rfl True.intro))) (v2 c1)
set_option maxRecDepth 100000 in
theorem bX1_copyOf_9 {sc : Nat × (Nat → Int32)} {h : jH} {Q : jQ} {a : Nat} {t : Nat} {l2 : Int32} (a_h : jI1 a) (t_h : jI1 t)
    (o1 : vp_in l2 400)
    (o2 : vp_in l2 400)
    (v1 : WP mX1_copyOf Q 2 [some (.ref t), some (.ref a), some (.int (l2 + 1))] [] (jG0 sc) (jput h (t + 1) l2.toNatClampNeg (h (a + 1) l2.toNatClampNeg)) (0, 0)) :
    WP mX1_copyOf Q 9 [some (.ref t), some (.ref a), some (.int l2)] [] (jG0 sc) h (0, 0) := by
  obtain ⟨a_lt1, a_K0, a_R0_0, a_K1, a_L1⟩ := a_h
  have a_lt0 : a + 0 < jN (jG0 sc) := Nat.lt_of_succ_lt a_lt1
  obtain ⟨t_lt1, t_K0, t_R0_0, t_K1, t_L1⟩ := t_h
  have t_lt0 : t + 0 < jN (jG0 sc) := Nat.lt_of_succ_lt t_lt1
  refine j_aload_n (i := 0) rfl dX1_copyOf_9 ?_
  refine j_getR (idx := 9) (ci := 1) (k := 0) (nest := false) (show (1, 9, 1, 0, false) ∈ jFT by decide) rfl (t_lt0) t_K0 (a := (t + 1)) t_R0_0 dX1_copyOf_10 ?_
  refine j_iload_n (i := 2) rfl dX1_copyOf_13 ?_
  refine j_aload_n (i := 1) rfl dX1_copyOf_14 ?_
  refine j_getR (idx := 9) (ci := 1) (k := 0) (nest := false) (show (1, 9, 1, 0, false) ∈ jFT by decide) rfl (a_lt0) a_K0 (a := (a + 1)) a_R0_0 dX1_copyOf_15 ?_
  refine j_iload_n (i := 2) rfl dX1_copyOf_18 ?_
  refine j_iald (a_lt1) a_K1 (by rw [show jL (jG0 sc) (a + 1) = 400 from a_L1]; exact o1) dX1_copyOf_19 ?_
  refine j_iast (t_lt1) t_K1 (by rw [show jL (jG0 sc) (t + 1) = 400 from t_L1]; exact o2) dX1_copyOf_20 ?_
  refine j_iinc (i := 2) (n := 1) rfl dX1_copyOf_21 (Nat.le_of_ble_eq_true rfl) ?_
  refine j_eqlv [some (.ref t), some (.ref a), some (.int (l2 + 1))] rfl ?_
  refine j_goto (off := -22) 2 dX1_copyOf_24 (by decide) ?_
  exact j_le [some (.ref t), some (.ref a), some (.int (l2 + 1))] (And.intro rfl (And.intro rfl (And.intro rfl True.intro))) v1
set_option maxRecDepth 100000 in
theorem bX1_copyOf_27 {sc : Nat × (Nat → Int32)} {h : jH} {Q : jQ} {a : Nat} {t : Nat} {l2 : Int32} (a_h : jI1 a) (t_h : jI1 t)
    (v1 : Q (.inl none) (jG0 sc) (jput h t 1 (h a 1))) :
    WP mX1_copyOf Q 27 [some (.ref t), some (.ref a), some (.int l2)] [] (jG0 sc) h (0, 0) := by
  obtain ⟨a_lt1, a_K0, a_R0_0, a_K1, a_L1⟩ := a_h
  have a_lt0 : a + 0 < jN (jG0 sc) := Nat.lt_of_succ_lt a_lt1
  obtain ⟨t_lt1, t_K0, t_R0_0, t_K1, t_L1⟩ := t_h
  have t_lt0 : t + 0 < jN (jG0 sc) := Nat.lt_of_succ_lt t_lt1
  refine j_aload_n (i := 0) rfl dX1_copyOf_27 ?_
  refine j_aload_n (i := 1) rfl dX1_copyOf_28 ?_
  refine j_getI (idx := 15) (ci := 1) (k := 1) (nest := false) (show (1, 15, 1, 1, false) ∈ jFT by decide) rfl (a_lt0) a_K0 dX1_copyOf_29 ?_
  refine j_putI (idx := 15) (ci := 1) (k := 1) (nest := false) (show (1, 15, 1, 1, false) ∈ jFT by decide) rfl rfl rfl rfl (t_lt0) t_K0 dX1_copyOf_32 ?_
  exact j_vret rfl (Nat.zero_le _) (Nat.zero_le _) dX1_copyOf_35 v1
set_option maxRecDepth 100000 in
theorem rX1_copyOf_0 {sc : Nat × (Nat → Int32)} {h : jH} {Q : jQ} {a : Nat} {t : Nat} (a_h : jI1 a) (t_h : jI1 t)
    (v1 : WP mX1_copyOf Q 2 [some (.ref t), some (.ref a), some (.int 0)] [] (jG0 sc) h (0, 0)) :
    WP mX1_copyOf Q 0 [some (.ref t), some (.ref a), none] [] (jG0 sc) h (0, 0) := by
  exact (bX1_copyOf_0 a_h t_h v1)
set_option maxRecDepth 100000 in
theorem rX1_copyOf_2 {sc : Nat × (Nat → Int32)} {h : jH} {Q : jQ} {a : Nat} {t : Nat} {l2 : Int32} (a_h : jI1 a) (t_h : jI1 t)
    (v1 : 400 ≤ l2 → Q (.inl none) (jG0 sc) (jput h t 1 (h a 1)))
    (o1 : ¬ 400 ≤ l2 → vp_in l2 400)
    (v2 : ¬ 400 ≤ l2 → WP mX1_copyOf Q 2 [some (.ref t), some (.ref a), some (.int (l2 + 1))] [] (jG0 sc) (jput h (t + 1) l2.toNatClampNeg (h (a + 1) l2.toNatClampNeg)) (0, 0)) :
    WP mX1_copyOf Q 2 [some (.ref t), some (.ref a), some (.int l2)] [] (jG0 sc) h (0, 0) := by
  exact (bX1_copyOf_2 a_h t_h (fun c1 => (bX1_copyOf_27 a_h t_h (v1 c1))) (fun c1 => (bX1_copyOf_9 a_h t_h (o1 c1) (o1 c1) (v2 c1))))
theorem dX3_of_0 : decode (mC mX3_of) 0 = .ok (.aload_n 0, 1) := by decide +kernel
theorem dX3_of_1 : decode (mC mX3_of) 1 = .ok (.iconst 0, 1) := by decide +kernel
theorem dX3_of_2 : decode (mC mX3_of) 2 = .ok (.putfield 37, 3) := by decide +kernel
theorem dX3_of_5 : decode (mC mX3_of) 5 = .ok (.iconst 0, 1) := by decide +kernel
theorem dX3_of_6 : decode (mC mX3_of) 6 = .ok (.istore_n 2, 1) := by decide +kernel
theorem dX3_of_7 : decode (mC mX3_of) 7 = .ok (.iload_n 2, 1) := by decide +kernel
theorem dX3_of_8 : decode (mC mX3_of) 8 = .ok (.bipush 10, 2) := by decide +kernel
theorem dX3_of_10 : decode (mC mX3_of) 10 = .ok (.if_icmp .ge 103, 3) := by decide +kernel
theorem dX3_of_13 : decode (mC mX3_of) 13 = .ok (.aload_n 0, 1) := by decide +kernel
theorem dX3_of_14 : decode (mC mX3_of) 14 = .ok (.getfield 21, 3) := by decide +kernel
theorem dX3_of_17 : decode (mC mX3_of) 17 = .ok (.iload_n 2, 1) := by decide +kernel
theorem dX3_of_18 : decode (mC mX3_of) 18 = .ok (.aload_n 0, 1) := by decide +kernel
theorem dX3_of_19 : decode (mC mX3_of) 19 = .ok (.getfield 37, 3) := by decide +kernel
theorem dX3_of_22 : decode (mC mX3_of) 22 = .ok (.iastore, 1) := by decide +kernel
theorem dX3_of_23 : decode (mC mX3_of) 23 = .ok (.aload_n 0, 1) := by decide +kernel
theorem dX3_of_24 : decode (mC mX3_of) 24 = .ok (.getfield 24, 3) := by decide +kernel
theorem dX3_of_27 : decode (mC mX3_of) 27 = .ok (.iload_n 2, 1) := by decide +kernel
theorem dX3_of_28 : decode (mC mX3_of) 28 = .ok (.iconst (-1), 1) := by decide +kernel
theorem dX3_of_29 : decode (mC mX3_of) 29 = .ok (.iastore, 1) := by decide +kernel
theorem dX3_of_30 : decode (mC mX3_of) 30 = .ok (.iload_n 2, 1) := by decide +kernel
theorem dX3_of_31 : decode (mC mX3_of) 31 = .ok (.aload_n 1, 1) := by decide +kernel
theorem dX3_of_32 : decode (mC mX3_of) 32 = .ok (.getfield 40, 3) := by decide +kernel
theorem dX3_of_35 : decode (mC mX3_of) 35 = .ok (.if_icmp .ge 39, 3) := by decide +kernel
theorem dX3_of_38 : decode (mC mX3_of) 38 = .ok (.aload_n 0, 1) := by decide +kernel
theorem dX3_of_39 : decode (mC mX3_of) 39 = .ok (.iload_n 2, 1) := by decide +kernel
theorem dX3_of_40 : decode (mC mX3_of) 40 = .ok (.aload_n 1, 1) := by decide +kernel
theorem dX3_of_41 : decode (mC mX3_of) 41 = .ok (.iload_n 2, 1) := by decide +kernel
theorem dX3_of_42 : decode (mC mX3_of) 42 = .ok (.invokevirtual 43, 3) := by decide +kernel
theorem dX3_of_45 : decode (mC mX3_of) 45 = .ok (.invokevirtual 47, 3) := by decide +kernel
theorem dX3_of_48 : decode (mC mX3_of) 48 = .ok (.aload_n 0, 1) := by decide +kernel
theorem dX3_of_49 : decode (mC mX3_of) 49 = .ok (.iload_n 2, 1) := by decide +kernel
theorem dX3_of_50 : decode (mC mX3_of) 50 = .ok (.aload_n 1, 1) := by decide +kernel
theorem dX3_of_51 : decode (mC mX3_of) 51 = .ok (.iload_n 2, 1) := by decide +kernel
theorem dX3_of_52 : decode (mC mX3_of) 52 = .ok (.invokevirtual 43, 3) := by decide +kernel
theorem dX3_of_55 : decode (mC mX3_of) 55 = .ok (.invokevirtual 51, 3) := by decide +kernel
theorem dX3_of_58 : decode (mC mX3_of) 58 = .ok (.aload_n 0, 1) := by decide +kernel
theorem dX3_of_59 : decode (mC mX3_of) 59 = .ok (.iload_n 2, 1) := by decide +kernel
theorem dX3_of_60 : decode (mC mX3_of) 60 = .ok (.aload_n 1, 1) := by decide +kernel
theorem dX3_of_61 : decode (mC mX3_of) 61 = .ok (.iload_n 2, 1) := by decide +kernel
theorem dX3_of_62 : decode (mC mX3_of) 62 = .ok (.invokevirtual 43, 3) := by decide +kernel
theorem dX3_of_65 : decode (mC mX3_of) 65 = .ok (.invokevirtual 54, 3) := by decide +kernel
theorem dX3_of_68 : decode (mC mX3_of) 68 = .ok (.aload_n 0, 1) := by decide +kernel
theorem dX3_of_69 : decode (mC mX3_of) 69 = .ok (.iload_n 2, 1) := by decide +kernel
theorem dX3_of_70 : decode (mC mX3_of) 70 = .ok (.aload_n 1, 1) := by decide +kernel
theorem dX3_of_71 : decode (mC mX3_of) 71 = .ok (.invokevirtual 57, 3) := by decide +kernel
theorem dX3_of_74 : decode (mC mX3_of) 74 = .ok (.aload_n 0, 1) := by decide +kernel
theorem dX3_of_75 : decode (mC mX3_of) 75 = .ok (.getfield 27, 3) := by decide +kernel
theorem dX3_of_78 : decode (mC mX3_of) 78 = .ok (.iload_n 2, 1) := by decide +kernel
theorem dX3_of_79 : decode (mC mX3_of) 79 = .ok (.aload_n 0, 1) := by decide +kernel
theorem dX3_of_80 : decode (mC mX3_of) 80 = .ok (.getfield 37, 3) := by decide +kernel
theorem dX3_of_83 : decode (mC mX3_of) 83 = .ok (.aload_n 0, 1) := by decide +kernel
theorem dX3_of_84 : decode (mC mX3_of) 84 = .ok (.getfield 21, 3) := by decide +kernel
theorem dX3_of_87 : decode (mC mX3_of) 87 = .ok (.iload_n 2, 1) := by decide +kernel
theorem dX3_of_88 : decode (mC mX3_of) 88 = .ok (.iaload, 1) := by decide +kernel
theorem dX3_of_89 : decode (mC mX3_of) 89 = .ok (.isub, 1) := by decide +kernel
theorem dX3_of_90 : decode (mC mX3_of) 90 = .ok (.aload_n 0, 1) := by decide +kernel
theorem dX3_of_91 : decode (mC mX3_of) 91 = .ok (.getfield 24, 3) := by decide +kernel
theorem dX3_of_94 : decode (mC mX3_of) 94 = .ok (.iload_n 2, 1) := by decide +kernel
theorem dX3_of_95 : decode (mC mX3_of) 95 = .ok (.iaload, 1) := by decide +kernel
theorem dX3_of_96 : decode (mC mX3_of) 96 = .ok (.iconst (-1), 1) := by decide +kernel
theorem dX3_of_97 : decode (mC mX3_of) 97 = .ok (.if_icmp .ne 7, 3) := by decide +kernel
theorem dX3_of_100 : decode (mC mX3_of) 100 = .ok (.iconst 0, 1) := by decide +kernel
theorem dX3_of_101 : decode (mC mX3_of) 101 = .ok (.goto 4, 3) := by decide +kernel
theorem dX3_of_104 : decode (mC mX3_of) 104 = .ok (.iconst 1, 1) := by decide +kernel
theorem dX3_of_105 : decode (mC mX3_of) 105 = .ok (.isub, 1) := by decide +kernel
theorem dX3_of_106 : decode (mC mX3_of) 106 = .ok (.iastore, 1) := by decide +kernel
theorem dX3_of_107 : decode (mC mX3_of) 107 = .ok (.iinc 2 1, 3) := by decide +kernel
theorem dX3_of_110 : decode (mC mX3_of) 110 = .ok (.goto (-103), 3) := by decide +kernel
theorem dX3_of_113 : decode (mC mX3_of) 113 = .ok (.return_, 1) := by decide +kernel
set_option maxRecDepth 100000 in
theorem bX3_of_0 {sc : Nat × (Nat → Int32)} {h : jH} {Q : jQ} {a : Nat} {t : Nat} (a_h : jI4 a) (t_h : jI3 t)
    (v1 : WP mX3_of Q 7 [some (.ref t), some (.ref a), some (.int 0)] [] (jG0 sc) (jput h t 6 0) (0, 0)) :
    WP mX3_of Q 0 [some (.ref t), some (.ref a), none] [] (jG0 sc) h (0, 0) := by
  obtain ⟨a_lt1, a_K0, a_R0_0, a_K1, a_L1⟩ := a_h
  have a_lt0 : a + 0 < jN (jG0 sc) := Nat.lt_of_succ_lt a_lt1
  obtain ⟨t_lt6, t_K0, t_R0_0, t_K1, t_L1, t_R0_1, t_K2, t_L2, t_R0_2, t_K3, t_L3, t_R0_3, t_K4, t_L4, t_R0_4, t_K5, t_L5, t_R0_5, t_K6, t_L6⟩ := t_h
  have t_lt5 : t + 5 < jN (jG0 sc) := Nat.lt_of_succ_lt t_lt6
  have t_lt4 : t + 4 < jN (jG0 sc) := Nat.lt_of_succ_lt t_lt5
  have t_lt3 : t + 3 < jN (jG0 sc) := Nat.lt_of_succ_lt t_lt4
  have t_lt2 : t + 2 < jN (jG0 sc) := Nat.lt_of_succ_lt t_lt3
  have t_lt1 : t + 1 < jN (jG0 sc) := Nat.lt_of_succ_lt t_lt2
  have t_lt0 : t + 0 < jN (jG0 sc) := Nat.lt_of_succ_lt t_lt1
  refine j_aload_n (i := 0) rfl dX3_of_0 ?_
  refine j_iconst (n := 0) 0 (by decide) dX3_of_1 ?_
  refine j_putI (idx := 37) (ci := 3) (k := 6) (nest := false) (show (3, 37, 3, 6, false) ∈ jFT by decide) rfl rfl rfl rfl (t_lt0) t_K0 dX3_of_2 ?_
  refine j_iconst (n := 0) 0 (by decide) dX3_of_5 ?_
  refine j_istore_n (i := 2) dX3_of_6 (Nat.le_of_ble_eq_true rfl) ?_
  exact j_le [some (.ref t), some (.ref a), some (.int 0)] (And.intro rfl (And.intro rfl (And.intro rfl True.intro))) v1
set_option maxRecDepth 100000 in
theorem bX3_of_7 {sc : Nat × (Nat → Int32)} {h : jH} {Q : jQ} {a : Nat} {t : Nat} {l2 : Int32} (a_h : jI4 a) (t_h : jI3 t)
    (v1 : 10 ≤ l2 → WP mX3_of Q 113 [some (.ref t), some (.ref a), some (.int l2)] [] (jG0 sc) h (0, 0))
    (v2 : ¬ 10 ≤ l2 → WP mX3_of Q 13 [some (.ref t), some (.ref a), some (.int l2)] [] (jG0 sc) h (0, 0)) :
    WP mX3_of Q 7 [some (.ref t), some (.ref a), some (.int l2)] [] (jG0 sc) h (0, 0) := by
  obtain ⟨a_lt1, a_K0, a_R0_0, a_K1, a_L1⟩ := a_h
  have a_lt0 : a + 0 < jN (jG0 sc) := Nat.lt_of_succ_lt a_lt1
  obtain ⟨t_lt6, t_K0, t_R0_0, t_K1, t_L1, t_R0_1, t_K2, t_L2, t_R0_2, t_K3, t_L3, t_R0_3, t_K4, t_L4, t_R0_4, t_K5, t_L5, t_R0_5, t_K6, t_L6⟩ := t_h
  have t_lt5 : t + 5 < jN (jG0 sc) := Nat.lt_of_succ_lt t_lt6
  have t_lt4 : t + 4 < jN (jG0 sc) := Nat.lt_of_succ_lt t_lt5
  have t_lt3 : t + 3 < jN (jG0 sc) := Nat.lt_of_succ_lt t_lt4
  have t_lt2 : t + 2 < jN (jG0 sc) := Nat.lt_of_succ_lt t_lt3
  have t_lt1 : t + 1 < jN (jG0 sc) := Nat.lt_of_succ_lt t_lt2
  have t_lt0 : t + 0 < jN (jG0 sc) := Nat.lt_of_succ_lt t_lt1
  refine j_iload_n (i := 2) rfl dX3_of_7 ?_
  refine j_bipush (n := 10) 10 (by decide) dX3_of_8 ?_
  refine j_icmp_ge (off := 103) 113 dX3_of_10 (by decide) (fun c1 => ?_) (fun c1 => ?_)
  · exact j_le [some (.ref t), some (.ref a), some (.int l2)] (And.intro rfl (And.intro rfl (And.intro rfl True.intro))) (v1 c1)
  · exact j_le [some (.ref t), some (.ref a), some (.int l2)] (And.intro rfl (And.intro rfl (And.intro rfl True.intro))) (v2 c1)
set_option maxRecDepth 100000 in
theorem bX3_of_13 {sc : Nat × (Nat → Int32)} {h : jH} {Q : jQ} {a : Nat} {t : Nat} {l2 : Int32} (a_h : jI4 a) (t_h : jI3 t)
    (o1 : vp_in l2 10)
    (o2 : vp_in l2 10)
    (v1 : ((jput (jput h (t + 4) l2.toNatClampNeg (h t 6)) (t + 5) l2.toNatClampNeg (-1)) a 1) ≤ l2 → WP mX3_of Q 74 [some (.ref t), some (.ref a), some (.int l2)] [] (jG0 sc) (jput (jput h (t + 4) l2.toNatClampNeg (h t 6)) (t + 5) l2.toNatClampNeg (-1)) (0, 0))
    (v2 : ¬ ((jput (jput h (t + 4) l2.toNatClampNeg (h t 6)) (t + 5) l2.toNatClampNeg (-1)) a 1) ≤ l2 → WP mX3_of Q 38 [some (.ref t), some (.ref a), some (.int l2)] [] (jG0 sc) (jput (jput h (t + 4) l2.toNatClampNeg (h t 6)) (t + 5) l2.toNatClampNeg (-1)) (0, 0)) :
    WP mX3_of Q 13 [some (.ref t), some (.ref a), some (.int l2)] [] (jG0 sc) h (0, 0) := by
  obtain ⟨a_lt1, a_K0, a_R0_0, a_K1, a_L1⟩ := a_h
  have a_lt0 : a + 0 < jN (jG0 sc) := Nat.lt_of_succ_lt a_lt1
  obtain ⟨t_lt6, t_K0, t_R0_0, t_K1, t_L1, t_R0_1, t_K2, t_L2, t_R0_2, t_K3, t_L3, t_R0_3, t_K4, t_L4, t_R0_4, t_K5, t_L5, t_R0_5, t_K6, t_L6⟩ := t_h
  have t_lt5 : t + 5 < jN (jG0 sc) := Nat.lt_of_succ_lt t_lt6
  have t_lt4 : t + 4 < jN (jG0 sc) := Nat.lt_of_succ_lt t_lt5
  have t_lt3 : t + 3 < jN (jG0 sc) := Nat.lt_of_succ_lt t_lt4
  have t_lt2 : t + 2 < jN (jG0 sc) := Nat.lt_of_succ_lt t_lt3
  have t_lt1 : t + 1 < jN (jG0 sc) := Nat.lt_of_succ_lt t_lt2
  have t_lt0 : t + 0 < jN (jG0 sc) := Nat.lt_of_succ_lt t_lt1
  refine j_aload_n (i := 0) rfl dX3_of_13 ?_
  refine j_getR (idx := 21) (ci := 3) (k := 3) (nest := false) (show (3, 21, 3, 3, false) ∈ jFT by decide) rfl (t_lt0) t_K0 (a := (t + 4)) t_R0_3 dX3_of_14 ?_
  refine j_iload_n (i := 2) rfl dX3_of_17 ?_
  refine j_aload_n (i := 0) rfl dX3_of_18 ?_
  refine j_getI (idx := 37) (ci := 3) (k := 6) (nest := false) (show (3, 37, 3, 6, false) ∈ jFT by decide) rfl (t_lt0) t_K0 dX3_of_19 ?_
  refine j_iast (t_lt4) t_K4 (by rw [show jL (jG0 sc) (t + 4) = 10 from t_L4]; exact o1) dX3_of_22 ?_
  refine j_aload_n (i := 0) rfl dX3_of_23 ?_
  refine j_getR (idx := 24) (ci := 3) (k := 4) (nest := false) (show (3, 24, 3, 4, false) ∈ jFT by decide) rfl (t_lt0) t_K0 (a := (t + 5)) t_R0_4 dX3_of_24 ?_
  refine j_iload_n (i := 2) rfl dX3_of_27 ?_
  refine j_iconst (n := (-1)) (-1) (by decide) dX3_of_28 ?_
  refine j_iast (t_lt5) t_K5 (by rw [show jL (jG0 sc) (t + 5) = 10 from t_L5]; exact o2) dX3_of_29 ?_
  refine j_iload_n (i := 2) rfl dX3_of_30 ?_
  refine j_aload_n (i := 1) rfl dX3_of_31 ?_
  refine j_getI (idx := 40) (ci := 4) (k := 1) (nest := true) (show (3, 40, 4, 1, true) ∈ jFT by decide) rfl (a_lt0) a_K0 dX3_of_32 ?_
  refine j_icmp_ge (off := 39) 74 dX3_of_35 (by decide) (fun c1 => ?_) (fun c1 => ?_)
  · exact j_le [some (.ref t), some (.ref a), some (.int l2)] (And.intro rfl (And.intro rfl (And.intro rfl True.intro))) (v1 c1)
  · exact j_le [some (.ref t), some (.ref a), some (.int l2)] (And.intro rfl (And.intro rfl (And.intro rfl True.intro))) (v2 c1)
set_option maxRecDepth 100000 in
theorem bX3_of_38 {sc : Nat × (Nat → Int32)} {h : jH} {Q : jQ} {a : Nat} {t : Nat} {l2 : Int32} {P1 : Int32 → jH → Prop} {P2 : jH → Prop} {P3 : Int32 → jH → Prop} (a_h : jI4 a) (t_h : jI3 t)
    (k1 : JM mX4_lineAt [.ref a, .int l2] (jG0 sc) h (jint sc P1))
    (k2 : ∀ (x1 : Int32) (h1 : jH), P1 x1 h1 → JM mX3_addNames [.ref t, .int l2, .int x1] (jG0 sc) h1 (jvoid sc P2))
    (k3 : ∀ (x1 : Int32) (h1 : jH), P1 x1 h1 → ∀ h2 : jH, P2 h2 → JM mX4_lineAt [.ref a, .int l2] (jG0 sc) h2 (jint sc P3))
    (v1 : ∀ (x1 : Int32) (h1 : jH), P1 x1 h1 → ∀ h2 : jH, P2 h2 → ∀ (x3 : Int32) (h3 : jH), P3 x3 h3 → WP mX3_of Q 55 [some (.ref t), some (.ref a), some (.int l2)] [.int x3, .int l2, .ref t] (jG0 sc) h3 (0, 0)) :
    WP mX3_of Q 38 [some (.ref t), some (.ref a), some (.int l2)] [] (jG0 sc) h (0, 0) := by
  obtain ⟨a_lt1, a_K0, a_R0_0, a_K1, a_L1⟩ := a_h
  have a_lt0 : a + 0 < jN (jG0 sc) := Nat.lt_of_succ_lt a_lt1
  obtain ⟨t_lt6, t_K0, t_R0_0, t_K1, t_L1, t_R0_1, t_K2, t_L2, t_R0_2, t_K3, t_L3, t_R0_3, t_K4, t_L4, t_R0_4, t_K5, t_L5, t_R0_5, t_K6, t_L6⟩ := t_h
  have t_lt5 : t + 5 < jN (jG0 sc) := Nat.lt_of_succ_lt t_lt6
  have t_lt4 : t + 4 < jN (jG0 sc) := Nat.lt_of_succ_lt t_lt5
  have t_lt3 : t + 3 < jN (jG0 sc) := Nat.lt_of_succ_lt t_lt4
  have t_lt2 : t + 2 < jN (jG0 sc) := Nat.lt_of_succ_lt t_lt3
  have t_lt1 : t + 1 < jN (jG0 sc) := Nat.lt_of_succ_lt t_lt2
  have t_lt0 : t + 0 < jN (jG0 sc) := Nat.lt_of_succ_lt t_lt1
  refine j_aload_n (i := 0) rfl dX3_of_38 ?_
  refine j_iload_n (i := 2) rfl dX3_of_39 ?_
  refine j_aload_n (i := 1) rfl dX3_of_40 ?_
  refine j_iload_n (i := 2) rfl dX3_of_41 ?_
  refine j_callVN (idx := 43) (As := [.int l2]) (ci := 4) (n := 1) k1 jint_nt (jTbl (jtb2 223 rfl)) sX4_lineAt kX4_lineAt rfl ⟨rfl, by decide +kernel, by decide +kernel, by decide +kernel⟩ rfl ⟨by decide, by decide⟩ (a_lt0) a_K0 (Nat.le_of_ble_eq_true rfl) (Nat.le_of_ble_eq_true rfl) ⟨Nat.zero_le _, Nat.zero_le _⟩ dX3_of_42 (fun r Γ' h1 q => ?_)
  obtain ⟨x1, q0, rfl, p1⟩ := q; cases q0
  refine j_eqst [.int x1, .int l2, .ref t] (by rfl) ?_
  refine j_callV (idx := 47) (As := [.int l2, .int x1]) (ci := 3) (n := 2) (k2 x1 h1 p1) jvoid_nt (jlkT (jtb3 101 rfl) rfl) sX3_addNames kX3_addNames rfl ⟨rfl, by decide +kernel, by decide +kernel, by decide +kernel⟩ rfl ⟨by decide, by decide⟩ (t_lt0) t_K0 (Nat.le_of_ble_eq_true rfl) (Nat.le_of_ble_eq_true rfl) ⟨Nat.zero_le _, Nat.zero_le _⟩ dX3_of_45 (fun r Γ' h2 q => ?_)
  obtain ⟨q0, rfl, p2⟩ := q; cases q0
  refine j_eqst [] (by rfl) ?_
  refine j_aload_n (i := 0) rfl dX3_of_48 ?_
  refine j_iload_n (i := 2) rfl dX3_of_49 ?_
  refine j_aload_n (i := 1) rfl dX3_of_50 ?_
  refine j_iload_n (i := 2) rfl dX3_of_51 ?_
  refine j_callVN (idx := 43) (As := [.int l2]) (ci := 4) (n := 1) (k3 x1 h1 p1 h2 p2) jint_nt (jTbl (jtb2 223 rfl)) sX4_lineAt kX4_lineAt rfl ⟨rfl, by decide +kernel, by decide +kernel, by decide +kernel⟩ rfl ⟨by decide, by decide⟩ (a_lt0) a_K0 (Nat.le_of_ble_eq_true rfl) (Nat.le_of_ble_eq_true rfl) ⟨Nat.zero_le _, Nat.zero_le _⟩ dX3_of_52 (fun r Γ' h3 q => ?_)
  obtain ⟨x3, q0, rfl, p3⟩ := q; cases q0
  refine j_eqst [.int x3, .int l2, .ref t] (by rfl) ?_
  exact j_le [some (.ref t), some (.ref a), some (.int l2)] (And.intro rfl (And.intro rfl (And.intro rfl True.intro))) (v1 x1 h1 p1 h2 p2 x3 h3 p3)
set_option maxRecDepth 100000 in
theorem bX3_of_55 {sc : Nat × (Nat → Int32)} {h : jH} {Q : jQ} {a : Nat} {t : Nat} {l2 s0 s1 : Int32} {P1 : jH → Prop} {P2 : Int32 → jH → Prop} {P3 : jH → Prop} {P4 : jH → Prop} (a_h : jI4 a) (t_h : jI3 t)
    (k1 : JM mX3_addSigns [.ref t, .int s1, .int s0] (jG0 sc) h (jvoid sc P1))
    (k2 : ∀ h1 : jH, P1 h1 → JM mX4_lineAt [.ref a, .int l2] (jG0 sc) h1 (jint sc P2))
    (k3 : ∀ h1 : jH, P1 h1 → ∀ (x2 : Int32) (h2 : jH), P2 x2 h2 → JM mX3_addBounds [.ref t, .int l2, .int x2] (jG0 sc) h2 (jvoid sc P3))
    (k4 : ∀ h1 : jH, P1 h1 → ∀ (x2 : Int32) (h2 : jH), P2 x2 h2 → ∀ h3 : jH, P3 h3 → JM mX3_addWhole [.ref t, .int l2, .ref a] (jG0 sc) h3 (jvoid sc P4))
    (v1 : ∀ h1 : jH, P1 h1 → ∀ (x2 : Int32) (h2 : jH), P2 x2 h2 → ∀ h3 : jH, P3 h3 → ∀ h4 : jH, P4 h4 → WP mX3_of Q 74 [some (.ref t), some (.ref a), some (.int l2)] [] (jG0 sc) h4 (0, 0)) :
    WP mX3_of Q 55 [some (.ref t), some (.ref a), some (.int l2)] [.int s0, .int s1, .ref t] (jG0 sc) h (0, 0) := by
  obtain ⟨a_lt1, a_K0, a_R0_0, a_K1, a_L1⟩ := a_h
  have a_lt0 : a + 0 < jN (jG0 sc) := Nat.lt_of_succ_lt a_lt1
  obtain ⟨t_lt6, t_K0, t_R0_0, t_K1, t_L1, t_R0_1, t_K2, t_L2, t_R0_2, t_K3, t_L3, t_R0_3, t_K4, t_L4, t_R0_4, t_K5, t_L5, t_R0_5, t_K6, t_L6⟩ := t_h
  have t_lt5 : t + 5 < jN (jG0 sc) := Nat.lt_of_succ_lt t_lt6
  have t_lt4 : t + 4 < jN (jG0 sc) := Nat.lt_of_succ_lt t_lt5
  have t_lt3 : t + 3 < jN (jG0 sc) := Nat.lt_of_succ_lt t_lt4
  have t_lt2 : t + 2 < jN (jG0 sc) := Nat.lt_of_succ_lt t_lt3
  have t_lt1 : t + 1 < jN (jG0 sc) := Nat.lt_of_succ_lt t_lt2
  have t_lt0 : t + 0 < jN (jG0 sc) := Nat.lt_of_succ_lt t_lt1
  refine j_callV (idx := 51) (As := [.int s1, .int s0]) (ci := 3) (n := 2) k1 jvoid_nt (jlkT (jtb3 123 rfl) rfl) sX3_addSigns kX3_addSigns rfl ⟨rfl, by decide +kernel, by decide +kernel, by decide +kernel⟩ rfl ⟨by decide, by decide⟩ (t_lt0) t_K0 (Nat.le_of_ble_eq_true rfl) (Nat.le_of_ble_eq_true rfl) ⟨Nat.zero_le _, Nat.zero_le _⟩ dX3_of_55 (fun r Γ' h1 q => ?_)
  obtain ⟨q0, rfl, p1⟩ := q; cases q0
  refine j_eqst [] (by rfl) ?_
  refine j_aload_n (i := 0) rfl dX3_of_58 ?_
  refine j_iload_n (i := 2) rfl dX3_of_59 ?_
  refine j_aload_n (i := 1) rfl dX3_of_60 ?_
  refine j_iload_n (i := 2) rfl dX3_of_61 ?_
  refine j_callVN (idx := 43) (As := [.int l2]) (ci := 4) (n := 1) (k2 h1 p1) jint_nt (jTbl (jtb2 223 rfl)) sX4_lineAt kX4_lineAt rfl ⟨rfl, by decide +kernel, by decide +kernel, by decide +kernel⟩ rfl ⟨by decide, by decide⟩ (a_lt0) a_K0 (Nat.le_of_ble_eq_true rfl) (Nat.le_of_ble_eq_true rfl) ⟨Nat.zero_le _, Nat.zero_le _⟩ dX3_of_62 (fun r Γ' h2 q => ?_)
  obtain ⟨x2, q0, rfl, p2⟩ := q; cases q0
  refine j_eqst [.int x2, .int l2, .ref t] (by rfl) ?_
  refine j_callV (idx := 54) (As := [.int l2, .int x2]) (ci := 3) (n := 2) (k3 h1 p1 x2 h2 p2) jvoid_nt (jlkT (jtb3 132 rfl) rfl) sX3_addBounds kX3_addBounds rfl ⟨rfl, by decide +kernel, by decide +kernel, by decide +kernel⟩ rfl ⟨by decide, by decide⟩ (t_lt0) t_K0 (Nat.le_of_ble_eq_true rfl) (Nat.le_of_ble_eq_true rfl) ⟨Nat.zero_le _, Nat.zero_le _⟩ dX3_of_65 (fun r Γ' h3 q => ?_)
  obtain ⟨q0, rfl, p3⟩ := q; cases q0
  refine j_eqst [] (by rfl) ?_
  refine j_aload_n (i := 0) rfl dX3_of_68 ?_
  refine j_iload_n (i := 2) rfl dX3_of_69 ?_
  refine j_aload_n (i := 1) rfl dX3_of_70 ?_
  refine j_callV (idx := 57) (As := [.int l2, .ref a]) (ci := 3) (n := 2) (k4 h1 p1 x2 h2 p2 h3 p3) jvoid_nt (jlkT (jtb3 144 rfl) rfl) sX3_addWhole kX3_addWhole rfl ⟨rfl, by decide +kernel, by decide +kernel, by decide +kernel⟩ rfl ⟨by decide, by decide⟩ (t_lt0) t_K0 (Nat.le_of_ble_eq_true rfl) (Nat.le_of_ble_eq_true rfl) ⟨Nat.zero_le _, Nat.zero_le _⟩ dX3_of_71 (fun r Γ' h4 q => ?_)
  obtain ⟨q0, rfl, p4⟩ := q; cases q0
  refine j_eqst [] (by rfl) ?_
  exact j_le [some (.ref t), some (.ref a), some (.int l2)] (And.intro rfl (And.intro rfl (And.intro rfl True.intro))) (v1 h1 p1 x2 h2 p2 h3 p3 h4 p4)
set_option maxRecDepth 100000 in
theorem bX3_of_74 {sc : Nat × (Nat → Int32)} {h : jH} {Q : jQ} {a : Nat} {t : Nat} {l2 : Int32} (a_h : jI4 a) (t_h : jI3 t)
    (o1 : vp_in l2 10)
    (o2 : vp_in l2 10)
    (v1 : ¬ (h (t + 5) l2.toNatClampNeg) = (-1) → WP mX3_of Q 104 [some (.ref t), some (.ref a), some (.int l2)] [.int ((h t 6) - (h (t + 4) l2.toNatClampNeg)), .int l2, .ref (t + 6)] (jG0 sc) h (0, 0))
    (v2 : (h (t + 5) l2.toNatClampNeg) = (-1) → WP mX3_of Q 100 [some (.ref t), some (.ref a), some (.int l2)] [.int ((h t 6) - (h (t + 4) l2.toNatClampNeg)), .int l2, .ref (t + 6)] (jG0 sc) h (0, 0)) :
    WP mX3_of Q 74 [some (.ref t), some (.ref a), some (.int l2)] [] (jG0 sc) h (0, 0) := by
  obtain ⟨a_lt1, a_K0, a_R0_0, a_K1, a_L1⟩ := a_h
  have a_lt0 : a + 0 < jN (jG0 sc) := Nat.lt_of_succ_lt a_lt1
  obtain ⟨t_lt6, t_K0, t_R0_0, t_K1, t_L1, t_R0_1, t_K2, t_L2, t_R0_2, t_K3, t_L3, t_R0_3, t_K4, t_L4, t_R0_4, t_K5, t_L5, t_R0_5, t_K6, t_L6⟩ := t_h
  have t_lt5 : t + 5 < jN (jG0 sc) := Nat.lt_of_succ_lt t_lt6
  have t_lt4 : t + 4 < jN (jG0 sc) := Nat.lt_of_succ_lt t_lt5
  have t_lt3 : t + 3 < jN (jG0 sc) := Nat.lt_of_succ_lt t_lt4
  have t_lt2 : t + 2 < jN (jG0 sc) := Nat.lt_of_succ_lt t_lt3
  have t_lt1 : t + 1 < jN (jG0 sc) := Nat.lt_of_succ_lt t_lt2
  have t_lt0 : t + 0 < jN (jG0 sc) := Nat.lt_of_succ_lt t_lt1
  refine j_aload_n (i := 0) rfl dX3_of_74 ?_
  refine j_getR (idx := 27) (ci := 3) (k := 5) (nest := false) (show (3, 27, 3, 5, false) ∈ jFT by decide) rfl (t_lt0) t_K0 (a := (t + 6)) t_R0_5 dX3_of_75 ?_
  refine j_iload_n (i := 2) rfl dX3_of_78 ?_
  refine j_aload_n (i := 0) rfl dX3_of_79 ?_
  refine j_getI (idx := 37) (ci := 3) (k := 6) (nest := false) (show (3, 37, 3, 6, false) ∈ jFT by decide) rfl (t_lt0) t_K0 dX3_of_80 ?_
  refine j_aload_n (i := 0) rfl dX3_of_83 ?_
  refine j_getR (idx := 21) (ci := 3) (k := 3) (nest := false) (show (3, 21, 3, 3, false) ∈ jFT by decide) rfl (t_lt0) t_K0 (a := (t + 4)) t_R0_3 dX3_of_84 ?_
  refine j_iload_n (i := 2) rfl dX3_of_87 ?_
  refine j_iald (t_lt4) t_K4 (by rw [show jL (jG0 sc) (t + 4) = 10 from t_L4]; exact o1) dX3_of_88 ?_
  refine j_isub dX3_of_89 ?_
  refine j_aload_n (i := 0) rfl dX3_of_90 ?_
  refine j_getR (idx := 24) (ci := 3) (k := 4) (nest := false) (show (3, 24, 3, 4, false) ∈ jFT by decide) rfl (t_lt0) t_K0 (a := (t + 5)) t_R0_4 dX3_of_91 ?_
  refine j_iload_n (i := 2) rfl dX3_of_94 ?_
  refine j_iald (t_lt5) t_K5 (by rw [show jL (jG0 sc) (t + 5) = 10 from t_L5]; exact o2) dX3_of_95 ?_
  refine j_iconst (n := (-1)) (-1) (by decide) dX3_of_96 ?_
  refine j_icmp_ne (off := 7) 104 dX3_of_97 (by decide) (fun c1 => ?_) (fun c1 => ?_)
  · exact j_le [some (.ref t), some (.ref a), some (.int l2)] (And.intro rfl (And.intro rfl (And.intro rfl True.intro))) (v1 c1)
  · exact j_le [some (.ref t), some (.ref a), some (.int l2)] (And.intro rfl (And.intro rfl (And.intro rfl True.intro))) (v2 c1)
set_option maxRecDepth 100000 in
theorem bX3_of_100 {sc : Nat × (Nat → Int32)} {h : jH} {Q : jQ} {a : Nat} {t : Nat} {l2 s0 s1 : Int32} (a_h : jI4 a) (t_h : jI3 t)
    (v1 : WP mX3_of Q 105 [some (.ref t), some (.ref a), some (.int l2)] [.int 0, .int s0, .int s1, .ref (t + 6)] (jG0 sc) h (0, 0)) :
    WP mX3_of Q 100 [some (.ref t), some (.ref a), some (.int l2)] [.int s0, .int s1, .ref (t + 6)] (jG0 sc) h (0, 0) := by
  obtain ⟨a_lt1, a_K0, a_R0_0, a_K1, a_L1⟩ := a_h
  have a_lt0 : a + 0 < jN (jG0 sc) := Nat.lt_of_succ_lt a_lt1
  obtain ⟨t_lt6, t_K0, t_R0_0, t_K1, t_L1, t_R0_1, t_K2, t_L2, t_R0_2, t_K3, t_L3, t_R0_3, t_K4, t_L4, t_R0_4, t_K5, t_L5, t_R0_5, t_K6, t_L6⟩ := t_h
  have t_lt5 : t + 5 < jN (jG0 sc) := Nat.lt_of_succ_lt t_lt6
  have t_lt4 : t + 4 < jN (jG0 sc) := Nat.lt_of_succ_lt t_lt5
  have t_lt3 : t + 3 < jN (jG0 sc) := Nat.lt_of_succ_lt t_lt4
  have t_lt2 : t + 2 < jN (jG0 sc) := Nat.lt_of_succ_lt t_lt3
  have t_lt1 : t + 1 < jN (jG0 sc) := Nat.lt_of_succ_lt t_lt2
  have t_lt0 : t + 0 < jN (jG0 sc) := Nat.lt_of_succ_lt t_lt1
  refine j_iconst (n := 0) 0 (by decide) dX3_of_100 ?_
  refine j_goto (off := 4) 105 dX3_of_101 (by decide) ?_
  exact j_le [some (.ref t), some (.ref a), some (.int l2)] (And.intro rfl (And.intro rfl (And.intro rfl True.intro))) v1
set_option maxRecDepth 100000 in
theorem bX3_of_104 {sc : Nat × (Nat → Int32)} {h : jH} {Q : jQ} {a : Nat} {t : Nat} {l2 s0 s1 : Int32} (a_h : jI4 a) (t_h : jI3 t)
    (v1 : WP mX3_of Q 105 [some (.ref t), some (.ref a), some (.int l2)] [.int 1, .int s0, .int s1, .ref (t + 6)] (jG0 sc) h (0, 0)) :
    WP mX3_of Q 104 [some (.ref t), some (.ref a), some (.int l2)] [.int s0, .int s1, .ref (t + 6)] (jG0 sc) h (0, 0) := by
  obtain ⟨a_lt1, a_K0, a_R0_0, a_K1, a_L1⟩ := a_h
  have a_lt0 : a + 0 < jN (jG0 sc) := Nat.lt_of_succ_lt a_lt1
  obtain ⟨t_lt6, t_K0, t_R0_0, t_K1, t_L1, t_R0_1, t_K2, t_L2, t_R0_2, t_K3, t_L3, t_R0_3, t_K4, t_L4, t_R0_4, t_K5, t_L5, t_R0_5, t_K6, t_L6⟩ := t_h
  have t_lt5 : t + 5 < jN (jG0 sc) := Nat.lt_of_succ_lt t_lt6
  have t_lt4 : t + 4 < jN (jG0 sc) := Nat.lt_of_succ_lt t_lt5
  have t_lt3 : t + 3 < jN (jG0 sc) := Nat.lt_of_succ_lt t_lt4
  have t_lt2 : t + 2 < jN (jG0 sc) := Nat.lt_of_succ_lt t_lt3
  have t_lt1 : t + 1 < jN (jG0 sc) := Nat.lt_of_succ_lt t_lt2
  have t_lt0 : t + 0 < jN (jG0 sc) := Nat.lt_of_succ_lt t_lt1
  refine j_iconst (n := 1) 1 (by decide) dX3_of_104 ?_
  exact j_le [some (.ref t), some (.ref a), some (.int l2)] (And.intro rfl (And.intro rfl (And.intro rfl True.intro))) v1
set_option maxRecDepth 100000 in
theorem bX3_of_105 {sc : Nat × (Nat → Int32)} {h : jH} {Q : jQ} {a : Nat} {t : Nat} {l2 s0 s1 s2 : Int32} (a_h : jI4 a) (t_h : jI3 t)
    (o1 : vp_in s2 10)
    (v1 : WP mX3_of Q 7 [some (.ref t), some (.ref a), some (.int (l2 + 1))] [] (jG0 sc) (jput h (t + 6) s2.toNatClampNeg (s1 - s0)) (0, 0)) :
    WP mX3_of Q 105 [some (.ref t), some (.ref a), some (.int l2)] [.int s0, .int s1, .int s2, .ref (t + 6)] (jG0 sc) h (0, 0) := by
  obtain ⟨a_lt1, a_K0, a_R0_0, a_K1, a_L1⟩ := a_h
  have a_lt0 : a + 0 < jN (jG0 sc) := Nat.lt_of_succ_lt a_lt1
  obtain ⟨t_lt6, t_K0, t_R0_0, t_K1, t_L1, t_R0_1, t_K2, t_L2, t_R0_2, t_K3, t_L3, t_R0_3, t_K4, t_L4, t_R0_4, t_K5, t_L5, t_R0_5, t_K6, t_L6⟩ := t_h
  have t_lt5 : t + 5 < jN (jG0 sc) := Nat.lt_of_succ_lt t_lt6
  have t_lt4 : t + 4 < jN (jG0 sc) := Nat.lt_of_succ_lt t_lt5
  have t_lt3 : t + 3 < jN (jG0 sc) := Nat.lt_of_succ_lt t_lt4
  have t_lt2 : t + 2 < jN (jG0 sc) := Nat.lt_of_succ_lt t_lt3
  have t_lt1 : t + 1 < jN (jG0 sc) := Nat.lt_of_succ_lt t_lt2
  have t_lt0 : t + 0 < jN (jG0 sc) := Nat.lt_of_succ_lt t_lt1
  refine j_isub dX3_of_105 ?_
  refine j_iast (t_lt6) t_K6 (by rw [show jL (jG0 sc) (t + 6) = 10 from t_L6]; exact o1) dX3_of_106 ?_
  refine j_iinc (i := 2) (n := 1) rfl dX3_of_107 (Nat.le_of_ble_eq_true rfl) ?_
  refine j_eqlv [some (.ref t), some (.ref a), some (.int (l2 + 1))] rfl ?_
  refine j_goto (off := -103) 7 dX3_of_110 (by decide) ?_
  exact j_le [some (.ref t), some (.ref a), some (.int (l2 + 1))] (And.intro rfl (And.intro rfl (And.intro rfl True.intro))) v1
set_option maxRecDepth 100000 in
theorem bX3_of_113 {sc : Nat × (Nat → Int32)} {h : jH} {Q : jQ} {a : Nat} {t : Nat} {l2 : Int32} (a_h : jI4 a) (t_h : jI3 t)
    (v1 : Q (.inl none) (jG0 sc) h) :
    WP mX3_of Q 113 [some (.ref t), some (.ref a), some (.int l2)] [] (jG0 sc) h (0, 0) := by
  obtain ⟨a_lt1, a_K0, a_R0_0, a_K1, a_L1⟩ := a_h
  have a_lt0 : a + 0 < jN (jG0 sc) := Nat.lt_of_succ_lt a_lt1
  obtain ⟨t_lt6, t_K0, t_R0_0, t_K1, t_L1, t_R0_1, t_K2, t_L2, t_R0_2, t_K3, t_L3, t_R0_3, t_K4, t_L4, t_R0_4, t_K5, t_L5, t_R0_5, t_K6, t_L6⟩ := t_h
  have t_lt5 : t + 5 < jN (jG0 sc) := Nat.lt_of_succ_lt t_lt6
  have t_lt4 : t + 4 < jN (jG0 sc) := Nat.lt_of_succ_lt t_lt5
  have t_lt3 : t + 3 < jN (jG0 sc) := Nat.lt_of_succ_lt t_lt4
  have t_lt2 : t + 2 < jN (jG0 sc) := Nat.lt_of_succ_lt t_lt3
  have t_lt1 : t + 1 < jN (jG0 sc) := Nat.lt_of_succ_lt t_lt2
  have t_lt0 : t + 0 < jN (jG0 sc) := Nat.lt_of_succ_lt t_lt1
  exact j_vret rfl (Nat.zero_le _) (Nat.zero_le _) dX3_of_113 v1
set_option maxRecDepth 100000 in
theorem rX3_of_0 {sc : Nat × (Nat → Int32)} {h : jH} {Q : jQ} {a : Nat} {t : Nat} (a_h : jI4 a) (t_h : jI3 t)
    (v1 : WP mX3_of Q 7 [some (.ref t), some (.ref a), some (.int 0)] [] (jG0 sc) (jput h t 6 0) (0, 0)) :
    WP mX3_of Q 0 [some (.ref t), some (.ref a), none] [] (jG0 sc) h (0, 0) := by
  exact (bX3_of_0 a_h t_h v1)
set_option maxRecDepth 100000 in
theorem rX3_of_7 {sc : Nat × (Nat → Int32)} {h : jH} {Q : jQ} {a : Nat} {t : Nat} {l2 : Int32} {P1 : Int32 → jH → Prop} {P2 : jH → Prop} {P3 : Int32 → jH → Prop} {P4 : jH → Prop} {P5 : Int32 → jH → Prop} {P6 : jH → Prop} {P7 : jH → Prop} (a_h : jI4 a) (t_h : jI3 t)
    (v1 : 10 ≤ l2 → Q (.inl none) (jG0 sc) h)
    (o1 : ¬ 10 ≤ l2 → vp_in l2 10)
    (o2 : ¬ 10 ≤ l2 → ((jput (jput h (t + 4) l2.toNatClampNeg (h t 6)) (t + 5) l2.toNatClampNeg (-1)) a 1) ≤ l2 → vp_in l2 10)
    (o3 : ¬ 10 ≤ l2 → ((jput (jput h (t + 4) l2.toNatClampNeg (h t 6)) (t + 5) l2.toNatClampNeg (-1)) a 1) ≤ l2 → ¬ ((jput (jput h (t + 4) l2.toNatClampNeg (h t 6)) (t + 5) l2.toNatClampNeg (-1)) (t + 5) l2.toNatClampNeg) = (-1) → vp_in l2 10)
    (v2 : ¬ 10 ≤ l2 → ((jput (jput h (t + 4) l2.toNatClampNeg (h t 6)) (t + 5) l2.toNatClampNeg (-1)) a 1) ≤ l2 → ¬ ((jput (jput h (t + 4) l2.toNatClampNeg (h t 6)) (t + 5) l2.toNatClampNeg (-1)) (t + 5) l2.toNatClampNeg) = (-1) → WP mX3_of Q 7 [some (.ref t), some (.ref a), some (.int (l2 + 1))] [] (jG0 sc) (jput (jput (jput h (t + 4) l2.toNatClampNeg (h t 6)) (t + 5) l2.toNatClampNeg (-1)) (t + 6) l2.toNatClampNeg ((((jput (jput h (t + 4) l2.toNatClampNeg (h t 6)) (t + 5) l2.toNatClampNeg (-1)) t 6) - ((jput (jput h (t + 4) l2.toNatClampNeg (h t 6)) (t + 5) l2.toNatClampNeg (-1)) (t + 4) l2.toNatClampNeg)) - 1)) (0, 0))
    (o4 : ¬ 10 ≤ l2 → ((jput (jput h (t + 4) l2.toNatClampNeg (h t 6)) (t + 5) l2.toNatClampNeg (-1)) a 1) ≤ l2 → ((jput (jput h (t + 4) l2.toNatClampNeg (h t 6)) (t + 5) l2.toNatClampNeg (-1)) (t + 5) l2.toNatClampNeg) = (-1) → vp_in l2 10)
    (v3 : ¬ 10 ≤ l2 → ((jput (jput h (t + 4) l2.toNatClampNeg (h t 6)) (t + 5) l2.toNatClampNeg (-1)) a 1) ≤ l2 → ((jput (jput h (t + 4) l2.toNatClampNeg (h t 6)) (t + 5) l2.toNatClampNeg (-1)) (t + 5) l2.toNatClampNeg) = (-1) → WP mX3_of Q 7 [some (.ref t), some (.ref a), some (.int (l2 + 1))] [] (jG0 sc) (jput (jput (jput h (t + 4) l2.toNatClampNeg (h t 6)) (t + 5) l2.toNatClampNeg (-1)) (t + 6) l2.toNatClampNeg ((((jput (jput h (t + 4) l2.toNatClampNeg (h t 6)) (t + 5) l2.toNatClampNeg (-1)) t 6) - ((jput (jput h (t + 4) l2.toNatClampNeg (h t 6)) (t + 5) l2.toNatClampNeg (-1)) (t + 4) l2.toNatClampNeg)) - 0)) (0, 0))
    (k1 : ¬ 10 ≤ l2 → ¬ ((jput (jput h (t + 4) l2.toNatClampNeg (h t 6)) (t + 5) l2.toNatClampNeg (-1)) a 1) ≤ l2 → JM mX4_lineAt [.ref a, .int l2] (jG0 sc) (jput (jput h (t + 4) l2.toNatClampNeg (h t 6)) (t + 5) l2.toNatClampNeg (-1)) (jint sc P1))
    (k2 : ¬ 10 ≤ l2 → ¬ ((jput (jput h (t + 4) l2.toNatClampNeg (h t 6)) (t + 5) l2.toNatClampNeg (-1)) a 1) ≤ l2 → ∀ (x1 : Int32) (h1 : jH), P1 x1 h1 → JM mX3_addNames [.ref t, .int l2, .int x1] (jG0 sc) h1 (jvoid sc P2))
    (k3 : ¬ 10 ≤ l2 → ¬ ((jput (jput h (t + 4) l2.toNatClampNeg (h t 6)) (t + 5) l2.toNatClampNeg (-1)) a 1) ≤ l2 → ∀ (x1 : Int32) (h1 : jH), P1 x1 h1 → ∀ h2 : jH, P2 h2 → JM mX4_lineAt [.ref a, .int l2] (jG0 sc) h2 (jint sc P3))
    (k4 : ¬ 10 ≤ l2 → ¬ ((jput (jput h (t + 4) l2.toNatClampNeg (h t 6)) (t + 5) l2.toNatClampNeg (-1)) a 1) ≤ l2 → ∀ (x1 : Int32) (h1 : jH), P1 x1 h1 → ∀ h2 : jH, P2 h2 → ∀ (x3 : Int32) (h3 : jH), P3 x3 h3 → JM mX3_addSigns [.ref t, .int l2, .int x3] (jG0 sc) h3 (jvoid sc P4))
    (k5 : ¬ 10 ≤ l2 → ¬ ((jput (jput h (t + 4) l2.toNatClampNeg (h t 6)) (t + 5) l2.toNatClampNeg (-1)) a 1) ≤ l2 → ∀ (x1 : Int32) (h1 : jH), P1 x1 h1 → ∀ h2 : jH, P2 h2 → ∀ (x3 : Int32) (h3 : jH), P3 x3 h3 → ∀ h4 : jH, P4 h4 → JM mX4_lineAt [.ref a, .int l2] (jG0 sc) h4 (jint sc P5))
    (k6 : ¬ 10 ≤ l2 → ¬ ((jput (jput h (t + 4) l2.toNatClampNeg (h t 6)) (t + 5) l2.toNatClampNeg (-1)) a 1) ≤ l2 → ∀ (x1 : Int32) (h1 : jH), P1 x1 h1 → ∀ h2 : jH, P2 h2 → ∀ (x3 : Int32) (h3 : jH), P3 x3 h3 → ∀ h4 : jH, P4 h4 → ∀ (x5 : Int32) (h5 : jH), P5 x5 h5 → JM mX3_addBounds [.ref t, .int l2, .int x5] (jG0 sc) h5 (jvoid sc P6))
    (k7 : ¬ 10 ≤ l2 → ¬ ((jput (jput h (t + 4) l2.toNatClampNeg (h t 6)) (t + 5) l2.toNatClampNeg (-1)) a 1) ≤ l2 → ∀ (x1 : Int32) (h1 : jH), P1 x1 h1 → ∀ h2 : jH, P2 h2 → ∀ (x3 : Int32) (h3 : jH), P3 x3 h3 → ∀ h4 : jH, P4 h4 → ∀ (x5 : Int32) (h5 : jH), P5 x5 h5 → ∀ h6 : jH, P6 h6 → JM mX3_addWhole [.ref t, .int l2, .ref a] (jG0 sc) h6 (jvoid sc P7))
    (o5 : ¬ 10 ≤ l2 → ¬ ((jput (jput h (t + 4) l2.toNatClampNeg (h t 6)) (t + 5) l2.toNatClampNeg (-1)) a 1) ≤ l2 → ∀ (x1 : Int32) (h1 : jH), P1 x1 h1 → ∀ h2 : jH, P2 h2 → ∀ (x3 : Int32) (h3 : jH), P3 x3 h3 → ∀ h4 : jH, P4 h4 → ∀ (x5 : Int32) (h5 : jH), P5 x5 h5 → ∀ h6 : jH, P6 h6 → ∀ h7 : jH, P7 h7 → vp_in l2 10)
    (o6 : ¬ 10 ≤ l2 → ¬ ((jput (jput h (t + 4) l2.toNatClampNeg (h t 6)) (t + 5) l2.toNatClampNeg (-1)) a 1) ≤ l2 → ∀ (x1 : Int32) (h1 : jH), P1 x1 h1 → ∀ h2 : jH, P2 h2 → ∀ (x3 : Int32) (h3 : jH), P3 x3 h3 → ∀ h4 : jH, P4 h4 → ∀ (x5 : Int32) (h5 : jH), P5 x5 h5 → ∀ h6 : jH, P6 h6 → ∀ h7 : jH, P7 h7 → ¬ (h7 (t + 5) l2.toNatClampNeg) = (-1) → vp_in l2 10)
    (v4 : ¬ 10 ≤ l2 → ¬ ((jput (jput h (t + 4) l2.toNatClampNeg (h t 6)) (t + 5) l2.toNatClampNeg (-1)) a 1) ≤ l2 → ∀ (x1 : Int32) (h1 : jH), P1 x1 h1 → ∀ h2 : jH, P2 h2 → ∀ (x3 : Int32) (h3 : jH), P3 x3 h3 → ∀ h4 : jH, P4 h4 → ∀ (x5 : Int32) (h5 : jH), P5 x5 h5 → ∀ h6 : jH, P6 h6 → ∀ h7 : jH, P7 h7 → ¬ (h7 (t + 5) l2.toNatClampNeg) = (-1) → WP mX3_of Q 7 [some (.ref t), some (.ref a), some (.int (l2 + 1))] [] (jG0 sc) (jput h7 (t + 6) l2.toNatClampNeg (((h7 t 6) - (h7 (t + 4) l2.toNatClampNeg)) - 1)) (0, 0))
    (o7 : ¬ 10 ≤ l2 → ¬ ((jput (jput h (t + 4) l2.toNatClampNeg (h t 6)) (t + 5) l2.toNatClampNeg (-1)) a 1) ≤ l2 → ∀ (x1 : Int32) (h1 : jH), P1 x1 h1 → ∀ h2 : jH, P2 h2 → ∀ (x3 : Int32) (h3 : jH), P3 x3 h3 → ∀ h4 : jH, P4 h4 → ∀ (x5 : Int32) (h5 : jH), P5 x5 h5 → ∀ h6 : jH, P6 h6 → ∀ h7 : jH, P7 h7 → (h7 (t + 5) l2.toNatClampNeg) = (-1) → vp_in l2 10)
    (v5 : ¬ 10 ≤ l2 → ¬ ((jput (jput h (t + 4) l2.toNatClampNeg (h t 6)) (t + 5) l2.toNatClampNeg (-1)) a 1) ≤ l2 → ∀ (x1 : Int32) (h1 : jH), P1 x1 h1 → ∀ h2 : jH, P2 h2 → ∀ (x3 : Int32) (h3 : jH), P3 x3 h3 → ∀ h4 : jH, P4 h4 → ∀ (x5 : Int32) (h5 : jH), P5 x5 h5 → ∀ h6 : jH, P6 h6 → ∀ h7 : jH, P7 h7 → (h7 (t + 5) l2.toNatClampNeg) = (-1) → WP mX3_of Q 7 [some (.ref t), some (.ref a), some (.int (l2 + 1))] [] (jG0 sc) (jput h7 (t + 6) l2.toNatClampNeg (((h7 t 6) - (h7 (t + 4) l2.toNatClampNeg)) - 0)) (0, 0)) :
    WP mX3_of Q 7 [some (.ref t), some (.ref a), some (.int l2)] [] (jG0 sc) h (0, 0) := by
  exact (bX3_of_7 a_h t_h (fun c1 => (bX3_of_113 a_h t_h (v1 c1))) (fun c1 => (bX3_of_13 a_h t_h (o1 c1) (o1 c1) (fun c2 => (bX3_of_74 a_h t_h (o2 c1 c2) (o2 c1 c2) (fun c3 => (bX3_of_104 a_h t_h (bX3_of_105 a_h t_h (o3 c1 c2 c3) (v2 c1 c2 c3)))) (fun c3 => (bX3_of_100 a_h t_h (bX3_of_105 a_h t_h (o4 c1 c2 c3) (v3 c1 c2 c3)))))) (fun c2 => (bX3_of_38 a_h t_h (k1 c1 c2) (fun x1 h1 p1 => (k2 c1 c2 x1 h1 p1)) (fun x1 h1 p1 h2 p2 => (k3 c1 c2 x1 h1 p1 h2 p2)) (fun x1 h1 p1 h2 p2 x3 h3 p3 => (bX3_of_55 a_h t_h (k4 c1 c2 x1 h1 p1 h2 p2 x3 h3 p3) (fun h4 p4 => (k5 c1 c2 x1 h1 p1 h2 p2 x3 h3 p3 h4 p4)) (fun h4 p4 x5 h5 p5 => (k6 c1 c2 x1 h1 p1 h2 p2 x3 h3 p3 h4 p4 x5 h5 p5)) (fun h4 p4 x5 h5 p5 h6 p6 => (k7 c1 c2 x1 h1 p1 h2 p2 x3 h3 p3 h4 p4 x5 h5 p5 h6 p6)) (fun h4 p4 x5 h5 p5 h6 p6 h7 p7 => (bX3_of_74 a_h t_h (o5 c1 c2 x1 h1 p1 h2 p2 x3 h3 p3 h4 p4 x5 h5 p5 h6 p6 h7 p7) (o5 c1 c2 x1 h1 p1 h2 p2 x3 h3 p3 h4 p4 x5 h5 p5 h6 p6 h7 p7) (fun c4 => (bX3_of_104 a_h t_h (bX3_of_105 a_h t_h (o6 c1 c2 x1 h1 p1 h2 p2 x3 h3 p3 h4 p4 x5 h5 p5 h6 p6 h7 p7 c4) (v4 c1 c2 x1 h1 p1 h2 p2 x3 h3 p3 h4 p4 x5 h5 p5 h6 p6 h7 p7 c4)))) (fun c4 => (bX3_of_100 a_h t_h (bX3_of_105 a_h t_h (o7 c1 c2 x1 h1 p1 h2 p2 x3 h3 p3 h4 p4 x5 h5 p5 h6 p6 h7 p7 c4) (v5 c1 c2 x1 h1 p1 h2 p2 x3 h3 p3 h4 p4 x5 h5 p5 h6 p6 h7 p7 c4)))))))))))))
theorem dX3_add_0 : decode (mC mX3_add) 0 = .ok (.aload_n 0, 1) := by decide +kernel
theorem dX3_add_1 : decode (mC mX3_add) 1 = .ok (.getfield 37, 3) := by decide +kernel
theorem dX3_add_4 : decode (mC mX3_add) 4 = .ok (.ifCond .lt 53, 3) := by decide +kernel
theorem dX3_add_7 : decode (mC mX3_add) 7 = .ok (.aload_n 0, 1) := by decide +kernel
theorem dX3_add_8 : decode (mC mX3_add) 8 = .ok (.getfield 37, 3) := by decide +kernel
theorem dX3_add_11 : decode (mC mX3_add) 11 = .ok (.sipush 300, 3) := by decide +kernel
theorem dX3_add_14 : decode (mC mX3_add) 14 = .ok (.if_icmp .ge 43, 3) := by decide +kernel
theorem dX3_add_17 : decode (mC mX3_add) 17 = .ok (.aload_n 0, 1) := by decide +kernel
theorem dX3_add_18 : decode (mC mX3_add) 18 = .ok (.getfield 9, 3) := by decide +kernel
theorem dX3_add_21 : decode (mC mX3_add) 21 = .ok (.aload_n 0, 1) := by decide +kernel
theorem dX3_add_22 : decode (mC mX3_add) 22 = .ok (.getfield 37, 3) := by decide +kernel
theorem dX3_add_25 : decode (mC mX3_add) 25 = .ok (.iload_n 1, 1) := by decide +kernel
theorem dX3_add_26 : decode (mC mX3_add) 26 = .ok (.iastore, 1) := by decide +kernel
theorem dX3_add_27 : decode (mC mX3_add) 27 = .ok (.aload_n 0, 1) := by decide +kernel
theorem dX3_add_28 : decode (mC mX3_add) 28 = .ok (.getfield 15, 3) := by decide +kernel
theorem dX3_add_31 : decode (mC mX3_add) 31 = .ok (.aload_n 0, 1) := by decide +kernel
theorem dX3_add_32 : decode (mC mX3_add) 32 = .ok (.getfield 37, 3) := by decide +kernel
theorem dX3_add_35 : decode (mC mX3_add) 35 = .ok (.iload_n 2, 1) := by decide +kernel
theorem dX3_add_36 : decode (mC mX3_add) 36 = .ok (.iastore, 1) := by decide +kernel
theorem dX3_add_37 : decode (mC mX3_add) 37 = .ok (.aload_n 0, 1) := by decide +kernel
theorem dX3_add_38 : decode (mC mX3_add) 38 = .ok (.getfield 18, 3) := by decide +kernel
theorem dX3_add_41 : decode (mC mX3_add) 41 = .ok (.aload_n 0, 1) := by decide +kernel
theorem dX3_add_42 : decode (mC mX3_add) 42 = .ok (.getfield 37, 3) := by decide +kernel
theorem dX3_add_45 : decode (mC mX3_add) 45 = .ok (.iload_n 3, 1) := by decide +kernel
theorem dX3_add_46 : decode (mC mX3_add) 46 = .ok (.iastore, 1) := by decide +kernel
theorem dX3_add_47 : decode (mC mX3_add) 47 = .ok (.aload_n 0, 1) := by decide +kernel
theorem dX3_add_48 : decode (mC mX3_add) 48 = .ok (.dup, 1) := by decide +kernel
theorem dX3_add_49 : decode (mC mX3_add) 49 = .ok (.getfield 37, 3) := by decide +kernel
theorem dX3_add_52 : decode (mC mX3_add) 52 = .ok (.iconst 1, 1) := by decide +kernel
theorem dX3_add_53 : decode (mC mX3_add) 53 = .ok (.iadd, 1) := by decide +kernel
theorem dX3_add_54 : decode (mC mX3_add) 54 = .ok (.putfield 37, 3) := by decide +kernel
theorem dX3_add_57 : decode (mC mX3_add) 57 = .ok (.return_, 1) := by decide +kernel
set_option maxRecDepth 100000 in
theorem bX3_add_0 {sc : Nat × (Nat → Int32)} {h : jH} {Q : jQ} {t : Nat} {l1 l2 l3 : Int32} (t_h : jI3 t)
    (v1 : (h t 6) < 0 → WP mX3_add Q 57 [some (.ref t), some (.int l1), some (.int l2), some (.int l3)] [] (jG0 sc) h (0, 0))
    (v2 : ¬ (h t 6) < 0 → WP mX3_add Q 7 [some (.ref t), some (.int l1), some (.int l2), some (.int l3)] [] (jG0 sc) h (0, 0)) :
    WP mX3_add Q 0 [some (.ref t), some (.int l1), some (.int l2), some (.int l3)] [] (jG0 sc) h (0, 0) := by
  obtain ⟨t_lt6, t_K0, t_R0_0, t_K1, t_L1, t_R0_1, t_K2, t_L2, t_R0_2, t_K3, t_L3, t_R0_3, t_K4, t_L4, t_R0_4, t_K5, t_L5, t_R0_5, t_K6, t_L6⟩ := t_h
  have t_lt5 : t + 5 < jN (jG0 sc) := Nat.lt_of_succ_lt t_lt6
  have t_lt4 : t + 4 < jN (jG0 sc) := Nat.lt_of_succ_lt t_lt5
  have t_lt3 : t + 3 < jN (jG0 sc) := Nat.lt_of_succ_lt t_lt4
  have t_lt2 : t + 2 < jN (jG0 sc) := Nat.lt_of_succ_lt t_lt3
  have t_lt1 : t + 1 < jN (jG0 sc) := Nat.lt_of_succ_lt t_lt2
  have t_lt0 : t + 0 < jN (jG0 sc) := Nat.lt_of_succ_lt t_lt1
  refine j_aload_n (i := 0) rfl dX3_add_0 ?_
  refine j_getI (idx := 37) (ci := 3) (k := 6) (nest := false) (show (3, 37, 3, 6, false) ∈ jFT by decide) rfl (t_lt0) t_K0 dX3_add_1 ?_
  refine j_if_lt (off := 53) 57 dX3_add_4 (by decide) (fun c1 => ?_) (fun c1 => ?_)
  · exact j_le [some (.ref t), some (.int l1), some (.int l2), some (.int l3)] (And.intro rfl (And.intro rfl (And.intro rfl (And.intro rfl True.intro)))) (v1 c1)
  · exact j_le [some (.ref t), some (.int l1), some (.int l2), some (.int l3)] (And.intro rfl (And.intro rfl (And.intro rfl (And.intro rfl True.intro)))) (v2 c1)
set_option maxRecDepth 100000 in
theorem bX3_add_7 {sc : Nat × (Nat → Int32)} {h : jH} {Q : jQ} {t : Nat} {l1 l2 l3 : Int32} (t_h : jI3 t)
    (v1 : 300 ≤ (h t 6) → WP mX3_add Q 57 [some (.ref t), some (.int l1), some (.int l2), some (.int l3)] [] (jG0 sc) h (0, 0))
    (v2 : ¬ 300 ≤ (h t 6) → WP mX3_add Q 17 [some (.ref t), some (.int l1), some (.int l2), some (.int l3)] [] (jG0 sc) h (0, 0)) :
    WP mX3_add Q 7 [some (.ref t), some (.int l1), some (.int l2), some (.int l3)] [] (jG0 sc) h (0, 0) := by
  obtain ⟨t_lt6, t_K0, t_R0_0, t_K1, t_L1, t_R0_1, t_K2, t_L2, t_R0_2, t_K3, t_L3, t_R0_3, t_K4, t_L4, t_R0_4, t_K5, t_L5, t_R0_5, t_K6, t_L6⟩ := t_h
  have t_lt5 : t + 5 < jN (jG0 sc) := Nat.lt_of_succ_lt t_lt6
  have t_lt4 : t + 4 < jN (jG0 sc) := Nat.lt_of_succ_lt t_lt5
  have t_lt3 : t + 3 < jN (jG0 sc) := Nat.lt_of_succ_lt t_lt4
  have t_lt2 : t + 2 < jN (jG0 sc) := Nat.lt_of_succ_lt t_lt3
  have t_lt1 : t + 1 < jN (jG0 sc) := Nat.lt_of_succ_lt t_lt2
  have t_lt0 : t + 0 < jN (jG0 sc) := Nat.lt_of_succ_lt t_lt1
  refine j_aload_n (i := 0) rfl dX3_add_7 ?_
  refine j_getI (idx := 37) (ci := 3) (k := 6) (nest := false) (show (3, 37, 3, 6, false) ∈ jFT by decide) rfl (t_lt0) t_K0 dX3_add_8 ?_
  refine j_sipush (n := 300) 300 (by decide) dX3_add_11 ?_
  refine j_icmp_ge (off := 43) 57 dX3_add_14 (by decide) (fun c1 => ?_) (fun c1 => ?_)
  · exact j_le [some (.ref t), some (.int l1), some (.int l2), some (.int l3)] (And.intro rfl (And.intro rfl (And.intro rfl (And.intro rfl True.intro)))) (v1 c1)
  · exact j_le [some (.ref t), some (.int l1), some (.int l2), some (.int l3)] (And.intro rfl (And.intro rfl (And.intro rfl (And.intro rfl True.intro)))) (v2 c1)
set_option maxRecDepth 100000 in
theorem bX3_add_17 {sc : Nat × (Nat → Int32)} {h : jH} {Q : jQ} {t : Nat} {l1 l2 l3 : Int32} (t_h : jI3 t)
    (o1 : vp_in (h t 6) 300)
    (o2 : vp_in ((jput h (t + 1) ((h t 6).toNatClampNeg) l1) t 6) 300)
    (o3 : vp_in ((jput (jput h (t + 1) ((h t 6).toNatClampNeg) l1) (t + 2) (((jput h (t + 1) ((h t 6).toNatClampNeg) l1) t 6).toNatClampNeg) l2) t 6) 300)
    (v1 : WP mX3_add Q 54 [some (.ref t), some (.int l1), some (.int l2), some (.int l3)] [.int (((jput (jput (jput h (t + 1) ((h t 6).toNatClampNeg) l1) (t + 2) (((jput h (t + 1) ((h t 6).toNatClampNeg) l1) t 6).toNatClampNeg) l2) (t + 3) (((jput (jput h (t + 1) ((h t 6).toNatClampNeg) l1) (t + 2) (((jput h (t + 1) ((h t 6).toNatClampNeg) l1) t 6).toNatClampNeg) l2) t 6).toNatClampNeg) l3) t 6) + 1), .ref t] (jG0 sc) (jput (jput (jput h (t + 1) ((h t 6).toNatClampNeg) l1) (t + 2) (((jput h (t + 1) ((h t 6).toNatClampNeg) l1) t 6).toNatClampNeg) l2) (t + 3) (((jput (jput h (t + 1) ((h t 6).toNatClampNeg) l1) (t + 2) (((jput h (t + 1) ((h t 6).toNatClampNeg) l1) t 6).toNatClampNeg) l2) t 6).toNatClampNeg) l3) (0, 0)) :
    WP mX3_add Q 17 [some (.ref t), some (.int l1), some (.int l2), some (.int l3)] [] (jG0 sc) h (0, 0) := by
  obtain ⟨t_lt6, t_K0, t_R0_0, t_K1, t_L1, t_R0_1, t_K2, t_L2, t_R0_2, t_K3, t_L3, t_R0_3, t_K4, t_L4, t_R0_4, t_K5, t_L5, t_R0_5, t_K6, t_L6⟩ := t_h
  have t_lt5 : t + 5 < jN (jG0 sc) := Nat.lt_of_succ_lt t_lt6
  have t_lt4 : t + 4 < jN (jG0 sc) := Nat.lt_of_succ_lt t_lt5
  have t_lt3 : t + 3 < jN (jG0 sc) := Nat.lt_of_succ_lt t_lt4
  have t_lt2 : t + 2 < jN (jG0 sc) := Nat.lt_of_succ_lt t_lt3
  have t_lt1 : t + 1 < jN (jG0 sc) := Nat.lt_of_succ_lt t_lt2
  have t_lt0 : t + 0 < jN (jG0 sc) := Nat.lt_of_succ_lt t_lt1
  refine j_aload_n (i := 0) rfl dX3_add_17 ?_
  refine j_getR (idx := 9) (ci := 3) (k := 0) (nest := false) (show (3, 9, 3, 0, false) ∈ jFT by decide) rfl (t_lt0) t_K0 (a := (t + 1)) t_R0_0 dX3_add_18 ?_
  refine j_aload_n (i := 0) rfl dX3_add_21 ?_
  refine j_getI (idx := 37) (ci := 3) (k := 6) (nest := false) (show (3, 37, 3, 6, false) ∈ jFT by decide) rfl (t_lt0) t_K0 dX3_add_22 ?_
  refine j_iload_n (i := 1) rfl dX3_add_25 ?_
  refine j_iast (t_lt1) t_K1 (by rw [show jL (jG0 sc) (t + 1) = 300 from t_L1]; exact o1) dX3_add_26 ?_
  refine j_aload_n (i := 0) rfl dX3_add_27 ?_
  refine j_getR (idx := 15) (ci := 3) (k := 1) (nest := false) (show (3, 15, 3, 1, false) ∈ jFT by decide) rfl (t_lt0) t_K0 (a := (t + 2)) t_R0_1 dX3_add_28 ?_
  refine j_aload_n (i := 0) rfl dX3_add_31 ?_
  refine j_getI (idx := 37) (ci := 3) (k := 6) (nest := false) (show (3, 37, 3, 6, false) ∈ jFT by decide) rfl (t_lt0) t_K0 dX3_add_32 ?_
  refine j_iload_n (i := 2) rfl dX3_add_35 ?_
  refine j_iast (t_lt2) t_K2 (by rw [show jL (jG0 sc) (t + 2) = 300 from t_L2]; exact o2) dX3_add_36 ?_
  refine j_aload_n (i := 0) rfl dX3_add_37 ?_
  refine j_getR (idx := 18) (ci := 3) (k := 2) (nest := false) (show (3, 18, 3, 2, false) ∈ jFT by decide) rfl (t_lt0) t_K0 (a := (t + 3)) t_R0_2 dX3_add_38 ?_
  refine j_aload_n (i := 0) rfl dX3_add_41 ?_
  refine j_getI (idx := 37) (ci := 3) (k := 6) (nest := false) (show (3, 37, 3, 6, false) ∈ jFT by decide) rfl (t_lt0) t_K0 dX3_add_42 ?_
  refine j_iload_n (i := 3) rfl dX3_add_45 ?_
  refine j_iast (t_lt3) t_K3 (by rw [show jL (jG0 sc) (t + 3) = 300 from t_L3]; exact o3) dX3_add_46 ?_
  refine j_aload_n (i := 0) rfl dX3_add_47 ?_
  refine j_dup rfl dX3_add_48 ?_
  refine j_getI (idx := 37) (ci := 3) (k := 6) (nest := false) (show (3, 37, 3, 6, false) ∈ jFT by decide) rfl (t_lt0) t_K0 dX3_add_49 ?_
  refine j_iconst (n := 1) 1 (by decide) dX3_add_52 ?_
  refine j_iadd dX3_add_53 ?_
  exact j_le [some (.ref t), some (.int l1), some (.int l2), some (.int l3)] (And.intro rfl (And.intro rfl (And.intro rfl (And.intro rfl True.intro)))) v1
set_option maxRecDepth 100000 in
theorem bX3_add_54 {sc : Nat × (Nat → Int32)} {h : jH} {Q : jQ} {t : Nat} {l1 l2 l3 s0 : Int32} (t_h : jI3 t)
    (v1 : WP mX3_add Q 57 [some (.ref t), some (.int l1), some (.int l2), some (.int l3)] [] (jG0 sc) (jput h t 6 s0) (0, 0)) :
    WP mX3_add Q 54 [some (.ref t), some (.int l1), some (.int l2), some (.int l3)] [.int s0, .ref t] (jG0 sc) h (0, 0) := by
  obtain ⟨t_lt6, t_K0, t_R0_0, t_K1, t_L1, t_R0_1, t_K2, t_L2, t_R0_2, t_K3, t_L3, t_R0_3, t_K4, t_L4, t_R0_4, t_K5, t_L5, t_R0_5, t_K6, t_L6⟩ := t_h
  have t_lt5 : t + 5 < jN (jG0 sc) := Nat.lt_of_succ_lt t_lt6
  have t_lt4 : t + 4 < jN (jG0 sc) := Nat.lt_of_succ_lt t_lt5
  have t_lt3 : t + 3 < jN (jG0 sc) := Nat.lt_of_succ_lt t_lt4
  have t_lt2 : t + 2 < jN (jG0 sc) := Nat.lt_of_succ_lt t_lt3
  have t_lt1 : t + 1 < jN (jG0 sc) := Nat.lt_of_succ_lt t_lt2
  have t_lt0 : t + 0 < jN (jG0 sc) := Nat.lt_of_succ_lt t_lt1
  refine j_putI (idx := 37) (ci := 3) (k := 6) (nest := false) (show (3, 37, 3, 6, false) ∈ jFT by decide) rfl rfl rfl rfl (t_lt0) t_K0 dX3_add_54 ?_
  exact j_le [some (.ref t), some (.int l1), some (.int l2), some (.int l3)] (And.intro rfl (And.intro rfl (And.intro rfl (And.intro rfl True.intro)))) v1
set_option maxRecDepth 100000 in
theorem bX3_add_57 {sc : Nat × (Nat → Int32)} {h : jH} {Q : jQ} {t : Nat} {l1 l2 l3 : Int32} (t_h : jI3 t)
    (v1 : Q (.inl none) (jG0 sc) h) :
    WP mX3_add Q 57 [some (.ref t), some (.int l1), some (.int l2), some (.int l3)] [] (jG0 sc) h (0, 0) := by
  obtain ⟨t_lt6, t_K0, t_R0_0, t_K1, t_L1, t_R0_1, t_K2, t_L2, t_R0_2, t_K3, t_L3, t_R0_3, t_K4, t_L4, t_R0_4, t_K5, t_L5, t_R0_5, t_K6, t_L6⟩ := t_h
  have t_lt5 : t + 5 < jN (jG0 sc) := Nat.lt_of_succ_lt t_lt6
  have t_lt4 : t + 4 < jN (jG0 sc) := Nat.lt_of_succ_lt t_lt5
  have t_lt3 : t + 3 < jN (jG0 sc) := Nat.lt_of_succ_lt t_lt4
  have t_lt2 : t + 2 < jN (jG0 sc) := Nat.lt_of_succ_lt t_lt3
  have t_lt1 : t + 1 < jN (jG0 sc) := Nat.lt_of_succ_lt t_lt2
  have t_lt0 : t + 0 < jN (jG0 sc) := Nat.lt_of_succ_lt t_lt1
  exact j_vret rfl (Nat.zero_le _) (Nat.zero_le _) dX3_add_57 v1
set_option maxRecDepth 100000 in
theorem rX3_add_0 {sc : Nat × (Nat → Int32)} {h : jH} {Q : jQ} {t : Nat} {l1 l2 l3 : Int32} (t_h : jI3 t)
    (v1 : (h t 6) < 0 → Q (.inl none) (jG0 sc) h)
    (v2 : ¬ (h t 6) < 0 → 300 ≤ (h t 6) → Q (.inl none) (jG0 sc) h)
    (o1 : ¬ (h t 6) < 0 → ¬ 300 ≤ (h t 6) → vp_in (h t 6) 300)
    (o2 : ¬ (h t 6) < 0 → ¬ 300 ≤ (h t 6) → vp_in ((jput h (t + 1) ((h t 6).toNatClampNeg) l1) t 6) 300)
    (o3 : ¬ (h t 6) < 0 → ¬ 300 ≤ (h t 6) → vp_in ((jput (jput h (t + 1) ((h t 6).toNatClampNeg) l1) (t + 2) (((jput h (t + 1) ((h t 6).toNatClampNeg) l1) t 6).toNatClampNeg) l2) t 6) 300)
    (v3 : ¬ (h t 6) < 0 → ¬ 300 ≤ (h t 6) → Q (.inl none) (jG0 sc) (jput (jput (jput (jput h (t + 1) ((h t 6).toNatClampNeg) l1) (t + 2) (((jput h (t + 1) ((h t 6).toNatClampNeg) l1) t 6).toNatClampNeg) l2) (t + 3) (((jput (jput h (t + 1) ((h t 6).toNatClampNeg) l1) (t + 2) (((jput h (t + 1) ((h t 6).toNatClampNeg) l1) t 6).toNatClampNeg) l2) t 6).toNatClampNeg) l3) t 6 (((jput (jput (jput h (t + 1) ((h t 6).toNatClampNeg) l1) (t + 2) (((jput h (t + 1) ((h t 6).toNatClampNeg) l1) t 6).toNatClampNeg) l2) (t + 3) (((jput (jput h (t + 1) ((h t 6).toNatClampNeg) l1) (t + 2) (((jput h (t + 1) ((h t 6).toNatClampNeg) l1) t 6).toNatClampNeg) l2) t 6).toNatClampNeg) l3) t 6) + 1))) :
    WP mX3_add Q 0 [some (.ref t), some (.int l1), some (.int l2), some (.int l3)] [] (jG0 sc) h (0, 0) := by
  exact (bX3_add_0 t_h (fun c1 => (bX3_add_57 t_h (v1 c1))) (fun c1 => (bX3_add_7 t_h (fun c2 => (bX3_add_57 t_h (v2 c1 c2))) (fun c2 => (bX3_add_17 t_h (o1 c1 c2) (o2 c1 c2) (o3 c1 c2) (bX3_add_54 t_h (bX3_add_57 t_h (v3 c1 c2))))))))
theorem dX3_addNames_0 : decode (mC mX3_addNames) 0 = .ok (.iload_n 2, 1) := by decide +kernel
theorem dX3_addNames_1 : decode (mC mX3_addNames) 1 = .ok (.invokestatic 61, 3) := by decide +kernel
theorem dX3_addNames_4 : decode (mC mX3_addNames) 4 = .ok (.istore_n 3, 1) := by decide +kernel
theorem dX3_addNames_5 : decode (mC mX3_addNames) 5 = .ok (.iload_n 2, 1) := by decide +kernel
theorem dX3_addNames_6 : decode (mC mX3_addNames) 6 = .ok (.invokestatic 64, 3) := by decide +kernel
theorem dX3_addNames_9 : decode (mC mX3_addNames) 9 = .ok (.istore 4, 2) := by decide +kernel
theorem dX3_addNames_11 : decode (mC mX3_addNames) 11 = .ok (.iconst 0, 1) := by decide +kernel
theorem dX3_addNames_12 : decode (mC mX3_addNames) 12 = .ok (.istore 5, 2) := by decide +kernel
theorem dX3_addNames_14 : decode (mC mX3_addNames) 14 = .ok (.iload 5, 2) := by decide +kernel
theorem dX3_addNames_16 : decode (mC mX3_addNames) 16 = .ok (.bipush 6, 2) := by decide +kernel
theorem dX3_addNames_18 : decode (mC mX3_addNames) 18 = .ok (.if_icmp .ge 37, 3) := by decide +kernel
theorem dX3_addNames_21 : decode (mC mX3_addNames) 21 = .ok (.iload_n 3, 1) := by decide +kernel
theorem dX3_addNames_22 : decode (mC mX3_addNames) 22 = .ok (.ifCond .lt 27, 3) := by decide +kernel
theorem dX3_addNames_25 : decode (mC mX3_addNames) 25 = .ok (.iload_n 3, 1) := by decide +kernel
theorem dX3_addNames_26 : decode (mC mX3_addNames) 26 = .ok (.bipush 6, 2) := by decide +kernel
theorem dX3_addNames_28 : decode (mC mX3_addNames) 28 = .ok (.if_icmp .ge 21, 3) := by decide +kernel
theorem dX3_addNames_31 : decode (mC mX3_addNames) 31 = .ok (.iload 5, 2) := by decide +kernel
theorem dX3_addNames_33 : decode (mC mX3_addNames) 33 = .ok (.iload_n 3, 1) := by decide +kernel
theorem dX3_addNames_34 : decode (mC mX3_addNames) 34 = .ok (.if_icmp .eq 15, 3) := by decide +kernel
theorem dX3_addNames_37 : decode (mC mX3_addNames) 37 = .ok (.aload_n 0, 1) := by decide +kernel
theorem dX3_addNames_38 : decode (mC mX3_addNames) 38 = .ok (.iconst 0, 1) := by decide +kernel
theorem dX3_addNames_39 : decode (mC mX3_addNames) 39 = .ok (.iload_n 1, 1) := by decide +kernel
theorem dX3_addNames_40 : decode (mC mX3_addNames) 40 = .ok (.iload_n 2, 1) := by decide +kernel
theorem dX3_addNames_41 : decode (mC mX3_addNames) 41 = .ok (.iload 5, 2) := by decide +kernel
theorem dX3_addNames_43 : decode (mC mX3_addNames) 43 = .ok (.invokestatic 67, 3) := by decide +kernel
theorem dX3_addNames_46 : decode (mC mX3_addNames) 46 = .ok (.invokevirtual 71, 3) := by decide +kernel
theorem dX3_addNames_49 : decode (mC mX3_addNames) 49 = .ok (.iinc 5 1, 3) := by decide +kernel
theorem dX3_addNames_52 : decode (mC mX3_addNames) 52 = .ok (.goto (-38), 3) := by decide +kernel
theorem dX3_addNames_55 : decode (mC mX3_addNames) 55 = .ok (.iconst 0, 1) := by decide +kernel
theorem dX3_addNames_56 : decode (mC mX3_addNames) 56 = .ok (.istore 5, 2) := by decide +kernel
theorem dX3_addNames_58 : decode (mC mX3_addNames) 58 = .ok (.iload 5, 2) := by decide +kernel
theorem dX3_addNames_60 : decode (mC mX3_addNames) 60 = .ok (.bipush 6, 2) := by decide +kernel
theorem dX3_addNames_62 : decode (mC mX3_addNames) 62 = .ok (.if_icmp .ge 40, 3) := by decide +kernel
theorem dX3_addNames_65 : decode (mC mX3_addNames) 65 = .ok (.iload 4, 2) := by decide +kernel
theorem dX3_addNames_67 : decode (mC mX3_addNames) 67 = .ok (.ifCond .lt 29, 3) := by decide +kernel
theorem dX3_addNames_70 : decode (mC mX3_addNames) 70 = .ok (.iload 4, 2) := by decide +kernel
theorem dX3_addNames_72 : decode (mC mX3_addNames) 72 = .ok (.bipush 6, 2) := by decide +kernel
theorem dX3_addNames_74 : decode (mC mX3_addNames) 74 = .ok (.if_icmp .ge 22, 3) := by decide +kernel
theorem dX3_addNames_77 : decode (mC mX3_addNames) 77 = .ok (.iload 5, 2) := by decide +kernel
theorem dX3_addNames_79 : decode (mC mX3_addNames) 79 = .ok (.iload 4, 2) := by decide +kernel
theorem dX3_addNames_81 : decode (mC mX3_addNames) 81 = .ok (.if_icmp .eq 15, 3) := by decide +kernel
theorem dX3_addNames_84 : decode (mC mX3_addNames) 84 = .ok (.aload_n 0, 1) := by decide +kernel
theorem dX3_addNames_85 : decode (mC mX3_addNames) 85 = .ok (.iconst 0, 1) := by decide +kernel
theorem dX3_addNames_86 : decode (mC mX3_addNames) 86 = .ok (.iload_n 1, 1) := by decide +kernel
theorem dX3_addNames_87 : decode (mC mX3_addNames) 87 = .ok (.iload_n 2, 1) := by decide +kernel
theorem dX3_addNames_88 : decode (mC mX3_addNames) 88 = .ok (.iload 5, 2) := by decide +kernel
theorem dX3_addNames_90 : decode (mC mX3_addNames) 90 = .ok (.invokestatic 75, 3) := by decide +kernel
theorem dX3_addNames_93 : decode (mC mX3_addNames) 93 = .ok (.invokevirtual 71, 3) := by decide +kernel
theorem dX3_addNames_96 : decode (mC mX3_addNames) 96 = .ok (.iinc 5 1, 3) := by decide +kernel
theorem dX3_addNames_99 : decode (mC mX3_addNames) 99 = .ok (.goto (-41), 3) := by decide +kernel
theorem dX3_addNames_102 : decode (mC mX3_addNames) 102 = .ok (.iconst 0, 1) := by decide +kernel
theorem dX3_addNames_103 : decode (mC mX3_addNames) 103 = .ok (.istore 5, 2) := by decide +kernel
theorem dX3_addNames_105 : decode (mC mX3_addNames) 105 = .ok (.iload 5, 2) := by decide +kernel
theorem dX3_addNames_107 : decode (mC mX3_addNames) 107 = .ok (.iconst 4, 1) := by decide +kernel
theorem dX3_addNames_108 : decode (mC mX3_addNames) 108 = .ok (.if_icmp .ge 37, 3) := by decide +kernel
theorem dX3_addNames_111 : decode (mC mX3_addNames) 111 = .ok (.iload_n 2, 1) := by decide +kernel
theorem dX3_addNames_112 : decode (mC mX3_addNames) 112 = .ok (.invokestatic 78, 3) := by decide +kernel
theorem dX3_addNames_115 : decode (mC mX3_addNames) 115 = .ok (.ifCond .ne 24, 3) := by decide +kernel
theorem dX3_addNames_118 : decode (mC mX3_addNames) 118 = .ok (.iload 5, 2) := by decide +kernel
theorem dX3_addNames_120 : decode (mC mX3_addNames) 120 = .ok (.iload_n 2, 1) := by decide +kernel
theorem dX3_addNames_121 : decode (mC mX3_addNames) 121 = .ok (.invokestatic 81, 3) := by decide +kernel
theorem dX3_addNames_124 : decode (mC mX3_addNames) 124 = .ok (.if_icmp .eq 15, 3) := by decide +kernel
theorem dX3_addNames_127 : decode (mC mX3_addNames) 127 = .ok (.aload_n 0, 1) := by decide +kernel
theorem dX3_addNames_128 : decode (mC mX3_addNames) 128 = .ok (.iconst 0, 1) := by decide +kernel
theorem dX3_addNames_129 : decode (mC mX3_addNames) 129 = .ok (.iload_n 1, 1) := by decide +kernel
theorem dX3_addNames_130 : decode (mC mX3_addNames) 130 = .ok (.iload_n 2, 1) := by decide +kernel
theorem dX3_addNames_131 : decode (mC mX3_addNames) 131 = .ok (.iload 5, 2) := by decide +kernel
theorem dX3_addNames_133 : decode (mC mX3_addNames) 133 = .ok (.invokestatic 84, 3) := by decide +kernel
theorem dX3_addNames_136 : decode (mC mX3_addNames) 136 = .ok (.invokevirtual 71, 3) := by decide +kernel
theorem dX3_addNames_139 : decode (mC mX3_addNames) 139 = .ok (.iinc 5 1, 3) := by decide +kernel
theorem dX3_addNames_142 : decode (mC mX3_addNames) 142 = .ok (.goto (-37), 3) := by decide +kernel
theorem dX3_addNames_145 : decode (mC mX3_addNames) 145 = .ok (.return_, 1) := by decide +kernel
set_option maxRecDepth 100000 in
theorem bX3_addNames_0 {sc : Nat × (Nat → Int32)} {h : jH} {Q : jQ} {t : Nat} {l1 l2 : Int32} {P1 : Int32 → jH → Prop} {P2 : Int32 → jH → Prop} (t_h : jI3 t)
    (k1 : JM mX11_firstOf [.int l2] (jG0 sc) h (jint sc P1))
    (k2 : ∀ (x1 : Int32) (h1 : jH), P1 x1 h1 → JM mX11_secondOf [.int l2] (jG0 sc) h1 (jint sc P2))
    (v1 : ∀ (x1 : Int32) (h1 : jH), P1 x1 h1 → ∀ (x2 : Int32) (h2 : jH), P2 x2 h2 → WP mX3_addNames Q 14 [some (.ref t), some (.int l1), some (.int l2), some (.int x1), some (.int x2), some (.int 0)] [] (jG0 sc) h2 (0, 0)) :
    WP mX3_addNames Q 0 [some (.ref t), some (.int l1), some (.int l2), none, none, none] [] (jG0 sc) h (0, 0) := by
  obtain ⟨t_lt6, t_K0, t_R0_0, t_K1, t_L1, t_R0_1, t_K2, t_L2, t_R0_2, t_K3, t_L3, t_R0_3, t_K4, t_L4, t_R0_4, t_K5, t_L5, t_R0_5, t_K6, t_L6⟩ := t_h
  have t_lt5 : t + 5 < jN (jG0 sc) := Nat.lt_of_succ_lt t_lt6
  have t_lt4 : t + 4 < jN (jG0 sc) := Nat.lt_of_succ_lt t_lt5
  have t_lt3 : t + 3 < jN (jG0 sc) := Nat.lt_of_succ_lt t_lt4
  have t_lt2 : t + 2 < jN (jG0 sc) := Nat.lt_of_succ_lt t_lt3
  have t_lt1 : t + 1 < jN (jG0 sc) := Nat.lt_of_succ_lt t_lt2
  have t_lt0 : t + 0 < jN (jG0 sc) := Nat.lt_of_succ_lt t_lt1
  refine j_iload_n (i := 2) rfl dX3_addNames_0 ?_
  refine j_callSN (idx := 61) (As := [.int l2]) (n := 1) k1 jint_nt (jTbl (jtb3 105 rfl)) sX11_firstOf kX11_firstOf rfl ⟨by decide +kernel, by decide +kernel, by decide +kernel⟩ rfl ⟨by decide, by decide⟩ (Nat.le_of_ble_eq_true rfl) ⟨Nat.zero_le _, Nat.zero_le _⟩ dX3_addNames_1 (fun r Γ' h1 q => ?_)
  obtain ⟨x1, q0, rfl, p1⟩ := q; cases q0
  refine j_eqst [.int x1] (by rfl) ?_
  refine j_istore_n (i := 3) dX3_addNames_4 (Nat.le_of_ble_eq_true rfl) ?_
  refine j_iload_n (i := 2) rfl dX3_addNames_5 ?_
  refine j_callSN (idx := 64) (As := [.int l2]) (n := 1) (k2 x1 h1 p1) jint_nt (jTbl (jtb3 106 rfl)) sX11_secondOf kX11_secondOf rfl ⟨by decide +kernel, by decide +kernel, by decide +kernel⟩ rfl ⟨by decide, by decide⟩ (Nat.le_of_ble_eq_true rfl) ⟨Nat.zero_le _, Nat.zero_le _⟩ dX3_addNames_6 (fun r Γ' h2 q => ?_)
  obtain ⟨x2, q0, rfl, p2⟩ := q; cases q0
  refine j_eqst [.int x2] (by rfl) ?_
  refine j_istore (i := 4) dX3_addNames_9 (Nat.le_of_ble_eq_true rfl) ?_
  refine j_iconst (n := 0) 0 (by decide) dX3_addNames_11 ?_
  refine j_istore (i := 5) dX3_addNames_12 (Nat.le_of_ble_eq_true rfl) ?_
  exact j_le [some (.ref t), some (.int l1), some (.int l2), some (.int x1), some (.int x2), some (.int 0)] (And.intro rfl (And.intro rfl (And.intro rfl (And.intro rfl (And.intro rfl (And.intro rfl True.intro)))))) (v1 x1 h1 p1 x2 h2 p2)
set_option maxRecDepth 100000 in
theorem bX3_addNames_14 {sc : Nat × (Nat → Int32)} {h : jH} {Q : jQ} {t : Nat} {l1 l2 l3 l4 l5 : Int32} (t_h : jI3 t)
    (v1 : 6 ≤ l5 → WP mX3_addNames Q 55 [some (.ref t), some (.int l1), some (.int l2), some (.int l3), some (.int l4), some (.int l5)] [] (jG0 sc) h (0, 0))
    (v2 : ¬ 6 ≤ l5 → WP mX3_addNames Q 21 [some (.ref t), some (.int l1), some (.int l2), some (.int l3), some (.int l4), some (.int l5)] [] (jG0 sc) h (0, 0)) :
    WP mX3_addNames Q 14 [some (.ref t), some (.int l1), some (.int l2), some (.int l3), some (.int l4), some (.int l5)] [] (jG0 sc) h (0, 0) := by
  obtain ⟨t_lt6, t_K0, t_R0_0, t_K1, t_L1, t_R0_1, t_K2, t_L2, t_R0_2, t_K3, t_L3, t_R0_3, t_K4, t_L4, t_R0_4, t_K5, t_L5, t_R0_5, t_K6, t_L6⟩ := t_h
  have t_lt5 : t + 5 < jN (jG0 sc) := Nat.lt_of_succ_lt t_lt6
  have t_lt4 : t + 4 < jN (jG0 sc) := Nat.lt_of_succ_lt t_lt5
  have t_lt3 : t + 3 < jN (jG0 sc) := Nat.lt_of_succ_lt t_lt4
  have t_lt2 : t + 2 < jN (jG0 sc) := Nat.lt_of_succ_lt t_lt3
  have t_lt1 : t + 1 < jN (jG0 sc) := Nat.lt_of_succ_lt t_lt2
  have t_lt0 : t + 0 < jN (jG0 sc) := Nat.lt_of_succ_lt t_lt1
  refine j_iload (i := 5) rfl dX3_addNames_14 ?_
  refine j_bipush (n := 6) 6 (by decide) dX3_addNames_16 ?_
  refine j_icmp_ge (off := 37) 55 dX3_addNames_18 (by decide) (fun c1 => ?_) (fun c1 => ?_)
  · exact j_le [some (.ref t), some (.int l1), some (.int l2), some (.int l3), some (.int l4), some (.int l5)] (And.intro rfl (And.intro rfl (And.intro rfl (And.intro rfl (And.intro rfl (And.intro rfl True.intro)))))) (v1 c1)
  · exact j_le [some (.ref t), some (.int l1), some (.int l2), some (.int l3), some (.int l4), some (.int l5)] (And.intro rfl (And.intro rfl (And.intro rfl (And.intro rfl (And.intro rfl (And.intro rfl True.intro)))))) (v2 c1)
set_option maxRecDepth 100000 in
theorem bX3_addNames_21 {sc : Nat × (Nat → Int32)} {h : jH} {Q : jQ} {t : Nat} {l1 l2 l3 l4 l5 : Int32} (t_h : jI3 t)
    (v1 : l3 < 0 → WP mX3_addNames Q 49 [some (.ref t), some (.int l1), some (.int l2), some (.int l3), some (.int l4), some (.int l5)] [] (jG0 sc) h (0, 0))
    (v2 : ¬ l3 < 0 → WP mX3_addNames Q 25 [some (.ref t), some (.int l1), some (.int l2), some (.int l3), some (.int l4), some (.int l5)] [] (jG0 sc) h (0, 0)) :
    WP mX3_addNames Q 21 [some (.ref t), some (.int l1), some (.int l2), some (.int l3), some (.int l4), some (.int l5)] [] (jG0 sc) h (0, 0) := by
  obtain ⟨t_lt6, t_K0, t_R0_0, t_K1, t_L1, t_R0_1, t_K2, t_L2, t_R0_2, t_K3, t_L3, t_R0_3, t_K4, t_L4, t_R0_4, t_K5, t_L5, t_R0_5, t_K6, t_L6⟩ := t_h
  have t_lt5 : t + 5 < jN (jG0 sc) := Nat.lt_of_succ_lt t_lt6
  have t_lt4 : t + 4 < jN (jG0 sc) := Nat.lt_of_succ_lt t_lt5
  have t_lt3 : t + 3 < jN (jG0 sc) := Nat.lt_of_succ_lt t_lt4
  have t_lt2 : t + 2 < jN (jG0 sc) := Nat.lt_of_succ_lt t_lt3
  have t_lt1 : t + 1 < jN (jG0 sc) := Nat.lt_of_succ_lt t_lt2
  have t_lt0 : t + 0 < jN (jG0 sc) := Nat.lt_of_succ_lt t_lt1
  refine j_iload_n (i := 3) rfl dX3_addNames_21 ?_
  refine j_if_lt (off := 27) 49 dX3_addNames_22 (by decide) (fun c1 => ?_) (fun c1 => ?_)
  · exact j_le [some (.ref t), some (.int l1), some (.int l2), some (.int l3), some (.int l4), some (.int l5)] (And.intro rfl (And.intro rfl (And.intro rfl (And.intro rfl (And.intro rfl (And.intro rfl True.intro)))))) (v1 c1)
  · exact j_le [some (.ref t), some (.int l1), some (.int l2), some (.int l3), some (.int l4), some (.int l5)] (And.intro rfl (And.intro rfl (And.intro rfl (And.intro rfl (And.intro rfl (And.intro rfl True.intro)))))) (v2 c1)
set_option maxRecDepth 100000 in
theorem bX3_addNames_25 {sc : Nat × (Nat → Int32)} {h : jH} {Q : jQ} {t : Nat} {l1 l2 l3 l4 l5 : Int32} (t_h : jI3 t)
    (v1 : 6 ≤ l3 → WP mX3_addNames Q 49 [some (.ref t), some (.int l1), some (.int l2), some (.int l3), some (.int l4), some (.int l5)] [] (jG0 sc) h (0, 0))
    (v2 : ¬ 6 ≤ l3 → WP mX3_addNames Q 31 [some (.ref t), some (.int l1), some (.int l2), some (.int l3), some (.int l4), some (.int l5)] [] (jG0 sc) h (0, 0)) :
    WP mX3_addNames Q 25 [some (.ref t), some (.int l1), some (.int l2), some (.int l3), some (.int l4), some (.int l5)] [] (jG0 sc) h (0, 0) := by
  obtain ⟨t_lt6, t_K0, t_R0_0, t_K1, t_L1, t_R0_1, t_K2, t_L2, t_R0_2, t_K3, t_L3, t_R0_3, t_K4, t_L4, t_R0_4, t_K5, t_L5, t_R0_5, t_K6, t_L6⟩ := t_h
  have t_lt5 : t + 5 < jN (jG0 sc) := Nat.lt_of_succ_lt t_lt6
  have t_lt4 : t + 4 < jN (jG0 sc) := Nat.lt_of_succ_lt t_lt5
  have t_lt3 : t + 3 < jN (jG0 sc) := Nat.lt_of_succ_lt t_lt4
  have t_lt2 : t + 2 < jN (jG0 sc) := Nat.lt_of_succ_lt t_lt3
  have t_lt1 : t + 1 < jN (jG0 sc) := Nat.lt_of_succ_lt t_lt2
  have t_lt0 : t + 0 < jN (jG0 sc) := Nat.lt_of_succ_lt t_lt1
  refine j_iload_n (i := 3) rfl dX3_addNames_25 ?_
  refine j_bipush (n := 6) 6 (by decide) dX3_addNames_26 ?_
  refine j_icmp_ge (off := 21) 49 dX3_addNames_28 (by decide) (fun c1 => ?_) (fun c1 => ?_)
  · exact j_le [some (.ref t), some (.int l1), some (.int l2), some (.int l3), some (.int l4), some (.int l5)] (And.intro rfl (And.intro rfl (And.intro rfl (And.intro rfl (And.intro rfl (And.intro rfl True.intro)))))) (v1 c1)
  · exact j_le [some (.ref t), some (.int l1), some (.int l2), some (.int l3), some (.int l4), some (.int l5)] (And.intro rfl (And.intro rfl (And.intro rfl (And.intro rfl (And.intro rfl (And.intro rfl True.intro)))))) (v2 c1)
set_option maxRecDepth 100000 in
theorem bX3_addNames_31 {sc : Nat × (Nat → Int32)} {h : jH} {Q : jQ} {t : Nat} {l1 l2 l3 l4 l5 : Int32} (t_h : jI3 t)
    (v1 : l5 = l3 → WP mX3_addNames Q 49 [some (.ref t), some (.int l1), some (.int l2), some (.int l3), some (.int l4), some (.int l5)] [] (jG0 sc) h (0, 0))
    (v2 : ¬ l5 = l3 → WP mX3_addNames Q 37 [some (.ref t), some (.int l1), some (.int l2), some (.int l3), some (.int l4), some (.int l5)] [] (jG0 sc) h (0, 0)) :
    WP mX3_addNames Q 31 [some (.ref t), some (.int l1), some (.int l2), some (.int l3), some (.int l4), some (.int l5)] [] (jG0 sc) h (0, 0) := by
  obtain ⟨t_lt6, t_K0, t_R0_0, t_K1, t_L1, t_R0_1, t_K2, t_L2, t_R0_2, t_K3, t_L3, t_R0_3, t_K4, t_L4, t_R0_4, t_K5, t_L5, t_R0_5, t_K6, t_L6⟩ := t_h
  have t_lt5 : t + 5 < jN (jG0 sc) := Nat.lt_of_succ_lt t_lt6
  have t_lt4 : t + 4 < jN (jG0 sc) := Nat.lt_of_succ_lt t_lt5
  have t_lt3 : t + 3 < jN (jG0 sc) := Nat.lt_of_succ_lt t_lt4
  have t_lt2 : t + 2 < jN (jG0 sc) := Nat.lt_of_succ_lt t_lt3
  have t_lt1 : t + 1 < jN (jG0 sc) := Nat.lt_of_succ_lt t_lt2
  have t_lt0 : t + 0 < jN (jG0 sc) := Nat.lt_of_succ_lt t_lt1
  refine j_iload (i := 5) rfl dX3_addNames_31 ?_
  refine j_iload_n (i := 3) rfl dX3_addNames_33 ?_
  refine j_icmp_eq (off := 15) 49 dX3_addNames_34 (by decide) (fun c1 => ?_) (fun c1 => ?_)
  · exact j_le [some (.ref t), some (.int l1), some (.int l2), some (.int l3), some (.int l4), some (.int l5)] (And.intro rfl (And.intro rfl (And.intro rfl (And.intro rfl (And.intro rfl (And.intro rfl True.intro)))))) (v1 c1)
  · exact j_le [some (.ref t), some (.int l1), some (.int l2), some (.int l3), some (.int l4), some (.int l5)] (And.intro rfl (And.intro rfl (And.intro rfl (And.intro rfl (And.intro rfl (And.intro rfl True.intro)))))) (v2 c1)
set_option maxRecDepth 100000 in
theorem bX3_addNames_37 {sc : Nat × (Nat → Int32)} {h : jH} {Q : jQ} {t : Nat} {l1 l2 l3 l4 l5 : Int32} {P1 : Int32 → jH → Prop} {P2 : jH → Prop} (t_h : jI3 t)
    (k1 : JM mX11_withFirst [.int l2, .int l5] (jG0 sc) h (jint sc P1))
    (k2 : ∀ (x1 : Int32) (h1 : jH), P1 x1 h1 → JM mX3_add [.ref t, .int 0, .int l1, .int x1] (jG0 sc) h1 (jvoid sc P2))
    (v1 : ∀ (x1 : Int32) (h1 : jH), P1 x1 h1 → ∀ h2 : jH, P2 h2 → WP mX3_addNames Q 49 [some (.ref t), some (.int l1), some (.int l2), some (.int l3), some (.int l4), some (.int l5)] [] (jG0 sc) h2 (0, 0)) :
    WP mX3_addNames Q 37 [some (.ref t), some (.int l1), some (.int l2), some (.int l3), some (.int l4), some (.int l5)] [] (jG0 sc) h (0, 0) := by
  obtain ⟨t_lt6, t_K0, t_R0_0, t_K1, t_L1, t_R0_1, t_K2, t_L2, t_R0_2, t_K3, t_L3, t_R0_3, t_K4, t_L4, t_R0_4, t_K5, t_L5, t_R0_5, t_K6, t_L6⟩ := t_h
  have t_lt5 : t + 5 < jN (jG0 sc) := Nat.lt_of_succ_lt t_lt6
  have t_lt4 : t + 4 < jN (jG0 sc) := Nat.lt_of_succ_lt t_lt5
  have t_lt3 : t + 3 < jN (jG0 sc) := Nat.lt_of_succ_lt t_lt4
  have t_lt2 : t + 2 < jN (jG0 sc) := Nat.lt_of_succ_lt t_lt3
  have t_lt1 : t + 1 < jN (jG0 sc) := Nat.lt_of_succ_lt t_lt2
  have t_lt0 : t + 0 < jN (jG0 sc) := Nat.lt_of_succ_lt t_lt1
  refine j_aload_n (i := 0) rfl dX3_addNames_37 ?_
  refine j_iconst (n := 0) 0 (by decide) dX3_addNames_38 ?_
  refine j_iload_n (i := 1) rfl dX3_addNames_39 ?_
  refine j_iload_n (i := 2) rfl dX3_addNames_40 ?_
  refine j_iload (i := 5) rfl dX3_addNames_41 ?_
  refine j_callSN (idx := 67) (As := [.int l2, .int l5]) (n := 2) k1 jint_nt (jTbl (jtb3 107 rfl)) sX11_withFirst kX11_withFirst rfl ⟨by decide +kernel, by decide +kernel, by decide +kernel⟩ rfl ⟨by decide, by decide⟩ (Nat.le_of_ble_eq_true rfl) ⟨Nat.zero_le _, Nat.zero_le _⟩ dX3_addNames_43 (fun r Γ' h1 q => ?_)
  obtain ⟨x1, q0, rfl, p1⟩ := q; cases q0
  refine j_eqst [.int x1, .int l1, .int 0, .ref t] (by rfl) ?_
  refine j_callV (idx := 71) (As := [.int 0, .int l1, .int x1]) (ci := 3) (n := 3) (k2 x1 h1 p1) jvoid_nt (jlkT (jtb3 110 rfl) rfl) sX3_add kX3_add rfl ⟨rfl, by decide +kernel, by decide +kernel, by decide +kernel⟩ rfl ⟨by decide, by decide⟩ (t_lt0) t_K0 (Nat.le_of_ble_eq_true rfl) (Nat.le_of_ble_eq_true rfl) ⟨Nat.zero_le _, Nat.zero_le _⟩ dX3_addNames_46 (fun r Γ' h2 q => ?_)
  obtain ⟨q0, rfl, p2⟩ := q; cases q0
  refine j_eqst [] (by rfl) ?_
  exact j_le [some (.ref t), some (.int l1), some (.int l2), some (.int l3), some (.int l4), some (.int l5)] (And.intro rfl (And.intro rfl (And.intro rfl (And.intro rfl (And.intro rfl (And.intro rfl True.intro)))))) (v1 x1 h1 p1 h2 p2)
set_option maxRecDepth 100000 in
theorem bX3_addNames_49 {sc : Nat × (Nat → Int32)} {h : jH} {Q : jQ} {t : Nat} {l1 l2 l3 l4 l5 : Int32} (t_h : jI3 t)
    (v1 : WP mX3_addNames Q 14 [some (.ref t), some (.int l1), some (.int l2), some (.int l3), some (.int l4), some (.int (l5 + 1))] [] (jG0 sc) h (0, 0)) :
    WP mX3_addNames Q 49 [some (.ref t), some (.int l1), some (.int l2), some (.int l3), some (.int l4), some (.int l5)] [] (jG0 sc) h (0, 0) := by
  obtain ⟨t_lt6, t_K0, t_R0_0, t_K1, t_L1, t_R0_1, t_K2, t_L2, t_R0_2, t_K3, t_L3, t_R0_3, t_K4, t_L4, t_R0_4, t_K5, t_L5, t_R0_5, t_K6, t_L6⟩ := t_h
  have t_lt5 : t + 5 < jN (jG0 sc) := Nat.lt_of_succ_lt t_lt6
  have t_lt4 : t + 4 < jN (jG0 sc) := Nat.lt_of_succ_lt t_lt5
  have t_lt3 : t + 3 < jN (jG0 sc) := Nat.lt_of_succ_lt t_lt4
  have t_lt2 : t + 2 < jN (jG0 sc) := Nat.lt_of_succ_lt t_lt3
  have t_lt1 : t + 1 < jN (jG0 sc) := Nat.lt_of_succ_lt t_lt2
  have t_lt0 : t + 0 < jN (jG0 sc) := Nat.lt_of_succ_lt t_lt1
  refine j_iinc (i := 5) (n := 1) rfl dX3_addNames_49 (Nat.le_of_ble_eq_true rfl) ?_
  refine j_eqlv [some (.ref t), some (.int l1), some (.int l2), some (.int l3), some (.int l4), some (.int (l5 + 1))] rfl ?_
  refine j_goto (off := -38) 14 dX3_addNames_52 (by decide) ?_
  exact j_le [some (.ref t), some (.int l1), some (.int l2), some (.int l3), some (.int l4), some (.int (l5 + 1))] (And.intro rfl (And.intro rfl (And.intro rfl (And.intro rfl (And.intro rfl (And.intro rfl True.intro)))))) v1
set_option maxRecDepth 100000 in
theorem bX3_addNames_55 {sc : Nat × (Nat → Int32)} {h : jH} {Q : jQ} {t : Nat} {l1 l2 l3 l4 l5 : Int32} (t_h : jI3 t)
    (v1 : WP mX3_addNames Q 58 [some (.ref t), some (.int l1), some (.int l2), some (.int l3), some (.int l4), some (.int 0)] [] (jG0 sc) h (0, 0)) :
    WP mX3_addNames Q 55 [some (.ref t), some (.int l1), some (.int l2), some (.int l3), some (.int l4), some (.int l5)] [] (jG0 sc) h (0, 0) := by
  obtain ⟨t_lt6, t_K0, t_R0_0, t_K1, t_L1, t_R0_1, t_K2, t_L2, t_R0_2, t_K3, t_L3, t_R0_3, t_K4, t_L4, t_R0_4, t_K5, t_L5, t_R0_5, t_K6, t_L6⟩ := t_h
  have t_lt5 : t + 5 < jN (jG0 sc) := Nat.lt_of_succ_lt t_lt6
  have t_lt4 : t + 4 < jN (jG0 sc) := Nat.lt_of_succ_lt t_lt5
  have t_lt3 : t + 3 < jN (jG0 sc) := Nat.lt_of_succ_lt t_lt4
  have t_lt2 : t + 2 < jN (jG0 sc) := Nat.lt_of_succ_lt t_lt3
  have t_lt1 : t + 1 < jN (jG0 sc) := Nat.lt_of_succ_lt t_lt2
  have t_lt0 : t + 0 < jN (jG0 sc) := Nat.lt_of_succ_lt t_lt1
  refine j_iconst (n := 0) 0 (by decide) dX3_addNames_55 ?_
  refine j_istore (i := 5) dX3_addNames_56 (Nat.le_of_ble_eq_true rfl) ?_
  exact j_le [some (.ref t), some (.int l1), some (.int l2), some (.int l3), some (.int l4), some (.int 0)] (And.intro rfl (And.intro rfl (And.intro rfl (And.intro rfl (And.intro rfl (And.intro rfl True.intro)))))) v1
set_option maxRecDepth 100000 in
theorem bX3_addNames_58 {sc : Nat × (Nat → Int32)} {h : jH} {Q : jQ} {t : Nat} {l1 l2 l3 l4 l5 : Int32} (t_h : jI3 t)
    (v1 : 6 ≤ l5 → WP mX3_addNames Q 102 [some (.ref t), some (.int l1), some (.int l2), some (.int l3), some (.int l4), some (.int l5)] [] (jG0 sc) h (0, 0))
    (v2 : ¬ 6 ≤ l5 → WP mX3_addNames Q 65 [some (.ref t), some (.int l1), some (.int l2), some (.int l3), some (.int l4), some (.int l5)] [] (jG0 sc) h (0, 0)) :
    WP mX3_addNames Q 58 [some (.ref t), some (.int l1), some (.int l2), some (.int l3), some (.int l4), some (.int l5)] [] (jG0 sc) h (0, 0) := by
  obtain ⟨t_lt6, t_K0, t_R0_0, t_K1, t_L1, t_R0_1, t_K2, t_L2, t_R0_2, t_K3, t_L3, t_R0_3, t_K4, t_L4, t_R0_4, t_K5, t_L5, t_R0_5, t_K6, t_L6⟩ := t_h
  have t_lt5 : t + 5 < jN (jG0 sc) := Nat.lt_of_succ_lt t_lt6
  have t_lt4 : t + 4 < jN (jG0 sc) := Nat.lt_of_succ_lt t_lt5
  have t_lt3 : t + 3 < jN (jG0 sc) := Nat.lt_of_succ_lt t_lt4
  have t_lt2 : t + 2 < jN (jG0 sc) := Nat.lt_of_succ_lt t_lt3
  have t_lt1 : t + 1 < jN (jG0 sc) := Nat.lt_of_succ_lt t_lt2
  have t_lt0 : t + 0 < jN (jG0 sc) := Nat.lt_of_succ_lt t_lt1
  refine j_iload (i := 5) rfl dX3_addNames_58 ?_
  refine j_bipush (n := 6) 6 (by decide) dX3_addNames_60 ?_
  refine j_icmp_ge (off := 40) 102 dX3_addNames_62 (by decide) (fun c1 => ?_) (fun c1 => ?_)
  · exact j_le [some (.ref t), some (.int l1), some (.int l2), some (.int l3), some (.int l4), some (.int l5)] (And.intro rfl (And.intro rfl (And.intro rfl (And.intro rfl (And.intro rfl (And.intro rfl True.intro)))))) (v1 c1)
  · exact j_le [some (.ref t), some (.int l1), some (.int l2), some (.int l3), some (.int l4), some (.int l5)] (And.intro rfl (And.intro rfl (And.intro rfl (And.intro rfl (And.intro rfl (And.intro rfl True.intro)))))) (v2 c1)
set_option maxRecDepth 100000 in
theorem bX3_addNames_65 {sc : Nat × (Nat → Int32)} {h : jH} {Q : jQ} {t : Nat} {l1 l2 l3 l4 l5 : Int32} (t_h : jI3 t)
    (v1 : l4 < 0 → WP mX3_addNames Q 96 [some (.ref t), some (.int l1), some (.int l2), some (.int l3), some (.int l4), some (.int l5)] [] (jG0 sc) h (0, 0))
    (v2 : ¬ l4 < 0 → WP mX3_addNames Q 70 [some (.ref t), some (.int l1), some (.int l2), some (.int l3), some (.int l4), some (.int l5)] [] (jG0 sc) h (0, 0)) :
    WP mX3_addNames Q 65 [some (.ref t), some (.int l1), some (.int l2), some (.int l3), some (.int l4), some (.int l5)] [] (jG0 sc) h (0, 0) := by
  obtain ⟨t_lt6, t_K0, t_R0_0, t_K1, t_L1, t_R0_1, t_K2, t_L2, t_R0_2, t_K3, t_L3, t_R0_3, t_K4, t_L4, t_R0_4, t_K5, t_L5, t_R0_5, t_K6, t_L6⟩ := t_h
  have t_lt5 : t + 5 < jN (jG0 sc) := Nat.lt_of_succ_lt t_lt6
  have t_lt4 : t + 4 < jN (jG0 sc) := Nat.lt_of_succ_lt t_lt5
  have t_lt3 : t + 3 < jN (jG0 sc) := Nat.lt_of_succ_lt t_lt4
  have t_lt2 : t + 2 < jN (jG0 sc) := Nat.lt_of_succ_lt t_lt3
  have t_lt1 : t + 1 < jN (jG0 sc) := Nat.lt_of_succ_lt t_lt2
  have t_lt0 : t + 0 < jN (jG0 sc) := Nat.lt_of_succ_lt t_lt1
  refine j_iload (i := 4) rfl dX3_addNames_65 ?_
  refine j_if_lt (off := 29) 96 dX3_addNames_67 (by decide) (fun c1 => ?_) (fun c1 => ?_)
  · exact j_le [some (.ref t), some (.int l1), some (.int l2), some (.int l3), some (.int l4), some (.int l5)] (And.intro rfl (And.intro rfl (And.intro rfl (And.intro rfl (And.intro rfl (And.intro rfl True.intro)))))) (v1 c1)
  · exact j_le [some (.ref t), some (.int l1), some (.int l2), some (.int l3), some (.int l4), some (.int l5)] (And.intro rfl (And.intro rfl (And.intro rfl (And.intro rfl (And.intro rfl (And.intro rfl True.intro)))))) (v2 c1)
set_option maxRecDepth 100000 in
theorem bX3_addNames_70 {sc : Nat × (Nat → Int32)} {h : jH} {Q : jQ} {t : Nat} {l1 l2 l3 l4 l5 : Int32} (t_h : jI3 t)
    (v1 : 6 ≤ l4 → WP mX3_addNames Q 96 [some (.ref t), some (.int l1), some (.int l2), some (.int l3), some (.int l4), some (.int l5)] [] (jG0 sc) h (0, 0))
    (v2 : ¬ 6 ≤ l4 → WP mX3_addNames Q 77 [some (.ref t), some (.int l1), some (.int l2), some (.int l3), some (.int l4), some (.int l5)] [] (jG0 sc) h (0, 0)) :
    WP mX3_addNames Q 70 [some (.ref t), some (.int l1), some (.int l2), some (.int l3), some (.int l4), some (.int l5)] [] (jG0 sc) h (0, 0) := by
  obtain ⟨t_lt6, t_K0, t_R0_0, t_K1, t_L1, t_R0_1, t_K2, t_L2, t_R0_2, t_K3, t_L3, t_R0_3, t_K4, t_L4, t_R0_4, t_K5, t_L5, t_R0_5, t_K6, t_L6⟩ := t_h
  have t_lt5 : t + 5 < jN (jG0 sc) := Nat.lt_of_succ_lt t_lt6
  have t_lt4 : t + 4 < jN (jG0 sc) := Nat.lt_of_succ_lt t_lt5
  have t_lt3 : t + 3 < jN (jG0 sc) := Nat.lt_of_succ_lt t_lt4
  have t_lt2 : t + 2 < jN (jG0 sc) := Nat.lt_of_succ_lt t_lt3
  have t_lt1 : t + 1 < jN (jG0 sc) := Nat.lt_of_succ_lt t_lt2
  have t_lt0 : t + 0 < jN (jG0 sc) := Nat.lt_of_succ_lt t_lt1
  refine j_iload (i := 4) rfl dX3_addNames_70 ?_
  refine j_bipush (n := 6) 6 (by decide) dX3_addNames_72 ?_
  refine j_icmp_ge (off := 22) 96 dX3_addNames_74 (by decide) (fun c1 => ?_) (fun c1 => ?_)
  · exact j_le [some (.ref t), some (.int l1), some (.int l2), some (.int l3), some (.int l4), some (.int l5)] (And.intro rfl (And.intro rfl (And.intro rfl (And.intro rfl (And.intro rfl (And.intro rfl True.intro)))))) (v1 c1)
  · exact j_le [some (.ref t), some (.int l1), some (.int l2), some (.int l3), some (.int l4), some (.int l5)] (And.intro rfl (And.intro rfl (And.intro rfl (And.intro rfl (And.intro rfl (And.intro rfl True.intro)))))) (v2 c1)
set_option maxRecDepth 100000 in
theorem bX3_addNames_77 {sc : Nat × (Nat → Int32)} {h : jH} {Q : jQ} {t : Nat} {l1 l2 l3 l4 l5 : Int32} (t_h : jI3 t)
    (v1 : l5 = l4 → WP mX3_addNames Q 96 [some (.ref t), some (.int l1), some (.int l2), some (.int l3), some (.int l4), some (.int l5)] [] (jG0 sc) h (0, 0))
    (v2 : ¬ l5 = l4 → WP mX3_addNames Q 84 [some (.ref t), some (.int l1), some (.int l2), some (.int l3), some (.int l4), some (.int l5)] [] (jG0 sc) h (0, 0)) :
    WP mX3_addNames Q 77 [some (.ref t), some (.int l1), some (.int l2), some (.int l3), some (.int l4), some (.int l5)] [] (jG0 sc) h (0, 0) := by
  obtain ⟨t_lt6, t_K0, t_R0_0, t_K1, t_L1, t_R0_1, t_K2, t_L2, t_R0_2, t_K3, t_L3, t_R0_3, t_K4, t_L4, t_R0_4, t_K5, t_L5, t_R0_5, t_K6, t_L6⟩ := t_h
  have t_lt5 : t + 5 < jN (jG0 sc) := Nat.lt_of_succ_lt t_lt6
  have t_lt4 : t + 4 < jN (jG0 sc) := Nat.lt_of_succ_lt t_lt5
  have t_lt3 : t + 3 < jN (jG0 sc) := Nat.lt_of_succ_lt t_lt4
  have t_lt2 : t + 2 < jN (jG0 sc) := Nat.lt_of_succ_lt t_lt3
  have t_lt1 : t + 1 < jN (jG0 sc) := Nat.lt_of_succ_lt t_lt2
  have t_lt0 : t + 0 < jN (jG0 sc) := Nat.lt_of_succ_lt t_lt1
  refine j_iload (i := 5) rfl dX3_addNames_77 ?_
  refine j_iload (i := 4) rfl dX3_addNames_79 ?_
  refine j_icmp_eq (off := 15) 96 dX3_addNames_81 (by decide) (fun c1 => ?_) (fun c1 => ?_)
  · exact j_le [some (.ref t), some (.int l1), some (.int l2), some (.int l3), some (.int l4), some (.int l5)] (And.intro rfl (And.intro rfl (And.intro rfl (And.intro rfl (And.intro rfl (And.intro rfl True.intro)))))) (v1 c1)
  · exact j_le [some (.ref t), some (.int l1), some (.int l2), some (.int l3), some (.int l4), some (.int l5)] (And.intro rfl (And.intro rfl (And.intro rfl (And.intro rfl (And.intro rfl (And.intro rfl True.intro)))))) (v2 c1)
set_option maxRecDepth 100000 in
theorem bX3_addNames_84 {sc : Nat × (Nat → Int32)} {h : jH} {Q : jQ} {t : Nat} {l1 l2 l3 l4 l5 : Int32} {P1 : Int32 → jH → Prop} {P2 : jH → Prop} (t_h : jI3 t)
    (k1 : JM mX11_withSecond [.int l2, .int l5] (jG0 sc) h (jint sc P1))
    (k2 : ∀ (x1 : Int32) (h1 : jH), P1 x1 h1 → JM mX3_add [.ref t, .int 0, .int l1, .int x1] (jG0 sc) h1 (jvoid sc P2))
    (v1 : ∀ (x1 : Int32) (h1 : jH), P1 x1 h1 → ∀ h2 : jH, P2 h2 → WP mX3_addNames Q 96 [some (.ref t), some (.int l1), some (.int l2), some (.int l3), some (.int l4), some (.int l5)] [] (jG0 sc) h2 (0, 0)) :
    WP mX3_addNames Q 84 [some (.ref t), some (.int l1), some (.int l2), some (.int l3), some (.int l4), some (.int l5)] [] (jG0 sc) h (0, 0) := by
  obtain ⟨t_lt6, t_K0, t_R0_0, t_K1, t_L1, t_R0_1, t_K2, t_L2, t_R0_2, t_K3, t_L3, t_R0_3, t_K4, t_L4, t_R0_4, t_K5, t_L5, t_R0_5, t_K6, t_L6⟩ := t_h
  have t_lt5 : t + 5 < jN (jG0 sc) := Nat.lt_of_succ_lt t_lt6
  have t_lt4 : t + 4 < jN (jG0 sc) := Nat.lt_of_succ_lt t_lt5
  have t_lt3 : t + 3 < jN (jG0 sc) := Nat.lt_of_succ_lt t_lt4
  have t_lt2 : t + 2 < jN (jG0 sc) := Nat.lt_of_succ_lt t_lt3
  have t_lt1 : t + 1 < jN (jG0 sc) := Nat.lt_of_succ_lt t_lt2
  have t_lt0 : t + 0 < jN (jG0 sc) := Nat.lt_of_succ_lt t_lt1
  refine j_aload_n (i := 0) rfl dX3_addNames_84 ?_
  refine j_iconst (n := 0) 0 (by decide) dX3_addNames_85 ?_
  refine j_iload_n (i := 1) rfl dX3_addNames_86 ?_
  refine j_iload_n (i := 2) rfl dX3_addNames_87 ?_
  refine j_iload (i := 5) rfl dX3_addNames_88 ?_
  refine j_callSN (idx := 75) (As := [.int l2, .int l5]) (n := 2) k1 jint_nt (jTbl (jtb3 114 rfl)) sX11_withSecond kX11_withSecond rfl ⟨by decide +kernel, by decide +kernel, by decide +kernel⟩ rfl ⟨by decide, by decide⟩ (Nat.le_of_ble_eq_true rfl) ⟨Nat.zero_le _, Nat.zero_le _⟩ dX3_addNames_90 (fun r Γ' h1 q => ?_)
  obtain ⟨x1, q0, rfl, p1⟩ := q; cases q0
  refine j_eqst [.int x1, .int l1, .int 0, .ref t] (by rfl) ?_
  refine j_callV (idx := 71) (As := [.int 0, .int l1, .int x1]) (ci := 3) (n := 3) (k2 x1 h1 p1) jvoid_nt (jlkT (jtb3 110 rfl) rfl) sX3_add kX3_add rfl ⟨rfl, by decide +kernel, by decide +kernel, by decide +kernel⟩ rfl ⟨by decide, by decide⟩ (t_lt0) t_K0 (Nat.le_of_ble_eq_true rfl) (Nat.le_of_ble_eq_true rfl) ⟨Nat.zero_le _, Nat.zero_le _⟩ dX3_addNames_93 (fun r Γ' h2 q => ?_)
  obtain ⟨q0, rfl, p2⟩ := q; cases q0
  refine j_eqst [] (by rfl) ?_
  exact j_le [some (.ref t), some (.int l1), some (.int l2), some (.int l3), some (.int l4), some (.int l5)] (And.intro rfl (And.intro rfl (And.intro rfl (And.intro rfl (And.intro rfl (And.intro rfl True.intro)))))) (v1 x1 h1 p1 h2 p2)
set_option maxRecDepth 100000 in
theorem bX3_addNames_96 {sc : Nat × (Nat → Int32)} {h : jH} {Q : jQ} {t : Nat} {l1 l2 l3 l4 l5 : Int32} (t_h : jI3 t)
    (v1 : WP mX3_addNames Q 58 [some (.ref t), some (.int l1), some (.int l2), some (.int l3), some (.int l4), some (.int (l5 + 1))] [] (jG0 sc) h (0, 0)) :
    WP mX3_addNames Q 96 [some (.ref t), some (.int l1), some (.int l2), some (.int l3), some (.int l4), some (.int l5)] [] (jG0 sc) h (0, 0) := by
  obtain ⟨t_lt6, t_K0, t_R0_0, t_K1, t_L1, t_R0_1, t_K2, t_L2, t_R0_2, t_K3, t_L3, t_R0_3, t_K4, t_L4, t_R0_4, t_K5, t_L5, t_R0_5, t_K6, t_L6⟩ := t_h
  have t_lt5 : t + 5 < jN (jG0 sc) := Nat.lt_of_succ_lt t_lt6
  have t_lt4 : t + 4 < jN (jG0 sc) := Nat.lt_of_succ_lt t_lt5
  have t_lt3 : t + 3 < jN (jG0 sc) := Nat.lt_of_succ_lt t_lt4
  have t_lt2 : t + 2 < jN (jG0 sc) := Nat.lt_of_succ_lt t_lt3
  have t_lt1 : t + 1 < jN (jG0 sc) := Nat.lt_of_succ_lt t_lt2
  have t_lt0 : t + 0 < jN (jG0 sc) := Nat.lt_of_succ_lt t_lt1
  refine j_iinc (i := 5) (n := 1) rfl dX3_addNames_96 (Nat.le_of_ble_eq_true rfl) ?_
  refine j_eqlv [some (.ref t), some (.int l1), some (.int l2), some (.int l3), some (.int l4), some (.int (l5 + 1))] rfl ?_
  refine j_goto (off := -41) 58 dX3_addNames_99 (by decide) ?_
  exact j_le [some (.ref t), some (.int l1), some (.int l2), some (.int l3), some (.int l4), some (.int (l5 + 1))] (And.intro rfl (And.intro rfl (And.intro rfl (And.intro rfl (And.intro rfl (And.intro rfl True.intro)))))) v1
set_option maxRecDepth 100000 in
theorem bX3_addNames_102 {sc : Nat × (Nat → Int32)} {h : jH} {Q : jQ} {t : Nat} {l1 l2 l3 l4 l5 : Int32} (t_h : jI3 t)
    (v1 : WP mX3_addNames Q 105 [some (.ref t), some (.int l1), some (.int l2), some (.int l3), some (.int l4), some (.int 0)] [] (jG0 sc) h (0, 0)) :
    WP mX3_addNames Q 102 [some (.ref t), some (.int l1), some (.int l2), some (.int l3), some (.int l4), some (.int l5)] [] (jG0 sc) h (0, 0) := by
  obtain ⟨t_lt6, t_K0, t_R0_0, t_K1, t_L1, t_R0_1, t_K2, t_L2, t_R0_2, t_K3, t_L3, t_R0_3, t_K4, t_L4, t_R0_4, t_K5, t_L5, t_R0_5, t_K6, t_L6⟩ := t_h
  have t_lt5 : t + 5 < jN (jG0 sc) := Nat.lt_of_succ_lt t_lt6
  have t_lt4 : t + 4 < jN (jG0 sc) := Nat.lt_of_succ_lt t_lt5
  have t_lt3 : t + 3 < jN (jG0 sc) := Nat.lt_of_succ_lt t_lt4
  have t_lt2 : t + 2 < jN (jG0 sc) := Nat.lt_of_succ_lt t_lt3
  have t_lt1 : t + 1 < jN (jG0 sc) := Nat.lt_of_succ_lt t_lt2
  have t_lt0 : t + 0 < jN (jG0 sc) := Nat.lt_of_succ_lt t_lt1
  refine j_iconst (n := 0) 0 (by decide) dX3_addNames_102 ?_
  refine j_istore (i := 5) dX3_addNames_103 (Nat.le_of_ble_eq_true rfl) ?_
  exact j_le [some (.ref t), some (.int l1), some (.int l2), some (.int l3), some (.int l4), some (.int 0)] (And.intro rfl (And.intro rfl (And.intro rfl (And.intro rfl (And.intro rfl (And.intro rfl True.intro)))))) v1
set_option maxRecDepth 100000 in
theorem bX3_addNames_105 {sc : Nat × (Nat → Int32)} {h : jH} {Q : jQ} {t : Nat} {l1 l2 l3 l4 l5 : Int32} (t_h : jI3 t)
    (v1 : 4 ≤ l5 → WP mX3_addNames Q 145 [some (.ref t), some (.int l1), some (.int l2), some (.int l3), some (.int l4), some (.int l5)] [] (jG0 sc) h (0, 0))
    (v2 : ¬ 4 ≤ l5 → WP mX3_addNames Q 111 [some (.ref t), some (.int l1), some (.int l2), some (.int l3), some (.int l4), some (.int l5)] [] (jG0 sc) h (0, 0)) :
    WP mX3_addNames Q 105 [some (.ref t), some (.int l1), some (.int l2), some (.int l3), some (.int l4), some (.int l5)] [] (jG0 sc) h (0, 0) := by
  obtain ⟨t_lt6, t_K0, t_R0_0, t_K1, t_L1, t_R0_1, t_K2, t_L2, t_R0_2, t_K3, t_L3, t_R0_3, t_K4, t_L4, t_R0_4, t_K5, t_L5, t_R0_5, t_K6, t_L6⟩ := t_h
  have t_lt5 : t + 5 < jN (jG0 sc) := Nat.lt_of_succ_lt t_lt6
  have t_lt4 : t + 4 < jN (jG0 sc) := Nat.lt_of_succ_lt t_lt5
  have t_lt3 : t + 3 < jN (jG0 sc) := Nat.lt_of_succ_lt t_lt4
  have t_lt2 : t + 2 < jN (jG0 sc) := Nat.lt_of_succ_lt t_lt3
  have t_lt1 : t + 1 < jN (jG0 sc) := Nat.lt_of_succ_lt t_lt2
  have t_lt0 : t + 0 < jN (jG0 sc) := Nat.lt_of_succ_lt t_lt1
  refine j_iload (i := 5) rfl dX3_addNames_105 ?_
  refine j_iconst (n := 4) 4 (by decide) dX3_addNames_107 ?_
  refine j_icmp_ge (off := 37) 145 dX3_addNames_108 (by decide) (fun c1 => ?_) (fun c1 => ?_)
  · exact j_le [some (.ref t), some (.int l1), some (.int l2), some (.int l3), some (.int l4), some (.int l5)] (And.intro rfl (And.intro rfl (And.intro rfl (And.intro rfl (And.intro rfl (And.intro rfl True.intro)))))) (v1 c1)
  · exact j_le [some (.ref t), some (.int l1), some (.int l2), some (.int l3), some (.int l4), some (.int l5)] (And.intro rfl (And.intro rfl (And.intro rfl (And.intro rfl (And.intro rfl (And.intro rfl True.intro)))))) (v2 c1)
set_option maxRecDepth 100000 in
theorem bX3_addNames_111 {sc : Nat × (Nat → Int32)} {h : jH} {Q : jQ} {t : Nat} {l1 l2 l3 l4 l5 : Int32} {P1 : Int32 → jH → Prop} (t_h : jI3 t)
    (k1 : JM mX11_kindOf [.int l2] (jG0 sc) h (jint sc P1))
    (v1 : ∀ (x1 : Int32) (h1 : jH), P1 x1 h1 → ¬ x1 = 0 → WP mX3_addNames Q 139 [some (.ref t), some (.int l1), some (.int l2), some (.int l3), some (.int l4), some (.int l5)] [] (jG0 sc) h1 (0, 0))
    (v2 : ∀ (x1 : Int32) (h1 : jH), P1 x1 h1 → x1 = 0 → WP mX3_addNames Q 118 [some (.ref t), some (.int l1), some (.int l2), some (.int l3), some (.int l4), some (.int l5)] [] (jG0 sc) h1 (0, 0)) :
    WP mX3_addNames Q 111 [some (.ref t), some (.int l1), some (.int l2), some (.int l3), some (.int l4), some (.int l5)] [] (jG0 sc) h (0, 0) := by
  obtain ⟨t_lt6, t_K0, t_R0_0, t_K1, t_L1, t_R0_1, t_K2, t_L2, t_R0_2, t_K3, t_L3, t_R0_3, t_K4, t_L4, t_R0_4, t_K5, t_L5, t_R0_5, t_K6, t_L6⟩ := t_h
  have t_lt5 : t + 5 < jN (jG0 sc) := Nat.lt_of_succ_lt t_lt6
  have t_lt4 : t + 4 < jN (jG0 sc) := Nat.lt_of_succ_lt t_lt5
  have t_lt3 : t + 3 < jN (jG0 sc) := Nat.lt_of_succ_lt t_lt4
  have t_lt2 : t + 2 < jN (jG0 sc) := Nat.lt_of_succ_lt t_lt3
  have t_lt1 : t + 1 < jN (jG0 sc) := Nat.lt_of_succ_lt t_lt2
  have t_lt0 : t + 0 < jN (jG0 sc) := Nat.lt_of_succ_lt t_lt1
  refine j_iload_n (i := 2) rfl dX3_addNames_111 ?_
  refine j_callSN (idx := 78) (As := [.int l2]) (n := 1) k1 jint_nt (jTbl (jtb3 118 rfl)) sX11_kindOf kX11_kindOf rfl ⟨by decide +kernel, by decide +kernel, by decide +kernel⟩ rfl ⟨by decide, by decide⟩ (Nat.le_of_ble_eq_true rfl) ⟨Nat.zero_le _, Nat.zero_le _⟩ dX3_addNames_112 (fun r Γ' h1 q => ?_)
  obtain ⟨x1, q0, rfl, p1⟩ := q; cases q0
  refine j_eqst [.int x1] (by rfl) ?_
  refine j_if_ne (off := 24) 139 dX3_addNames_115 (by decide) (fun c1 => ?_) (fun c1 => ?_)
  · exact j_le [some (.ref t), some (.int l1), some (.int l2), some (.int l3), some (.int l4), some (.int l5)] (And.intro rfl (And.intro rfl (And.intro rfl (And.intro rfl (And.intro rfl (And.intro rfl True.intro)))))) (v1 x1 h1 p1 c1)
  · exact j_le [some (.ref t), some (.int l1), some (.int l2), some (.int l3), some (.int l4), some (.int l5)] (And.intro rfl (And.intro rfl (And.intro rfl (And.intro rfl (And.intro rfl (And.intro rfl True.intro)))))) (v2 x1 h1 p1 c1)
set_option maxRecDepth 100000 in
theorem bX3_addNames_118 {sc : Nat × (Nat → Int32)} {h : jH} {Q : jQ} {t : Nat} {l1 l2 l3 l4 l5 : Int32} {P1 : Int32 → jH → Prop} (t_h : jI3 t)
    (k1 : JM mX11_madeOf [.int l2] (jG0 sc) h (jint sc P1))
    (v1 : ∀ (x1 : Int32) (h1 : jH), P1 x1 h1 → l5 = x1 → WP mX3_addNames Q 139 [some (.ref t), some (.int l1), some (.int l2), some (.int l3), some (.int l4), some (.int l5)] [] (jG0 sc) h1 (0, 0))
    (v2 : ∀ (x1 : Int32) (h1 : jH), P1 x1 h1 → ¬ l5 = x1 → WP mX3_addNames Q 127 [some (.ref t), some (.int l1), some (.int l2), some (.int l3), some (.int l4), some (.int l5)] [] (jG0 sc) h1 (0, 0)) :
    WP mX3_addNames Q 118 [some (.ref t), some (.int l1), some (.int l2), some (.int l3), some (.int l4), some (.int l5)] [] (jG0 sc) h (0, 0) := by
  obtain ⟨t_lt6, t_K0, t_R0_0, t_K1, t_L1, t_R0_1, t_K2, t_L2, t_R0_2, t_K3, t_L3, t_R0_3, t_K4, t_L4, t_R0_4, t_K5, t_L5, t_R0_5, t_K6, t_L6⟩ := t_h
  have t_lt5 : t + 5 < jN (jG0 sc) := Nat.lt_of_succ_lt t_lt6
  have t_lt4 : t + 4 < jN (jG0 sc) := Nat.lt_of_succ_lt t_lt5
  have t_lt3 : t + 3 < jN (jG0 sc) := Nat.lt_of_succ_lt t_lt4
  have t_lt2 : t + 2 < jN (jG0 sc) := Nat.lt_of_succ_lt t_lt3
  have t_lt1 : t + 1 < jN (jG0 sc) := Nat.lt_of_succ_lt t_lt2
  have t_lt0 : t + 0 < jN (jG0 sc) := Nat.lt_of_succ_lt t_lt1
  refine j_iload (i := 5) rfl dX3_addNames_118 ?_
  refine j_iload_n (i := 2) rfl dX3_addNames_120 ?_
  refine j_callSN (idx := 81) (As := [.int l2]) (n := 1) k1 jint_nt (jTbl (jtb3 119 rfl)) sX11_madeOf kX11_madeOf rfl ⟨by decide +kernel, by decide +kernel, by decide +kernel⟩ rfl ⟨by decide, by decide⟩ (Nat.le_of_ble_eq_true rfl) ⟨Nat.zero_le _, Nat.zero_le _⟩ dX3_addNames_121 (fun r Γ' h1 q => ?_)
  obtain ⟨x1, q0, rfl, p1⟩ := q; cases q0
  refine j_eqst [.int x1, .int l5] (by rfl) ?_
  refine j_icmp_eq (off := 15) 139 dX3_addNames_124 (by decide) (fun c1 => ?_) (fun c1 => ?_)
  · exact j_le [some (.ref t), some (.int l1), some (.int l2), some (.int l3), some (.int l4), some (.int l5)] (And.intro rfl (And.intro rfl (And.intro rfl (And.intro rfl (And.intro rfl (And.intro rfl True.intro)))))) (v1 x1 h1 p1 c1)
  · exact j_le [some (.ref t), some (.int l1), some (.int l2), some (.int l3), some (.int l4), some (.int l5)] (And.intro rfl (And.intro rfl (And.intro rfl (And.intro rfl (And.intro rfl (And.intro rfl True.intro)))))) (v2 x1 h1 p1 c1)
set_option maxRecDepth 100000 in
theorem bX3_addNames_127 {sc : Nat × (Nat → Int32)} {h : jH} {Q : jQ} {t : Nat} {l1 l2 l3 l4 l5 : Int32} {P1 : Int32 → jH → Prop} {P2 : jH → Prop} (t_h : jI3 t)
    (k1 : JM mX11_withMade [.int l2, .int l5] (jG0 sc) h (jint sc P1))
    (k2 : ∀ (x1 : Int32) (h1 : jH), P1 x1 h1 → JM mX3_add [.ref t, .int 0, .int l1, .int x1] (jG0 sc) h1 (jvoid sc P2))
    (v1 : ∀ (x1 : Int32) (h1 : jH), P1 x1 h1 → ∀ h2 : jH, P2 h2 → WP mX3_addNames Q 139 [some (.ref t), some (.int l1), some (.int l2), some (.int l3), some (.int l4), some (.int l5)] [] (jG0 sc) h2 (0, 0)) :
    WP mX3_addNames Q 127 [some (.ref t), some (.int l1), some (.int l2), some (.int l3), some (.int l4), some (.int l5)] [] (jG0 sc) h (0, 0) := by
  obtain ⟨t_lt6, t_K0, t_R0_0, t_K1, t_L1, t_R0_1, t_K2, t_L2, t_R0_2, t_K3, t_L3, t_R0_3, t_K4, t_L4, t_R0_4, t_K5, t_L5, t_R0_5, t_K6, t_L6⟩ := t_h
  have t_lt5 : t + 5 < jN (jG0 sc) := Nat.lt_of_succ_lt t_lt6
  have t_lt4 : t + 4 < jN (jG0 sc) := Nat.lt_of_succ_lt t_lt5
  have t_lt3 : t + 3 < jN (jG0 sc) := Nat.lt_of_succ_lt t_lt4
  have t_lt2 : t + 2 < jN (jG0 sc) := Nat.lt_of_succ_lt t_lt3
  have t_lt1 : t + 1 < jN (jG0 sc) := Nat.lt_of_succ_lt t_lt2
  have t_lt0 : t + 0 < jN (jG0 sc) := Nat.lt_of_succ_lt t_lt1
  refine j_aload_n (i := 0) rfl dX3_addNames_127 ?_
  refine j_iconst (n := 0) 0 (by decide) dX3_addNames_128 ?_
  refine j_iload_n (i := 1) rfl dX3_addNames_129 ?_
  refine j_iload_n (i := 2) rfl dX3_addNames_130 ?_
  refine j_iload (i := 5) rfl dX3_addNames_131 ?_
  refine j_callSN (idx := 84) (As := [.int l2, .int l5]) (n := 2) k1 jint_nt (jTbl (jtb3 120 rfl)) sX11_withMade kX11_withMade rfl ⟨by decide +kernel, by decide +kernel, by decide +kernel⟩ rfl ⟨by decide, by decide⟩ (Nat.le_of_ble_eq_true rfl) ⟨Nat.zero_le _, Nat.zero_le _⟩ dX3_addNames_133 (fun r Γ' h1 q => ?_)
  obtain ⟨x1, q0, rfl, p1⟩ := q; cases q0
  refine j_eqst [.int x1, .int l1, .int 0, .ref t] (by rfl) ?_
  refine j_callV (idx := 71) (As := [.int 0, .int l1, .int x1]) (ci := 3) (n := 3) (k2 x1 h1 p1) jvoid_nt (jlkT (jtb3 110 rfl) rfl) sX3_add kX3_add rfl ⟨rfl, by decide +kernel, by decide +kernel, by decide +kernel⟩ rfl ⟨by decide, by decide⟩ (t_lt0) t_K0 (Nat.le_of_ble_eq_true rfl) (Nat.le_of_ble_eq_true rfl) ⟨Nat.zero_le _, Nat.zero_le _⟩ dX3_addNames_136 (fun r Γ' h2 q => ?_)
  obtain ⟨q0, rfl, p2⟩ := q; cases q0
  refine j_eqst [] (by rfl) ?_
  exact j_le [some (.ref t), some (.int l1), some (.int l2), some (.int l3), some (.int l4), some (.int l5)] (And.intro rfl (And.intro rfl (And.intro rfl (And.intro rfl (And.intro rfl (And.intro rfl True.intro)))))) (v1 x1 h1 p1 h2 p2)
set_option maxRecDepth 100000 in
theorem bX3_addNames_139 {sc : Nat × (Nat → Int32)} {h : jH} {Q : jQ} {t : Nat} {l1 l2 l3 l4 l5 : Int32} (t_h : jI3 t)
    (v1 : WP mX3_addNames Q 105 [some (.ref t), some (.int l1), some (.int l2), some (.int l3), some (.int l4), some (.int (l5 + 1))] [] (jG0 sc) h (0, 0)) :
    WP mX3_addNames Q 139 [some (.ref t), some (.int l1), some (.int l2), some (.int l3), some (.int l4), some (.int l5)] [] (jG0 sc) h (0, 0) := by
  obtain ⟨t_lt6, t_K0, t_R0_0, t_K1, t_L1, t_R0_1, t_K2, t_L2, t_R0_2, t_K3, t_L3, t_R0_3, t_K4, t_L4, t_R0_4, t_K5, t_L5, t_R0_5, t_K6, t_L6⟩ := t_h
  have t_lt5 : t + 5 < jN (jG0 sc) := Nat.lt_of_succ_lt t_lt6
  have t_lt4 : t + 4 < jN (jG0 sc) := Nat.lt_of_succ_lt t_lt5
  have t_lt3 : t + 3 < jN (jG0 sc) := Nat.lt_of_succ_lt t_lt4
  have t_lt2 : t + 2 < jN (jG0 sc) := Nat.lt_of_succ_lt t_lt3
  have t_lt1 : t + 1 < jN (jG0 sc) := Nat.lt_of_succ_lt t_lt2
  have t_lt0 : t + 0 < jN (jG0 sc) := Nat.lt_of_succ_lt t_lt1
  refine j_iinc (i := 5) (n := 1) rfl dX3_addNames_139 (Nat.le_of_ble_eq_true rfl) ?_
  refine j_eqlv [some (.ref t), some (.int l1), some (.int l2), some (.int l3), some (.int l4), some (.int (l5 + 1))] rfl ?_
  refine j_goto (off := -37) 105 dX3_addNames_142 (by decide) ?_
  exact j_le [some (.ref t), some (.int l1), some (.int l2), some (.int l3), some (.int l4), some (.int (l5 + 1))] (And.intro rfl (And.intro rfl (And.intro rfl (And.intro rfl (And.intro rfl (And.intro rfl True.intro)))))) v1
set_option maxRecDepth 100000 in
theorem bX3_addNames_145 {sc : Nat × (Nat → Int32)} {h : jH} {Q : jQ} {t : Nat} {l1 l2 l3 l4 l5 : Int32} (t_h : jI3 t)
    (v1 : Q (.inl none) (jG0 sc) h) :
    WP mX3_addNames Q 145 [some (.ref t), some (.int l1), some (.int l2), some (.int l3), some (.int l4), some (.int l5)] [] (jG0 sc) h (0, 0) := by
  obtain ⟨t_lt6, t_K0, t_R0_0, t_K1, t_L1, t_R0_1, t_K2, t_L2, t_R0_2, t_K3, t_L3, t_R0_3, t_K4, t_L4, t_R0_4, t_K5, t_L5, t_R0_5, t_K6, t_L6⟩ := t_h
  have t_lt5 : t + 5 < jN (jG0 sc) := Nat.lt_of_succ_lt t_lt6
  have t_lt4 : t + 4 < jN (jG0 sc) := Nat.lt_of_succ_lt t_lt5
  have t_lt3 : t + 3 < jN (jG0 sc) := Nat.lt_of_succ_lt t_lt4
  have t_lt2 : t + 2 < jN (jG0 sc) := Nat.lt_of_succ_lt t_lt3
  have t_lt1 : t + 1 < jN (jG0 sc) := Nat.lt_of_succ_lt t_lt2
  have t_lt0 : t + 0 < jN (jG0 sc) := Nat.lt_of_succ_lt t_lt1
  exact j_vret rfl (Nat.zero_le _) (Nat.zero_le _) dX3_addNames_145 v1
set_option maxRecDepth 100000 in
theorem rX3_addNames_0 {sc : Nat × (Nat → Int32)} {h : jH} {Q : jQ} {t : Nat} {l1 l2 : Int32} {P1 : Int32 → jH → Prop} {P2 : Int32 → jH → Prop} (t_h : jI3 t)
    (k1 : JM mX11_firstOf [.int l2] (jG0 sc) h (jint sc P1))
    (k2 : ∀ (x1 : Int32) (h1 : jH), P1 x1 h1 → JM mX11_secondOf [.int l2] (jG0 sc) h1 (jint sc P2))
    (v1 : ∀ (x1 : Int32) (h1 : jH), P1 x1 h1 → ∀ (x2 : Int32) (h2 : jH), P2 x2 h2 → WP mX3_addNames Q 14 [some (.ref t), some (.int l1), some (.int l2), some (.int x1), some (.int x2), some (.int 0)] [] (jG0 sc) h2 (0, 0)) :
    WP mX3_addNames Q 0 [some (.ref t), some (.int l1), some (.int l2), none, none, none] [] (jG0 sc) h (0, 0) := by
  exact (bX3_addNames_0 t_h k1 (fun x1 h1 p1 => (k2 x1 h1 p1)) (fun x1 h1 p1 x2 h2 p2 => (v1 x1 h1 p1 x2 h2 p2)))
set_option maxRecDepth 100000 in
theorem rX3_addNames_14 {sc : Nat × (Nat → Int32)} {h : jH} {Q : jQ} {t : Nat} {l1 l2 l3 l4 l5 : Int32} {P1 : Int32 → jH → Prop} {P2 : jH → Prop} (t_h : jI3 t)
    (v1 : 6 ≤ l5 → WP mX3_addNames Q 58 [some (.ref t), some (.int l1), some (.int l2), some (.int l3), some (.int l4), some (.int 0)] [] (jG0 sc) h (0, 0))
    (v2 : ¬ 6 ≤ l5 → l3 < 0 → WP mX3_addNames Q 14 [some (.ref t), some (.int l1), some (.int l2), some (.int l3), some (.int l4), some (.int (l5 + 1))] [] (jG0 sc) h (0, 0))
    (v3 : ¬ 6 ≤ l5 → ¬ l3 < 0 → 6 ≤ l3 → WP mX3_addNames Q 14 [some (.ref t), some (.int l1), some (.int l2), some (.int l3), some (.int l4), some (.int (l5 + 1))] [] (jG0 sc) h (0, 0))
    (v4 : ¬ 6 ≤ l5 → ¬ l3 < 0 → ¬ 6 ≤ l3 → l5 = l3 → WP mX3_addNames Q 14 [some (.ref t), some (.int l1), some (.int l2), some (.int l3), some (.int l4), some (.int (l5 + 1))] [] (jG0 sc) h (0, 0))
    (k1 : ¬ 6 ≤ l5 → ¬ l3 < 0 → ¬ 6 ≤ l3 → ¬ l5 = l3 → JM mX11_withFirst [.int l2, .int l5] (jG0 sc) h (jint sc P1))
    (k2 : ¬ 6 ≤ l5 → ¬ l3 < 0 → ¬ 6 ≤ l3 → ¬ l5 = l3 → ∀ (x1 : Int32) (h1 : jH), P1 x1 h1 → JM mX3_add [.ref t, .int 0, .int l1, .int x1] (jG0 sc) h1 (jvoid sc P2))
    (v5 : ¬ 6 ≤ l5 → ¬ l3 < 0 → ¬ 6 ≤ l3 → ¬ l5 = l3 → ∀ (x1 : Int32) (h1 : jH), P1 x1 h1 → ∀ h2 : jH, P2 h2 → WP mX3_addNames Q 14 [some (.ref t), some (.int l1), some (.int l2), some (.int l3), some (.int l4), some (.int (l5 + 1))] [] (jG0 sc) h2 (0, 0)) :
    WP mX3_addNames Q 14 [some (.ref t), some (.int l1), some (.int l2), some (.int l3), some (.int l4), some (.int l5)] [] (jG0 sc) h (0, 0) := by
  exact (bX3_addNames_14 t_h (fun c1 => (bX3_addNames_55 t_h (v1 c1))) (fun c1 => (bX3_addNames_21 t_h (fun c2 => (bX3_addNames_49 t_h (v2 c1 c2))) (fun c2 => (bX3_addNames_25 t_h (fun c3 => (bX3_addNames_49 t_h (v3 c1 c2 c3))) (fun c3 => (bX3_addNames_31 t_h (fun c4 => (bX3_addNames_49 t_h (v4 c1 c2 c3 c4))) (fun c4 => (bX3_addNames_37 t_h (k1 c1 c2 c3 c4) (fun x1 h1 p1 => (k2 c1 c2 c3 c4 x1 h1 p1)) (fun x1 h1 p1 h2 p2 => (bX3_addNames_49 t_h (v5 c1 c2 c3 c4 x1 h1 p1 h2 p2))))))))))))
set_option maxRecDepth 100000 in
theorem rX3_addNames_58 {sc : Nat × (Nat → Int32)} {h : jH} {Q : jQ} {t : Nat} {l1 l2 l3 l4 l5 : Int32} {P1 : Int32 → jH → Prop} {P2 : jH → Prop} (t_h : jI3 t)
    (v1 : 6 ≤ l5 → WP mX3_addNames Q 105 [some (.ref t), some (.int l1), some (.int l2), some (.int l3), some (.int l4), some (.int 0)] [] (jG0 sc) h (0, 0))
    (v2 : ¬ 6 ≤ l5 → l4 < 0 → WP mX3_addNames Q 58 [some (.ref t), some (.int l1), some (.int l2), some (.int l3), some (.int l4), some (.int (l5 + 1))] [] (jG0 sc) h (0, 0))
    (v3 : ¬ 6 ≤ l5 → ¬ l4 < 0 → 6 ≤ l4 → WP mX3_addNames Q 58 [some (.ref t), some (.int l1), some (.int l2), some (.int l3), some (.int l4), some (.int (l5 + 1))] [] (jG0 sc) h (0, 0))
    (v4 : ¬ 6 ≤ l5 → ¬ l4 < 0 → ¬ 6 ≤ l4 → l5 = l4 → WP mX3_addNames Q 58 [some (.ref t), some (.int l1), some (.int l2), some (.int l3), some (.int l4), some (.int (l5 + 1))] [] (jG0 sc) h (0, 0))
    (k1 : ¬ 6 ≤ l5 → ¬ l4 < 0 → ¬ 6 ≤ l4 → ¬ l5 = l4 → JM mX11_withSecond [.int l2, .int l5] (jG0 sc) h (jint sc P1))
    (k2 : ¬ 6 ≤ l5 → ¬ l4 < 0 → ¬ 6 ≤ l4 → ¬ l5 = l4 → ∀ (x1 : Int32) (h1 : jH), P1 x1 h1 → JM mX3_add [.ref t, .int 0, .int l1, .int x1] (jG0 sc) h1 (jvoid sc P2))
    (v5 : ¬ 6 ≤ l5 → ¬ l4 < 0 → ¬ 6 ≤ l4 → ¬ l5 = l4 → ∀ (x1 : Int32) (h1 : jH), P1 x1 h1 → ∀ h2 : jH, P2 h2 → WP mX3_addNames Q 58 [some (.ref t), some (.int l1), some (.int l2), some (.int l3), some (.int l4), some (.int (l5 + 1))] [] (jG0 sc) h2 (0, 0)) :
    WP mX3_addNames Q 58 [some (.ref t), some (.int l1), some (.int l2), some (.int l3), some (.int l4), some (.int l5)] [] (jG0 sc) h (0, 0) := by
  exact (bX3_addNames_58 t_h (fun c1 => (bX3_addNames_102 t_h (v1 c1))) (fun c1 => (bX3_addNames_65 t_h (fun c2 => (bX3_addNames_96 t_h (v2 c1 c2))) (fun c2 => (bX3_addNames_70 t_h (fun c3 => (bX3_addNames_96 t_h (v3 c1 c2 c3))) (fun c3 => (bX3_addNames_77 t_h (fun c4 => (bX3_addNames_96 t_h (v4 c1 c2 c3 c4))) (fun c4 => (bX3_addNames_84 t_h (k1 c1 c2 c3 c4) (fun x1 h1 p1 => (k2 c1 c2 c3 c4 x1 h1 p1)) (fun x1 h1 p1 h2 p2 => (bX3_addNames_96 t_h (v5 c1 c2 c3 c4 x1 h1 p1 h2 p2))))))))))))
set_option maxRecDepth 100000 in
theorem rX3_addNames_105 {sc : Nat × (Nat → Int32)} {h : jH} {Q : jQ} {t : Nat} {l1 l2 l3 l4 l5 : Int32} {P1 : Int32 → jH → Prop} {P2 : Int32 → jH → Prop} {P3 : Int32 → jH → Prop} {P4 : jH → Prop} (t_h : jI3 t)
    (v1 : 4 ≤ l5 → Q (.inl none) (jG0 sc) h)
    (k1 : ¬ 4 ≤ l5 → JM mX11_kindOf [.int l2] (jG0 sc) h (jint sc P1))
    (v2 : ¬ 4 ≤ l5 → ∀ (x1 : Int32) (h1 : jH), P1 x1 h1 → ¬ x1 = 0 → WP mX3_addNames Q 105 [some (.ref t), some (.int l1), some (.int l2), some (.int l3), some (.int l4), some (.int (l5 + 1))] [] (jG0 sc) h1 (0, 0))
    (k2 : ¬ 4 ≤ l5 → ∀ (x1 : Int32) (h1 : jH), P1 x1 h1 → x1 = 0 → JM mX11_madeOf [.int l2] (jG0 sc) h1 (jint sc P2))
    (v3 : ¬ 4 ≤ l5 → ∀ (x1 : Int32) (h1 : jH), P1 x1 h1 → x1 = 0 → ∀ (x2 : Int32) (h2 : jH), P2 x2 h2 → l5 = x2 → WP mX3_addNames Q 105 [some (.ref t), some (.int l1), some (.int l2), some (.int l3), some (.int l4), some (.int (l5 + 1))] [] (jG0 sc) h2 (0, 0))
    (k3 : ¬ 4 ≤ l5 → ∀ (x1 : Int32) (h1 : jH), P1 x1 h1 → x1 = 0 → ∀ (x2 : Int32) (h2 : jH), P2 x2 h2 → ¬ l5 = x2 → JM mX11_withMade [.int l2, .int l5] (jG0 sc) h2 (jint sc P3))
    (k4 : ¬ 4 ≤ l5 → ∀ (x1 : Int32) (h1 : jH), P1 x1 h1 → x1 = 0 → ∀ (x2 : Int32) (h2 : jH), P2 x2 h2 → ¬ l5 = x2 → ∀ (x3 : Int32) (h3 : jH), P3 x3 h3 → JM mX3_add [.ref t, .int 0, .int l1, .int x3] (jG0 sc) h3 (jvoid sc P4))
    (v4 : ¬ 4 ≤ l5 → ∀ (x1 : Int32) (h1 : jH), P1 x1 h1 → x1 = 0 → ∀ (x2 : Int32) (h2 : jH), P2 x2 h2 → ¬ l5 = x2 → ∀ (x3 : Int32) (h3 : jH), P3 x3 h3 → ∀ h4 : jH, P4 h4 → WP mX3_addNames Q 105 [some (.ref t), some (.int l1), some (.int l2), some (.int l3), some (.int l4), some (.int (l5 + 1))] [] (jG0 sc) h4 (0, 0)) :
    WP mX3_addNames Q 105 [some (.ref t), some (.int l1), some (.int l2), some (.int l3), some (.int l4), some (.int l5)] [] (jG0 sc) h (0, 0) := by
  exact (bX3_addNames_105 t_h (fun c1 => (bX3_addNames_145 t_h (v1 c1))) (fun c1 => (bX3_addNames_111 t_h (k1 c1) (fun x1 h1 p1 c2 => (bX3_addNames_139 t_h (v2 c1 x1 h1 p1 c2))) (fun x1 h1 p1 c2 => (bX3_addNames_118 t_h (k2 c1 x1 h1 p1 c2) (fun x2 h2 p2 c3 => (bX3_addNames_139 t_h (v3 c1 x1 h1 p1 c2 x2 h2 p2 c3))) (fun x2 h2 p2 c3 => (bX3_addNames_127 t_h (k3 c1 x1 h1 p1 c2 x2 h2 p2 c3) (fun x3 h3 p3 => (k4 c1 x1 h1 p1 c2 x2 h2 p2 c3 x3 h3 p3)) (fun x3 h3 p3 h4 p4 => (bX3_addNames_139 t_h (v4 c1 x1 h1 p1 c2 x2 h2 p2 c3 x3 h3 p3 h4 p4))))))))))
theorem dX3_addSigns_0 : decode (mC mX3_addSigns) 0 = .ok (.iload_n 2, 1) := by decide +kernel
theorem dX3_addSigns_1 : decode (mC mX3_addSigns) 1 = .ok (.invokestatic 87, 3) := by decide +kernel
theorem dX3_addSigns_4 : decode (mC mX3_addSigns) 4 = .ok (.istore_n 3, 1) := by decide +kernel
theorem dX3_addSigns_5 : decode (mC mX3_addSigns) 5 = .ok (.iload_n 3, 1) := by decide +kernel
theorem dX3_addSigns_6 : decode (mC mX3_addSigns) 6 = .ok (.ifCond .ne 4, 3) := by decide +kernel
theorem dX3_addSigns_9 : decode (mC mX3_addSigns) 9 = .ok (.return_, 1) := by decide +kernel
theorem dX3_addSigns_10 : decode (mC mX3_addSigns) 10 = .ok (.iload_n 3, 1) := by decide +kernel
theorem dX3_addSigns_11 : decode (mC mX3_addSigns) 11 = .ok (.bipush 6, 2) := by decide +kernel
theorem dX3_addSigns_13 : decode (mC mX3_addSigns) 13 = .ok (.if_icmp .ge 7, 3) := by decide +kernel
theorem dX3_addSigns_16 : decode (mC mX3_addSigns) 16 = .ok (.iconst 1, 1) := by decide +kernel
theorem dX3_addSigns_17 : decode (mC mX3_addSigns) 17 = .ok (.goto 5, 3) := by decide +kernel
theorem dX3_addSigns_20 : decode (mC mX3_addSigns) 20 = .ok (.bipush 6, 2) := by decide +kernel
theorem dX3_addSigns_22 : decode (mC mX3_addSigns) 22 = .ok (.istore 4, 2) := by decide +kernel
theorem dX3_addSigns_24 : decode (mC mX3_addSigns) 24 = .ok (.iload_n 3, 1) := by decide +kernel
theorem dX3_addSigns_25 : decode (mC mX3_addSigns) 25 = .ok (.bipush 6, 2) := by decide +kernel
theorem dX3_addSigns_27 : decode (mC mX3_addSigns) 27 = .ok (.if_icmp .ge 7, 3) := by decide +kernel
theorem dX3_addSigns_30 : decode (mC mX3_addSigns) 30 = .ok (.iconst 5, 1) := by decide +kernel
theorem dX3_addSigns_31 : decode (mC mX3_addSigns) 31 = .ok (.goto 5, 3) := by decide +kernel
theorem dX3_addSigns_34 : decode (mC mX3_addSigns) 34 = .ok (.bipush 8, 2) := by decide +kernel
theorem dX3_addSigns_36 : decode (mC mX3_addSigns) 36 = .ok (.istore 5, 2) := by decide +kernel
theorem dX3_addSigns_38 : decode (mC mX3_addSigns) 38 = .ok (.iload 4, 2) := by decide +kernel
theorem dX3_addSigns_40 : decode (mC mX3_addSigns) 40 = .ok (.istore 6, 2) := by decide +kernel
theorem dX3_addSigns_42 : decode (mC mX3_addSigns) 42 = .ok (.iload 6, 2) := by decide +kernel
theorem dX3_addSigns_44 : decode (mC mX3_addSigns) 44 = .ok (.iload 5, 2) := by decide +kernel
theorem dX3_addSigns_46 : decode (mC mX3_addSigns) 46 = .ok (.if_icmp .gt 27, 3) := by decide +kernel
theorem dX3_addSigns_49 : decode (mC mX3_addSigns) 49 = .ok (.iload 6, 2) := by decide +kernel
theorem dX3_addSigns_51 : decode (mC mX3_addSigns) 51 = .ok (.iload_n 3, 1) := by decide +kernel
theorem dX3_addSigns_52 : decode (mC mX3_addSigns) 52 = .ok (.if_icmp .eq 15, 3) := by decide +kernel
theorem dX3_addSigns_55 : decode (mC mX3_addSigns) 55 = .ok (.aload_n 0, 1) := by decide +kernel
theorem dX3_addSigns_56 : decode (mC mX3_addSigns) 56 = .ok (.iconst 1, 1) := by decide +kernel
theorem dX3_addSigns_57 : decode (mC mX3_addSigns) 57 = .ok (.iload_n 1, 1) := by decide +kernel
theorem dX3_addSigns_58 : decode (mC mX3_addSigns) 58 = .ok (.iload_n 2, 1) := by decide +kernel
theorem dX3_addSigns_59 : decode (mC mX3_addSigns) 59 = .ok (.iload 6, 2) := by decide +kernel
theorem dX3_addSigns_61 : decode (mC mX3_addSigns) 61 = .ok (.invokestatic 90, 3) := by decide +kernel
theorem dX3_addSigns_64 : decode (mC mX3_addSigns) 64 = .ok (.invokevirtual 71, 3) := by decide +kernel
theorem dX3_addSigns_67 : decode (mC mX3_addSigns) 67 = .ok (.iinc 6 1, 3) := by decide +kernel
theorem dX3_addSigns_70 : decode (mC mX3_addSigns) 70 = .ok (.goto (-28), 3) := by decide +kernel
theorem dX3_addSigns_73 : decode (mC mX3_addSigns) 73 = .ok (.return_, 1) := by decide +kernel
set_option maxRecDepth 100000 in
theorem bX3_addSigns_0 {sc : Nat × (Nat → Int32)} {h : jH} {Q : jQ} {t : Nat} {l1 l2 : Int32} {P1 : Int32 → jH → Prop} (t_h : jI3 t)
    (k1 : JM mX11_signOf [.int l2] (jG0 sc) h (jint sc P1))
    (v1 : ∀ (x1 : Int32) (h1 : jH), P1 x1 h1 → ¬ x1 = 0 → WP mX3_addSigns Q 10 [some (.ref t), some (.int l1), some (.int l2), some (.int x1), none, none, none] [] (jG0 sc) h1 (0, 0))
    (v2 : ∀ (x1 : Int32) (h1 : jH), P1 x1 h1 → x1 = 0 → WP mX3_addSigns Q 9 [some (.ref t), some (.int l1), some (.int l2), some (.int x1), none, none, none] [] (jG0 sc) h1 (0, 0)) :
    WP mX3_addSigns Q 0 [some (.ref t), some (.int l1), some (.int l2), none, none, none, none] [] (jG0 sc) h (0, 0) := by
  obtain ⟨t_lt6, t_K0, t_R0_0, t_K1, t_L1, t_R0_1, t_K2, t_L2, t_R0_2, t_K3, t_L3, t_R0_3, t_K4, t_L4, t_R0_4, t_K5, t_L5, t_R0_5, t_K6, t_L6⟩ := t_h
  have t_lt5 : t + 5 < jN (jG0 sc) := Nat.lt_of_succ_lt t_lt6
  have t_lt4 : t + 4 < jN (jG0 sc) := Nat.lt_of_succ_lt t_lt5
  have t_lt3 : t + 3 < jN (jG0 sc) := Nat.lt_of_succ_lt t_lt4
  have t_lt2 : t + 2 < jN (jG0 sc) := Nat.lt_of_succ_lt t_lt3
  have t_lt1 : t + 1 < jN (jG0 sc) := Nat.lt_of_succ_lt t_lt2
  have t_lt0 : t + 0 < jN (jG0 sc) := Nat.lt_of_succ_lt t_lt1
  refine j_iload_n (i := 2) rfl dX3_addSigns_0 ?_
  refine j_callSN (idx := 87) (As := [.int l2]) (n := 1) k1 jint_nt (jTbl (jtb3 127 rfl)) sX11_signOf kX11_signOf rfl ⟨by decide +kernel, by decide +kernel, by decide +kernel⟩ rfl ⟨by decide, by decide⟩ (Nat.le_of_ble_eq_true rfl) ⟨Nat.zero_le _, Nat.zero_le _⟩ dX3_addSigns_1 (fun r Γ' h1 q => ?_)
  obtain ⟨x1, q0, rfl, p1⟩ := q; cases q0
  refine j_eqst [.int x1] (by rfl) ?_
  refine j_istore_n (i := 3) dX3_addSigns_4 (Nat.le_of_ble_eq_true rfl) ?_
  refine j_iload_n (i := 3) rfl dX3_addSigns_5 ?_
  refine j_if_ne (off := 4) 10 dX3_addSigns_6 (by decide) (fun c1 => ?_) (fun c1 => ?_)
  · exact j_le [some (.ref t), some (.int l1), some (.int l2), some (.int x1), none, none, none] (And.intro rfl (And.intro rfl (And.intro rfl (And.intro rfl True.intro)))) (v1 x1 h1 p1 c1)
  · exact j_le [some (.ref t), some (.int l1), some (.int l2), some (.int x1), none, none, none] (And.intro rfl (And.intro rfl (And.intro rfl (And.intro rfl True.intro)))) (v2 x1 h1 p1 c1)
set_option maxRecDepth 100000 in
theorem bX3_addSigns_9 {sc : Nat × (Nat → Int32)} {h : jH} {Q : jQ} {t : Nat} {l1 l2 l3 : Int32} (t_h : jI3 t)
    (v1 : Q (.inl none) (jG0 sc) h) :
    WP mX3_addSigns Q 9 [some (.ref t), some (.int l1), some (.int l2), some (.int l3), none, none, none] [] (jG0 sc) h (0, 0) := by
  obtain ⟨t_lt6, t_K0, t_R0_0, t_K1, t_L1, t_R0_1, t_K2, t_L2, t_R0_2, t_K3, t_L3, t_R0_3, t_K4, t_L4, t_R0_4, t_K5, t_L5, t_R0_5, t_K6, t_L6⟩ := t_h
  have t_lt5 : t + 5 < jN (jG0 sc) := Nat.lt_of_succ_lt t_lt6
  have t_lt4 : t + 4 < jN (jG0 sc) := Nat.lt_of_succ_lt t_lt5
  have t_lt3 : t + 3 < jN (jG0 sc) := Nat.lt_of_succ_lt t_lt4
  have t_lt2 : t + 2 < jN (jG0 sc) := Nat.lt_of_succ_lt t_lt3
  have t_lt1 : t + 1 < jN (jG0 sc) := Nat.lt_of_succ_lt t_lt2
  have t_lt0 : t + 0 < jN (jG0 sc) := Nat.lt_of_succ_lt t_lt1
  exact j_vret rfl (Nat.zero_le _) (Nat.zero_le _) dX3_addSigns_9 v1
set_option maxRecDepth 100000 in
theorem bX3_addSigns_10 {sc : Nat × (Nat → Int32)} {h : jH} {Q : jQ} {t : Nat} {l1 l2 l3 : Int32} (t_h : jI3 t)
    (v1 : 6 ≤ l3 → WP mX3_addSigns Q 20 [some (.ref t), some (.int l1), some (.int l2), some (.int l3), none, none, none] [] (jG0 sc) h (0, 0))
    (v2 : ¬ 6 ≤ l3 → WP mX3_addSigns Q 16 [some (.ref t), some (.int l1), some (.int l2), some (.int l3), none, none, none] [] (jG0 sc) h (0, 0)) :
    WP mX3_addSigns Q 10 [some (.ref t), some (.int l1), some (.int l2), some (.int l3), none, none, none] [] (jG0 sc) h (0, 0) := by
  obtain ⟨t_lt6, t_K0, t_R0_0, t_K1, t_L1, t_R0_1, t_K2, t_L2, t_R0_2, t_K3, t_L3, t_R0_3, t_K4, t_L4, t_R0_4, t_K5, t_L5, t_R0_5, t_K6, t_L6⟩ := t_h
  have t_lt5 : t + 5 < jN (jG0 sc) := Nat.lt_of_succ_lt t_lt6
  have t_lt4 : t + 4 < jN (jG0 sc) := Nat.lt_of_succ_lt t_lt5
  have t_lt3 : t + 3 < jN (jG0 sc) := Nat.lt_of_succ_lt t_lt4
  have t_lt2 : t + 2 < jN (jG0 sc) := Nat.lt_of_succ_lt t_lt3
  have t_lt1 : t + 1 < jN (jG0 sc) := Nat.lt_of_succ_lt t_lt2
  have t_lt0 : t + 0 < jN (jG0 sc) := Nat.lt_of_succ_lt t_lt1
  refine j_iload_n (i := 3) rfl dX3_addSigns_10 ?_
  refine j_bipush (n := 6) 6 (by decide) dX3_addSigns_11 ?_
  refine j_icmp_ge (off := 7) 20 dX3_addSigns_13 (by decide) (fun c1 => ?_) (fun c1 => ?_)
  · exact j_le [some (.ref t), some (.int l1), some (.int l2), some (.int l3), none, none, none] (And.intro rfl (And.intro rfl (And.intro rfl (And.intro rfl True.intro)))) (v1 c1)
  · exact j_le [some (.ref t), some (.int l1), some (.int l2), some (.int l3), none, none, none] (And.intro rfl (And.intro rfl (And.intro rfl (And.intro rfl True.intro)))) (v2 c1)
set_option maxRecDepth 100000 in
theorem bX3_addSigns_16 {sc : Nat × (Nat → Int32)} {h : jH} {Q : jQ} {t : Nat} {l1 l2 l3 : Int32} (t_h : jI3 t)
    (v1 : WP mX3_addSigns Q 22 [some (.ref t), some (.int l1), some (.int l2), some (.int l3), none, none, none] [.int 1] (jG0 sc) h (0, 0)) :
    WP mX3_addSigns Q 16 [some (.ref t), some (.int l1), some (.int l2), some (.int l3), none, none, none] [] (jG0 sc) h (0, 0) := by
  obtain ⟨t_lt6, t_K0, t_R0_0, t_K1, t_L1, t_R0_1, t_K2, t_L2, t_R0_2, t_K3, t_L3, t_R0_3, t_K4, t_L4, t_R0_4, t_K5, t_L5, t_R0_5, t_K6, t_L6⟩ := t_h
  have t_lt5 : t + 5 < jN (jG0 sc) := Nat.lt_of_succ_lt t_lt6
  have t_lt4 : t + 4 < jN (jG0 sc) := Nat.lt_of_succ_lt t_lt5
  have t_lt3 : t + 3 < jN (jG0 sc) := Nat.lt_of_succ_lt t_lt4
  have t_lt2 : t + 2 < jN (jG0 sc) := Nat.lt_of_succ_lt t_lt3
  have t_lt1 : t + 1 < jN (jG0 sc) := Nat.lt_of_succ_lt t_lt2
  have t_lt0 : t + 0 < jN (jG0 sc) := Nat.lt_of_succ_lt t_lt1
  refine j_iconst (n := 1) 1 (by decide) dX3_addSigns_16 ?_
  refine j_goto (off := 5) 22 dX3_addSigns_17 (by decide) ?_
  exact j_le [some (.ref t), some (.int l1), some (.int l2), some (.int l3), none, none, none] (And.intro rfl (And.intro rfl (And.intro rfl (And.intro rfl True.intro)))) v1
set_option maxRecDepth 100000 in
theorem bX3_addSigns_20 {sc : Nat × (Nat → Int32)} {h : jH} {Q : jQ} {t : Nat} {l1 l2 l3 : Int32} (t_h : jI3 t)
    (v1 : WP mX3_addSigns Q 22 [some (.ref t), some (.int l1), some (.int l2), some (.int l3), none, none, none] [.int 6] (jG0 sc) h (0, 0)) :
    WP mX3_addSigns Q 20 [some (.ref t), some (.int l1), some (.int l2), some (.int l3), none, none, none] [] (jG0 sc) h (0, 0) := by
  obtain ⟨t_lt6, t_K0, t_R0_0, t_K1, t_L1, t_R0_1, t_K2, t_L2, t_R0_2, t_K3, t_L3, t_R0_3, t_K4, t_L4, t_R0_4, t_K5, t_L5, t_R0_5, t_K6, t_L6⟩ := t_h
  have t_lt5 : t + 5 < jN (jG0 sc) := Nat.lt_of_succ_lt t_lt6
  have t_lt4 : t + 4 < jN (jG0 sc) := Nat.lt_of_succ_lt t_lt5
  have t_lt3 : t + 3 < jN (jG0 sc) := Nat.lt_of_succ_lt t_lt4
  have t_lt2 : t + 2 < jN (jG0 sc) := Nat.lt_of_succ_lt t_lt3
  have t_lt1 : t + 1 < jN (jG0 sc) := Nat.lt_of_succ_lt t_lt2
  have t_lt0 : t + 0 < jN (jG0 sc) := Nat.lt_of_succ_lt t_lt1
  refine j_bipush (n := 6) 6 (by decide) dX3_addSigns_20 ?_
  exact j_le [some (.ref t), some (.int l1), some (.int l2), some (.int l3), none, none, none] (And.intro rfl (And.intro rfl (And.intro rfl (And.intro rfl True.intro)))) v1
set_option maxRecDepth 100000 in
theorem bX3_addSigns_22 {sc : Nat × (Nat → Int32)} {h : jH} {Q : jQ} {t : Nat} {l1 l2 l3 s0 : Int32} (t_h : jI3 t)
    (v1 : 6 ≤ l3 → WP mX3_addSigns Q 34 [some (.ref t), some (.int l1), some (.int l2), some (.int l3), some (.int s0), none, none] [] (jG0 sc) h (0, 0))
    (v2 : ¬ 6 ≤ l3 → WP mX3_addSigns Q 30 [some (.ref t), some (.int l1), some (.int l2), some (.int l3), some (.int s0), none, none] [] (jG0 sc) h (0, 0)) :
    WP mX3_addSigns Q 22 [some (.ref t), some (.int l1), some (.int l2), some (.int l3), none, none, none] [.int s0] (jG0 sc) h (0, 0) := by
  obtain ⟨t_lt6, t_K0, t_R0_0, t_K1, t_L1, t_R0_1, t_K2, t_L2, t_R0_2, t_K3, t_L3, t_R0_3, t_K4, t_L4, t_R0_4, t_K5, t_L5, t_R0_5, t_K6, t_L6⟩ := t_h
  have t_lt5 : t + 5 < jN (jG0 sc) := Nat.lt_of_succ_lt t_lt6
  have t_lt4 : t + 4 < jN (jG0 sc) := Nat.lt_of_succ_lt t_lt5
  have t_lt3 : t + 3 < jN (jG0 sc) := Nat.lt_of_succ_lt t_lt4
  have t_lt2 : t + 2 < jN (jG0 sc) := Nat.lt_of_succ_lt t_lt3
  have t_lt1 : t + 1 < jN (jG0 sc) := Nat.lt_of_succ_lt t_lt2
  have t_lt0 : t + 0 < jN (jG0 sc) := Nat.lt_of_succ_lt t_lt1
  refine j_istore (i := 4) dX3_addSigns_22 (Nat.le_of_ble_eq_true rfl) ?_
  refine j_iload_n (i := 3) rfl dX3_addSigns_24 ?_
  refine j_bipush (n := 6) 6 (by decide) dX3_addSigns_25 ?_
  refine j_icmp_ge (off := 7) 34 dX3_addSigns_27 (by decide) (fun c1 => ?_) (fun c1 => ?_)
  · exact j_le [some (.ref t), some (.int l1), some (.int l2), some (.int l3), some (.int s0), none, none] (And.intro rfl (And.intro rfl (And.intro rfl (And.intro rfl (And.intro rfl True.intro))))) (v1 c1)
  · exact j_le [some (.ref t), some (.int l1), some (.int l2), some (.int l3), some (.int s0), none, none] (And.intro rfl (And.intro rfl (And.intro rfl (And.intro rfl (And.intro rfl True.intro))))) (v2 c1)
set_option maxRecDepth 100000 in
theorem bX3_addSigns_30 {sc : Nat × (Nat → Int32)} {h : jH} {Q : jQ} {t : Nat} {l1 l2 l3 l4 : Int32} (t_h : jI3 t)
    (v1 : WP mX3_addSigns Q 36 [some (.ref t), some (.int l1), some (.int l2), some (.int l3), some (.int l4), none, none] [.int 5] (jG0 sc) h (0, 0)) :
    WP mX3_addSigns Q 30 [some (.ref t), some (.int l1), some (.int l2), some (.int l3), some (.int l4), none, none] [] (jG0 sc) h (0, 0) := by
  obtain ⟨t_lt6, t_K0, t_R0_0, t_K1, t_L1, t_R0_1, t_K2, t_L2, t_R0_2, t_K3, t_L3, t_R0_3, t_K4, t_L4, t_R0_4, t_K5, t_L5, t_R0_5, t_K6, t_L6⟩ := t_h
  have t_lt5 : t + 5 < jN (jG0 sc) := Nat.lt_of_succ_lt t_lt6
  have t_lt4 : t + 4 < jN (jG0 sc) := Nat.lt_of_succ_lt t_lt5
  have t_lt3 : t + 3 < jN (jG0 sc) := Nat.lt_of_succ_lt t_lt4
  have t_lt2 : t + 2 < jN (jG0 sc) := Nat.lt_of_succ_lt t_lt3
  have t_lt1 : t + 1 < jN (jG0 sc) := Nat.lt_of_succ_lt t_lt2
  have t_lt0 : t + 0 < jN (jG0 sc) := Nat.lt_of_succ_lt t_lt1
  refine j_iconst (n := 5) 5 (by decide) dX3_addSigns_30 ?_
  refine j_goto (off := 5) 36 dX3_addSigns_31 (by decide) ?_
  exact j_le [some (.ref t), some (.int l1), some (.int l2), some (.int l3), some (.int l4), none, none] (And.intro rfl (And.intro rfl (And.intro rfl (And.intro rfl (And.intro rfl True.intro))))) v1
set_option maxRecDepth 100000 in
theorem bX3_addSigns_34 {sc : Nat × (Nat → Int32)} {h : jH} {Q : jQ} {t : Nat} {l1 l2 l3 l4 : Int32} (t_h : jI3 t)
    (v1 : WP mX3_addSigns Q 36 [some (.ref t), some (.int l1), some (.int l2), some (.int l3), some (.int l4), none, none] [.int 8] (jG0 sc) h (0, 0)) :
    WP mX3_addSigns Q 34 [some (.ref t), some (.int l1), some (.int l2), some (.int l3), some (.int l4), none, none] [] (jG0 sc) h (0, 0) := by
  obtain ⟨t_lt6, t_K0, t_R0_0, t_K1, t_L1, t_R0_1, t_K2, t_L2, t_R0_2, t_K3, t_L3, t_R0_3, t_K4, t_L4, t_R0_4, t_K5, t_L5, t_R0_5, t_K6, t_L6⟩ := t_h
  have t_lt5 : t + 5 < jN (jG0 sc) := Nat.lt_of_succ_lt t_lt6
  have t_lt4 : t + 4 < jN (jG0 sc) := Nat.lt_of_succ_lt t_lt5
  have t_lt3 : t + 3 < jN (jG0 sc) := Nat.lt_of_succ_lt t_lt4
  have t_lt2 : t + 2 < jN (jG0 sc) := Nat.lt_of_succ_lt t_lt3
  have t_lt1 : t + 1 < jN (jG0 sc) := Nat.lt_of_succ_lt t_lt2
  have t_lt0 : t + 0 < jN (jG0 sc) := Nat.lt_of_succ_lt t_lt1
  refine j_bipush (n := 8) 8 (by decide) dX3_addSigns_34 ?_
  exact j_le [some (.ref t), some (.int l1), some (.int l2), some (.int l3), some (.int l4), none, none] (And.intro rfl (And.intro rfl (And.intro rfl (And.intro rfl (And.intro rfl True.intro))))) v1
set_option maxRecDepth 100000 in
theorem bX3_addSigns_36 {sc : Nat × (Nat → Int32)} {h : jH} {Q : jQ} {t : Nat} {l1 l2 l3 l4 s0 : Int32} (t_h : jI3 t)
    (v1 : WP mX3_addSigns Q 42 [some (.ref t), some (.int l1), some (.int l2), some (.int l3), some (.int l4), some (.int s0), some (.int l4)] [] (jG0 sc) h (0, 0)) :
    WP mX3_addSigns Q 36 [some (.ref t), some (.int l1), some (.int l2), some (.int l3), some (.int l4), none, none] [.int s0] (jG0 sc) h (0, 0) := by
  obtain ⟨t_lt6, t_K0, t_R0_0, t_K1, t_L1, t_R0_1, t_K2, t_L2, t_R0_2, t_K3, t_L3, t_R0_3, t_K4, t_L4, t_R0_4, t_K5, t_L5, t_R0_5, t_K6, t_L6⟩ := t_h
  have t_lt5 : t + 5 < jN (jG0 sc) := Nat.lt_of_succ_lt t_lt6
  have t_lt4 : t + 4 < jN (jG0 sc) := Nat.lt_of_succ_lt t_lt5
  have t_lt3 : t + 3 < jN (jG0 sc) := Nat.lt_of_succ_lt t_lt4
  have t_lt2 : t + 2 < jN (jG0 sc) := Nat.lt_of_succ_lt t_lt3
  have t_lt1 : t + 1 < jN (jG0 sc) := Nat.lt_of_succ_lt t_lt2
  have t_lt0 : t + 0 < jN (jG0 sc) := Nat.lt_of_succ_lt t_lt1
  refine j_istore (i := 5) dX3_addSigns_36 (Nat.le_of_ble_eq_true rfl) ?_
  refine j_iload (i := 4) rfl dX3_addSigns_38 ?_
  refine j_istore (i := 6) dX3_addSigns_40 (Nat.le_of_ble_eq_true rfl) ?_
  exact j_le [some (.ref t), some (.int l1), some (.int l2), some (.int l3), some (.int l4), some (.int s0), some (.int l4)] (And.intro rfl (And.intro rfl (And.intro rfl (And.intro rfl (And.intro rfl (And.intro rfl (And.intro rfl True.intro))))))) v1
set_option maxRecDepth 100000 in
theorem bX3_addSigns_42 {sc : Nat × (Nat → Int32)} {h : jH} {Q : jQ} {t : Nat} {l1 l2 l3 l4 l5 l6 : Int32} (t_h : jI3 t)
    (v1 : l5 < l6 → WP mX3_addSigns Q 73 [some (.ref t), some (.int l1), some (.int l2), some (.int l3), some (.int l4), some (.int l5), some (.int l6)] [] (jG0 sc) h (0, 0))
    (v2 : ¬ l5 < l6 → WP mX3_addSigns Q 49 [some (.ref t), some (.int l1), some (.int l2), some (.int l3), some (.int l4), some (.int l5), some (.int l6)] [] (jG0 sc) h (0, 0)) :
    WP mX3_addSigns Q 42 [some (.ref t), some (.int l1), some (.int l2), some (.int l3), some (.int l4), some (.int l5), some (.int l6)] [] (jG0 sc) h (0, 0) := by
  obtain ⟨t_lt6, t_K0, t_R0_0, t_K1, t_L1, t_R0_1, t_K2, t_L2, t_R0_2, t_K3, t_L3, t_R0_3, t_K4, t_L4, t_R0_4, t_K5, t_L5, t_R0_5, t_K6, t_L6⟩ := t_h
  have t_lt5 : t + 5 < jN (jG0 sc) := Nat.lt_of_succ_lt t_lt6
  have t_lt4 : t + 4 < jN (jG0 sc) := Nat.lt_of_succ_lt t_lt5
  have t_lt3 : t + 3 < jN (jG0 sc) := Nat.lt_of_succ_lt t_lt4
  have t_lt2 : t + 2 < jN (jG0 sc) := Nat.lt_of_succ_lt t_lt3
  have t_lt1 : t + 1 < jN (jG0 sc) := Nat.lt_of_succ_lt t_lt2
  have t_lt0 : t + 0 < jN (jG0 sc) := Nat.lt_of_succ_lt t_lt1
  refine j_iload (i := 6) rfl dX3_addSigns_42 ?_
  refine j_iload (i := 5) rfl dX3_addSigns_44 ?_
  refine j_icmp_gt (off := 27) 73 dX3_addSigns_46 (by decide) (fun c1 => ?_) (fun c1 => ?_)
  · exact j_le [some (.ref t), some (.int l1), some (.int l2), some (.int l3), some (.int l4), some (.int l5), some (.int l6)] (And.intro rfl (And.intro rfl (And.intro rfl (And.intro rfl (And.intro rfl (And.intro rfl (And.intro rfl True.intro))))))) (v1 c1)
  · exact j_le [some (.ref t), some (.int l1), some (.int l2), some (.int l3), some (.int l4), some (.int l5), some (.int l6)] (And.intro rfl (And.intro rfl (And.intro rfl (And.intro rfl (And.intro rfl (And.intro rfl (And.intro rfl True.intro))))))) (v2 c1)
set_option maxRecDepth 100000 in
theorem bX3_addSigns_49 {sc : Nat × (Nat → Int32)} {h : jH} {Q : jQ} {t : Nat} {l1 l2 l3 l4 l5 l6 : Int32} (t_h : jI3 t)
    (v1 : l6 = l3 → WP mX3_addSigns Q 67 [some (.ref t), some (.int l1), some (.int l2), some (.int l3), some (.int l4), some (.int l5), some (.int l6)] [] (jG0 sc) h (0, 0))
    (v2 : ¬ l6 = l3 → WP mX3_addSigns Q 55 [some (.ref t), some (.int l1), some (.int l2), some (.int l3), some (.int l4), some (.int l5), some (.int l6)] [] (jG0 sc) h (0, 0)) :
    WP mX3_addSigns Q 49 [some (.ref t), some (.int l1), some (.int l2), some (.int l3), some (.int l4), some (.int l5), some (.int l6)] [] (jG0 sc) h (0, 0) := by
  obtain ⟨t_lt6, t_K0, t_R0_0, t_K1, t_L1, t_R0_1, t_K2, t_L2, t_R0_2, t_K3, t_L3, t_R0_3, t_K4, t_L4, t_R0_4, t_K5, t_L5, t_R0_5, t_K6, t_L6⟩ := t_h
  have t_lt5 : t + 5 < jN (jG0 sc) := Nat.lt_of_succ_lt t_lt6
  have t_lt4 : t + 4 < jN (jG0 sc) := Nat.lt_of_succ_lt t_lt5
  have t_lt3 : t + 3 < jN (jG0 sc) := Nat.lt_of_succ_lt t_lt4
  have t_lt2 : t + 2 < jN (jG0 sc) := Nat.lt_of_succ_lt t_lt3
  have t_lt1 : t + 1 < jN (jG0 sc) := Nat.lt_of_succ_lt t_lt2
  have t_lt0 : t + 0 < jN (jG0 sc) := Nat.lt_of_succ_lt t_lt1
  refine j_iload (i := 6) rfl dX3_addSigns_49 ?_
  refine j_iload_n (i := 3) rfl dX3_addSigns_51 ?_
  refine j_icmp_eq (off := 15) 67 dX3_addSigns_52 (by decide) (fun c1 => ?_) (fun c1 => ?_)
  · exact j_le [some (.ref t), some (.int l1), some (.int l2), some (.int l3), some (.int l4), some (.int l5), some (.int l6)] (And.intro rfl (And.intro rfl (And.intro rfl (And.intro rfl (And.intro rfl (And.intro rfl (And.intro rfl True.intro))))))) (v1 c1)
  · exact j_le [some (.ref t), some (.int l1), some (.int l2), some (.int l3), some (.int l4), some (.int l5), some (.int l6)] (And.intro rfl (And.intro rfl (And.intro rfl (And.intro rfl (And.intro rfl (And.intro rfl (And.intro rfl True.intro))))))) (v2 c1)
set_option maxRecDepth 100000 in
theorem bX3_addSigns_55 {sc : Nat × (Nat → Int32)} {h : jH} {Q : jQ} {t : Nat} {l1 l2 l3 l4 l5 l6 : Int32} {P1 : Int32 → jH → Prop} {P2 : jH → Prop} (t_h : jI3 t)
    (k1 : JM mX11_withSign [.int l2, .int l6] (jG0 sc) h (jint sc P1))
    (k2 : ∀ (x1 : Int32) (h1 : jH), P1 x1 h1 → JM mX3_add [.ref t, .int 1, .int l1, .int x1] (jG0 sc) h1 (jvoid sc P2))
    (v1 : ∀ (x1 : Int32) (h1 : jH), P1 x1 h1 → ∀ h2 : jH, P2 h2 → WP mX3_addSigns Q 67 [some (.ref t), some (.int l1), some (.int l2), some (.int l3), some (.int l4), some (.int l5), some (.int l6)] [] (jG0 sc) h2 (0, 0)) :
    WP mX3_addSigns Q 55 [some (.ref t), some (.int l1), some (.int l2), some (.int l3), some (.int l4), some (.int l5), some (.int l6)] [] (jG0 sc) h (0, 0) := by
  obtain ⟨t_lt6, t_K0, t_R0_0, t_K1, t_L1, t_R0_1, t_K2, t_L2, t_R0_2, t_K3, t_L3, t_R0_3, t_K4, t_L4, t_R0_4, t_K5, t_L5, t_R0_5, t_K6, t_L6⟩ := t_h
  have t_lt5 : t + 5 < jN (jG0 sc) := Nat.lt_of_succ_lt t_lt6
  have t_lt4 : t + 4 < jN (jG0 sc) := Nat.lt_of_succ_lt t_lt5
  have t_lt3 : t + 3 < jN (jG0 sc) := Nat.lt_of_succ_lt t_lt4
  have t_lt2 : t + 2 < jN (jG0 sc) := Nat.lt_of_succ_lt t_lt3
  have t_lt1 : t + 1 < jN (jG0 sc) := Nat.lt_of_succ_lt t_lt2
  have t_lt0 : t + 0 < jN (jG0 sc) := Nat.lt_of_succ_lt t_lt1
  refine j_aload_n (i := 0) rfl dX3_addSigns_55 ?_
  refine j_iconst (n := 1) 1 (by decide) dX3_addSigns_56 ?_
  refine j_iload_n (i := 1) rfl dX3_addSigns_57 ?_
  refine j_iload_n (i := 2) rfl dX3_addSigns_58 ?_
  refine j_iload (i := 6) rfl dX3_addSigns_59 ?_
  refine j_callSN (idx := 90) (As := [.int l2, .int l6]) (n := 2) k1 jint_nt (jTbl (jtb3 128 rfl)) sX11_withSign kX11_withSign rfl ⟨by decide +kernel, by decide +kernel, by decide +kernel⟩ rfl ⟨by decide, by decide⟩ (Nat.le_of_ble_eq_true rfl) ⟨Nat.zero_le _, Nat.zero_le _⟩ dX3_addSigns_61 (fun r Γ' h1 q => ?_)
  obtain ⟨x1, q0, rfl, p1⟩ := q; cases q0
  refine j_eqst [.int x1, .int l1, .int 1, .ref t] (by rfl) ?_
  refine j_callV (idx := 71) (As := [.int 1, .int l1, .int x1]) (ci := 3) (n := 3) (k2 x1 h1 p1) jvoid_nt (jlkT (jtb3 110 rfl) rfl) sX3_add kX3_add rfl ⟨rfl, by decide +kernel, by decide +kernel, by decide +kernel⟩ rfl ⟨by decide, by decide⟩ (t_lt0) t_K0 (Nat.le_of_ble_eq_true rfl) (Nat.le_of_ble_eq_true rfl) ⟨Nat.zero_le _, Nat.zero_le _⟩ dX3_addSigns_64 (fun r Γ' h2 q => ?_)
  obtain ⟨q0, rfl, p2⟩ := q; cases q0
  refine j_eqst [] (by rfl) ?_
  exact j_le [some (.ref t), some (.int l1), some (.int l2), some (.int l3), some (.int l4), some (.int l5), some (.int l6)] (And.intro rfl (And.intro rfl (And.intro rfl (And.intro rfl (And.intro rfl (And.intro rfl (And.intro rfl True.intro))))))) (v1 x1 h1 p1 h2 p2)
set_option maxRecDepth 100000 in
theorem bX3_addSigns_67 {sc : Nat × (Nat → Int32)} {h : jH} {Q : jQ} {t : Nat} {l1 l2 l3 l4 l5 l6 : Int32} (t_h : jI3 t)
    (v1 : WP mX3_addSigns Q 42 [some (.ref t), some (.int l1), some (.int l2), some (.int l3), some (.int l4), some (.int l5), some (.int (l6 + 1))] [] (jG0 sc) h (0, 0)) :
    WP mX3_addSigns Q 67 [some (.ref t), some (.int l1), some (.int l2), some (.int l3), some (.int l4), some (.int l5), some (.int l6)] [] (jG0 sc) h (0, 0) := by
  obtain ⟨t_lt6, t_K0, t_R0_0, t_K1, t_L1, t_R0_1, t_K2, t_L2, t_R0_2, t_K3, t_L3, t_R0_3, t_K4, t_L4, t_R0_4, t_K5, t_L5, t_R0_5, t_K6, t_L6⟩ := t_h
  have t_lt5 : t + 5 < jN (jG0 sc) := Nat.lt_of_succ_lt t_lt6
  have t_lt4 : t + 4 < jN (jG0 sc) := Nat.lt_of_succ_lt t_lt5
  have t_lt3 : t + 3 < jN (jG0 sc) := Nat.lt_of_succ_lt t_lt4
  have t_lt2 : t + 2 < jN (jG0 sc) := Nat.lt_of_succ_lt t_lt3
  have t_lt1 : t + 1 < jN (jG0 sc) := Nat.lt_of_succ_lt t_lt2
  have t_lt0 : t + 0 < jN (jG0 sc) := Nat.lt_of_succ_lt t_lt1
  refine j_iinc (i := 6) (n := 1) rfl dX3_addSigns_67 (Nat.le_of_ble_eq_true rfl) ?_
  refine j_eqlv [some (.ref t), some (.int l1), some (.int l2), some (.int l3), some (.int l4), some (.int l5), some (.int (l6 + 1))] rfl ?_
  refine j_goto (off := -28) 42 dX3_addSigns_70 (by decide) ?_
  exact j_le [some (.ref t), some (.int l1), some (.int l2), some (.int l3), some (.int l4), some (.int l5), some (.int (l6 + 1))] (And.intro rfl (And.intro rfl (And.intro rfl (And.intro rfl (And.intro rfl (And.intro rfl (And.intro rfl True.intro))))))) v1
set_option maxRecDepth 100000 in
theorem bX3_addSigns_73 {sc : Nat × (Nat → Int32)} {h : jH} {Q : jQ} {t : Nat} {l1 l2 l3 l4 l5 l6 : Int32} (t_h : jI3 t)
    (v1 : Q (.inl none) (jG0 sc) h) :
    WP mX3_addSigns Q 73 [some (.ref t), some (.int l1), some (.int l2), some (.int l3), some (.int l4), some (.int l5), some (.int l6)] [] (jG0 sc) h (0, 0) := by
  obtain ⟨t_lt6, t_K0, t_R0_0, t_K1, t_L1, t_R0_1, t_K2, t_L2, t_R0_2, t_K3, t_L3, t_R0_3, t_K4, t_L4, t_R0_4, t_K5, t_L5, t_R0_5, t_K6, t_L6⟩ := t_h
  have t_lt5 : t + 5 < jN (jG0 sc) := Nat.lt_of_succ_lt t_lt6
  have t_lt4 : t + 4 < jN (jG0 sc) := Nat.lt_of_succ_lt t_lt5
  have t_lt3 : t + 3 < jN (jG0 sc) := Nat.lt_of_succ_lt t_lt4
  have t_lt2 : t + 2 < jN (jG0 sc) := Nat.lt_of_succ_lt t_lt3
  have t_lt1 : t + 1 < jN (jG0 sc) := Nat.lt_of_succ_lt t_lt2
  have t_lt0 : t + 0 < jN (jG0 sc) := Nat.lt_of_succ_lt t_lt1
  exact j_vret rfl (Nat.zero_le _) (Nat.zero_le _) dX3_addSigns_73 v1
set_option maxRecDepth 100000 in
theorem rX3_addSigns_0 {sc : Nat × (Nat → Int32)} {h : jH} {Q : jQ} {t : Nat} {l1 l2 : Int32} {P1 : Int32 → jH → Prop} (t_h : jI3 t)
    (k1 : JM mX11_signOf [.int l2] (jG0 sc) h (jint sc P1))
    (v1 : ∀ (x1 : Int32) (h1 : jH), P1 x1 h1 → ¬ x1 = 0 → 6 ≤ x1 → 6 ≤ x1 → WP mX3_addSigns Q 42 [some (.ref t), some (.int l1), some (.int l2), some (.int x1), some (.int 6), some (.int 8), some (.int 6)] [] (jG0 sc) h1 (0, 0))
    (v2 : ∀ (x1 : Int32) (h1 : jH), P1 x1 h1 → ¬ x1 = 0 → 6 ≤ x1 → ¬ 6 ≤ x1 → WP mX3_addSigns Q 42 [some (.ref t), some (.int l1), some (.int l2), some (.int x1), some (.int 6), some (.int 5), some (.int 6)] [] (jG0 sc) h1 (0, 0))
    (v3 : ∀ (x1 : Int32) (h1 : jH), P1 x1 h1 → ¬ x1 = 0 → ¬ 6 ≤ x1 → 6 ≤ x1 → WP mX3_addSigns Q 42 [some (.ref t), some (.int l1), some (.int l2), some (.int x1), some (.int 1), some (.int 8), some (.int 1)] [] (jG0 sc) h1 (0, 0))
    (v4 : ∀ (x1 : Int32) (h1 : jH), P1 x1 h1 → ¬ x1 = 0 → ¬ 6 ≤ x1 → ¬ 6 ≤ x1 → WP mX3_addSigns Q 42 [some (.ref t), some (.int l1), some (.int l2), some (.int x1), some (.int 1), some (.int 5), some (.int 1)] [] (jG0 sc) h1 (0, 0))
    (v5 : ∀ (x1 : Int32) (h1 : jH), P1 x1 h1 → x1 = 0 → Q (.inl none) (jG0 sc) h1) :
    WP mX3_addSigns Q 0 [some (.ref t), some (.int l1), some (.int l2), none, none, none, none] [] (jG0 sc) h (0, 0) := by
  exact (bX3_addSigns_0 t_h k1 (fun x1 h1 p1 c1 => (bX3_addSigns_10 t_h (fun c2 => (bX3_addSigns_20 t_h (bX3_addSigns_22 t_h (fun c3 => (bX3_addSigns_34 t_h (bX3_addSigns_36 t_h (v1 x1 h1 p1 c1 c2 c3)))) (fun c3 => (bX3_addSigns_30 t_h (bX3_addSigns_36 t_h (v2 x1 h1 p1 c1 c2 c3))))))) (fun c2 => (bX3_addSigns_16 t_h (bX3_addSigns_22 t_h (fun c4 => (bX3_addSigns_34 t_h (bX3_addSigns_36 t_h (v3 x1 h1 p1 c1 c2 c4)))) (fun c4 => (bX3_addSigns_30 t_h (bX3_addSigns_36 t_h (v4 x1 h1 p1 c1 c2 c4))))))))) (fun x1 h1 p1 c1 => (bX3_addSigns_9 t_h (v5 x1 h1 p1 c1))))
set_option maxRecDepth 100000 in
theorem rX3_addSigns_42 {sc : Nat × (Nat → Int32)} {h : jH} {Q : jQ} {t : Nat} {l1 l2 l3 l4 l5 l6 : Int32} {P1 : Int32 → jH → Prop} {P2 : jH → Prop} (t_h : jI3 t)
    (v1 : l5 < l6 → Q (.inl none) (jG0 sc) h)
    (v2 : ¬ l5 < l6 → l6 = l3 → WP mX3_addSigns Q 42 [some (.ref t), some (.int l1), some (.int l2), some (.int l3), some (.int l4), some (.int l5), some (.int (l6 + 1))] [] (jG0 sc) h (0, 0))
    (k1 : ¬ l5 < l6 → ¬ l6 = l3 → JM mX11_withSign [.int l2, .int l6] (jG0 sc) h (jint sc P1))
    (k2 : ¬ l5 < l6 → ¬ l6 = l3 → ∀ (x1 : Int32) (h1 : jH), P1 x1 h1 → JM mX3_add [.ref t, .int 1, .int l1, .int x1] (jG0 sc) h1 (jvoid sc P2))
    (v3 : ¬ l5 < l6 → ¬ l6 = l3 → ∀ (x1 : Int32) (h1 : jH), P1 x1 h1 → ∀ h2 : jH, P2 h2 → WP mX3_addSigns Q 42 [some (.ref t), some (.int l1), some (.int l2), some (.int l3), some (.int l4), some (.int l5), some (.int (l6 + 1))] [] (jG0 sc) h2 (0, 0)) :
    WP mX3_addSigns Q 42 [some (.ref t), some (.int l1), some (.int l2), some (.int l3), some (.int l4), some (.int l5), some (.int l6)] [] (jG0 sc) h (0, 0) := by
  exact (bX3_addSigns_42 t_h (fun c1 => (bX3_addSigns_73 t_h (v1 c1))) (fun c1 => (bX3_addSigns_49 t_h (fun c2 => (bX3_addSigns_67 t_h (v2 c1 c2))) (fun c2 => (bX3_addSigns_55 t_h (k1 c1 c2) (fun x1 h1 p1 => (k2 c1 c2 x1 h1 p1)) (fun x1 h1 p1 h2 p2 => (bX3_addSigns_67 t_h (v3 c1 c2 x1 h1 p1 h2 p2))))))))
theorem dX3_addBounds_0 : decode (mC mX3_addBounds) 0 = .ok (.iload_n 2, 1) := by decide +kernel
theorem dX3_addBounds_1 : decode (mC mX3_addBounds) 1 = .ok (.invokestatic 61, 3) := by decide +kernel
theorem dX3_addBounds_4 : decode (mC mX3_addBounds) 4 = .ok (.istore_n 3, 1) := by decide +kernel
theorem dX3_addBounds_5 : decode (mC mX3_addBounds) 5 = .ok (.iload_n 2, 1) := by decide +kernel
theorem dX3_addBounds_6 : decode (mC mX3_addBounds) 6 = .ok (.invokestatic 64, 3) := by decide +kernel
theorem dX3_addBounds_9 : decode (mC mX3_addBounds) 9 = .ok (.istore 4, 2) := by decide +kernel
theorem dX3_addBounds_11 : decode (mC mX3_addBounds) 11 = .ok (.iload_n 2, 1) := by decide +kernel
theorem dX3_addBounds_12 : decode (mC mX3_addBounds) 12 = .ok (.invokestatic 93, 3) := by decide +kernel
theorem dX3_addBounds_15 : decode (mC mX3_addBounds) 15 = .ok (.istore 5, 2) := by decide +kernel
theorem dX3_addBounds_17 : decode (mC mX3_addBounds) 17 = .ok (.iconst (-1), 1) := by decide +kernel
theorem dX3_addBounds_18 : decode (mC mX3_addBounds) 18 = .ok (.istore 6, 2) := by decide +kernel
theorem dX3_addBounds_20 : decode (mC mX3_addBounds) 20 = .ok (.iload 6, 2) := by decide +kernel
theorem dX3_addBounds_22 : decode (mC mX3_addBounds) 22 = .ok (.iconst 1, 1) := by decide +kernel
theorem dX3_addBounds_23 : decode (mC mX3_addBounds) 23 = .ok (.if_icmp .gt 39, 3) := by decide +kernel
theorem dX3_addBounds_26 : decode (mC mX3_addBounds) 26 = .ok (.iload_n 3, 1) := by decide +kernel
theorem dX3_addBounds_27 : decode (mC mX3_addBounds) 27 = .ok (.bipush 10, 2) := by decide +kernel
theorem dX3_addBounds_29 : decode (mC mX3_addBounds) 29 = .ok (.if_icmp .lt 27, 3) := by decide +kernel
theorem dX3_addBounds_32 : decode (mC mX3_addBounds) 32 = .ok (.iload_n 3, 1) := by decide +kernel
theorem dX3_addBounds_33 : decode (mC mX3_addBounds) 33 = .ok (.iload 6, 2) := by decide +kernel
theorem dX3_addBounds_35 : decode (mC mX3_addBounds) 35 = .ok (.iadd, 1) := by decide +kernel
theorem dX3_addBounds_36 : decode (mC mX3_addBounds) 36 = .ok (.invokestatic 96, 3) := by decide +kernel
theorem dX3_addBounds_39 : decode (mC mX3_addBounds) 39 = .ok (.ifCond .eq 17, 3) := by decide +kernel
theorem dX3_addBounds_42 : decode (mC mX3_addBounds) 42 = .ok (.aload_n 0, 1) := by decide +kernel
theorem dX3_addBounds_43 : decode (mC mX3_addBounds) 43 = .ok (.iconst 2, 1) := by decide +kernel
theorem dX3_addBounds_44 : decode (mC mX3_addBounds) 44 = .ok (.iload_n 1, 1) := by decide +kernel
theorem dX3_addBounds_45 : decode (mC mX3_addBounds) 45 = .ok (.iload_n 2, 1) := by decide +kernel
theorem dX3_addBounds_46 : decode (mC mX3_addBounds) 46 = .ok (.iload_n 3, 1) := by decide +kernel
theorem dX3_addBounds_47 : decode (mC mX3_addBounds) 47 = .ok (.iload 6, 2) := by decide +kernel
theorem dX3_addBounds_49 : decode (mC mX3_addBounds) 49 = .ok (.iadd, 1) := by decide +kernel
theorem dX3_addBounds_50 : decode (mC mX3_addBounds) 50 = .ok (.invokestatic 67, 3) := by decide +kernel
theorem dX3_addBounds_53 : decode (mC mX3_addBounds) 53 = .ok (.invokevirtual 71, 3) := by decide +kernel
theorem dX3_addBounds_56 : decode (mC mX3_addBounds) 56 = .ok (.iinc 6 2, 3) := by decide +kernel
theorem dX3_addBounds_59 : decode (mC mX3_addBounds) 59 = .ok (.goto (-39), 3) := by decide +kernel
theorem dX3_addBounds_62 : decode (mC mX3_addBounds) 62 = .ok (.iconst (-1), 1) := by decide +kernel
theorem dX3_addBounds_63 : decode (mC mX3_addBounds) 63 = .ok (.istore 6, 2) := by decide +kernel
theorem dX3_addBounds_65 : decode (mC mX3_addBounds) 65 = .ok (.iload 6, 2) := by decide +kernel
theorem dX3_addBounds_67 : decode (mC mX3_addBounds) 67 = .ok (.iconst 1, 1) := by decide +kernel
theorem dX3_addBounds_68 : decode (mC mX3_addBounds) 68 = .ok (.if_icmp .gt 42, 3) := by decide +kernel
theorem dX3_addBounds_71 : decode (mC mX3_addBounds) 71 = .ok (.iload 4, 2) := by decide +kernel
theorem dX3_addBounds_73 : decode (mC mX3_addBounds) 73 = .ok (.bipush 10, 2) := by decide +kernel
theorem dX3_addBounds_75 : decode (mC mX3_addBounds) 75 = .ok (.if_icmp .lt 29, 3) := by decide +kernel
theorem dX3_addBounds_78 : decode (mC mX3_addBounds) 78 = .ok (.iload 4, 2) := by decide +kernel
theorem dX3_addBounds_80 : decode (mC mX3_addBounds) 80 = .ok (.iload 6, 2) := by decide +kernel
theorem dX3_addBounds_82 : decode (mC mX3_addBounds) 82 = .ok (.iadd, 1) := by decide +kernel
theorem dX3_addBounds_83 : decode (mC mX3_addBounds) 83 = .ok (.invokestatic 96, 3) := by decide +kernel
theorem dX3_addBounds_86 : decode (mC mX3_addBounds) 86 = .ok (.ifCond .eq 18, 3) := by decide +kernel
theorem dX3_addBounds_89 : decode (mC mX3_addBounds) 89 = .ok (.aload_n 0, 1) := by decide +kernel
theorem dX3_addBounds_90 : decode (mC mX3_addBounds) 90 = .ok (.iconst 2, 1) := by decide +kernel
theorem dX3_addBounds_91 : decode (mC mX3_addBounds) 91 = .ok (.iload_n 1, 1) := by decide +kernel
theorem dX3_addBounds_92 : decode (mC mX3_addBounds) 92 = .ok (.iload_n 2, 1) := by decide +kernel
theorem dX3_addBounds_93 : decode (mC mX3_addBounds) 93 = .ok (.iload 4, 2) := by decide +kernel
theorem dX3_addBounds_95 : decode (mC mX3_addBounds) 95 = .ok (.iload 6, 2) := by decide +kernel
theorem dX3_addBounds_97 : decode (mC mX3_addBounds) 97 = .ok (.iadd, 1) := by decide +kernel
theorem dX3_addBounds_98 : decode (mC mX3_addBounds) 98 = .ok (.invokestatic 75, 3) := by decide +kernel
theorem dX3_addBounds_101 : decode (mC mX3_addBounds) 101 = .ok (.invokevirtual 71, 3) := by decide +kernel
theorem dX3_addBounds_104 : decode (mC mX3_addBounds) 104 = .ok (.iinc 6 2, 3) := by decide +kernel
theorem dX3_addBounds_107 : decode (mC mX3_addBounds) 107 = .ok (.goto (-42), 3) := by decide +kernel
theorem dX3_addBounds_110 : decode (mC mX3_addBounds) 110 = .ok (.iconst (-1), 1) := by decide +kernel
theorem dX3_addBounds_111 : decode (mC mX3_addBounds) 111 = .ok (.istore 6, 2) := by decide +kernel
theorem dX3_addBounds_113 : decode (mC mX3_addBounds) 113 = .ok (.iload 6, 2) := by decide +kernel
theorem dX3_addBounds_115 : decode (mC mX3_addBounds) 115 = .ok (.iconst 1, 1) := by decide +kernel
theorem dX3_addBounds_116 : decode (mC mX3_addBounds) 116 = .ok (.if_icmp .gt 48, 3) := by decide +kernel
theorem dX3_addBounds_119 : decode (mC mX3_addBounds) 119 = .ok (.iload 5, 2) := by decide +kernel
theorem dX3_addBounds_121 : decode (mC mX3_addBounds) 121 = .ok (.ifCond .le 37, 3) := by decide +kernel
theorem dX3_addBounds_124 : decode (mC mX3_addBounds) 124 = .ok (.iload 5, 2) := by decide +kernel
theorem dX3_addBounds_126 : decode (mC mX3_addBounds) 126 = .ok (.iload 6, 2) := by decide +kernel
theorem dX3_addBounds_128 : decode (mC mX3_addBounds) 128 = .ok (.iadd, 1) := by decide +kernel
theorem dX3_addBounds_129 : decode (mC mX3_addBounds) 129 = .ok (.iconst 1, 1) := by decide +kernel
theorem dX3_addBounds_130 : decode (mC mX3_addBounds) 130 = .ok (.if_icmp .lt 28, 3) := by decide +kernel
theorem dX3_addBounds_133 : decode (mC mX3_addBounds) 133 = .ok (.iload 5, 2) := by decide +kernel
theorem dX3_addBounds_135 : decode (mC mX3_addBounds) 135 = .ok (.iload 6, 2) := by decide +kernel
theorem dX3_addBounds_137 : decode (mC mX3_addBounds) 137 = .ok (.iadd, 1) := by decide +kernel
theorem dX3_addBounds_138 : decode (mC mX3_addBounds) 138 = .ok (.bipush 9, 2) := by decide +kernel
theorem dX3_addBounds_140 : decode (mC mX3_addBounds) 140 = .ok (.if_icmp .gt 18, 3) := by decide +kernel
theorem dX3_addBounds_143 : decode (mC mX3_addBounds) 143 = .ok (.aload_n 0, 1) := by decide +kernel
theorem dX3_addBounds_144 : decode (mC mX3_addBounds) 144 = .ok (.iconst 2, 1) := by decide +kernel
theorem dX3_addBounds_145 : decode (mC mX3_addBounds) 145 = .ok (.iload_n 1, 1) := by decide +kernel
theorem dX3_addBounds_146 : decode (mC mX3_addBounds) 146 = .ok (.iload_n 2, 1) := by decide +kernel
theorem dX3_addBounds_147 : decode (mC mX3_addBounds) 147 = .ok (.iload 5, 2) := by decide +kernel
theorem dX3_addBounds_149 : decode (mC mX3_addBounds) 149 = .ok (.iload 6, 2) := by decide +kernel
theorem dX3_addBounds_151 : decode (mC mX3_addBounds) 151 = .ok (.iadd, 1) := by decide +kernel
theorem dX3_addBounds_152 : decode (mC mX3_addBounds) 152 = .ok (.invokestatic 100, 3) := by decide +kernel
theorem dX3_addBounds_155 : decode (mC mX3_addBounds) 155 = .ok (.invokevirtual 71, 3) := by decide +kernel
theorem dX3_addBounds_158 : decode (mC mX3_addBounds) 158 = .ok (.iinc 6 2, 3) := by decide +kernel
theorem dX3_addBounds_161 : decode (mC mX3_addBounds) 161 = .ok (.goto (-48), 3) := by decide +kernel
theorem dX3_addBounds_164 : decode (mC mX3_addBounds) 164 = .ok (.return_, 1) := by decide +kernel
set_option maxRecDepth 100000 in
theorem bX3_addBounds_0 {sc : Nat × (Nat → Int32)} {h : jH} {Q : jQ} {t : Nat} {l1 l2 : Int32} {P1 : Int32 → jH → Prop} {P2 : Int32 → jH → Prop} {P3 : Int32 → jH → Prop} (t_h : jI3 t)
    (k1 : JM mX11_firstOf [.int l2] (jG0 sc) h (jint sc P1))
    (k2 : ∀ (x1 : Int32) (h1 : jH), P1 x1 h1 → JM mX11_secondOf [.int l2] (jG0 sc) h1 (jint sc P2))
    (k3 : ∀ (x1 : Int32) (h1 : jH), P1 x1 h1 → ∀ (x2 : Int32) (h2 : jH), P2 x2 h2 → JM mX11_countOf [.int l2] (jG0 sc) h2 (jint sc P3))
    (v1 : ∀ (x1 : Int32) (h1 : jH), P1 x1 h1 → ∀ (x2 : Int32) (h2 : jH), P2 x2 h2 → ∀ (x3 : Int32) (h3 : jH), P3 x3 h3 → WP mX3_addBounds Q 20 [some (.ref t), some (.int l1), some (.int l2), some (.int x1), some (.int x2), some (.int x3), some (.int (-1))] [] (jG0 sc) h3 (0, 0)) :
    WP mX3_addBounds Q 0 [some (.ref t), some (.int l1), some (.int l2), none, none, none, none] [] (jG0 sc) h (0, 0) := by
  obtain ⟨t_lt6, t_K0, t_R0_0, t_K1, t_L1, t_R0_1, t_K2, t_L2, t_R0_2, t_K3, t_L3, t_R0_3, t_K4, t_L4, t_R0_4, t_K5, t_L5, t_R0_5, t_K6, t_L6⟩ := t_h
  have t_lt5 : t + 5 < jN (jG0 sc) := Nat.lt_of_succ_lt t_lt6
  have t_lt4 : t + 4 < jN (jG0 sc) := Nat.lt_of_succ_lt t_lt5
  have t_lt3 : t + 3 < jN (jG0 sc) := Nat.lt_of_succ_lt t_lt4
  have t_lt2 : t + 2 < jN (jG0 sc) := Nat.lt_of_succ_lt t_lt3
  have t_lt1 : t + 1 < jN (jG0 sc) := Nat.lt_of_succ_lt t_lt2
  have t_lt0 : t + 0 < jN (jG0 sc) := Nat.lt_of_succ_lt t_lt1
  refine j_iload_n (i := 2) rfl dX3_addBounds_0 ?_
  refine j_callSN (idx := 61) (As := [.int l2]) (n := 1) k1 jint_nt (jTbl (jtb3 105 rfl)) sX11_firstOf kX11_firstOf rfl ⟨by decide +kernel, by decide +kernel, by decide +kernel⟩ rfl ⟨by decide, by decide⟩ (Nat.le_of_ble_eq_true rfl) ⟨Nat.zero_le _, Nat.zero_le _⟩ dX3_addBounds_1 (fun r Γ' h1 q => ?_)
  obtain ⟨x1, q0, rfl, p1⟩ := q; cases q0
  refine j_eqst [.int x1] (by rfl) ?_
  refine j_istore_n (i := 3) dX3_addBounds_4 (Nat.le_of_ble_eq_true rfl) ?_
  refine j_iload_n (i := 2) rfl dX3_addBounds_5 ?_
  refine j_callSN (idx := 64) (As := [.int l2]) (n := 1) (k2 x1 h1 p1) jint_nt (jTbl (jtb3 106 rfl)) sX11_secondOf kX11_secondOf rfl ⟨by decide +kernel, by decide +kernel, by decide +kernel⟩ rfl ⟨by decide, by decide⟩ (Nat.le_of_ble_eq_true rfl) ⟨Nat.zero_le _, Nat.zero_le _⟩ dX3_addBounds_6 (fun r Γ' h2 q => ?_)
  obtain ⟨x2, q0, rfl, p2⟩ := q; cases q0
  refine j_eqst [.int x2] (by rfl) ?_
  refine j_istore (i := 4) dX3_addBounds_9 (Nat.le_of_ble_eq_true rfl) ?_
  refine j_iload_n (i := 2) rfl dX3_addBounds_11 ?_
  refine j_callSN (idx := 93) (As := [.int l2]) (n := 1) (k3 x1 h1 p1 x2 h2 p2) jint_nt (jTbl (jtb3 136 rfl)) sX11_countOf kX11_countOf rfl ⟨by decide +kernel, by decide +kernel, by decide +kernel⟩ rfl ⟨by decide, by decide⟩ (Nat.le_of_ble_eq_true rfl) ⟨Nat.zero_le _, Nat.zero_le _⟩ dX3_addBounds_12 (fun r Γ' h3 q => ?_)
  obtain ⟨x3, q0, rfl, p3⟩ := q; cases q0
  refine j_eqst [.int x3] (by rfl) ?_
  refine j_istore (i := 5) dX3_addBounds_15 (Nat.le_of_ble_eq_true rfl) ?_
  refine j_iconst (n := (-1)) (-1) (by decide) dX3_addBounds_17 ?_
  refine j_istore (i := 6) dX3_addBounds_18 (Nat.le_of_ble_eq_true rfl) ?_
  exact j_le [some (.ref t), some (.int l1), some (.int l2), some (.int x1), some (.int x2), some (.int x3), some (.int (-1))] (And.intro rfl (And.intro rfl (And.intro rfl (And.intro rfl (And.intro rfl (And.intro rfl (And.intro rfl True.intro))))))) (v1 x1 h1 p1 x2 h2 p2 x3 h3 p3)
set_option maxRecDepth 100000 in
theorem bX3_addBounds_20 {sc : Nat × (Nat → Int32)} {h : jH} {Q : jQ} {t : Nat} {l1 l2 l3 l4 l5 l6 : Int32} (t_h : jI3 t)
    (v1 : 1 < l6 → WP mX3_addBounds Q 62 [some (.ref t), some (.int l1), some (.int l2), some (.int l3), some (.int l4), some (.int l5), some (.int l6)] [] (jG0 sc) h (0, 0))
    (v2 : ¬ 1 < l6 → WP mX3_addBounds Q 26 [some (.ref t), some (.int l1), some (.int l2), some (.int l3), some (.int l4), some (.int l5), some (.int l6)] [] (jG0 sc) h (0, 0)) :
    WP mX3_addBounds Q 20 [some (.ref t), some (.int l1), some (.int l2), some (.int l3), some (.int l4), some (.int l5), some (.int l6)] [] (jG0 sc) h (0, 0) := by
  obtain ⟨t_lt6, t_K0, t_R0_0, t_K1, t_L1, t_R0_1, t_K2, t_L2, t_R0_2, t_K3, t_L3, t_R0_3, t_K4, t_L4, t_R0_4, t_K5, t_L5, t_R0_5, t_K6, t_L6⟩ := t_h
  have t_lt5 : t + 5 < jN (jG0 sc) := Nat.lt_of_succ_lt t_lt6
  have t_lt4 : t + 4 < jN (jG0 sc) := Nat.lt_of_succ_lt t_lt5
  have t_lt3 : t + 3 < jN (jG0 sc) := Nat.lt_of_succ_lt t_lt4
  have t_lt2 : t + 2 < jN (jG0 sc) := Nat.lt_of_succ_lt t_lt3
  have t_lt1 : t + 1 < jN (jG0 sc) := Nat.lt_of_succ_lt t_lt2
  have t_lt0 : t + 0 < jN (jG0 sc) := Nat.lt_of_succ_lt t_lt1
  refine j_iload (i := 6) rfl dX3_addBounds_20 ?_
  refine j_iconst (n := 1) 1 (by decide) dX3_addBounds_22 ?_
  refine j_icmp_gt (off := 39) 62 dX3_addBounds_23 (by decide) (fun c1 => ?_) (fun c1 => ?_)
  · exact j_le [some (.ref t), some (.int l1), some (.int l2), some (.int l3), some (.int l4), some (.int l5), some (.int l6)] (And.intro rfl (And.intro rfl (And.intro rfl (And.intro rfl (And.intro rfl (And.intro rfl (And.intro rfl True.intro))))))) (v1 c1)
  · exact j_le [some (.ref t), some (.int l1), some (.int l2), some (.int l3), some (.int l4), some (.int l5), some (.int l6)] (And.intro rfl (And.intro rfl (And.intro rfl (And.intro rfl (And.intro rfl (And.intro rfl (And.intro rfl True.intro))))))) (v2 c1)
set_option maxRecDepth 100000 in
theorem bX3_addBounds_26 {sc : Nat × (Nat → Int32)} {h : jH} {Q : jQ} {t : Nat} {l1 l2 l3 l4 l5 l6 : Int32} (t_h : jI3 t)
    (v1 : l3 < 10 → WP mX3_addBounds Q 56 [some (.ref t), some (.int l1), some (.int l2), some (.int l3), some (.int l4), some (.int l5), some (.int l6)] [] (jG0 sc) h (0, 0))
    (v2 : ¬ l3 < 10 → WP mX3_addBounds Q 32 [some (.ref t), some (.int l1), some (.int l2), some (.int l3), some (.int l4), some (.int l5), some (.int l6)] [] (jG0 sc) h (0, 0)) :
    WP mX3_addBounds Q 26 [some (.ref t), some (.int l1), some (.int l2), some (.int l3), some (.int l4), some (.int l5), some (.int l6)] [] (jG0 sc) h (0, 0) := by
  obtain ⟨t_lt6, t_K0, t_R0_0, t_K1, t_L1, t_R0_1, t_K2, t_L2, t_R0_2, t_K3, t_L3, t_R0_3, t_K4, t_L4, t_R0_4, t_K5, t_L5, t_R0_5, t_K6, t_L6⟩ := t_h
  have t_lt5 : t + 5 < jN (jG0 sc) := Nat.lt_of_succ_lt t_lt6
  have t_lt4 : t + 4 < jN (jG0 sc) := Nat.lt_of_succ_lt t_lt5
  have t_lt3 : t + 3 < jN (jG0 sc) := Nat.lt_of_succ_lt t_lt4
  have t_lt2 : t + 2 < jN (jG0 sc) := Nat.lt_of_succ_lt t_lt3
  have t_lt1 : t + 1 < jN (jG0 sc) := Nat.lt_of_succ_lt t_lt2
  have t_lt0 : t + 0 < jN (jG0 sc) := Nat.lt_of_succ_lt t_lt1
  refine j_iload_n (i := 3) rfl dX3_addBounds_26 ?_
  refine j_bipush (n := 10) 10 (by decide) dX3_addBounds_27 ?_
  refine j_icmp_lt (off := 27) 56 dX3_addBounds_29 (by decide) (fun c1 => ?_) (fun c1 => ?_)
  · exact j_le [some (.ref t), some (.int l1), some (.int l2), some (.int l3), some (.int l4), some (.int l5), some (.int l6)] (And.intro rfl (And.intro rfl (And.intro rfl (And.intro rfl (And.intro rfl (And.intro rfl (And.intro rfl True.intro))))))) (v1 c1)
  · exact j_le [some (.ref t), some (.int l1), some (.int l2), some (.int l3), some (.int l4), some (.int l5), some (.int l6)] (And.intro rfl (And.intro rfl (And.intro rfl (And.intro rfl (And.intro rfl (And.intro rfl (And.intro rfl True.intro))))))) (v2 c1)
set_option maxRecDepth 100000 in
theorem bX3_addBounds_32 {sc : Nat × (Nat → Int32)} {h : jH} {Q : jQ} {t : Nat} {l1 l2 l3 l4 l5 l6 : Int32} {P1 : Int32 → jH → Prop} (t_h : jI3 t)
    (k1 : JM mX3_isNumberAtom [.int (l3 + l6)] (jG0 sc) h (jint sc P1))
    (v1 : ∀ (x1 : Int32) (h1 : jH), P1 x1 h1 → x1 = 0 → WP mX3_addBounds Q 56 [some (.ref t), some (.int l1), some (.int l2), some (.int l3), some (.int l4), some (.int l5), some (.int l6)] [] (jG0 sc) h1 (0, 0))
    (v2 : ∀ (x1 : Int32) (h1 : jH), P1 x1 h1 → ¬ x1 = 0 → WP mX3_addBounds Q 42 [some (.ref t), some (.int l1), some (.int l2), some (.int l3), some (.int l4), some (.int l5), some (.int l6)] [] (jG0 sc) h1 (0, 0)) :
    WP mX3_addBounds Q 32 [some (.ref t), some (.int l1), some (.int l2), some (.int l3), some (.int l4), some (.int l5), some (.int l6)] [] (jG0 sc) h (0, 0) := by
  obtain ⟨t_lt6, t_K0, t_R0_0, t_K1, t_L1, t_R0_1, t_K2, t_L2, t_R0_2, t_K3, t_L3, t_R0_3, t_K4, t_L4, t_R0_4, t_K5, t_L5, t_R0_5, t_K6, t_L6⟩ := t_h
  have t_lt5 : t + 5 < jN (jG0 sc) := Nat.lt_of_succ_lt t_lt6
  have t_lt4 : t + 4 < jN (jG0 sc) := Nat.lt_of_succ_lt t_lt5
  have t_lt3 : t + 3 < jN (jG0 sc) := Nat.lt_of_succ_lt t_lt4
  have t_lt2 : t + 2 < jN (jG0 sc) := Nat.lt_of_succ_lt t_lt3
  have t_lt1 : t + 1 < jN (jG0 sc) := Nat.lt_of_succ_lt t_lt2
  have t_lt0 : t + 0 < jN (jG0 sc) := Nat.lt_of_succ_lt t_lt1
  refine j_iload_n (i := 3) rfl dX3_addBounds_32 ?_
  refine j_iload (i := 6) rfl dX3_addBounds_33 ?_
  refine j_iadd dX3_addBounds_35 ?_
  refine j_callS (idx := 96) (As := [.int (l3 + l6)]) (n := 1) k1 jint_nt (jlkT (jtb3 137 rfl) rfl) sX3_isNumberAtom kX3_isNumberAtom rfl ⟨by decide +kernel, by decide +kernel, by decide +kernel⟩ rfl ⟨by decide, by decide⟩ (Nat.le_of_ble_eq_true rfl) ⟨Nat.zero_le _, Nat.zero_le _⟩ dX3_addBounds_36 (fun r Γ' h1 q => ?_)
  obtain ⟨x1, q0, rfl, p1⟩ := q; cases q0
  refine j_eqst [.int x1] (by rfl) ?_
  refine j_if_eq (off := 17) 56 dX3_addBounds_39 (by decide) (fun c1 => ?_) (fun c1 => ?_)
  · exact j_le [some (.ref t), some (.int l1), some (.int l2), some (.int l3), some (.int l4), some (.int l5), some (.int l6)] (And.intro rfl (And.intro rfl (And.intro rfl (And.intro rfl (And.intro rfl (And.intro rfl (And.intro rfl True.intro))))))) (v1 x1 h1 p1 c1)
  · exact j_le [some (.ref t), some (.int l1), some (.int l2), some (.int l3), some (.int l4), some (.int l5), some (.int l6)] (And.intro rfl (And.intro rfl (And.intro rfl (And.intro rfl (And.intro rfl (And.intro rfl (And.intro rfl True.intro))))))) (v2 x1 h1 p1 c1)
set_option maxRecDepth 100000 in
theorem bX3_addBounds_42 {sc : Nat × (Nat → Int32)} {h : jH} {Q : jQ} {t : Nat} {l1 l2 l3 l4 l5 l6 : Int32} {P1 : Int32 → jH → Prop} {P2 : jH → Prop} (t_h : jI3 t)
    (k1 : JM mX11_withFirst [.int l2, .int (l3 + l6)] (jG0 sc) h (jint sc P1))
    (k2 : ∀ (x1 : Int32) (h1 : jH), P1 x1 h1 → JM mX3_add [.ref t, .int 2, .int l1, .int x1] (jG0 sc) h1 (jvoid sc P2))
    (v1 : ∀ (x1 : Int32) (h1 : jH), P1 x1 h1 → ∀ h2 : jH, P2 h2 → WP mX3_addBounds Q 56 [some (.ref t), some (.int l1), some (.int l2), some (.int l3), some (.int l4), some (.int l5), some (.int l6)] [] (jG0 sc) h2 (0, 0)) :
    WP mX3_addBounds Q 42 [some (.ref t), some (.int l1), some (.int l2), some (.int l3), some (.int l4), some (.int l5), some (.int l6)] [] (jG0 sc) h (0, 0) := by
  obtain ⟨t_lt6, t_K0, t_R0_0, t_K1, t_L1, t_R0_1, t_K2, t_L2, t_R0_2, t_K3, t_L3, t_R0_3, t_K4, t_L4, t_R0_4, t_K5, t_L5, t_R0_5, t_K6, t_L6⟩ := t_h
  have t_lt5 : t + 5 < jN (jG0 sc) := Nat.lt_of_succ_lt t_lt6
  have t_lt4 : t + 4 < jN (jG0 sc) := Nat.lt_of_succ_lt t_lt5
  have t_lt3 : t + 3 < jN (jG0 sc) := Nat.lt_of_succ_lt t_lt4
  have t_lt2 : t + 2 < jN (jG0 sc) := Nat.lt_of_succ_lt t_lt3
  have t_lt1 : t + 1 < jN (jG0 sc) := Nat.lt_of_succ_lt t_lt2
  have t_lt0 : t + 0 < jN (jG0 sc) := Nat.lt_of_succ_lt t_lt1
  refine j_aload_n (i := 0) rfl dX3_addBounds_42 ?_
  refine j_iconst (n := 2) 2 (by decide) dX3_addBounds_43 ?_
  refine j_iload_n (i := 1) rfl dX3_addBounds_44 ?_
  refine j_iload_n (i := 2) rfl dX3_addBounds_45 ?_
  refine j_iload_n (i := 3) rfl dX3_addBounds_46 ?_
  refine j_iload (i := 6) rfl dX3_addBounds_47 ?_
  refine j_iadd dX3_addBounds_49 ?_
  refine j_callSN (idx := 67) (As := [.int l2, .int (l3 + l6)]) (n := 2) k1 jint_nt (jTbl (jtb3 107 rfl)) sX11_withFirst kX11_withFirst rfl ⟨by decide +kernel, by decide +kernel, by decide +kernel⟩ rfl ⟨by decide, by decide⟩ (Nat.le_of_ble_eq_true rfl) ⟨Nat.zero_le _, Nat.zero_le _⟩ dX3_addBounds_50 (fun r Γ' h1 q => ?_)
  obtain ⟨x1, q0, rfl, p1⟩ := q; cases q0
  refine j_eqst [.int x1, .int l1, .int 2, .ref t] (by rfl) ?_
  refine j_callV (idx := 71) (As := [.int 2, .int l1, .int x1]) (ci := 3) (n := 3) (k2 x1 h1 p1) jvoid_nt (jlkT (jtb3 110 rfl) rfl) sX3_add kX3_add rfl ⟨rfl, by decide +kernel, by decide +kernel, by decide +kernel⟩ rfl ⟨by decide, by decide⟩ (t_lt0) t_K0 (Nat.le_of_ble_eq_true rfl) (Nat.le_of_ble_eq_true rfl) ⟨Nat.zero_le _, Nat.zero_le _⟩ dX3_addBounds_53 (fun r Γ' h2 q => ?_)
  obtain ⟨q0, rfl, p2⟩ := q; cases q0
  refine j_eqst [] (by rfl) ?_
  exact j_le [some (.ref t), some (.int l1), some (.int l2), some (.int l3), some (.int l4), some (.int l5), some (.int l6)] (And.intro rfl (And.intro rfl (And.intro rfl (And.intro rfl (And.intro rfl (And.intro rfl (And.intro rfl True.intro))))))) (v1 x1 h1 p1 h2 p2)
set_option maxRecDepth 100000 in
theorem bX3_addBounds_56 {sc : Nat × (Nat → Int32)} {h : jH} {Q : jQ} {t : Nat} {l1 l2 l3 l4 l5 l6 : Int32} (t_h : jI3 t)
    (v1 : WP mX3_addBounds Q 20 [some (.ref t), some (.int l1), some (.int l2), some (.int l3), some (.int l4), some (.int l5), some (.int (l6 + 2))] [] (jG0 sc) h (0, 0)) :
    WP mX3_addBounds Q 56 [some (.ref t), some (.int l1), some (.int l2), some (.int l3), some (.int l4), some (.int l5), some (.int l6)] [] (jG0 sc) h (0, 0) := by
  obtain ⟨t_lt6, t_K0, t_R0_0, t_K1, t_L1, t_R0_1, t_K2, t_L2, t_R0_2, t_K3, t_L3, t_R0_3, t_K4, t_L4, t_R0_4, t_K5, t_L5, t_R0_5, t_K6, t_L6⟩ := t_h
  have t_lt5 : t + 5 < jN (jG0 sc) := Nat.lt_of_succ_lt t_lt6
  have t_lt4 : t + 4 < jN (jG0 sc) := Nat.lt_of_succ_lt t_lt5
  have t_lt3 : t + 3 < jN (jG0 sc) := Nat.lt_of_succ_lt t_lt4
  have t_lt2 : t + 2 < jN (jG0 sc) := Nat.lt_of_succ_lt t_lt3
  have t_lt1 : t + 1 < jN (jG0 sc) := Nat.lt_of_succ_lt t_lt2
  have t_lt0 : t + 0 < jN (jG0 sc) := Nat.lt_of_succ_lt t_lt1
  refine j_iinc (i := 6) (n := 2) rfl dX3_addBounds_56 (Nat.le_of_ble_eq_true rfl) ?_
  refine j_eqlv [some (.ref t), some (.int l1), some (.int l2), some (.int l3), some (.int l4), some (.int l5), some (.int (l6 + 2))] rfl ?_
  refine j_goto (off := -39) 20 dX3_addBounds_59 (by decide) ?_
  exact j_le [some (.ref t), some (.int l1), some (.int l2), some (.int l3), some (.int l4), some (.int l5), some (.int (l6 + 2))] (And.intro rfl (And.intro rfl (And.intro rfl (And.intro rfl (And.intro rfl (And.intro rfl (And.intro rfl True.intro))))))) v1
set_option maxRecDepth 100000 in
theorem bX3_addBounds_62 {sc : Nat × (Nat → Int32)} {h : jH} {Q : jQ} {t : Nat} {l1 l2 l3 l4 l5 l6 : Int32} (t_h : jI3 t)
    (v1 : WP mX3_addBounds Q 65 [some (.ref t), some (.int l1), some (.int l2), some (.int l3), some (.int l4), some (.int l5), some (.int (-1))] [] (jG0 sc) h (0, 0)) :
    WP mX3_addBounds Q 62 [some (.ref t), some (.int l1), some (.int l2), some (.int l3), some (.int l4), some (.int l5), some (.int l6)] [] (jG0 sc) h (0, 0) := by
  obtain ⟨t_lt6, t_K0, t_R0_0, t_K1, t_L1, t_R0_1, t_K2, t_L2, t_R0_2, t_K3, t_L3, t_R0_3, t_K4, t_L4, t_R0_4, t_K5, t_L5, t_R0_5, t_K6, t_L6⟩ := t_h
  have t_lt5 : t + 5 < jN (jG0 sc) := Nat.lt_of_succ_lt t_lt6
  have t_lt4 : t + 4 < jN (jG0 sc) := Nat.lt_of_succ_lt t_lt5
  have t_lt3 : t + 3 < jN (jG0 sc) := Nat.lt_of_succ_lt t_lt4
  have t_lt2 : t + 2 < jN (jG0 sc) := Nat.lt_of_succ_lt t_lt3
  have t_lt1 : t + 1 < jN (jG0 sc) := Nat.lt_of_succ_lt t_lt2
  have t_lt0 : t + 0 < jN (jG0 sc) := Nat.lt_of_succ_lt t_lt1
  refine j_iconst (n := (-1)) (-1) (by decide) dX3_addBounds_62 ?_
  refine j_istore (i := 6) dX3_addBounds_63 (Nat.le_of_ble_eq_true rfl) ?_
  exact j_le [some (.ref t), some (.int l1), some (.int l2), some (.int l3), some (.int l4), some (.int l5), some (.int (-1))] (And.intro rfl (And.intro rfl (And.intro rfl (And.intro rfl (And.intro rfl (And.intro rfl (And.intro rfl True.intro))))))) v1
set_option maxRecDepth 100000 in
theorem bX3_addBounds_65 {sc : Nat × (Nat → Int32)} {h : jH} {Q : jQ} {t : Nat} {l1 l2 l3 l4 l5 l6 : Int32} (t_h : jI3 t)
    (v1 : 1 < l6 → WP mX3_addBounds Q 110 [some (.ref t), some (.int l1), some (.int l2), some (.int l3), some (.int l4), some (.int l5), some (.int l6)] [] (jG0 sc) h (0, 0))
    (v2 : ¬ 1 < l6 → WP mX3_addBounds Q 71 [some (.ref t), some (.int l1), some (.int l2), some (.int l3), some (.int l4), some (.int l5), some (.int l6)] [] (jG0 sc) h (0, 0)) :
    WP mX3_addBounds Q 65 [some (.ref t), some (.int l1), some (.int l2), some (.int l3), some (.int l4), some (.int l5), some (.int l6)] [] (jG0 sc) h (0, 0) := by
  obtain ⟨t_lt6, t_K0, t_R0_0, t_K1, t_L1, t_R0_1, t_K2, t_L2, t_R0_2, t_K3, t_L3, t_R0_3, t_K4, t_L4, t_R0_4, t_K5, t_L5, t_R0_5, t_K6, t_L6⟩ := t_h
  have t_lt5 : t + 5 < jN (jG0 sc) := Nat.lt_of_succ_lt t_lt6
  have t_lt4 : t + 4 < jN (jG0 sc) := Nat.lt_of_succ_lt t_lt5
  have t_lt3 : t + 3 < jN (jG0 sc) := Nat.lt_of_succ_lt t_lt4
  have t_lt2 : t + 2 < jN (jG0 sc) := Nat.lt_of_succ_lt t_lt3
  have t_lt1 : t + 1 < jN (jG0 sc) := Nat.lt_of_succ_lt t_lt2
  have t_lt0 : t + 0 < jN (jG0 sc) := Nat.lt_of_succ_lt t_lt1
  refine j_iload (i := 6) rfl dX3_addBounds_65 ?_
  refine j_iconst (n := 1) 1 (by decide) dX3_addBounds_67 ?_
  refine j_icmp_gt (off := 42) 110 dX3_addBounds_68 (by decide) (fun c1 => ?_) (fun c1 => ?_)
  · exact j_le [some (.ref t), some (.int l1), some (.int l2), some (.int l3), some (.int l4), some (.int l5), some (.int l6)] (And.intro rfl (And.intro rfl (And.intro rfl (And.intro rfl (And.intro rfl (And.intro rfl (And.intro rfl True.intro))))))) (v1 c1)
  · exact j_le [some (.ref t), some (.int l1), some (.int l2), some (.int l3), some (.int l4), some (.int l5), some (.int l6)] (And.intro rfl (And.intro rfl (And.intro rfl (And.intro rfl (And.intro rfl (And.intro rfl (And.intro rfl True.intro))))))) (v2 c1)
set_option maxRecDepth 100000 in
theorem bX3_addBounds_71 {sc : Nat × (Nat → Int32)} {h : jH} {Q : jQ} {t : Nat} {l1 l2 l3 l4 l5 l6 : Int32} (t_h : jI3 t)
    (v1 : l4 < 10 → WP mX3_addBounds Q 104 [some (.ref t), some (.int l1), some (.int l2), some (.int l3), some (.int l4), some (.int l5), some (.int l6)] [] (jG0 sc) h (0, 0))
    (v2 : ¬ l4 < 10 → WP mX3_addBounds Q 78 [some (.ref t), some (.int l1), some (.int l2), some (.int l3), some (.int l4), some (.int l5), some (.int l6)] [] (jG0 sc) h (0, 0)) :
    WP mX3_addBounds Q 71 [some (.ref t), some (.int l1), some (.int l2), some (.int l3), some (.int l4), some (.int l5), some (.int l6)] [] (jG0 sc) h (0, 0) := by
  obtain ⟨t_lt6, t_K0, t_R0_0, t_K1, t_L1, t_R0_1, t_K2, t_L2, t_R0_2, t_K3, t_L3, t_R0_3, t_K4, t_L4, t_R0_4, t_K5, t_L5, t_R0_5, t_K6, t_L6⟩ := t_h
  have t_lt5 : t + 5 < jN (jG0 sc) := Nat.lt_of_succ_lt t_lt6
  have t_lt4 : t + 4 < jN (jG0 sc) := Nat.lt_of_succ_lt t_lt5
  have t_lt3 : t + 3 < jN (jG0 sc) := Nat.lt_of_succ_lt t_lt4
  have t_lt2 : t + 2 < jN (jG0 sc) := Nat.lt_of_succ_lt t_lt3
  have t_lt1 : t + 1 < jN (jG0 sc) := Nat.lt_of_succ_lt t_lt2
  have t_lt0 : t + 0 < jN (jG0 sc) := Nat.lt_of_succ_lt t_lt1
  refine j_iload (i := 4) rfl dX3_addBounds_71 ?_
  refine j_bipush (n := 10) 10 (by decide) dX3_addBounds_73 ?_
  refine j_icmp_lt (off := 29) 104 dX3_addBounds_75 (by decide) (fun c1 => ?_) (fun c1 => ?_)
  · exact j_le [some (.ref t), some (.int l1), some (.int l2), some (.int l3), some (.int l4), some (.int l5), some (.int l6)] (And.intro rfl (And.intro rfl (And.intro rfl (And.intro rfl (And.intro rfl (And.intro rfl (And.intro rfl True.intro))))))) (v1 c1)
  · exact j_le [some (.ref t), some (.int l1), some (.int l2), some (.int l3), some (.int l4), some (.int l5), some (.int l6)] (And.intro rfl (And.intro rfl (And.intro rfl (And.intro rfl (And.intro rfl (And.intro rfl (And.intro rfl True.intro))))))) (v2 c1)
set_option maxRecDepth 100000 in
theorem bX3_addBounds_78 {sc : Nat × (Nat → Int32)} {h : jH} {Q : jQ} {t : Nat} {l1 l2 l3 l4 l5 l6 : Int32} {P1 : Int32 → jH → Prop} (t_h : jI3 t)
    (k1 : JM mX3_isNumberAtom [.int (l4 + l6)] (jG0 sc) h (jint sc P1))
    (v1 : ∀ (x1 : Int32) (h1 : jH), P1 x1 h1 → x1 = 0 → WP mX3_addBounds Q 104 [some (.ref t), some (.int l1), some (.int l2), some (.int l3), some (.int l4), some (.int l5), some (.int l6)] [] (jG0 sc) h1 (0, 0))
    (v2 : ∀ (x1 : Int32) (h1 : jH), P1 x1 h1 → ¬ x1 = 0 → WP mX3_addBounds Q 89 [some (.ref t), some (.int l1), some (.int l2), some (.int l3), some (.int l4), some (.int l5), some (.int l6)] [] (jG0 sc) h1 (0, 0)) :
    WP mX3_addBounds Q 78 [some (.ref t), some (.int l1), some (.int l2), some (.int l3), some (.int l4), some (.int l5), some (.int l6)] [] (jG0 sc) h (0, 0) := by
  obtain ⟨t_lt6, t_K0, t_R0_0, t_K1, t_L1, t_R0_1, t_K2, t_L2, t_R0_2, t_K3, t_L3, t_R0_3, t_K4, t_L4, t_R0_4, t_K5, t_L5, t_R0_5, t_K6, t_L6⟩ := t_h
  have t_lt5 : t + 5 < jN (jG0 sc) := Nat.lt_of_succ_lt t_lt6
  have t_lt4 : t + 4 < jN (jG0 sc) := Nat.lt_of_succ_lt t_lt5
  have t_lt3 : t + 3 < jN (jG0 sc) := Nat.lt_of_succ_lt t_lt4
  have t_lt2 : t + 2 < jN (jG0 sc) := Nat.lt_of_succ_lt t_lt3
  have t_lt1 : t + 1 < jN (jG0 sc) := Nat.lt_of_succ_lt t_lt2
  have t_lt0 : t + 0 < jN (jG0 sc) := Nat.lt_of_succ_lt t_lt1
  refine j_iload (i := 4) rfl dX3_addBounds_78 ?_
  refine j_iload (i := 6) rfl dX3_addBounds_80 ?_
  refine j_iadd dX3_addBounds_82 ?_
  refine j_callS (idx := 96) (As := [.int (l4 + l6)]) (n := 1) k1 jint_nt (jlkT (jtb3 137 rfl) rfl) sX3_isNumberAtom kX3_isNumberAtom rfl ⟨by decide +kernel, by decide +kernel, by decide +kernel⟩ rfl ⟨by decide, by decide⟩ (Nat.le_of_ble_eq_true rfl) ⟨Nat.zero_le _, Nat.zero_le _⟩ dX3_addBounds_83 (fun r Γ' h1 q => ?_)
  obtain ⟨x1, q0, rfl, p1⟩ := q; cases q0
  refine j_eqst [.int x1] (by rfl) ?_
  refine j_if_eq (off := 18) 104 dX3_addBounds_86 (by decide) (fun c1 => ?_) (fun c1 => ?_)
  · exact j_le [some (.ref t), some (.int l1), some (.int l2), some (.int l3), some (.int l4), some (.int l5), some (.int l6)] (And.intro rfl (And.intro rfl (And.intro rfl (And.intro rfl (And.intro rfl (And.intro rfl (And.intro rfl True.intro))))))) (v1 x1 h1 p1 c1)
  · exact j_le [some (.ref t), some (.int l1), some (.int l2), some (.int l3), some (.int l4), some (.int l5), some (.int l6)] (And.intro rfl (And.intro rfl (And.intro rfl (And.intro rfl (And.intro rfl (And.intro rfl (And.intro rfl True.intro))))))) (v2 x1 h1 p1 c1)
set_option maxRecDepth 100000 in
theorem bX3_addBounds_89 {sc : Nat × (Nat → Int32)} {h : jH} {Q : jQ} {t : Nat} {l1 l2 l3 l4 l5 l6 : Int32} {P1 : Int32 → jH → Prop} {P2 : jH → Prop} (t_h : jI3 t)
    (k1 : JM mX11_withSecond [.int l2, .int (l4 + l6)] (jG0 sc) h (jint sc P1))
    (k2 : ∀ (x1 : Int32) (h1 : jH), P1 x1 h1 → JM mX3_add [.ref t, .int 2, .int l1, .int x1] (jG0 sc) h1 (jvoid sc P2))
    (v1 : ∀ (x1 : Int32) (h1 : jH), P1 x1 h1 → ∀ h2 : jH, P2 h2 → WP mX3_addBounds Q 104 [some (.ref t), some (.int l1), some (.int l2), some (.int l3), some (.int l4), some (.int l5), some (.int l6)] [] (jG0 sc) h2 (0, 0)) :
    WP mX3_addBounds Q 89 [some (.ref t), some (.int l1), some (.int l2), some (.int l3), some (.int l4), some (.int l5), some (.int l6)] [] (jG0 sc) h (0, 0) := by
  obtain ⟨t_lt6, t_K0, t_R0_0, t_K1, t_L1, t_R0_1, t_K2, t_L2, t_R0_2, t_K3, t_L3, t_R0_3, t_K4, t_L4, t_R0_4, t_K5, t_L5, t_R0_5, t_K6, t_L6⟩ := t_h
  have t_lt5 : t + 5 < jN (jG0 sc) := Nat.lt_of_succ_lt t_lt6
  have t_lt4 : t + 4 < jN (jG0 sc) := Nat.lt_of_succ_lt t_lt5
  have t_lt3 : t + 3 < jN (jG0 sc) := Nat.lt_of_succ_lt t_lt4
  have t_lt2 : t + 2 < jN (jG0 sc) := Nat.lt_of_succ_lt t_lt3
  have t_lt1 : t + 1 < jN (jG0 sc) := Nat.lt_of_succ_lt t_lt2
  have t_lt0 : t + 0 < jN (jG0 sc) := Nat.lt_of_succ_lt t_lt1
  refine j_aload_n (i := 0) rfl dX3_addBounds_89 ?_
  refine j_iconst (n := 2) 2 (by decide) dX3_addBounds_90 ?_
  refine j_iload_n (i := 1) rfl dX3_addBounds_91 ?_
  refine j_iload_n (i := 2) rfl dX3_addBounds_92 ?_
  refine j_iload (i := 4) rfl dX3_addBounds_93 ?_
  refine j_iload (i := 6) rfl dX3_addBounds_95 ?_
  refine j_iadd dX3_addBounds_97 ?_
  refine j_callSN (idx := 75) (As := [.int l2, .int (l4 + l6)]) (n := 2) k1 jint_nt (jTbl (jtb3 114 rfl)) sX11_withSecond kX11_withSecond rfl ⟨by decide +kernel, by decide +kernel, by decide +kernel⟩ rfl ⟨by decide, by decide⟩ (Nat.le_of_ble_eq_true rfl) ⟨Nat.zero_le _, Nat.zero_le _⟩ dX3_addBounds_98 (fun r Γ' h1 q => ?_)
  obtain ⟨x1, q0, rfl, p1⟩ := q; cases q0
  refine j_eqst [.int x1, .int l1, .int 2, .ref t] (by rfl) ?_
  refine j_callV (idx := 71) (As := [.int 2, .int l1, .int x1]) (ci := 3) (n := 3) (k2 x1 h1 p1) jvoid_nt (jlkT (jtb3 110 rfl) rfl) sX3_add kX3_add rfl ⟨rfl, by decide +kernel, by decide +kernel, by decide +kernel⟩ rfl ⟨by decide, by decide⟩ (t_lt0) t_K0 (Nat.le_of_ble_eq_true rfl) (Nat.le_of_ble_eq_true rfl) ⟨Nat.zero_le _, Nat.zero_le _⟩ dX3_addBounds_101 (fun r Γ' h2 q => ?_)
  obtain ⟨q0, rfl, p2⟩ := q; cases q0
  refine j_eqst [] (by rfl) ?_
  exact j_le [some (.ref t), some (.int l1), some (.int l2), some (.int l3), some (.int l4), some (.int l5), some (.int l6)] (And.intro rfl (And.intro rfl (And.intro rfl (And.intro rfl (And.intro rfl (And.intro rfl (And.intro rfl True.intro))))))) (v1 x1 h1 p1 h2 p2)
set_option maxRecDepth 100000 in
theorem bX3_addBounds_104 {sc : Nat × (Nat → Int32)} {h : jH} {Q : jQ} {t : Nat} {l1 l2 l3 l4 l5 l6 : Int32} (t_h : jI3 t)
    (v1 : WP mX3_addBounds Q 65 [some (.ref t), some (.int l1), some (.int l2), some (.int l3), some (.int l4), some (.int l5), some (.int (l6 + 2))] [] (jG0 sc) h (0, 0)) :
    WP mX3_addBounds Q 104 [some (.ref t), some (.int l1), some (.int l2), some (.int l3), some (.int l4), some (.int l5), some (.int l6)] [] (jG0 sc) h (0, 0) := by
  obtain ⟨t_lt6, t_K0, t_R0_0, t_K1, t_L1, t_R0_1, t_K2, t_L2, t_R0_2, t_K3, t_L3, t_R0_3, t_K4, t_L4, t_R0_4, t_K5, t_L5, t_R0_5, t_K6, t_L6⟩ := t_h
  have t_lt5 : t + 5 < jN (jG0 sc) := Nat.lt_of_succ_lt t_lt6
  have t_lt4 : t + 4 < jN (jG0 sc) := Nat.lt_of_succ_lt t_lt5
  have t_lt3 : t + 3 < jN (jG0 sc) := Nat.lt_of_succ_lt t_lt4
  have t_lt2 : t + 2 < jN (jG0 sc) := Nat.lt_of_succ_lt t_lt3
  have t_lt1 : t + 1 < jN (jG0 sc) := Nat.lt_of_succ_lt t_lt2
  have t_lt0 : t + 0 < jN (jG0 sc) := Nat.lt_of_succ_lt t_lt1
  refine j_iinc (i := 6) (n := 2) rfl dX3_addBounds_104 (Nat.le_of_ble_eq_true rfl) ?_
  refine j_eqlv [some (.ref t), some (.int l1), some (.int l2), some (.int l3), some (.int l4), some (.int l5), some (.int (l6 + 2))] rfl ?_
  refine j_goto (off := -42) 65 dX3_addBounds_107 (by decide) ?_
  exact j_le [some (.ref t), some (.int l1), some (.int l2), some (.int l3), some (.int l4), some (.int l5), some (.int (l6 + 2))] (And.intro rfl (And.intro rfl (And.intro rfl (And.intro rfl (And.intro rfl (And.intro rfl (And.intro rfl True.intro))))))) v1
set_option maxRecDepth 100000 in
theorem bX3_addBounds_110 {sc : Nat × (Nat → Int32)} {h : jH} {Q : jQ} {t : Nat} {l1 l2 l3 l4 l5 l6 : Int32} (t_h : jI3 t)
    (v1 : WP mX3_addBounds Q 113 [some (.ref t), some (.int l1), some (.int l2), some (.int l3), some (.int l4), some (.int l5), some (.int (-1))] [] (jG0 sc) h (0, 0)) :
    WP mX3_addBounds Q 110 [some (.ref t), some (.int l1), some (.int l2), some (.int l3), some (.int l4), some (.int l5), some (.int l6)] [] (jG0 sc) h (0, 0) := by
  obtain ⟨t_lt6, t_K0, t_R0_0, t_K1, t_L1, t_R0_1, t_K2, t_L2, t_R0_2, t_K3, t_L3, t_R0_3, t_K4, t_L4, t_R0_4, t_K5, t_L5, t_R0_5, t_K6, t_L6⟩ := t_h
  have t_lt5 : t + 5 < jN (jG0 sc) := Nat.lt_of_succ_lt t_lt6
  have t_lt4 : t + 4 < jN (jG0 sc) := Nat.lt_of_succ_lt t_lt5
  have t_lt3 : t + 3 < jN (jG0 sc) := Nat.lt_of_succ_lt t_lt4
  have t_lt2 : t + 2 < jN (jG0 sc) := Nat.lt_of_succ_lt t_lt3
  have t_lt1 : t + 1 < jN (jG0 sc) := Nat.lt_of_succ_lt t_lt2
  have t_lt0 : t + 0 < jN (jG0 sc) := Nat.lt_of_succ_lt t_lt1
  refine j_iconst (n := (-1)) (-1) (by decide) dX3_addBounds_110 ?_
  refine j_istore (i := 6) dX3_addBounds_111 (Nat.le_of_ble_eq_true rfl) ?_
  exact j_le [some (.ref t), some (.int l1), some (.int l2), some (.int l3), some (.int l4), some (.int l5), some (.int (-1))] (And.intro rfl (And.intro rfl (And.intro rfl (And.intro rfl (And.intro rfl (And.intro rfl (And.intro rfl True.intro))))))) v1
set_option maxRecDepth 100000 in
theorem bX3_addBounds_113 {sc : Nat × (Nat → Int32)} {h : jH} {Q : jQ} {t : Nat} {l1 l2 l3 l4 l5 l6 : Int32} (t_h : jI3 t)
    (v1 : 1 < l6 → WP mX3_addBounds Q 164 [some (.ref t), some (.int l1), some (.int l2), some (.int l3), some (.int l4), some (.int l5), some (.int l6)] [] (jG0 sc) h (0, 0))
    (v2 : ¬ 1 < l6 → WP mX3_addBounds Q 119 [some (.ref t), some (.int l1), some (.int l2), some (.int l3), some (.int l4), some (.int l5), some (.int l6)] [] (jG0 sc) h (0, 0)) :
    WP mX3_addBounds Q 113 [some (.ref t), some (.int l1), some (.int l2), some (.int l3), some (.int l4), some (.int l5), some (.int l6)] [] (jG0 sc) h (0, 0) := by
  obtain ⟨t_lt6, t_K0, t_R0_0, t_K1, t_L1, t_R0_1, t_K2, t_L2, t_R0_2, t_K3, t_L3, t_R0_3, t_K4, t_L4, t_R0_4, t_K5, t_L5, t_R0_5, t_K6, t_L6⟩ := t_h
  have t_lt5 : t + 5 < jN (jG0 sc) := Nat.lt_of_succ_lt t_lt6
  have t_lt4 : t + 4 < jN (jG0 sc) := Nat.lt_of_succ_lt t_lt5
  have t_lt3 : t + 3 < jN (jG0 sc) := Nat.lt_of_succ_lt t_lt4
  have t_lt2 : t + 2 < jN (jG0 sc) := Nat.lt_of_succ_lt t_lt3
  have t_lt1 : t + 1 < jN (jG0 sc) := Nat.lt_of_succ_lt t_lt2
  have t_lt0 : t + 0 < jN (jG0 sc) := Nat.lt_of_succ_lt t_lt1
  refine j_iload (i := 6) rfl dX3_addBounds_113 ?_
  refine j_iconst (n := 1) 1 (by decide) dX3_addBounds_115 ?_
  refine j_icmp_gt (off := 48) 164 dX3_addBounds_116 (by decide) (fun c1 => ?_) (fun c1 => ?_)
  · exact j_le [some (.ref t), some (.int l1), some (.int l2), some (.int l3), some (.int l4), some (.int l5), some (.int l6)] (And.intro rfl (And.intro rfl (And.intro rfl (And.intro rfl (And.intro rfl (And.intro rfl (And.intro rfl True.intro))))))) (v1 c1)
  · exact j_le [some (.ref t), some (.int l1), some (.int l2), some (.int l3), some (.int l4), some (.int l5), some (.int l6)] (And.intro rfl (And.intro rfl (And.intro rfl (And.intro rfl (And.intro rfl (And.intro rfl (And.intro rfl True.intro))))))) (v2 c1)
set_option maxRecDepth 100000 in
theorem bX3_addBounds_119 {sc : Nat × (Nat → Int32)} {h : jH} {Q : jQ} {t : Nat} {l1 l2 l3 l4 l5 l6 : Int32} (t_h : jI3 t)
    (v1 : l5 ≤ 0 → WP mX3_addBounds Q 158 [some (.ref t), some (.int l1), some (.int l2), some (.int l3), some (.int l4), some (.int l5), some (.int l6)] [] (jG0 sc) h (0, 0))
    (v2 : ¬ l5 ≤ 0 → WP mX3_addBounds Q 124 [some (.ref t), some (.int l1), some (.int l2), some (.int l3), some (.int l4), some (.int l5), some (.int l6)] [] (jG0 sc) h (0, 0)) :
    WP mX3_addBounds Q 119 [some (.ref t), some (.int l1), some (.int l2), some (.int l3), some (.int l4), some (.int l5), some (.int l6)] [] (jG0 sc) h (0, 0) := by
  obtain ⟨t_lt6, t_K0, t_R0_0, t_K1, t_L1, t_R0_1, t_K2, t_L2, t_R0_2, t_K3, t_L3, t_R0_3, t_K4, t_L4, t_R0_4, t_K5, t_L5, t_R0_5, t_K6, t_L6⟩ := t_h
  have t_lt5 : t + 5 < jN (jG0 sc) := Nat.lt_of_succ_lt t_lt6
  have t_lt4 : t + 4 < jN (jG0 sc) := Nat.lt_of_succ_lt t_lt5
  have t_lt3 : t + 3 < jN (jG0 sc) := Nat.lt_of_succ_lt t_lt4
  have t_lt2 : t + 2 < jN (jG0 sc) := Nat.lt_of_succ_lt t_lt3
  have t_lt1 : t + 1 < jN (jG0 sc) := Nat.lt_of_succ_lt t_lt2
  have t_lt0 : t + 0 < jN (jG0 sc) := Nat.lt_of_succ_lt t_lt1
  refine j_iload (i := 5) rfl dX3_addBounds_119 ?_
  refine j_if_le (off := 37) 158 dX3_addBounds_121 (by decide) (fun c1 => ?_) (fun c1 => ?_)
  · exact j_le [some (.ref t), some (.int l1), some (.int l2), some (.int l3), some (.int l4), some (.int l5), some (.int l6)] (And.intro rfl (And.intro rfl (And.intro rfl (And.intro rfl (And.intro rfl (And.intro rfl (And.intro rfl True.intro))))))) (v1 c1)
  · exact j_le [some (.ref t), some (.int l1), some (.int l2), some (.int l3), some (.int l4), some (.int l5), some (.int l6)] (And.intro rfl (And.intro rfl (And.intro rfl (And.intro rfl (And.intro rfl (And.intro rfl (And.intro rfl True.intro))))))) (v2 c1)
set_option maxRecDepth 100000 in
theorem bX3_addBounds_124 {sc : Nat × (Nat → Int32)} {h : jH} {Q : jQ} {t : Nat} {l1 l2 l3 l4 l5 l6 : Int32} (t_h : jI3 t)
    (v1 : (l5 + l6) < 1 → WP mX3_addBounds Q 158 [some (.ref t), some (.int l1), some (.int l2), some (.int l3), some (.int l4), some (.int l5), some (.int l6)] [] (jG0 sc) h (0, 0))
    (v2 : ¬ (l5 + l6) < 1 → WP mX3_addBounds Q 133 [some (.ref t), some (.int l1), some (.int l2), some (.int l3), some (.int l4), some (.int l5), some (.int l6)] [] (jG0 sc) h (0, 0)) :
    WP mX3_addBounds Q 124 [some (.ref t), some (.int l1), some (.int l2), some (.int l3), some (.int l4), some (.int l5), some (.int l6)] [] (jG0 sc) h (0, 0) := by
  obtain ⟨t_lt6, t_K0, t_R0_0, t_K1, t_L1, t_R0_1, t_K2, t_L2, t_R0_2, t_K3, t_L3, t_R0_3, t_K4, t_L4, t_R0_4, t_K5, t_L5, t_R0_5, t_K6, t_L6⟩ := t_h
  have t_lt5 : t + 5 < jN (jG0 sc) := Nat.lt_of_succ_lt t_lt6
  have t_lt4 : t + 4 < jN (jG0 sc) := Nat.lt_of_succ_lt t_lt5
  have t_lt3 : t + 3 < jN (jG0 sc) := Nat.lt_of_succ_lt t_lt4
  have t_lt2 : t + 2 < jN (jG0 sc) := Nat.lt_of_succ_lt t_lt3
  have t_lt1 : t + 1 < jN (jG0 sc) := Nat.lt_of_succ_lt t_lt2
  have t_lt0 : t + 0 < jN (jG0 sc) := Nat.lt_of_succ_lt t_lt1
  refine j_iload (i := 5) rfl dX3_addBounds_124 ?_
  refine j_iload (i := 6) rfl dX3_addBounds_126 ?_
  refine j_iadd dX3_addBounds_128 ?_
  refine j_iconst (n := 1) 1 (by decide) dX3_addBounds_129 ?_
  refine j_icmp_lt (off := 28) 158 dX3_addBounds_130 (by decide) (fun c1 => ?_) (fun c1 => ?_)
  · exact j_le [some (.ref t), some (.int l1), some (.int l2), some (.int l3), some (.int l4), some (.int l5), some (.int l6)] (And.intro rfl (And.intro rfl (And.intro rfl (And.intro rfl (And.intro rfl (And.intro rfl (And.intro rfl True.intro))))))) (v1 c1)
  · exact j_le [some (.ref t), some (.int l1), some (.int l2), some (.int l3), some (.int l4), some (.int l5), some (.int l6)] (And.intro rfl (And.intro rfl (And.intro rfl (And.intro rfl (And.intro rfl (And.intro rfl (And.intro rfl True.intro))))))) (v2 c1)
set_option maxRecDepth 100000 in
theorem bX3_addBounds_133 {sc : Nat × (Nat → Int32)} {h : jH} {Q : jQ} {t : Nat} {l1 l2 l3 l4 l5 l6 : Int32} (t_h : jI3 t)
    (v1 : 9 < (l5 + l6) → WP mX3_addBounds Q 158 [some (.ref t), some (.int l1), some (.int l2), some (.int l3), some (.int l4), some (.int l5), some (.int l6)] [] (jG0 sc) h (0, 0))
    (v2 : ¬ 9 < (l5 + l6) → WP mX3_addBounds Q 143 [some (.ref t), some (.int l1), some (.int l2), some (.int l3), some (.int l4), some (.int l5), some (.int l6)] [] (jG0 sc) h (0, 0)) :
    WP mX3_addBounds Q 133 [some (.ref t), some (.int l1), some (.int l2), some (.int l3), some (.int l4), some (.int l5), some (.int l6)] [] (jG0 sc) h (0, 0) := by
  obtain ⟨t_lt6, t_K0, t_R0_0, t_K1, t_L1, t_R0_1, t_K2, t_L2, t_R0_2, t_K3, t_L3, t_R0_3, t_K4, t_L4, t_R0_4, t_K5, t_L5, t_R0_5, t_K6, t_L6⟩ := t_h
  have t_lt5 : t + 5 < jN (jG0 sc) := Nat.lt_of_succ_lt t_lt6
  have t_lt4 : t + 4 < jN (jG0 sc) := Nat.lt_of_succ_lt t_lt5
  have t_lt3 : t + 3 < jN (jG0 sc) := Nat.lt_of_succ_lt t_lt4
  have t_lt2 : t + 2 < jN (jG0 sc) := Nat.lt_of_succ_lt t_lt3
  have t_lt1 : t + 1 < jN (jG0 sc) := Nat.lt_of_succ_lt t_lt2
  have t_lt0 : t + 0 < jN (jG0 sc) := Nat.lt_of_succ_lt t_lt1
  refine j_iload (i := 5) rfl dX3_addBounds_133 ?_
  refine j_iload (i := 6) rfl dX3_addBounds_135 ?_
  refine j_iadd dX3_addBounds_137 ?_
  refine j_bipush (n := 9) 9 (by decide) dX3_addBounds_138 ?_
  refine j_icmp_gt (off := 18) 158 dX3_addBounds_140 (by decide) (fun c1 => ?_) (fun c1 => ?_)
  · exact j_le [some (.ref t), some (.int l1), some (.int l2), some (.int l3), some (.int l4), some (.int l5), some (.int l6)] (And.intro rfl (And.intro rfl (And.intro rfl (And.intro rfl (And.intro rfl (And.intro rfl (And.intro rfl True.intro))))))) (v1 c1)
  · exact j_le [some (.ref t), some (.int l1), some (.int l2), some (.int l3), some (.int l4), some (.int l5), some (.int l6)] (And.intro rfl (And.intro rfl (And.intro rfl (And.intro rfl (And.intro rfl (And.intro rfl (And.intro rfl True.intro))))))) (v2 c1)
set_option maxRecDepth 100000 in
theorem bX3_addBounds_143 {sc : Nat × (Nat → Int32)} {h : jH} {Q : jQ} {t : Nat} {l1 l2 l3 l4 l5 l6 : Int32} {P1 : Int32 → jH → Prop} {P2 : jH → Prop} (t_h : jI3 t)
    (k1 : JM mX11_withCount [.int l2, .int (l5 + l6)] (jG0 sc) h (jint sc P1))
    (k2 : ∀ (x1 : Int32) (h1 : jH), P1 x1 h1 → JM mX3_add [.ref t, .int 2, .int l1, .int x1] (jG0 sc) h1 (jvoid sc P2))
    (v1 : ∀ (x1 : Int32) (h1 : jH), P1 x1 h1 → ∀ h2 : jH, P2 h2 → WP mX3_addBounds Q 158 [some (.ref t), some (.int l1), some (.int l2), some (.int l3), some (.int l4), some (.int l5), some (.int l6)] [] (jG0 sc) h2 (0, 0)) :
    WP mX3_addBounds Q 143 [some (.ref t), some (.int l1), some (.int l2), some (.int l3), some (.int l4), some (.int l5), some (.int l6)] [] (jG0 sc) h (0, 0) := by
  obtain ⟨t_lt6, t_K0, t_R0_0, t_K1, t_L1, t_R0_1, t_K2, t_L2, t_R0_2, t_K3, t_L3, t_R0_3, t_K4, t_L4, t_R0_4, t_K5, t_L5, t_R0_5, t_K6, t_L6⟩ := t_h
  have t_lt5 : t + 5 < jN (jG0 sc) := Nat.lt_of_succ_lt t_lt6
  have t_lt4 : t + 4 < jN (jG0 sc) := Nat.lt_of_succ_lt t_lt5
  have t_lt3 : t + 3 < jN (jG0 sc) := Nat.lt_of_succ_lt t_lt4
  have t_lt2 : t + 2 < jN (jG0 sc) := Nat.lt_of_succ_lt t_lt3
  have t_lt1 : t + 1 < jN (jG0 sc) := Nat.lt_of_succ_lt t_lt2
  have t_lt0 : t + 0 < jN (jG0 sc) := Nat.lt_of_succ_lt t_lt1
  refine j_aload_n (i := 0) rfl dX3_addBounds_143 ?_
  refine j_iconst (n := 2) 2 (by decide) dX3_addBounds_144 ?_
  refine j_iload_n (i := 1) rfl dX3_addBounds_145 ?_
  refine j_iload_n (i := 2) rfl dX3_addBounds_146 ?_
  refine j_iload (i := 5) rfl dX3_addBounds_147 ?_
  refine j_iload (i := 6) rfl dX3_addBounds_149 ?_
  refine j_iadd dX3_addBounds_151 ?_
  refine j_callSN (idx := 100) (As := [.int l2, .int (l5 + l6)]) (n := 2) k1 jint_nt (jTbl (jtb3 140 rfl)) sX11_withCount kX11_withCount rfl ⟨by decide +kernel, by decide +kernel, by decide +kernel⟩ rfl ⟨by decide, by decide⟩ (Nat.le_of_ble_eq_true rfl) ⟨Nat.zero_le _, Nat.zero_le _⟩ dX3_addBounds_152 (fun r Γ' h1 q => ?_)
  obtain ⟨x1, q0, rfl, p1⟩ := q; cases q0
  refine j_eqst [.int x1, .int l1, .int 2, .ref t] (by rfl) ?_
  refine j_callV (idx := 71) (As := [.int 2, .int l1, .int x1]) (ci := 3) (n := 3) (k2 x1 h1 p1) jvoid_nt (jlkT (jtb3 110 rfl) rfl) sX3_add kX3_add rfl ⟨rfl, by decide +kernel, by decide +kernel, by decide +kernel⟩ rfl ⟨by decide, by decide⟩ (t_lt0) t_K0 (Nat.le_of_ble_eq_true rfl) (Nat.le_of_ble_eq_true rfl) ⟨Nat.zero_le _, Nat.zero_le _⟩ dX3_addBounds_155 (fun r Γ' h2 q => ?_)
  obtain ⟨q0, rfl, p2⟩ := q; cases q0
  refine j_eqst [] (by rfl) ?_
  exact j_le [some (.ref t), some (.int l1), some (.int l2), some (.int l3), some (.int l4), some (.int l5), some (.int l6)] (And.intro rfl (And.intro rfl (And.intro rfl (And.intro rfl (And.intro rfl (And.intro rfl (And.intro rfl True.intro))))))) (v1 x1 h1 p1 h2 p2)
set_option maxRecDepth 100000 in
theorem bX3_addBounds_158 {sc : Nat × (Nat → Int32)} {h : jH} {Q : jQ} {t : Nat} {l1 l2 l3 l4 l5 l6 : Int32} (t_h : jI3 t)
    (v1 : WP mX3_addBounds Q 113 [some (.ref t), some (.int l1), some (.int l2), some (.int l3), some (.int l4), some (.int l5), some (.int (l6 + 2))] [] (jG0 sc) h (0, 0)) :
    WP mX3_addBounds Q 158 [some (.ref t), some (.int l1), some (.int l2), some (.int l3), some (.int l4), some (.int l5), some (.int l6)] [] (jG0 sc) h (0, 0) := by
  obtain ⟨t_lt6, t_K0, t_R0_0, t_K1, t_L1, t_R0_1, t_K2, t_L2, t_R0_2, t_K3, t_L3, t_R0_3, t_K4, t_L4, t_R0_4, t_K5, t_L5, t_R0_5, t_K6, t_L6⟩ := t_h
  have t_lt5 : t + 5 < jN (jG0 sc) := Nat.lt_of_succ_lt t_lt6
  have t_lt4 : t + 4 < jN (jG0 sc) := Nat.lt_of_succ_lt t_lt5
  have t_lt3 : t + 3 < jN (jG0 sc) := Nat.lt_of_succ_lt t_lt4
  have t_lt2 : t + 2 < jN (jG0 sc) := Nat.lt_of_succ_lt t_lt3
  have t_lt1 : t + 1 < jN (jG0 sc) := Nat.lt_of_succ_lt t_lt2
  have t_lt0 : t + 0 < jN (jG0 sc) := Nat.lt_of_succ_lt t_lt1
  refine j_iinc (i := 6) (n := 2) rfl dX3_addBounds_158 (Nat.le_of_ble_eq_true rfl) ?_
  refine j_eqlv [some (.ref t), some (.int l1), some (.int l2), some (.int l3), some (.int l4), some (.int l5), some (.int (l6 + 2))] rfl ?_
  refine j_goto (off := -48) 113 dX3_addBounds_161 (by decide) ?_
  exact j_le [some (.ref t), some (.int l1), some (.int l2), some (.int l3), some (.int l4), some (.int l5), some (.int (l6 + 2))] (And.intro rfl (And.intro rfl (And.intro rfl (And.intro rfl (And.intro rfl (And.intro rfl (And.intro rfl True.intro))))))) v1
set_option maxRecDepth 100000 in
theorem bX3_addBounds_164 {sc : Nat × (Nat → Int32)} {h : jH} {Q : jQ} {t : Nat} {l1 l2 l3 l4 l5 l6 : Int32} (t_h : jI3 t)
    (v1 : Q (.inl none) (jG0 sc) h) :
    WP mX3_addBounds Q 164 [some (.ref t), some (.int l1), some (.int l2), some (.int l3), some (.int l4), some (.int l5), some (.int l6)] [] (jG0 sc) h (0, 0) := by
  obtain ⟨t_lt6, t_K0, t_R0_0, t_K1, t_L1, t_R0_1, t_K2, t_L2, t_R0_2, t_K3, t_L3, t_R0_3, t_K4, t_L4, t_R0_4, t_K5, t_L5, t_R0_5, t_K6, t_L6⟩ := t_h
  have t_lt5 : t + 5 < jN (jG0 sc) := Nat.lt_of_succ_lt t_lt6
  have t_lt4 : t + 4 < jN (jG0 sc) := Nat.lt_of_succ_lt t_lt5
  have t_lt3 : t + 3 < jN (jG0 sc) := Nat.lt_of_succ_lt t_lt4
  have t_lt2 : t + 2 < jN (jG0 sc) := Nat.lt_of_succ_lt t_lt3
  have t_lt1 : t + 1 < jN (jG0 sc) := Nat.lt_of_succ_lt t_lt2
  have t_lt0 : t + 0 < jN (jG0 sc) := Nat.lt_of_succ_lt t_lt1
  exact j_vret rfl (Nat.zero_le _) (Nat.zero_le _) dX3_addBounds_164 v1
set_option maxRecDepth 100000 in
theorem rX3_addBounds_0 {sc : Nat × (Nat → Int32)} {h : jH} {Q : jQ} {t : Nat} {l1 l2 : Int32} {P1 : Int32 → jH → Prop} {P2 : Int32 → jH → Prop} {P3 : Int32 → jH → Prop} (t_h : jI3 t)
    (k1 : JM mX11_firstOf [.int l2] (jG0 sc) h (jint sc P1))
    (k2 : ∀ (x1 : Int32) (h1 : jH), P1 x1 h1 → JM mX11_secondOf [.int l2] (jG0 sc) h1 (jint sc P2))
    (k3 : ∀ (x1 : Int32) (h1 : jH), P1 x1 h1 → ∀ (x2 : Int32) (h2 : jH), P2 x2 h2 → JM mX11_countOf [.int l2] (jG0 sc) h2 (jint sc P3))
    (v1 : ∀ (x1 : Int32) (h1 : jH), P1 x1 h1 → ∀ (x2 : Int32) (h2 : jH), P2 x2 h2 → ∀ (x3 : Int32) (h3 : jH), P3 x3 h3 → WP mX3_addBounds Q 20 [some (.ref t), some (.int l1), some (.int l2), some (.int x1), some (.int x2), some (.int x3), some (.int (-1))] [] (jG0 sc) h3 (0, 0)) :
    WP mX3_addBounds Q 0 [some (.ref t), some (.int l1), some (.int l2), none, none, none, none] [] (jG0 sc) h (0, 0) := by
  exact (bX3_addBounds_0 t_h k1 (fun x1 h1 p1 => (k2 x1 h1 p1)) (fun x1 h1 p1 x2 h2 p2 => (k3 x1 h1 p1 x2 h2 p2)) (fun x1 h1 p1 x2 h2 p2 x3 h3 p3 => (v1 x1 h1 p1 x2 h2 p2 x3 h3 p3)))
set_option maxRecDepth 100000 in
theorem rX3_addBounds_20 {sc : Nat × (Nat → Int32)} {h : jH} {Q : jQ} {t : Nat} {l1 l2 l3 l4 l5 l6 : Int32} {P1 : Int32 → jH → Prop} {P2 : Int32 → jH → Prop} {P3 : jH → Prop} (t_h : jI3 t)
    (v1 : 1 < l6 → WP mX3_addBounds Q 65 [some (.ref t), some (.int l1), some (.int l2), some (.int l3), some (.int l4), some (.int l5), some (.int (-1))] [] (jG0 sc) h (0, 0))
    (v2 : ¬ 1 < l6 → l3 < 10 → WP mX3_addBounds Q 20 [some (.ref t), some (.int l1), some (.int l2), some (.int l3), some (.int l4), some (.int l5), some (.int (l6 + 2))] [] (jG0 sc) h (0, 0))
    (k1 : ¬ 1 < l6 → ¬ l3 < 10 → JM mX3_isNumberAtom [.int (l3 + l6)] (jG0 sc) h (jint sc P1))
    (v3 : ¬ 1 < l6 → ¬ l3 < 10 → ∀ (x1 : Int32) (h1 : jH), P1 x1 h1 → x1 = 0 → WP mX3_addBounds Q 20 [some (.ref t), some (.int l1), some (.int l2), some (.int l3), some (.int l4), some (.int l5), some (.int (l6 + 2))] [] (jG0 sc) h1 (0, 0))
    (k2 : ¬ 1 < l6 → ¬ l3 < 10 → ∀ (x1 : Int32) (h1 : jH), P1 x1 h1 → ¬ x1 = 0 → JM mX11_withFirst [.int l2, .int (l3 + l6)] (jG0 sc) h1 (jint sc P2))
    (k3 : ¬ 1 < l6 → ¬ l3 < 10 → ∀ (x1 : Int32) (h1 : jH), P1 x1 h1 → ¬ x1 = 0 → ∀ (x2 : Int32) (h2 : jH), P2 x2 h2 → JM mX3_add [.ref t, .int 2, .int l1, .int x2] (jG0 sc) h2 (jvoid sc P3))
    (v4 : ¬ 1 < l6 → ¬ l3 < 10 → ∀ (x1 : Int32) (h1 : jH), P1 x1 h1 → ¬ x1 = 0 → ∀ (x2 : Int32) (h2 : jH), P2 x2 h2 → ∀ h3 : jH, P3 h3 → WP mX3_addBounds Q 20 [some (.ref t), some (.int l1), some (.int l2), some (.int l3), some (.int l4), some (.int l5), some (.int (l6 + 2))] [] (jG0 sc) h3 (0, 0)) :
    WP mX3_addBounds Q 20 [some (.ref t), some (.int l1), some (.int l2), some (.int l3), some (.int l4), some (.int l5), some (.int l6)] [] (jG0 sc) h (0, 0) := by
  exact (bX3_addBounds_20 t_h (fun c1 => (bX3_addBounds_62 t_h (v1 c1))) (fun c1 => (bX3_addBounds_26 t_h (fun c2 => (bX3_addBounds_56 t_h (v2 c1 c2))) (fun c2 => (bX3_addBounds_32 t_h (k1 c1 c2) (fun x1 h1 p1 c3 => (bX3_addBounds_56 t_h (v3 c1 c2 x1 h1 p1 c3))) (fun x1 h1 p1 c3 => (bX3_addBounds_42 t_h (k2 c1 c2 x1 h1 p1 c3) (fun x2 h2 p2 => (k3 c1 c2 x1 h1 p1 c3 x2 h2 p2)) (fun x2 h2 p2 h3 p3 => (bX3_addBounds_56 t_h (v4 c1 c2 x1 h1 p1 c3 x2 h2 p2 h3 p3))))))))))
set_option maxRecDepth 100000 in
theorem rX3_addBounds_65 {sc : Nat × (Nat → Int32)} {h : jH} {Q : jQ} {t : Nat} {l1 l2 l3 l4 l5 l6 : Int32} {P1 : Int32 → jH → Prop} {P2 : Int32 → jH → Prop} {P3 : jH → Prop} (t_h : jI3 t)
    (v1 : 1 < l6 → WP mX3_addBounds Q 113 [some (.ref t), some (.int l1), some (.int l2), some (.int l3), some (.int l4), some (.int l5), some (.int (-1))] [] (jG0 sc) h (0, 0))
    (v2 : ¬ 1 < l6 → l4 < 10 → WP mX3_addBounds Q 65 [some (.ref t), some (.int l1), some (.int l2), some (.int l3), some (.int l4), some (.int l5), some (.int (l6 + 2))] [] (jG0 sc) h (0, 0))
    (k1 : ¬ 1 < l6 → ¬ l4 < 10 → JM mX3_isNumberAtom [.int (l4 + l6)] (jG0 sc) h (jint sc P1))
    (v3 : ¬ 1 < l6 → ¬ l4 < 10 → ∀ (x1 : Int32) (h1 : jH), P1 x1 h1 → x1 = 0 → WP mX3_addBounds Q 65 [some (.ref t), some (.int l1), some (.int l2), some (.int l3), some (.int l4), some (.int l5), some (.int (l6 + 2))] [] (jG0 sc) h1 (0, 0))
    (k2 : ¬ 1 < l6 → ¬ l4 < 10 → ∀ (x1 : Int32) (h1 : jH), P1 x1 h1 → ¬ x1 = 0 → JM mX11_withSecond [.int l2, .int (l4 + l6)] (jG0 sc) h1 (jint sc P2))
    (k3 : ¬ 1 < l6 → ¬ l4 < 10 → ∀ (x1 : Int32) (h1 : jH), P1 x1 h1 → ¬ x1 = 0 → ∀ (x2 : Int32) (h2 : jH), P2 x2 h2 → JM mX3_add [.ref t, .int 2, .int l1, .int x2] (jG0 sc) h2 (jvoid sc P3))
    (v4 : ¬ 1 < l6 → ¬ l4 < 10 → ∀ (x1 : Int32) (h1 : jH), P1 x1 h1 → ¬ x1 = 0 → ∀ (x2 : Int32) (h2 : jH), P2 x2 h2 → ∀ h3 : jH, P3 h3 → WP mX3_addBounds Q 65 [some (.ref t), some (.int l1), some (.int l2), some (.int l3), some (.int l4), some (.int l5), some (.int (l6 + 2))] [] (jG0 sc) h3 (0, 0)) :
    WP mX3_addBounds Q 65 [some (.ref t), some (.int l1), some (.int l2), some (.int l3), some (.int l4), some (.int l5), some (.int l6)] [] (jG0 sc) h (0, 0) := by
  exact (bX3_addBounds_65 t_h (fun c1 => (bX3_addBounds_110 t_h (v1 c1))) (fun c1 => (bX3_addBounds_71 t_h (fun c2 => (bX3_addBounds_104 t_h (v2 c1 c2))) (fun c2 => (bX3_addBounds_78 t_h (k1 c1 c2) (fun x1 h1 p1 c3 => (bX3_addBounds_104 t_h (v3 c1 c2 x1 h1 p1 c3))) (fun x1 h1 p1 c3 => (bX3_addBounds_89 t_h (k2 c1 c2 x1 h1 p1 c3) (fun x2 h2 p2 => (k3 c1 c2 x1 h1 p1 c3 x2 h2 p2)) (fun x2 h2 p2 h3 p3 => (bX3_addBounds_104 t_h (v4 c1 c2 x1 h1 p1 c3 x2 h2 p2 h3 p3))))))))))
set_option maxRecDepth 100000 in
theorem rX3_addBounds_113 {sc : Nat × (Nat → Int32)} {h : jH} {Q : jQ} {t : Nat} {l1 l2 l3 l4 l5 l6 : Int32} {P1 : Int32 → jH → Prop} {P2 : jH → Prop} (t_h : jI3 t)
    (v1 : 1 < l6 → Q (.inl none) (jG0 sc) h)
    (v2 : ¬ 1 < l6 → l5 ≤ 0 → WP mX3_addBounds Q 113 [some (.ref t), some (.int l1), some (.int l2), some (.int l3), some (.int l4), some (.int l5), some (.int (l6 + 2))] [] (jG0 sc) h (0, 0))
    (v3 : ¬ 1 < l6 → ¬ l5 ≤ 0 → (l5 + l6) < 1 → WP mX3_addBounds Q 113 [some (.ref t), some (.int l1), some (.int l2), some (.int l3), some (.int l4), some (.int l5), some (.int (l6 + 2))] [] (jG0 sc) h (0, 0))
    (v4 : ¬ 1 < l6 → ¬ l5 ≤ 0 → ¬ (l5 + l6) < 1 → 9 < (l5 + l6) → WP mX3_addBounds Q 113 [some (.ref t), some (.int l1), some (.int l2), some (.int l3), some (.int l4), some (.int l5), some (.int (l6 + 2))] [] (jG0 sc) h (0, 0))
    (k1 : ¬ 1 < l6 → ¬ l5 ≤ 0 → ¬ (l5 + l6) < 1 → ¬ 9 < (l5 + l6) → JM mX11_withCount [.int l2, .int (l5 + l6)] (jG0 sc) h (jint sc P1))
    (k2 : ¬ 1 < l6 → ¬ l5 ≤ 0 → ¬ (l5 + l6) < 1 → ¬ 9 < (l5 + l6) → ∀ (x1 : Int32) (h1 : jH), P1 x1 h1 → JM mX3_add [.ref t, .int 2, .int l1, .int x1] (jG0 sc) h1 (jvoid sc P2))
    (v5 : ¬ 1 < l6 → ¬ l5 ≤ 0 → ¬ (l5 + l6) < 1 → ¬ 9 < (l5 + l6) → ∀ (x1 : Int32) (h1 : jH), P1 x1 h1 → ∀ h2 : jH, P2 h2 → WP mX3_addBounds Q 113 [some (.ref t), some (.int l1), some (.int l2), some (.int l3), some (.int l4), some (.int l5), some (.int (l6 + 2))] [] (jG0 sc) h2 (0, 0)) :
    WP mX3_addBounds Q 113 [some (.ref t), some (.int l1), some (.int l2), some (.int l3), some (.int l4), some (.int l5), some (.int l6)] [] (jG0 sc) h (0, 0) := by
  exact (bX3_addBounds_113 t_h (fun c1 => (bX3_addBounds_164 t_h (v1 c1))) (fun c1 => (bX3_addBounds_119 t_h (fun c2 => (bX3_addBounds_158 t_h (v2 c1 c2))) (fun c2 => (bX3_addBounds_124 t_h (fun c3 => (bX3_addBounds_158 t_h (v3 c1 c2 c3))) (fun c3 => (bX3_addBounds_133 t_h (fun c4 => (bX3_addBounds_158 t_h (v4 c1 c2 c3 c4))) (fun c4 => (bX3_addBounds_143 t_h (k1 c1 c2 c3 c4) (fun x1 h1 p1 => (k2 c1 c2 c3 c4 x1 h1 p1)) (fun x1 h1 p1 h2 p2 => (bX3_addBounds_158 t_h (v5 c1 c2 c3 c4 x1 h1 p1 h2 p2))))))))))))
theorem dX3_isNumberAtom_0 : decode (mC mX3_isNumberAtom) 0 = .ok (.iload_n 0, 1) := by decide +kernel
theorem dX3_isNumberAtom_1 : decode (mC mX3_isNumberAtom) 1 = .ok (.bipush 10, 2) := by decide +kernel
theorem dX3_isNumberAtom_3 : decode (mC mX3_isNumberAtom) 3 = .ok (.if_icmp .lt 13, 3) := by decide +kernel
theorem dX3_isNumberAtom_6 : decode (mC mX3_isNumberAtom) 6 = .ok (.iload_n 0, 1) := by decide +kernel
theorem dX3_isNumberAtom_7 : decode (mC mX3_isNumberAtom) 7 = .ok (.bipush 109, 2) := by decide +kernel
theorem dX3_isNumberAtom_9 : decode (mC mX3_isNumberAtom) 9 = .ok (.if_icmp .gt 7, 3) := by decide +kernel
theorem dX3_isNumberAtom_12 : decode (mC mX3_isNumberAtom) 12 = .ok (.iconst 1, 1) := by decide +kernel
theorem dX3_isNumberAtom_13 : decode (mC mX3_isNumberAtom) 13 = .ok (.goto 4, 3) := by decide +kernel
theorem dX3_isNumberAtom_16 : decode (mC mX3_isNumberAtom) 16 = .ok (.iconst 0, 1) := by decide +kernel
theorem dX3_isNumberAtom_17 : decode (mC mX3_isNumberAtom) 17 = .ok (.ireturn, 1) := by decide +kernel
set_option maxRecDepth 100000 in
theorem bX3_isNumberAtom_0 {sc : Nat × (Nat → Int32)} {h : jH} {Q : jQ} {l0 : Int32}
    (v1 : l0 < 10 → WP mX3_isNumberAtom Q 16 [some (.int l0)] [] (jG0 sc) h (0, 0))
    (v2 : ¬ l0 < 10 → WP mX3_isNumberAtom Q 6 [some (.int l0)] [] (jG0 sc) h (0, 0)) :
    WP mX3_isNumberAtom Q 0 [some (.int l0)] [] (jG0 sc) h (0, 0) := by
  refine j_iload_n (i := 0) rfl dX3_isNumberAtom_0 ?_
  refine j_bipush (n := 10) 10 (by decide) dX3_isNumberAtom_1 ?_
  refine j_icmp_lt (off := 13) 16 dX3_isNumberAtom_3 (by decide) (fun c1 => ?_) (fun c1 => ?_)
  · exact j_le [some (.int l0)] (And.intro rfl True.intro) (v1 c1)
  · exact j_le [some (.int l0)] (And.intro rfl True.intro) (v2 c1)
set_option maxRecDepth 100000 in
theorem bX3_isNumberAtom_6 {sc : Nat × (Nat → Int32)} {h : jH} {Q : jQ} {l0 : Int32}
    (v1 : 109 < l0 → WP mX3_isNumberAtom Q 16 [some (.int l0)] [] (jG0 sc) h (0, 0))
    (v2 : ¬ 109 < l0 → WP mX3_isNumberAtom Q 12 [some (.int l0)] [] (jG0 sc) h (0, 0)) :
    WP mX3_isNumberAtom Q 6 [some (.int l0)] [] (jG0 sc) h (0, 0) := by
  refine j_iload_n (i := 0) rfl dX3_isNumberAtom_6 ?_
  refine j_bipush (n := 109) 109 (by decide) dX3_isNumberAtom_7 ?_
  refine j_icmp_gt (off := 7) 16 dX3_isNumberAtom_9 (by decide) (fun c1 => ?_) (fun c1 => ?_)
  · exact j_le [some (.int l0)] (And.intro rfl True.intro) (v1 c1)
  · exact j_le [some (.int l0)] (And.intro rfl True.intro) (v2 c1)
set_option maxRecDepth 100000 in
theorem bX3_isNumberAtom_12 {sc : Nat × (Nat → Int32)} {h : jH} {Q : jQ} {l0 : Int32}
    (v1 : WP mX3_isNumberAtom Q 17 [some (.int l0)] [.int 1] (jG0 sc) h (0, 0)) :
    WP mX3_isNumberAtom Q 12 [some (.int l0)] [] (jG0 sc) h (0, 0) := by
  refine j_iconst (n := 1) 1 (by decide) dX3_isNumberAtom_12 ?_
  refine j_goto (off := 4) 17 dX3_isNumberAtom_13 (by decide) ?_
  exact j_le [some (.int l0)] (And.intro rfl True.intro) v1
set_option maxRecDepth 100000 in
theorem bX3_isNumberAtom_16 {sc : Nat × (Nat → Int32)} {h : jH} {Q : jQ} {l0 : Int32}
    (v1 : WP mX3_isNumberAtom Q 17 [some (.int l0)] [.int 0] (jG0 sc) h (0, 0)) :
    WP mX3_isNumberAtom Q 16 [some (.int l0)] [] (jG0 sc) h (0, 0) := by
  refine j_iconst (n := 0) 0 (by decide) dX3_isNumberAtom_16 ?_
  exact j_le [some (.int l0)] (And.intro rfl True.intro) v1
set_option maxRecDepth 100000 in
theorem bX3_isNumberAtom_17 {sc : Nat × (Nat → Int32)} {h : jH} {Q : jQ} {l0 s0 : Int32}
    (o1 : s0 = 0 ∨ s0 = 1)
    (v1 : Q (.inl (some (.int s0))) (jG0 sc) h) :
    WP mX3_isNumberAtom Q 17 [some (.int l0)] [.int s0] (jG0 sc) h (0, 0) := by
  exact j_iret rfl (jbn o1) (Nat.zero_le _) (Nat.zero_le _) dX3_isNumberAtom_17 v1
set_option maxRecDepth 100000 in
theorem rX3_isNumberAtom_0 {sc : Nat × (Nat → Int32)} {h : jH} {Q : jQ} {l0 : Int32}
    (v1 : l0 < 10 → Q (.inl (some (.int 0))) (jG0 sc) h)
    (v2 : ¬ l0 < 10 → 109 < l0 → Q (.inl (some (.int 0))) (jG0 sc) h)
    (v3 : ¬ l0 < 10 → ¬ 109 < l0 → Q (.inl (some (.int 1))) (jG0 sc) h) :
    WP mX3_isNumberAtom Q 0 [some (.int l0)] [] (jG0 sc) h (0, 0) := by
  exact (bX3_isNumberAtom_0 (fun c1 => (bX3_isNumberAtom_16 (bX3_isNumberAtom_17 (by decide) (v1 c1)))) (fun c1 => (bX3_isNumberAtom_6 (fun c2 => (bX3_isNumberAtom_16 (bX3_isNumberAtom_17 (by decide) (v2 c1 c2)))) (fun c2 => (bX3_isNumberAtom_12 (bX3_isNumberAtom_17 (by decide) (v3 c1 c2)))))))
theorem dX3_addWhole_0 : decode (mC mX3_addWhole) 0 = .ok (.aload_n 2, 1) := by decide +kernel
theorem dX3_addWhole_1 : decode (mC mX3_addWhole) 1 = .ok (.iload_n 1, 1) := by decide +kernel
theorem dX3_addWhole_2 : decode (mC mX3_addWhole) 2 = .ok (.invokevirtual 43, 3) := by decide +kernel
theorem dX3_addWhole_5 : decode (mC mX3_addWhole) 5 = .ok (.istore_n 3, 1) := by decide +kernel
theorem dX3_addWhole_6 : decode (mC mX3_addWhole) 6 = .ok (.iload_n 3, 1) := by decide +kernel
theorem dX3_addWhole_7 : decode (mC mX3_addWhole) 7 = .ok (.iconst 4, 1) := by decide +kernel
theorem dX3_addWhole_8 : decode (mC mX3_addWhole) 8 = .ok (.if_icmp .eq 10, 3) := by decide +kernel
theorem dX3_addWhole_11 : decode (mC mX3_addWhole) 11 = .ok (.aload_n 0, 1) := by decide +kernel
theorem dX3_addWhole_12 : decode (mC mX3_addWhole) 12 = .ok (.iconst 3, 1) := by decide +kernel
theorem dX3_addWhole_13 : decode (mC mX3_addWhole) 13 = .ok (.iload_n 1, 1) := by decide +kernel
theorem dX3_addWhole_14 : decode (mC mX3_addWhole) 14 = .ok (.iconst 4, 1) := by decide +kernel
theorem dX3_addWhole_15 : decode (mC mX3_addWhole) 15 = .ok (.invokevirtual 71, 3) := by decide +kernel
theorem dX3_addWhole_18 : decode (mC mX3_addWhole) 18 = .ok (.iload_n 1, 1) := by decide +kernel
theorem dX3_addWhole_19 : decode (mC mX3_addWhole) 19 = .ok (.iconst 1, 1) := by decide +kernel
theorem dX3_addWhole_20 : decode (mC mX3_addWhole) 20 = .ok (.iadd, 1) := by decide +kernel
theorem dX3_addWhole_21 : decode (mC mX3_addWhole) 21 = .ok (.aload_n 2, 1) := by decide +kernel
theorem dX3_addWhole_22 : decode (mC mX3_addWhole) 22 = .ok (.getfield 40, 3) := by decide +kernel
theorem dX3_addWhole_25 : decode (mC mX3_addWhole) 25 = .ok (.if_icmp .ge 37, 3) := by decide +kernel
theorem dX3_addWhole_28 : decode (mC mX3_addWhole) 28 = .ok (.aload_n 2, 1) := by decide +kernel
theorem dX3_addWhole_29 : decode (mC mX3_addWhole) 29 = .ok (.iload_n 1, 1) := by decide +kernel
theorem dX3_addWhole_30 : decode (mC mX3_addWhole) 30 = .ok (.iconst 1, 1) := by decide +kernel
theorem dX3_addWhole_31 : decode (mC mX3_addWhole) 31 = .ok (.iadd, 1) := by decide +kernel
theorem dX3_addWhole_32 : decode (mC mX3_addWhole) 32 = .ok (.invokevirtual 43, 3) := by decide +kernel
theorem dX3_addWhole_35 : decode (mC mX3_addWhole) 35 = .ok (.iload_n 3, 1) := by decide +kernel
theorem dX3_addWhole_36 : decode (mC mX3_addWhole) 36 = .ok (.if_icmp .eq 26, 3) := by decide +kernel
theorem dX3_addWhole_39 : decode (mC mX3_addWhole) 39 = .ok (.iload_n 1, 1) := by decide +kernel
theorem dX3_addWhole_40 : decode (mC mX3_addWhole) 40 = .ok (.bipush 10, 2) := by decide +kernel
theorem dX3_addWhole_42 : decode (mC mX3_addWhole) 42 = .ok (.if_icmp .ge 20, 3) := by decide +kernel
theorem dX3_addWhole_45 : decode (mC mX3_addWhole) 45 = .ok (.aload_n 0, 1) := by decide +kernel
theorem dX3_addWhole_46 : decode (mC mX3_addWhole) 46 = .ok (.getfield 24, 3) := by decide +kernel
theorem dX3_addWhole_49 : decode (mC mX3_addWhole) 49 = .ok (.iload_n 1, 1) := by decide +kernel
theorem dX3_addWhole_50 : decode (mC mX3_addWhole) 50 = .ok (.aload_n 0, 1) := by decide +kernel
theorem dX3_addWhole_51 : decode (mC mX3_addWhole) 51 = .ok (.getfield 37, 3) := by decide +kernel
theorem dX3_addWhole_54 : decode (mC mX3_addWhole) 54 = .ok (.iastore, 1) := by decide +kernel
theorem dX3_addWhole_55 : decode (mC mX3_addWhole) 55 = .ok (.aload_n 0, 1) := by decide +kernel
theorem dX3_addWhole_56 : decode (mC mX3_addWhole) 56 = .ok (.iconst 4, 1) := by decide +kernel
theorem dX3_addWhole_57 : decode (mC mX3_addWhole) 57 = .ok (.iload_n 1, 1) := by decide +kernel
theorem dX3_addWhole_58 : decode (mC mX3_addWhole) 58 = .ok (.iload_n 3, 1) := by decide +kernel
theorem dX3_addWhole_59 : decode (mC mX3_addWhole) 59 = .ok (.invokevirtual 71, 3) := by decide +kernel
theorem dX3_addWhole_62 : decode (mC mX3_addWhole) 62 = .ok (.iconst 0, 1) := by decide +kernel
theorem dX3_addWhole_63 : decode (mC mX3_addWhole) 63 = .ok (.istore 4, 2) := by decide +kernel
theorem dX3_addWhole_65 : decode (mC mX3_addWhole) 65 = .ok (.iload 4, 2) := by decide +kernel
theorem dX3_addWhole_67 : decode (mC mX3_addWhole) 67 = .ok (.aload_n 2, 1) := by decide +kernel
theorem dX3_addWhole_68 : decode (mC mX3_addWhole) 68 = .ok (.getfield 40, 3) := by decide +kernel
theorem dX3_addWhole_71 : decode (mC mX3_addWhole) 71 = .ok (.if_icmp .ge 38, 3) := by decide +kernel
theorem dX3_addWhole_74 : decode (mC mX3_addWhole) 74 = .ok (.iload 4, 2) := by decide +kernel
theorem dX3_addWhole_76 : decode (mC mX3_addWhole) 76 = .ok (.bipush 10, 2) := by decide +kernel
theorem dX3_addWhole_78 : decode (mC mX3_addWhole) 78 = .ok (.if_icmp .ge 31, 3) := by decide +kernel
theorem dX3_addWhole_81 : decode (mC mX3_addWhole) 81 = .ok (.aload_n 2, 1) := by decide +kernel
theorem dX3_addWhole_82 : decode (mC mX3_addWhole) 82 = .ok (.iload 4, 2) := by decide +kernel
theorem dX3_addWhole_84 : decode (mC mX3_addWhole) 84 = .ok (.invokevirtual 43, 3) := by decide +kernel
theorem dX3_addWhole_87 : decode (mC mX3_addWhole) 87 = .ok (.iload_n 3, 1) := by decide +kernel
theorem dX3_addWhole_88 : decode (mC mX3_addWhole) 88 = .ok (.if_icmp .eq 15, 3) := by decide +kernel
theorem dX3_addWhole_91 : decode (mC mX3_addWhole) 91 = .ok (.aload_n 0, 1) := by decide +kernel
theorem dX3_addWhole_92 : decode (mC mX3_addWhole) 92 = .ok (.iconst 5, 1) := by decide +kernel
theorem dX3_addWhole_93 : decode (mC mX3_addWhole) 93 = .ok (.iload_n 1, 1) := by decide +kernel
theorem dX3_addWhole_94 : decode (mC mX3_addWhole) 94 = .ok (.aload_n 2, 1) := by decide +kernel
theorem dX3_addWhole_95 : decode (mC mX3_addWhole) 95 = .ok (.iload 4, 2) := by decide +kernel
theorem dX3_addWhole_97 : decode (mC mX3_addWhole) 97 = .ok (.invokevirtual 43, 3) := by decide +kernel
theorem dX3_addWhole_100 : decode (mC mX3_addWhole) 100 = .ok (.invokevirtual 71, 3) := by decide +kernel
theorem dX3_addWhole_103 : decode (mC mX3_addWhole) 103 = .ok (.iinc 4 1, 3) := by decide +kernel
theorem dX3_addWhole_106 : decode (mC mX3_addWhole) 106 = .ok (.goto (-41), 3) := by decide +kernel
theorem dX3_addWhole_109 : decode (mC mX3_addWhole) 109 = .ok (.return_, 1) := by decide +kernel
set_option maxRecDepth 100000 in
theorem bX3_addWhole_0 {sc : Nat × (Nat → Int32)} {h : jH} {Q : jQ} {a : Nat} {t : Nat} {l1 : Int32} {P1 : Int32 → jH → Prop} (a_h : jI4 a) (t_h : jI3 t)
    (k1 : JM mX4_lineAt [.ref a, .int l1] (jG0 sc) h (jint sc P1))
    (v1 : ∀ (x1 : Int32) (h1 : jH), P1 x1 h1 → x1 = 4 → WP mX3_addWhole Q 18 [some (.ref t), some (.int l1), some (.ref a), some (.int x1), none] [] (jG0 sc) h1 (0, 0))
    (v2 : ∀ (x1 : Int32) (h1 : jH), P1 x1 h1 → ¬ x1 = 4 → WP mX3_addWhole Q 11 [some (.ref t), some (.int l1), some (.ref a), some (.int x1), none] [] (jG0 sc) h1 (0, 0)) :
    WP mX3_addWhole Q 0 [some (.ref t), some (.int l1), some (.ref a), none, none] [] (jG0 sc) h (0, 0) := by
  obtain ⟨a_lt1, a_K0, a_R0_0, a_K1, a_L1⟩ := a_h
  have a_lt0 : a + 0 < jN (jG0 sc) := Nat.lt_of_succ_lt a_lt1
  obtain ⟨t_lt6, t_K0, t_R0_0, t_K1, t_L1, t_R0_1, t_K2, t_L2, t_R0_2, t_K3, t_L3, t_R0_3, t_K4, t_L4, t_R0_4, t_K5, t_L5, t_R0_5, t_K6, t_L6⟩ := t_h
  have t_lt5 : t + 5 < jN (jG0 sc) := Nat.lt_of_succ_lt t_lt6
  have t_lt4 : t + 4 < jN (jG0 sc) := Nat.lt_of_succ_lt t_lt5
  have t_lt3 : t + 3 < jN (jG0 sc) := Nat.lt_of_succ_lt t_lt4
  have t_lt2 : t + 2 < jN (jG0 sc) := Nat.lt_of_succ_lt t_lt3
  have t_lt1 : t + 1 < jN (jG0 sc) := Nat.lt_of_succ_lt t_lt2
  have t_lt0 : t + 0 < jN (jG0 sc) := Nat.lt_of_succ_lt t_lt1
  refine j_aload_n (i := 2) rfl dX3_addWhole_0 ?_
  refine j_iload_n (i := 1) rfl dX3_addWhole_1 ?_
  refine j_callVN (idx := 43) (As := [.int l1]) (ci := 4) (n := 1) k1 jint_nt (jTbl (jtb2 223 rfl)) sX4_lineAt kX4_lineAt rfl ⟨rfl, by decide +kernel, by decide +kernel, by decide +kernel⟩ rfl ⟨by decide, by decide⟩ (a_lt0) a_K0 (Nat.le_of_ble_eq_true rfl) (Nat.le_of_ble_eq_true rfl) ⟨Nat.zero_le _, Nat.zero_le _⟩ dX3_addWhole_2 (fun r Γ' h1 q => ?_)
  obtain ⟨x1, q0, rfl, p1⟩ := q; cases q0
  refine j_eqst [.int x1] (by rfl) ?_
  refine j_istore_n (i := 3) dX3_addWhole_5 (Nat.le_of_ble_eq_true rfl) ?_
  refine j_iload_n (i := 3) rfl dX3_addWhole_6 ?_
  refine j_iconst (n := 4) 4 (by decide) dX3_addWhole_7 ?_
  refine j_icmp_eq (off := 10) 18 dX3_addWhole_8 (by decide) (fun c1 => ?_) (fun c1 => ?_)
  · exact j_le [some (.ref t), some (.int l1), some (.ref a), some (.int x1), none] (And.intro rfl (And.intro rfl (And.intro rfl (And.intro rfl True.intro)))) (v1 x1 h1 p1 c1)
  · exact j_le [some (.ref t), some (.int l1), some (.ref a), some (.int x1), none] (And.intro rfl (And.intro rfl (And.intro rfl (And.intro rfl True.intro)))) (v2 x1 h1 p1 c1)
set_option maxRecDepth 100000 in
theorem bX3_addWhole_11 {sc : Nat × (Nat → Int32)} {h : jH} {Q : jQ} {a : Nat} {t : Nat} {l1 l3 : Int32} {P1 : jH → Prop} (a_h : jI4 a) (t_h : jI3 t)
    (k1 : JM mX3_add [.ref t, .int 3, .int l1, .int 4] (jG0 sc) h (jvoid sc P1))
    (v1 : ∀ h1 : jH, P1 h1 → WP mX3_addWhole Q 18 [some (.ref t), some (.int l1), some (.ref a), some (.int l3), none] [] (jG0 sc) h1 (0, 0)) :
    WP mX3_addWhole Q 11 [some (.ref t), some (.int l1), some (.ref a), some (.int l3), none] [] (jG0 sc) h (0, 0) := by
  obtain ⟨a_lt1, a_K0, a_R0_0, a_K1, a_L1⟩ := a_h
  have a_lt0 : a + 0 < jN (jG0 sc) := Nat.lt_of_succ_lt a_lt1
  obtain ⟨t_lt6, t_K0, t_R0_0, t_K1, t_L1, t_R0_1, t_K2, t_L2, t_R0_2, t_K3, t_L3, t_R0_3, t_K4, t_L4, t_R0_4, t_K5, t_L5, t_R0_5, t_K6, t_L6⟩ := t_h
  have t_lt5 : t + 5 < jN (jG0 sc) := Nat.lt_of_succ_lt t_lt6
  have t_lt4 : t + 4 < jN (jG0 sc) := Nat.lt_of_succ_lt t_lt5
  have t_lt3 : t + 3 < jN (jG0 sc) := Nat.lt_of_succ_lt t_lt4
  have t_lt2 : t + 2 < jN (jG0 sc) := Nat.lt_of_succ_lt t_lt3
  have t_lt1 : t + 1 < jN (jG0 sc) := Nat.lt_of_succ_lt t_lt2
  have t_lt0 : t + 0 < jN (jG0 sc) := Nat.lt_of_succ_lt t_lt1
  refine j_aload_n (i := 0) rfl dX3_addWhole_11 ?_
  refine j_iconst (n := 3) 3 (by decide) dX3_addWhole_12 ?_
  refine j_iload_n (i := 1) rfl dX3_addWhole_13 ?_
  refine j_iconst (n := 4) 4 (by decide) dX3_addWhole_14 ?_
  refine j_callV (idx := 71) (As := [.int 3, .int l1, .int 4]) (ci := 3) (n := 3) k1 jvoid_nt (jlkT (jtb3 110 rfl) rfl) sX3_add kX3_add rfl ⟨rfl, by decide +kernel, by decide +kernel, by decide +kernel⟩ rfl ⟨by decide, by decide⟩ (t_lt0) t_K0 (Nat.le_of_ble_eq_true rfl) (Nat.le_of_ble_eq_true rfl) ⟨Nat.zero_le _, Nat.zero_le _⟩ dX3_addWhole_15 (fun r Γ' h1 q => ?_)
  obtain ⟨q0, rfl, p1⟩ := q; cases q0
  refine j_eqst [] (by rfl) ?_
  exact j_le [some (.ref t), some (.int l1), some (.ref a), some (.int l3), none] (And.intro rfl (And.intro rfl (And.intro rfl (And.intro rfl True.intro)))) (v1 h1 p1)
set_option maxRecDepth 100000 in
theorem bX3_addWhole_18 {sc : Nat × (Nat → Int32)} {h : jH} {Q : jQ} {a : Nat} {t : Nat} {l1 l3 : Int32} (a_h : jI4 a) (t_h : jI3 t)
    (v1 : (h a 1) ≤ (l1 + 1) → WP mX3_addWhole Q 62 [some (.ref t), some (.int l1), some (.ref a), some (.int l3), none] [] (jG0 sc) h (0, 0))
    (v2 : ¬ (h a 1) ≤ (l1 + 1) → WP mX3_addWhole Q 28 [some (.ref t), some (.int l1), some (.ref a), some (.int l3), none] [] (jG0 sc) h (0, 0)) :
    WP mX3_addWhole Q 18 [some (.ref t), some (.int l1), some (.ref a), some (.int l3), none] [] (jG0 sc) h (0, 0) := by
  obtain ⟨a_lt1, a_K0, a_R0_0, a_K1, a_L1⟩ := a_h
  have a_lt0 : a + 0 < jN (jG0 sc) := Nat.lt_of_succ_lt a_lt1
  obtain ⟨t_lt6, t_K0, t_R0_0, t_K1, t_L1, t_R0_1, t_K2, t_L2, t_R0_2, t_K3, t_L3, t_R0_3, t_K4, t_L4, t_R0_4, t_K5, t_L5, t_R0_5, t_K6, t_L6⟩ := t_h
  have t_lt5 : t + 5 < jN (jG0 sc) := Nat.lt_of_succ_lt t_lt6
  have t_lt4 : t + 4 < jN (jG0 sc) := Nat.lt_of_succ_lt t_lt5
  have t_lt3 : t + 3 < jN (jG0 sc) := Nat.lt_of_succ_lt t_lt4
  have t_lt2 : t + 2 < jN (jG0 sc) := Nat.lt_of_succ_lt t_lt3
  have t_lt1 : t + 1 < jN (jG0 sc) := Nat.lt_of_succ_lt t_lt2
  have t_lt0 : t + 0 < jN (jG0 sc) := Nat.lt_of_succ_lt t_lt1
  refine j_iload_n (i := 1) rfl dX3_addWhole_18 ?_
  refine j_iconst (n := 1) 1 (by decide) dX3_addWhole_19 ?_
  refine j_iadd dX3_addWhole_20 ?_
  refine j_aload_n (i := 2) rfl dX3_addWhole_21 ?_
  refine j_getI (idx := 40) (ci := 4) (k := 1) (nest := true) (show (3, 40, 4, 1, true) ∈ jFT by decide) rfl (a_lt0) a_K0 dX3_addWhole_22 ?_
  refine j_icmp_ge (off := 37) 62 dX3_addWhole_25 (by decide) (fun c1 => ?_) (fun c1 => ?_)
  · exact j_le [some (.ref t), some (.int l1), some (.ref a), some (.int l3), none] (And.intro rfl (And.intro rfl (And.intro rfl (And.intro rfl True.intro)))) (v1 c1)
  · exact j_le [some (.ref t), some (.int l1), some (.ref a), some (.int l3), none] (And.intro rfl (And.intro rfl (And.intro rfl (And.intro rfl True.intro)))) (v2 c1)
set_option maxRecDepth 100000 in
theorem bX3_addWhole_28 {sc : Nat × (Nat → Int32)} {h : jH} {Q : jQ} {a : Nat} {t : Nat} {l1 l3 : Int32} {P1 : Int32 → jH → Prop} (a_h : jI4 a) (t_h : jI3 t)
    (k1 : JM mX4_lineAt [.ref a, .int (l1 + 1)] (jG0 sc) h (jint sc P1))
    (v1 : ∀ (x1 : Int32) (h1 : jH), P1 x1 h1 → x1 = l3 → WP mX3_addWhole Q 62 [some (.ref t), some (.int l1), some (.ref a), some (.int l3), none] [] (jG0 sc) h1 (0, 0))
    (v2 : ∀ (x1 : Int32) (h1 : jH), P1 x1 h1 → ¬ x1 = l3 → WP mX3_addWhole Q 39 [some (.ref t), some (.int l1), some (.ref a), some (.int l3), none] [] (jG0 sc) h1 (0, 0)) :
    WP mX3_addWhole Q 28 [some (.ref t), some (.int l1), some (.ref a), some (.int l3), none] [] (jG0 sc) h (0, 0) := by
  obtain ⟨a_lt1, a_K0, a_R0_0, a_K1, a_L1⟩ := a_h
  have a_lt0 : a + 0 < jN (jG0 sc) := Nat.lt_of_succ_lt a_lt1
  obtain ⟨t_lt6, t_K0, t_R0_0, t_K1, t_L1, t_R0_1, t_K2, t_L2, t_R0_2, t_K3, t_L3, t_R0_3, t_K4, t_L4, t_R0_4, t_K5, t_L5, t_R0_5, t_K6, t_L6⟩ := t_h
  have t_lt5 : t + 5 < jN (jG0 sc) := Nat.lt_of_succ_lt t_lt6
  have t_lt4 : t + 4 < jN (jG0 sc) := Nat.lt_of_succ_lt t_lt5
  have t_lt3 : t + 3 < jN (jG0 sc) := Nat.lt_of_succ_lt t_lt4
  have t_lt2 : t + 2 < jN (jG0 sc) := Nat.lt_of_succ_lt t_lt3
  have t_lt1 : t + 1 < jN (jG0 sc) := Nat.lt_of_succ_lt t_lt2
  have t_lt0 : t + 0 < jN (jG0 sc) := Nat.lt_of_succ_lt t_lt1
  refine j_aload_n (i := 2) rfl dX3_addWhole_28 ?_
  refine j_iload_n (i := 1) rfl dX3_addWhole_29 ?_
  refine j_iconst (n := 1) 1 (by decide) dX3_addWhole_30 ?_
  refine j_iadd dX3_addWhole_31 ?_
  refine j_callVN (idx := 43) (As := [.int (l1 + 1)]) (ci := 4) (n := 1) k1 jint_nt (jTbl (jtb2 223 rfl)) sX4_lineAt kX4_lineAt rfl ⟨rfl, by decide +kernel, by decide +kernel, by decide +kernel⟩ rfl ⟨by decide, by decide⟩ (a_lt0) a_K0 (Nat.le_of_ble_eq_true rfl) (Nat.le_of_ble_eq_true rfl) ⟨Nat.zero_le _, Nat.zero_le _⟩ dX3_addWhole_32 (fun r Γ' h1 q => ?_)
  obtain ⟨x1, q0, rfl, p1⟩ := q; cases q0
  refine j_eqst [.int x1] (by rfl) ?_
  refine j_iload_n (i := 3) rfl dX3_addWhole_35 ?_
  refine j_icmp_eq (off := 26) 62 dX3_addWhole_36 (by decide) (fun c1 => ?_) (fun c1 => ?_)
  · exact j_le [some (.ref t), some (.int l1), some (.ref a), some (.int l3), none] (And.intro rfl (And.intro rfl (And.intro rfl (And.intro rfl True.intro)))) (v1 x1 h1 p1 c1)
  · exact j_le [some (.ref t), some (.int l1), some (.ref a), some (.int l3), none] (And.intro rfl (And.intro rfl (And.intro rfl (And.intro rfl True.intro)))) (v2 x1 h1 p1 c1)
set_option maxRecDepth 100000 in
theorem bX3_addWhole_39 {sc : Nat × (Nat → Int32)} {h : jH} {Q : jQ} {a : Nat} {t : Nat} {l1 l3 : Int32} (a_h : jI4 a) (t_h : jI3 t)
    (v1 : 10 ≤ l1 → WP mX3_addWhole Q 62 [some (.ref t), some (.int l1), some (.ref a), some (.int l3), none] [] (jG0 sc) h (0, 0))
    (v2 : ¬ 10 ≤ l1 → WP mX3_addWhole Q 45 [some (.ref t), some (.int l1), some (.ref a), some (.int l3), none] [] (jG0 sc) h (0, 0)) :
    WP mX3_addWhole Q 39 [some (.ref t), some (.int l1), some (.ref a), some (.int l3), none] [] (jG0 sc) h (0, 0) := by
  obtain ⟨a_lt1, a_K0, a_R0_0, a_K1, a_L1⟩ := a_h
  have a_lt0 : a + 0 < jN (jG0 sc) := Nat.lt_of_succ_lt a_lt1
  obtain ⟨t_lt6, t_K0, t_R0_0, t_K1, t_L1, t_R0_1, t_K2, t_L2, t_R0_2, t_K3, t_L3, t_R0_3, t_K4, t_L4, t_R0_4, t_K5, t_L5, t_R0_5, t_K6, t_L6⟩ := t_h
  have t_lt5 : t + 5 < jN (jG0 sc) := Nat.lt_of_succ_lt t_lt6
  have t_lt4 : t + 4 < jN (jG0 sc) := Nat.lt_of_succ_lt t_lt5
  have t_lt3 : t + 3 < jN (jG0 sc) := Nat.lt_of_succ_lt t_lt4
  have t_lt2 : t + 2 < jN (jG0 sc) := Nat.lt_of_succ_lt t_lt3
  have t_lt1 : t + 1 < jN (jG0 sc) := Nat.lt_of_succ_lt t_lt2
  have t_lt0 : t + 0 < jN (jG0 sc) := Nat.lt_of_succ_lt t_lt1
  refine j_iload_n (i := 1) rfl dX3_addWhole_39 ?_
  refine j_bipush (n := 10) 10 (by decide) dX3_addWhole_40 ?_
  refine j_icmp_ge (off := 20) 62 dX3_addWhole_42 (by decide) (fun c1 => ?_) (fun c1 => ?_)
  · exact j_le [some (.ref t), some (.int l1), some (.ref a), some (.int l3), none] (And.intro rfl (And.intro rfl (And.intro rfl (And.intro rfl True.intro)))) (v1 c1)
  · exact j_le [some (.ref t), some (.int l1), some (.ref a), some (.int l3), none] (And.intro rfl (And.intro rfl (And.intro rfl (And.intro rfl True.intro)))) (v2 c1)
set_option maxRecDepth 100000 in
theorem bX3_addWhole_45 {sc : Nat × (Nat → Int32)} {h : jH} {Q : jQ} {a : Nat} {t : Nat} {l1 l3 : Int32} {P1 : jH → Prop} (a_h : jI4 a) (t_h : jI3 t)
    (o1 : vp_in l1 10)
    (k1 : JM mX3_add [.ref t, .int 4, .int l1, .int l3] (jG0 sc) (jput h (t + 5) l1.toNatClampNeg (h t 6)) (jvoid sc P1))
    (v1 : ∀ h1 : jH, P1 h1 → WP mX3_addWhole Q 62 [some (.ref t), some (.int l1), some (.ref a), some (.int l3), none] [] (jG0 sc) h1 (0, 0)) :
    WP mX3_addWhole Q 45 [some (.ref t), some (.int l1), some (.ref a), some (.int l3), none] [] (jG0 sc) h (0, 0) := by
  obtain ⟨a_lt1, a_K0, a_R0_0, a_K1, a_L1⟩ := a_h
  have a_lt0 : a + 0 < jN (jG0 sc) := Nat.lt_of_succ_lt a_lt1
  obtain ⟨t_lt6, t_K0, t_R0_0, t_K1, t_L1, t_R0_1, t_K2, t_L2, t_R0_2, t_K3, t_L3, t_R0_3, t_K4, t_L4, t_R0_4, t_K5, t_L5, t_R0_5, t_K6, t_L6⟩ := t_h
  have t_lt5 : t + 5 < jN (jG0 sc) := Nat.lt_of_succ_lt t_lt6
  have t_lt4 : t + 4 < jN (jG0 sc) := Nat.lt_of_succ_lt t_lt5
  have t_lt3 : t + 3 < jN (jG0 sc) := Nat.lt_of_succ_lt t_lt4
  have t_lt2 : t + 2 < jN (jG0 sc) := Nat.lt_of_succ_lt t_lt3
  have t_lt1 : t + 1 < jN (jG0 sc) := Nat.lt_of_succ_lt t_lt2
  have t_lt0 : t + 0 < jN (jG0 sc) := Nat.lt_of_succ_lt t_lt1
  refine j_aload_n (i := 0) rfl dX3_addWhole_45 ?_
  refine j_getR (idx := 24) (ci := 3) (k := 4) (nest := false) (show (3, 24, 3, 4, false) ∈ jFT by decide) rfl (t_lt0) t_K0 (a := (t + 5)) t_R0_4 dX3_addWhole_46 ?_
  refine j_iload_n (i := 1) rfl dX3_addWhole_49 ?_
  refine j_aload_n (i := 0) rfl dX3_addWhole_50 ?_
  refine j_getI (idx := 37) (ci := 3) (k := 6) (nest := false) (show (3, 37, 3, 6, false) ∈ jFT by decide) rfl (t_lt0) t_K0 dX3_addWhole_51 ?_
  refine j_iast (t_lt5) t_K5 (by rw [show jL (jG0 sc) (t + 5) = 10 from t_L5]; exact o1) dX3_addWhole_54 ?_
  refine j_aload_n (i := 0) rfl dX3_addWhole_55 ?_
  refine j_iconst (n := 4) 4 (by decide) dX3_addWhole_56 ?_
  refine j_iload_n (i := 1) rfl dX3_addWhole_57 ?_
  refine j_iload_n (i := 3) rfl dX3_addWhole_58 ?_
  refine j_callV (idx := 71) (As := [.int 4, .int l1, .int l3]) (ci := 3) (n := 3) k1 jvoid_nt (jlkT (jtb3 110 rfl) rfl) sX3_add kX3_add rfl ⟨rfl, by decide +kernel, by decide +kernel, by decide +kernel⟩ rfl ⟨by decide, by decide⟩ (t_lt0) t_K0 (Nat.le_of_ble_eq_true rfl) (Nat.le_of_ble_eq_true rfl) ⟨Nat.zero_le _, Nat.zero_le _⟩ dX3_addWhole_59 (fun r Γ' h1 q => ?_)
  obtain ⟨q0, rfl, p1⟩ := q; cases q0
  refine j_eqst [] (by rfl) ?_
  exact j_le [some (.ref t), some (.int l1), some (.ref a), some (.int l3), none] (And.intro rfl (And.intro rfl (And.intro rfl (And.intro rfl True.intro)))) (v1 h1 p1)
set_option maxRecDepth 100000 in
theorem bX3_addWhole_62 {sc : Nat × (Nat → Int32)} {h : jH} {Q : jQ} {a : Nat} {t : Nat} {l1 l3 : Int32} (a_h : jI4 a) (t_h : jI3 t)
    (v1 : WP mX3_addWhole Q 65 [some (.ref t), some (.int l1), some (.ref a), some (.int l3), some (.int 0)] [] (jG0 sc) h (0, 0)) :
    WP mX3_addWhole Q 62 [some (.ref t), some (.int l1), some (.ref a), some (.int l3), none] [] (jG0 sc) h (0, 0) := by
  obtain ⟨a_lt1, a_K0, a_R0_0, a_K1, a_L1⟩ := a_h
  have a_lt0 : a + 0 < jN (jG0 sc) := Nat.lt_of_succ_lt a_lt1
  obtain ⟨t_lt6, t_K0, t_R0_0, t_K1, t_L1, t_R0_1, t_K2, t_L2, t_R0_2, t_K3, t_L3, t_R0_3, t_K4, t_L4, t_R0_4, t_K5, t_L5, t_R0_5, t_K6, t_L6⟩ := t_h
  have t_lt5 : t + 5 < jN (jG0 sc) := Nat.lt_of_succ_lt t_lt6
  have t_lt4 : t + 4 < jN (jG0 sc) := Nat.lt_of_succ_lt t_lt5
  have t_lt3 : t + 3 < jN (jG0 sc) := Nat.lt_of_succ_lt t_lt4
  have t_lt2 : t + 2 < jN (jG0 sc) := Nat.lt_of_succ_lt t_lt3
  have t_lt1 : t + 1 < jN (jG0 sc) := Nat.lt_of_succ_lt t_lt2
  have t_lt0 : t + 0 < jN (jG0 sc) := Nat.lt_of_succ_lt t_lt1
  refine j_iconst (n := 0) 0 (by decide) dX3_addWhole_62 ?_
  refine j_istore (i := 4) dX3_addWhole_63 (Nat.le_of_ble_eq_true rfl) ?_
  exact j_le [some (.ref t), some (.int l1), some (.ref a), some (.int l3), some (.int 0)] (And.intro rfl (And.intro rfl (And.intro rfl (And.intro rfl (And.intro rfl True.intro))))) v1
set_option maxRecDepth 100000 in
theorem bX3_addWhole_65 {sc : Nat × (Nat → Int32)} {h : jH} {Q : jQ} {a : Nat} {t : Nat} {l1 l3 l4 : Int32} (a_h : jI4 a) (t_h : jI3 t)
    (v1 : (h a 1) ≤ l4 → WP mX3_addWhole Q 109 [some (.ref t), some (.int l1), some (.ref a), some (.int l3), some (.int l4)] [] (jG0 sc) h (0, 0))
    (v2 : ¬ (h a 1) ≤ l4 → WP mX3_addWhole Q 74 [some (.ref t), some (.int l1), some (.ref a), some (.int l3), some (.int l4)] [] (jG0 sc) h (0, 0)) :
    WP mX3_addWhole Q 65 [some (.ref t), some (.int l1), some (.ref a), some (.int l3), some (.int l4)] [] (jG0 sc) h (0, 0) := by
  obtain ⟨a_lt1, a_K0, a_R0_0, a_K1, a_L1⟩ := a_h
  have a_lt0 : a + 0 < jN (jG0 sc) := Nat.lt_of_succ_lt a_lt1
  obtain ⟨t_lt6, t_K0, t_R0_0, t_K1, t_L1, t_R0_1, t_K2, t_L2, t_R0_2, t_K3, t_L3, t_R0_3, t_K4, t_L4, t_R0_4, t_K5, t_L5, t_R0_5, t_K6, t_L6⟩ := t_h
  have t_lt5 : t + 5 < jN (jG0 sc) := Nat.lt_of_succ_lt t_lt6
  have t_lt4 : t + 4 < jN (jG0 sc) := Nat.lt_of_succ_lt t_lt5
  have t_lt3 : t + 3 < jN (jG0 sc) := Nat.lt_of_succ_lt t_lt4
  have t_lt2 : t + 2 < jN (jG0 sc) := Nat.lt_of_succ_lt t_lt3
  have t_lt1 : t + 1 < jN (jG0 sc) := Nat.lt_of_succ_lt t_lt2
  have t_lt0 : t + 0 < jN (jG0 sc) := Nat.lt_of_succ_lt t_lt1
  refine j_iload (i := 4) rfl dX3_addWhole_65 ?_
  refine j_aload_n (i := 2) rfl dX3_addWhole_67 ?_
  refine j_getI (idx := 40) (ci := 4) (k := 1) (nest := true) (show (3, 40, 4, 1, true) ∈ jFT by decide) rfl (a_lt0) a_K0 dX3_addWhole_68 ?_
  refine j_icmp_ge (off := 38) 109 dX3_addWhole_71 (by decide) (fun c1 => ?_) (fun c1 => ?_)
  · exact j_le [some (.ref t), some (.int l1), some (.ref a), some (.int l3), some (.int l4)] (And.intro rfl (And.intro rfl (And.intro rfl (And.intro rfl (And.intro rfl True.intro))))) (v1 c1)
  · exact j_le [some (.ref t), some (.int l1), some (.ref a), some (.int l3), some (.int l4)] (And.intro rfl (And.intro rfl (And.intro rfl (And.intro rfl (And.intro rfl True.intro))))) (v2 c1)
set_option maxRecDepth 100000 in
theorem bX3_addWhole_74 {sc : Nat × (Nat → Int32)} {h : jH} {Q : jQ} {a : Nat} {t : Nat} {l1 l3 l4 : Int32} (a_h : jI4 a) (t_h : jI3 t)
    (v1 : 10 ≤ l4 → WP mX3_addWhole Q 109 [some (.ref t), some (.int l1), some (.ref a), some (.int l3), some (.int l4)] [] (jG0 sc) h (0, 0))
    (v2 : ¬ 10 ≤ l4 → WP mX3_addWhole Q 81 [some (.ref t), some (.int l1), some (.ref a), some (.int l3), some (.int l4)] [] (jG0 sc) h (0, 0)) :
    WP mX3_addWhole Q 74 [some (.ref t), some (.int l1), some (.ref a), some (.int l3), some (.int l4)] [] (jG0 sc) h (0, 0) := by
  obtain ⟨a_lt1, a_K0, a_R0_0, a_K1, a_L1⟩ := a_h
  have a_lt0 : a + 0 < jN (jG0 sc) := Nat.lt_of_succ_lt a_lt1
  obtain ⟨t_lt6, t_K0, t_R0_0, t_K1, t_L1, t_R0_1, t_K2, t_L2, t_R0_2, t_K3, t_L3, t_R0_3, t_K4, t_L4, t_R0_4, t_K5, t_L5, t_R0_5, t_K6, t_L6⟩ := t_h
  have t_lt5 : t + 5 < jN (jG0 sc) := Nat.lt_of_succ_lt t_lt6
  have t_lt4 : t + 4 < jN (jG0 sc) := Nat.lt_of_succ_lt t_lt5
  have t_lt3 : t + 3 < jN (jG0 sc) := Nat.lt_of_succ_lt t_lt4
  have t_lt2 : t + 2 < jN (jG0 sc) := Nat.lt_of_succ_lt t_lt3
  have t_lt1 : t + 1 < jN (jG0 sc) := Nat.lt_of_succ_lt t_lt2
  have t_lt0 : t + 0 < jN (jG0 sc) := Nat.lt_of_succ_lt t_lt1
  refine j_iload (i := 4) rfl dX3_addWhole_74 ?_
  refine j_bipush (n := 10) 10 (by decide) dX3_addWhole_76 ?_
  refine j_icmp_ge (off := 31) 109 dX3_addWhole_78 (by decide) (fun c1 => ?_) (fun c1 => ?_)
  · exact j_le [some (.ref t), some (.int l1), some (.ref a), some (.int l3), some (.int l4)] (And.intro rfl (And.intro rfl (And.intro rfl (And.intro rfl (And.intro rfl True.intro))))) (v1 c1)
  · exact j_le [some (.ref t), some (.int l1), some (.ref a), some (.int l3), some (.int l4)] (And.intro rfl (And.intro rfl (And.intro rfl (And.intro rfl (And.intro rfl True.intro))))) (v2 c1)
set_option maxRecDepth 100000 in
theorem bX3_addWhole_81 {sc : Nat × (Nat → Int32)} {h : jH} {Q : jQ} {a : Nat} {t : Nat} {l1 l3 l4 : Int32} {P1 : Int32 → jH → Prop} (a_h : jI4 a) (t_h : jI3 t)
    (k1 : JM mX4_lineAt [.ref a, .int l4] (jG0 sc) h (jint sc P1))
    (v1 : ∀ (x1 : Int32) (h1 : jH), P1 x1 h1 → x1 = l3 → WP mX3_addWhole Q 103 [some (.ref t), some (.int l1), some (.ref a), some (.int l3), some (.int l4)] [] (jG0 sc) h1 (0, 0))
    (v2 : ∀ (x1 : Int32) (h1 : jH), P1 x1 h1 → ¬ x1 = l3 → WP mX3_addWhole Q 91 [some (.ref t), some (.int l1), some (.ref a), some (.int l3), some (.int l4)] [] (jG0 sc) h1 (0, 0)) :
    WP mX3_addWhole Q 81 [some (.ref t), some (.int l1), some (.ref a), some (.int l3), some (.int l4)] [] (jG0 sc) h (0, 0) := by
  obtain ⟨a_lt1, a_K0, a_R0_0, a_K1, a_L1⟩ := a_h
  have a_lt0 : a + 0 < jN (jG0 sc) := Nat.lt_of_succ_lt a_lt1
  obtain ⟨t_lt6, t_K0, t_R0_0, t_K1, t_L1, t_R0_1, t_K2, t_L2, t_R0_2, t_K3, t_L3, t_R0_3, t_K4, t_L4, t_R0_4, t_K5, t_L5, t_R0_5, t_K6, t_L6⟩ := t_h
  have t_lt5 : t + 5 < jN (jG0 sc) := Nat.lt_of_succ_lt t_lt6
  have t_lt4 : t + 4 < jN (jG0 sc) := Nat.lt_of_succ_lt t_lt5
  have t_lt3 : t + 3 < jN (jG0 sc) := Nat.lt_of_succ_lt t_lt4
  have t_lt2 : t + 2 < jN (jG0 sc) := Nat.lt_of_succ_lt t_lt3
  have t_lt1 : t + 1 < jN (jG0 sc) := Nat.lt_of_succ_lt t_lt2
  have t_lt0 : t + 0 < jN (jG0 sc) := Nat.lt_of_succ_lt t_lt1
  refine j_aload_n (i := 2) rfl dX3_addWhole_81 ?_
  refine j_iload (i := 4) rfl dX3_addWhole_82 ?_
  refine j_callVN (idx := 43) (As := [.int l4]) (ci := 4) (n := 1) k1 jint_nt (jTbl (jtb2 223 rfl)) sX4_lineAt kX4_lineAt rfl ⟨rfl, by decide +kernel, by decide +kernel, by decide +kernel⟩ rfl ⟨by decide, by decide⟩ (a_lt0) a_K0 (Nat.le_of_ble_eq_true rfl) (Nat.le_of_ble_eq_true rfl) ⟨Nat.zero_le _, Nat.zero_le _⟩ dX3_addWhole_84 (fun r Γ' h1 q => ?_)
  obtain ⟨x1, q0, rfl, p1⟩ := q; cases q0
  refine j_eqst [.int x1] (by rfl) ?_
  refine j_iload_n (i := 3) rfl dX3_addWhole_87 ?_
  refine j_icmp_eq (off := 15) 103 dX3_addWhole_88 (by decide) (fun c1 => ?_) (fun c1 => ?_)
  · exact j_le [some (.ref t), some (.int l1), some (.ref a), some (.int l3), some (.int l4)] (And.intro rfl (And.intro rfl (And.intro rfl (And.intro rfl (And.intro rfl True.intro))))) (v1 x1 h1 p1 c1)
  · exact j_le [some (.ref t), some (.int l1), some (.ref a), some (.int l3), some (.int l4)] (And.intro rfl (And.intro rfl (And.intro rfl (And.intro rfl (And.intro rfl True.intro))))) (v2 x1 h1 p1 c1)
set_option maxRecDepth 100000 in
theorem bX3_addWhole_91 {sc : Nat × (Nat → Int32)} {h : jH} {Q : jQ} {a : Nat} {t : Nat} {l1 l3 l4 : Int32} {P1 : Int32 → jH → Prop} {P2 : jH → Prop} (a_h : jI4 a) (t_h : jI3 t)
    (k1 : JM mX4_lineAt [.ref a, .int l4] (jG0 sc) h (jint sc P1))
    (k2 : ∀ (x1 : Int32) (h1 : jH), P1 x1 h1 → JM mX3_add [.ref t, .int 5, .int l1, .int x1] (jG0 sc) h1 (jvoid sc P2))
    (v1 : ∀ (x1 : Int32) (h1 : jH), P1 x1 h1 → ∀ h2 : jH, P2 h2 → WP mX3_addWhole Q 103 [some (.ref t), some (.int l1), some (.ref a), some (.int l3), some (.int l4)] [] (jG0 sc) h2 (0, 0)) :
    WP mX3_addWhole Q 91 [some (.ref t), some (.int l1), some (.ref a), some (.int l3), some (.int l4)] [] (jG0 sc) h (0, 0) := by
  obtain ⟨a_lt1, a_K0, a_R0_0, a_K1, a_L1⟩ := a_h
  have a_lt0 : a + 0 < jN (jG0 sc) := Nat.lt_of_succ_lt a_lt1
  obtain ⟨t_lt6, t_K0, t_R0_0, t_K1, t_L1, t_R0_1, t_K2, t_L2, t_R0_2, t_K3, t_L3, t_R0_3, t_K4, t_L4, t_R0_4, t_K5, t_L5, t_R0_5, t_K6, t_L6⟩ := t_h
  have t_lt5 : t + 5 < jN (jG0 sc) := Nat.lt_of_succ_lt t_lt6
  have t_lt4 : t + 4 < jN (jG0 sc) := Nat.lt_of_succ_lt t_lt5
  have t_lt3 : t + 3 < jN (jG0 sc) := Nat.lt_of_succ_lt t_lt4
  have t_lt2 : t + 2 < jN (jG0 sc) := Nat.lt_of_succ_lt t_lt3
  have t_lt1 : t + 1 < jN (jG0 sc) := Nat.lt_of_succ_lt t_lt2
  have t_lt0 : t + 0 < jN (jG0 sc) := Nat.lt_of_succ_lt t_lt1
  refine j_aload_n (i := 0) rfl dX3_addWhole_91 ?_
  refine j_iconst (n := 5) 5 (by decide) dX3_addWhole_92 ?_
  refine j_iload_n (i := 1) rfl dX3_addWhole_93 ?_
  refine j_aload_n (i := 2) rfl dX3_addWhole_94 ?_
  refine j_iload (i := 4) rfl dX3_addWhole_95 ?_
  refine j_callVN (idx := 43) (As := [.int l4]) (ci := 4) (n := 1) k1 jint_nt (jTbl (jtb2 223 rfl)) sX4_lineAt kX4_lineAt rfl ⟨rfl, by decide +kernel, by decide +kernel, by decide +kernel⟩ rfl ⟨by decide, by decide⟩ (a_lt0) a_K0 (Nat.le_of_ble_eq_true rfl) (Nat.le_of_ble_eq_true rfl) ⟨Nat.zero_le _, Nat.zero_le _⟩ dX3_addWhole_97 (fun r Γ' h1 q => ?_)
  obtain ⟨x1, q0, rfl, p1⟩ := q; cases q0
  refine j_eqst [.int x1, .int l1, .int 5, .ref t] (by rfl) ?_
  refine j_callV (idx := 71) (As := [.int 5, .int l1, .int x1]) (ci := 3) (n := 3) (k2 x1 h1 p1) jvoid_nt (jlkT (jtb3 110 rfl) rfl) sX3_add kX3_add rfl ⟨rfl, by decide +kernel, by decide +kernel, by decide +kernel⟩ rfl ⟨by decide, by decide⟩ (t_lt0) t_K0 (Nat.le_of_ble_eq_true rfl) (Nat.le_of_ble_eq_true rfl) ⟨Nat.zero_le _, Nat.zero_le _⟩ dX3_addWhole_100 (fun r Γ' h2 q => ?_)
  obtain ⟨q0, rfl, p2⟩ := q; cases q0
  refine j_eqst [] (by rfl) ?_
  exact j_le [some (.ref t), some (.int l1), some (.ref a), some (.int l3), some (.int l4)] (And.intro rfl (And.intro rfl (And.intro rfl (And.intro rfl (And.intro rfl True.intro))))) (v1 x1 h1 p1 h2 p2)
set_option maxRecDepth 100000 in
theorem bX3_addWhole_103 {sc : Nat × (Nat → Int32)} {h : jH} {Q : jQ} {a : Nat} {t : Nat} {l1 l3 l4 : Int32} (a_h : jI4 a) (t_h : jI3 t)
    (v1 : WP mX3_addWhole Q 65 [some (.ref t), some (.int l1), some (.ref a), some (.int l3), some (.int (l4 + 1))] [] (jG0 sc) h (0, 0)) :
    WP mX3_addWhole Q 103 [some (.ref t), some (.int l1), some (.ref a), some (.int l3), some (.int l4)] [] (jG0 sc) h (0, 0) := by
  obtain ⟨a_lt1, a_K0, a_R0_0, a_K1, a_L1⟩ := a_h
  have a_lt0 : a + 0 < jN (jG0 sc) := Nat.lt_of_succ_lt a_lt1
  obtain ⟨t_lt6, t_K0, t_R0_0, t_K1, t_L1, t_R0_1, t_K2, t_L2, t_R0_2, t_K3, t_L3, t_R0_3, t_K4, t_L4, t_R0_4, t_K5, t_L5, t_R0_5, t_K6, t_L6⟩ := t_h
  have t_lt5 : t + 5 < jN (jG0 sc) := Nat.lt_of_succ_lt t_lt6
  have t_lt4 : t + 4 < jN (jG0 sc) := Nat.lt_of_succ_lt t_lt5
  have t_lt3 : t + 3 < jN (jG0 sc) := Nat.lt_of_succ_lt t_lt4
  have t_lt2 : t + 2 < jN (jG0 sc) := Nat.lt_of_succ_lt t_lt3
  have t_lt1 : t + 1 < jN (jG0 sc) := Nat.lt_of_succ_lt t_lt2
  have t_lt0 : t + 0 < jN (jG0 sc) := Nat.lt_of_succ_lt t_lt1
  refine j_iinc (i := 4) (n := 1) rfl dX3_addWhole_103 (Nat.le_of_ble_eq_true rfl) ?_
  refine j_eqlv [some (.ref t), some (.int l1), some (.ref a), some (.int l3), some (.int (l4 + 1))] rfl ?_
  refine j_goto (off := -41) 65 dX3_addWhole_106 (by decide) ?_
  exact j_le [some (.ref t), some (.int l1), some (.ref a), some (.int l3), some (.int (l4 + 1))] (And.intro rfl (And.intro rfl (And.intro rfl (And.intro rfl (And.intro rfl True.intro))))) v1
set_option maxRecDepth 100000 in
theorem bX3_addWhole_109 {sc : Nat × (Nat → Int32)} {h : jH} {Q : jQ} {a : Nat} {t : Nat} {l1 l3 l4 : Int32} (a_h : jI4 a) (t_h : jI3 t)
    (v1 : Q (.inl none) (jG0 sc) h) :
    WP mX3_addWhole Q 109 [some (.ref t), some (.int l1), some (.ref a), some (.int l3), some (.int l4)] [] (jG0 sc) h (0, 0) := by
  obtain ⟨a_lt1, a_K0, a_R0_0, a_K1, a_L1⟩ := a_h
  have a_lt0 : a + 0 < jN (jG0 sc) := Nat.lt_of_succ_lt a_lt1
  obtain ⟨t_lt6, t_K0, t_R0_0, t_K1, t_L1, t_R0_1, t_K2, t_L2, t_R0_2, t_K3, t_L3, t_R0_3, t_K4, t_L4, t_R0_4, t_K5, t_L5, t_R0_5, t_K6, t_L6⟩ := t_h
  have t_lt5 : t + 5 < jN (jG0 sc) := Nat.lt_of_succ_lt t_lt6
  have t_lt4 : t + 4 < jN (jG0 sc) := Nat.lt_of_succ_lt t_lt5
  have t_lt3 : t + 3 < jN (jG0 sc) := Nat.lt_of_succ_lt t_lt4
  have t_lt2 : t + 2 < jN (jG0 sc) := Nat.lt_of_succ_lt t_lt3
  have t_lt1 : t + 1 < jN (jG0 sc) := Nat.lt_of_succ_lt t_lt2
  have t_lt0 : t + 0 < jN (jG0 sc) := Nat.lt_of_succ_lt t_lt1
  exact j_vret rfl (Nat.zero_le _) (Nat.zero_le _) dX3_addWhole_109 v1
set_option maxRecDepth 100000 in
theorem rX3_addWhole_0 {sc : Nat × (Nat → Int32)} {h : jH} {Q : jQ} {a : Nat} {t : Nat} {l1 : Int32} {P1 : Int32 → jH → Prop} {P2 : Int32 → jH → Prop} {P3 : jH → Prop} {P4 : jH → Prop} {P5 : Int32 → jH → Prop} {P6 : jH → Prop} (a_h : jI4 a) (t_h : jI3 t)
    (k1 : JM mX4_lineAt [.ref a, .int l1] (jG0 sc) h (jint sc P1))
    (v1 : ∀ (x1 : Int32) (h1 : jH), P1 x1 h1 → x1 = 4 → (h1 a 1) ≤ (l1 + 1) → WP mX3_addWhole Q 65 [some (.ref t), some (.int l1), some (.ref a), some (.int x1), some (.int 0)] [] (jG0 sc) h1 (0, 0))
    (k2 : ∀ (x1 : Int32) (h1 : jH), P1 x1 h1 → x1 = 4 → ¬ (h1 a 1) ≤ (l1 + 1) → JM mX4_lineAt [.ref a, .int (l1 + 1)] (jG0 sc) h1 (jint sc P2))
    (v2 : ∀ (x1 : Int32) (h1 : jH), P1 x1 h1 → x1 = 4 → ¬ (h1 a 1) ≤ (l1 + 1) → ∀ (x2 : Int32) (h2 : jH), P2 x2 h2 → x2 = x1 → WP mX3_addWhole Q 65 [some (.ref t), some (.int l1), some (.ref a), some (.int x1), some (.int 0)] [] (jG0 sc) h2 (0, 0))
    (v3 : ∀ (x1 : Int32) (h1 : jH), P1 x1 h1 → x1 = 4 → ¬ (h1 a 1) ≤ (l1 + 1) → ∀ (x2 : Int32) (h2 : jH), P2 x2 h2 → ¬ x2 = x1 → 10 ≤ l1 → WP mX3_addWhole Q 65 [some (.ref t), some (.int l1), some (.ref a), some (.int x1), some (.int 0)] [] (jG0 sc) h2 (0, 0))
    (o1 : ∀ (x1 : Int32) (h1 : jH), P1 x1 h1 → x1 = 4 → ¬ (h1 a 1) ≤ (l1 + 1) → ∀ (x2 : Int32) (h2 : jH), P2 x2 h2 → ¬ x2 = x1 → ¬ 10 ≤ l1 → vp_in l1 10)
    (k3 : ∀ (x1 : Int32) (h1 : jH), P1 x1 h1 → x1 = 4 → ¬ (h1 a 1) ≤ (l1 + 1) → ∀ (x2 : Int32) (h2 : jH), P2 x2 h2 → ¬ x2 = x1 → ¬ 10 ≤ l1 → JM mX3_add [.ref t, .int 4, .int l1, .int x1] (jG0 sc) (jput h2 (t + 5) l1.toNatClampNeg (h2 t 6)) (jvoid sc P3))
    (v4 : ∀ (x1 : Int32) (h1 : jH), P1 x1 h1 → x1 = 4 → ¬ (h1 a 1) ≤ (l1 + 1) → ∀ (x2 : Int32) (h2 : jH), P2 x2 h2 → ¬ x2 = x1 → ¬ 10 ≤ l1 → ∀ h3 : jH, P3 h3 → WP mX3_addWhole Q 65 [some (.ref t), some (.int l1), some (.ref a), some (.int x1), some (.int 0)] [] (jG0 sc) h3 (0, 0))
    (k4 : ∀ (x1 : Int32) (h1 : jH), P1 x1 h1 → ¬ x1 = 4 → JM mX3_add [.ref t, .int 3, .int l1, .int 4] (jG0 sc) h1 (jvoid sc P4))
    (v5 : ∀ (x1 : Int32) (h1 : jH), P1 x1 h1 → ¬ x1 = 4 → ∀ h4 : jH, P4 h4 → (h4 a 1) ≤ (l1 + 1) → WP mX3_addWhole Q 65 [some (.ref t), some (.int l1), some (.ref a), some (.int x1), some (.int 0)] [] (jG0 sc) h4 (0, 0))
    (k5 : ∀ (x1 : Int32) (h1 : jH), P1 x1 h1 → ¬ x1 = 4 → ∀ h4 : jH, P4 h4 → ¬ (h4 a 1) ≤ (l1 + 1) → JM mX4_lineAt [.ref a, .int (l1 + 1)] (jG0 sc) h4 (jint sc P5))
    (v6 : ∀ (x1 : Int32) (h1 : jH), P1 x1 h1 → ¬ x1 = 4 → ∀ h4 : jH, P4 h4 → ¬ (h4 a 1) ≤ (l1 + 1) → ∀ (x5 : Int32) (h5 : jH), P5 x5 h5 → x5 = x1 → WP mX3_addWhole Q 65 [some (.ref t), some (.int l1), some (.ref a), some (.int x1), some (.int 0)] [] (jG0 sc) h5 (0, 0))
    (v7 : ∀ (x1 : Int32) (h1 : jH), P1 x1 h1 → ¬ x1 = 4 → ∀ h4 : jH, P4 h4 → ¬ (h4 a 1) ≤ (l1 + 1) → ∀ (x5 : Int32) (h5 : jH), P5 x5 h5 → ¬ x5 = x1 → 10 ≤ l1 → WP mX3_addWhole Q 65 [some (.ref t), some (.int l1), some (.ref a), some (.int x1), some (.int 0)] [] (jG0 sc) h5 (0, 0))
    (o2 : ∀ (x1 : Int32) (h1 : jH), P1 x1 h1 → ¬ x1 = 4 → ∀ h4 : jH, P4 h4 → ¬ (h4 a 1) ≤ (l1 + 1) → ∀ (x5 : Int32) (h5 : jH), P5 x5 h5 → ¬ x5 = x1 → ¬ 10 ≤ l1 → vp_in l1 10)
    (k6 : ∀ (x1 : Int32) (h1 : jH), P1 x1 h1 → ¬ x1 = 4 → ∀ h4 : jH, P4 h4 → ¬ (h4 a 1) ≤ (l1 + 1) → ∀ (x5 : Int32) (h5 : jH), P5 x5 h5 → ¬ x5 = x1 → ¬ 10 ≤ l1 → JM mX3_add [.ref t, .int 4, .int l1, .int x1] (jG0 sc) (jput h5 (t + 5) l1.toNatClampNeg (h5 t 6)) (jvoid sc P6))
    (v8 : ∀ (x1 : Int32) (h1 : jH), P1 x1 h1 → ¬ x1 = 4 → ∀ h4 : jH, P4 h4 → ¬ (h4 a 1) ≤ (l1 + 1) → ∀ (x5 : Int32) (h5 : jH), P5 x5 h5 → ¬ x5 = x1 → ¬ 10 ≤ l1 → ∀ h6 : jH, P6 h6 → WP mX3_addWhole Q 65 [some (.ref t), some (.int l1), some (.ref a), some (.int x1), some (.int 0)] [] (jG0 sc) h6 (0, 0)) :
    WP mX3_addWhole Q 0 [some (.ref t), some (.int l1), some (.ref a), none, none] [] (jG0 sc) h (0, 0) := by
  exact (bX3_addWhole_0 a_h t_h k1 (fun x1 h1 p1 c1 => (bX3_addWhole_18 a_h t_h (fun c2 => (bX3_addWhole_62 a_h t_h (v1 x1 h1 p1 c1 c2))) (fun c2 => (bX3_addWhole_28 a_h t_h (k2 x1 h1 p1 c1 c2) (fun x2 h2 p2 c3 => (bX3_addWhole_62 a_h t_h (v2 x1 h1 p1 c1 c2 x2 h2 p2 c3))) (fun x2 h2 p2 c3 => (bX3_addWhole_39 a_h t_h (fun c4 => (bX3_addWhole_62 a_h t_h (v3 x1 h1 p1 c1 c2 x2 h2 p2 c3 c4))) (fun c4 => (bX3_addWhole_45 a_h t_h (o1 x1 h1 p1 c1 c2 x2 h2 p2 c3 c4) (k3 x1 h1 p1 c1 c2 x2 h2 p2 c3 c4) (fun h3 p3 => (bX3_addWhole_62 a_h t_h (v4 x1 h1 p1 c1 c2 x2 h2 p2 c3 c4 h3 p3))))))))))) (fun x1 h1 p1 c1 => (bX3_addWhole_11 a_h t_h (k4 x1 h1 p1 c1) (fun h4 p4 => (bX3_addWhole_18 a_h t_h (fun c5 => (bX3_addWhole_62 a_h t_h (v5 x1 h1 p1 c1 h4 p4 c5))) (fun c5 => (bX3_addWhole_28 a_h t_h (k5 x1 h1 p1 c1 h4 p4 c5) (fun x5 h5 p5 c6 => (bX3_addWhole_62 a_h t_h (v6 x1 h1 p1 c1 h4 p4 c5 x5 h5 p5 c6))) (fun x5 h5 p5 c6 => (bX3_addWhole_39 a_h t_h (fun c7 => (bX3_addWhole_62 a_h t_h (v7 x1 h1 p1 c1 h4 p4 c5 x5 h5 p5 c6 c7))) (fun c7 => (bX3_addWhole_45 a_h t_h (o2 x1 h1 p1 c1 h4 p4 c5 x5 h5 p5 c6 c7) (k6 x1 h1 p1 c1 h4 p4 c5 x5 h5 p5 c6 c7) (fun h6 p6 => (bX3_addWhole_62 a_h t_h (v8 x1 h1 p1 c1 h4 p4 c5 x5 h5 p5 c6 c7 h6 p6))))))))))))))
set_option maxRecDepth 100000 in
theorem rX3_addWhole_65 {sc : Nat × (Nat → Int32)} {h : jH} {Q : jQ} {a : Nat} {t : Nat} {l1 l3 l4 : Int32} {P1 : Int32 → jH → Prop} {P2 : Int32 → jH → Prop} {P3 : jH → Prop} (a_h : jI4 a) (t_h : jI3 t)
    (v1 : (h a 1) ≤ l4 → Q (.inl none) (jG0 sc) h)
    (v2 : ¬ (h a 1) ≤ l4 → 10 ≤ l4 → Q (.inl none) (jG0 sc) h)
    (k1 : ¬ (h a 1) ≤ l4 → ¬ 10 ≤ l4 → JM mX4_lineAt [.ref a, .int l4] (jG0 sc) h (jint sc P1))
    (v3 : ¬ (h a 1) ≤ l4 → ¬ 10 ≤ l4 → ∀ (x1 : Int32) (h1 : jH), P1 x1 h1 → x1 = l3 → WP mX3_addWhole Q 65 [some (.ref t), some (.int l1), some (.ref a), some (.int l3), some (.int (l4 + 1))] [] (jG0 sc) h1 (0, 0))
    (k2 : ¬ (h a 1) ≤ l4 → ¬ 10 ≤ l4 → ∀ (x1 : Int32) (h1 : jH), P1 x1 h1 → ¬ x1 = l3 → JM mX4_lineAt [.ref a, .int l4] (jG0 sc) h1 (jint sc P2))
    (k3 : ¬ (h a 1) ≤ l4 → ¬ 10 ≤ l4 → ∀ (x1 : Int32) (h1 : jH), P1 x1 h1 → ¬ x1 = l3 → ∀ (x2 : Int32) (h2 : jH), P2 x2 h2 → JM mX3_add [.ref t, .int 5, .int l1, .int x2] (jG0 sc) h2 (jvoid sc P3))
    (v4 : ¬ (h a 1) ≤ l4 → ¬ 10 ≤ l4 → ∀ (x1 : Int32) (h1 : jH), P1 x1 h1 → ¬ x1 = l3 → ∀ (x2 : Int32) (h2 : jH), P2 x2 h2 → ∀ h3 : jH, P3 h3 → WP mX3_addWhole Q 65 [some (.ref t), some (.int l1), some (.ref a), some (.int l3), some (.int (l4 + 1))] [] (jG0 sc) h3 (0, 0)) :
    WP mX3_addWhole Q 65 [some (.ref t), some (.int l1), some (.ref a), some (.int l3), some (.int l4)] [] (jG0 sc) h (0, 0) := by
  exact (bX3_addWhole_65 a_h t_h (fun c1 => (bX3_addWhole_109 a_h t_h (v1 c1))) (fun c1 => (bX3_addWhole_74 a_h t_h (fun c2 => (bX3_addWhole_109 a_h t_h (v2 c1 c2))) (fun c2 => (bX3_addWhole_81 a_h t_h (k1 c1 c2) (fun x1 h1 p1 c3 => (bX3_addWhole_103 a_h t_h (v3 c1 c2 x1 h1 p1 c3))) (fun x1 h1 p1 c3 => (bX3_addWhole_91 a_h t_h (k2 c1 c2 x1 h1 p1 c3) (fun x2 h2 p2 => (k3 c1 c2 x1 h1 p1 c3 x2 h2 p2)) (fun x2 h2 p2 h3 p3 => (bX3_addWhole_103 a_h t_h (v4 c1 c2 x1 h1 p1 c3 x2 h2 p2 h3 p3))))))))))
theorem dX3_plainBehind_0 : decode (mC mX3_plainBehind) 0 = .ok (.iconst 0, 1) := by decide +kernel
theorem dX3_plainBehind_1 : decode (mC mX3_plainBehind) 1 = .ok (.istore_n 2, 1) := by decide +kernel
theorem dX3_plainBehind_2 : decode (mC mX3_plainBehind) 2 = .ok (.iload_n 1, 1) := by decide +kernel
theorem dX3_plainBehind_3 : decode (mC mX3_plainBehind) 3 = .ok (.iconst 1, 1) := by decide +kernel
theorem dX3_plainBehind_4 : decode (mC mX3_plainBehind) 4 = .ok (.iadd, 1) := by decide +kernel
theorem dX3_plainBehind_5 : decode (mC mX3_plainBehind) 5 = .ok (.istore_n 3, 1) := by decide +kernel
theorem dX3_plainBehind_6 : decode (mC mX3_plainBehind) 6 = .ok (.iload_n 3, 1) := by decide +kernel
theorem dX3_plainBehind_7 : decode (mC mX3_plainBehind) 7 = .ok (.bipush 10, 2) := by decide +kernel
theorem dX3_plainBehind_9 : decode (mC mX3_plainBehind) 9 = .ok (.if_icmp .ge 18, 3) := by decide +kernel
theorem dX3_plainBehind_12 : decode (mC mX3_plainBehind) 12 = .ok (.iload_n 2, 1) := by decide +kernel
theorem dX3_plainBehind_13 : decode (mC mX3_plainBehind) 13 = .ok (.aload_n 0, 1) := by decide +kernel
theorem dX3_plainBehind_14 : decode (mC mX3_plainBehind) 14 = .ok (.getfield 27, 3) := by decide +kernel
theorem dX3_plainBehind_17 : decode (mC mX3_plainBehind) 17 = .ok (.iload_n 3, 1) := by decide +kernel
theorem dX3_plainBehind_18 : decode (mC mX3_plainBehind) 18 = .ok (.iaload, 1) := by decide +kernel
theorem dX3_plainBehind_19 : decode (mC mX3_plainBehind) 19 = .ok (.iadd, 1) := by decide +kernel
theorem dX3_plainBehind_20 : decode (mC mX3_plainBehind) 20 = .ok (.istore_n 2, 1) := by decide +kernel
theorem dX3_plainBehind_21 : decode (mC mX3_plainBehind) 21 = .ok (.iinc 3 1, 3) := by decide +kernel
theorem dX3_plainBehind_24 : decode (mC mX3_plainBehind) 24 = .ok (.goto (-18), 3) := by decide +kernel
theorem dX3_plainBehind_27 : decode (mC mX3_plainBehind) 27 = .ok (.iload_n 2, 1) := by decide +kernel
theorem dX3_plainBehind_28 : decode (mC mX3_plainBehind) 28 = .ok (.ireturn, 1) := by decide +kernel
set_option maxRecDepth 100000 in
theorem bX3_plainBehind_0 {sc : Nat × (Nat → Int32)} {h : jH} {Q : jQ} {t : Nat} {l1 : Int32} (t_h : jI3 t)
    (v1 : WP mX3_plainBehind Q 6 [some (.ref t), some (.int l1), some (.int 0), some (.int (l1 + 1))] [] (jG0 sc) h (0, 0)) :
    WP mX3_plainBehind Q 0 [some (.ref t), some (.int l1), none, none] [] (jG0 sc) h (0, 0) := by
  obtain ⟨t_lt6, t_K0, t_R0_0, t_K1, t_L1, t_R0_1, t_K2, t_L2, t_R0_2, t_K3, t_L3, t_R0_3, t_K4, t_L4, t_R0_4, t_K5, t_L5, t_R0_5, t_K6, t_L6⟩ := t_h
  have t_lt5 : t + 5 < jN (jG0 sc) := Nat.lt_of_succ_lt t_lt6
  have t_lt4 : t + 4 < jN (jG0 sc) := Nat.lt_of_succ_lt t_lt5
  have t_lt3 : t + 3 < jN (jG0 sc) := Nat.lt_of_succ_lt t_lt4
  have t_lt2 : t + 2 < jN (jG0 sc) := Nat.lt_of_succ_lt t_lt3
  have t_lt1 : t + 1 < jN (jG0 sc) := Nat.lt_of_succ_lt t_lt2
  have t_lt0 : t + 0 < jN (jG0 sc) := Nat.lt_of_succ_lt t_lt1
  refine j_iconst (n := 0) 0 (by decide) dX3_plainBehind_0 ?_
  refine j_istore_n (i := 2) dX3_plainBehind_1 (Nat.le_of_ble_eq_true rfl) ?_
  refine j_iload_n (i := 1) rfl dX3_plainBehind_2 ?_
  refine j_iconst (n := 1) 1 (by decide) dX3_plainBehind_3 ?_
  refine j_iadd dX3_plainBehind_4 ?_
  refine j_istore_n (i := 3) dX3_plainBehind_5 (Nat.le_of_ble_eq_true rfl) ?_
  exact j_le [some (.ref t), some (.int l1), some (.int 0), some (.int (l1 + 1))] (And.intro rfl (And.intro rfl (And.intro rfl (And.intro rfl True.intro)))) v1
set_option maxRecDepth 100000 in
theorem bX3_plainBehind_6 {sc : Nat × (Nat → Int32)} {h : jH} {Q : jQ} {t : Nat} {l1 l2 l3 : Int32} (t_h : jI3 t)
    (v1 : 10 ≤ l3 → WP mX3_plainBehind Q 27 [some (.ref t), some (.int l1), some (.int l2), some (.int l3)] [] (jG0 sc) h (0, 0))
    (v2 : ¬ 10 ≤ l3 → WP mX3_plainBehind Q 12 [some (.ref t), some (.int l1), some (.int l2), some (.int l3)] [] (jG0 sc) h (0, 0)) :
    WP mX3_plainBehind Q 6 [some (.ref t), some (.int l1), some (.int l2), some (.int l3)] [] (jG0 sc) h (0, 0) := by
  obtain ⟨t_lt6, t_K0, t_R0_0, t_K1, t_L1, t_R0_1, t_K2, t_L2, t_R0_2, t_K3, t_L3, t_R0_3, t_K4, t_L4, t_R0_4, t_K5, t_L5, t_R0_5, t_K6, t_L6⟩ := t_h
  have t_lt5 : t + 5 < jN (jG0 sc) := Nat.lt_of_succ_lt t_lt6
  have t_lt4 : t + 4 < jN (jG0 sc) := Nat.lt_of_succ_lt t_lt5
  have t_lt3 : t + 3 < jN (jG0 sc) := Nat.lt_of_succ_lt t_lt4
  have t_lt2 : t + 2 < jN (jG0 sc) := Nat.lt_of_succ_lt t_lt3
  have t_lt1 : t + 1 < jN (jG0 sc) := Nat.lt_of_succ_lt t_lt2
  have t_lt0 : t + 0 < jN (jG0 sc) := Nat.lt_of_succ_lt t_lt1
  refine j_iload_n (i := 3) rfl dX3_plainBehind_6 ?_
  refine j_bipush (n := 10) 10 (by decide) dX3_plainBehind_7 ?_
  refine j_icmp_ge (off := 18) 27 dX3_plainBehind_9 (by decide) (fun c1 => ?_) (fun c1 => ?_)
  · exact j_le [some (.ref t), some (.int l1), some (.int l2), some (.int l3)] (And.intro rfl (And.intro rfl (And.intro rfl (And.intro rfl True.intro)))) (v1 c1)
  · exact j_le [some (.ref t), some (.int l1), some (.int l2), some (.int l3)] (And.intro rfl (And.intro rfl (And.intro rfl (And.intro rfl True.intro)))) (v2 c1)
set_option maxRecDepth 100000 in
theorem bX3_plainBehind_12 {sc : Nat × (Nat → Int32)} {h : jH} {Q : jQ} {t : Nat} {l1 l2 l3 : Int32} (t_h : jI3 t)
    (o1 : vp_in l3 10)
    (v1 : WP mX3_plainBehind Q 6 [some (.ref t), some (.int l1), some (.int (l2 + (h (t + 6) l3.toNatClampNeg))), some (.int (l3 + 1))] [] (jG0 sc) h (0, 0)) :
    WP mX3_plainBehind Q 12 [some (.ref t), some (.int l1), some (.int l2), some (.int l3)] [] (jG0 sc) h (0, 0) := by
  obtain ⟨t_lt6, t_K0, t_R0_0, t_K1, t_L1, t_R0_1, t_K2, t_L2, t_R0_2, t_K3, t_L3, t_R0_3, t_K4, t_L4, t_R0_4, t_K5, t_L5, t_R0_5, t_K6, t_L6⟩ := t_h
  have t_lt5 : t + 5 < jN (jG0 sc) := Nat.lt_of_succ_lt t_lt6
  have t_lt4 : t + 4 < jN (jG0 sc) := Nat.lt_of_succ_lt t_lt5
  have t_lt3 : t + 3 < jN (jG0 sc) := Nat.lt_of_succ_lt t_lt4
  have t_lt2 : t + 2 < jN (jG0 sc) := Nat.lt_of_succ_lt t_lt3
  have t_lt1 : t + 1 < jN (jG0 sc) := Nat.lt_of_succ_lt t_lt2
  have t_lt0 : t + 0 < jN (jG0 sc) := Nat.lt_of_succ_lt t_lt1
  refine j_iload_n (i := 2) rfl dX3_plainBehind_12 ?_
  refine j_aload_n (i := 0) rfl dX3_plainBehind_13 ?_
  refine j_getR (idx := 27) (ci := 3) (k := 5) (nest := false) (show (3, 27, 3, 5, false) ∈ jFT by decide) rfl (t_lt0) t_K0 (a := (t + 6)) t_R0_5 dX3_plainBehind_14 ?_
  refine j_iload_n (i := 3) rfl dX3_plainBehind_17 ?_
  refine j_iald (t_lt6) t_K6 (by rw [show jL (jG0 sc) (t + 6) = 10 from t_L6]; exact o1) dX3_plainBehind_18 ?_
  refine j_iadd dX3_plainBehind_19 ?_
  refine j_istore_n (i := 2) dX3_plainBehind_20 (Nat.le_of_ble_eq_true rfl) ?_
  refine j_iinc (i := 3) (n := 1) rfl dX3_plainBehind_21 (Nat.le_of_ble_eq_true rfl) ?_
  refine j_eqlv [some (.ref t), some (.int l1), some (.int (l2 + (h (t + 6) l3.toNatClampNeg))), some (.int (l3 + 1))] rfl ?_
  refine j_goto (off := -18) 6 dX3_plainBehind_24 (by decide) ?_
  exact j_le [some (.ref t), some (.int l1), some (.int (l2 + (h (t + 6) l3.toNatClampNeg))), some (.int (l3 + 1))] (And.intro rfl (And.intro rfl (And.intro rfl (And.intro rfl True.intro)))) v1
set_option maxRecDepth 100000 in
theorem bX3_plainBehind_27 {sc : Nat × (Nat → Int32)} {h : jH} {Q : jQ} {t : Nat} {l1 l2 l3 : Int32} (t_h : jI3 t)
    (v1 : Q (.inl (some (.int l2))) (jG0 sc) h) :
    WP mX3_plainBehind Q 27 [some (.ref t), some (.int l1), some (.int l2), some (.int l3)] [] (jG0 sc) h (0, 0) := by
  obtain ⟨t_lt6, t_K0, t_R0_0, t_K1, t_L1, t_R0_1, t_K2, t_L2, t_R0_2, t_K3, t_L3, t_R0_3, t_K4, t_L4, t_R0_4, t_K5, t_L5, t_R0_5, t_K6, t_L6⟩ := t_h
  have t_lt5 : t + 5 < jN (jG0 sc) := Nat.lt_of_succ_lt t_lt6
  have t_lt4 : t + 4 < jN (jG0 sc) := Nat.lt_of_succ_lt t_lt5
  have t_lt3 : t + 3 < jN (jG0 sc) := Nat.lt_of_succ_lt t_lt4
  have t_lt2 : t + 2 < jN (jG0 sc) := Nat.lt_of_succ_lt t_lt3
  have t_lt1 : t + 1 < jN (jG0 sc) := Nat.lt_of_succ_lt t_lt2
  have t_lt0 : t + 0 < jN (jG0 sc) := Nat.lt_of_succ_lt t_lt1
  refine j_iload_n (i := 2) rfl dX3_plainBehind_27 ?_
  exact j_iret rfl rfl (Nat.zero_le _) (Nat.zero_le _) dX3_plainBehind_28 v1
set_option maxRecDepth 100000 in
theorem rX3_plainBehind_0 {sc : Nat × (Nat → Int32)} {h : jH} {Q : jQ} {t : Nat} {l1 : Int32} (t_h : jI3 t)
    (v1 : WP mX3_plainBehind Q 6 [some (.ref t), some (.int l1), some (.int 0), some (.int (l1 + 1))] [] (jG0 sc) h (0, 0)) :
    WP mX3_plainBehind Q 0 [some (.ref t), some (.int l1), none, none] [] (jG0 sc) h (0, 0) := by
  exact (bX3_plainBehind_0 t_h v1)
set_option maxRecDepth 100000 in
theorem rX3_plainBehind_6 {sc : Nat × (Nat → Int32)} {h : jH} {Q : jQ} {t : Nat} {l1 l2 l3 : Int32} (t_h : jI3 t)
    (v1 : 10 ≤ l3 → Q (.inl (some (.int l2))) (jG0 sc) h)
    (o1 : ¬ 10 ≤ l3 → vp_in l3 10)
    (v2 : ¬ 10 ≤ l3 → WP mX3_plainBehind Q 6 [some (.ref t), some (.int l1), some (.int (l2 + (h (t + 6) l3.toNatClampNeg))), some (.int (l3 + 1))] [] (jG0 sc) h (0, 0)) :
    WP mX3_plainBehind Q 6 [some (.ref t), some (.int l1), some (.int l2), some (.int l3)] [] (jG0 sc) h (0, 0) := by
  exact (bX3_plainBehind_6 t_h (fun c1 => (bX3_plainBehind_27 t_h (v1 c1))) (fun c1 => (bX3_plainBehind_12 t_h (o1 c1) (v2 c1))))
theorem dX3_pairs_0 : decode (mC mX3_pairs) 0 = .ok (.iconst 0, 1) := by decide +kernel
theorem dX3_pairs_1 : decode (mC mX3_pairs) 1 = .ok (.istore_n 1, 1) := by decide +kernel
theorem dX3_pairs_2 : decode (mC mX3_pairs) 2 = .ok (.iconst 0, 1) := by decide +kernel
theorem dX3_pairs_3 : decode (mC mX3_pairs) 3 = .ok (.istore_n 2, 1) := by decide +kernel
theorem dX3_pairs_4 : decode (mC mX3_pairs) 4 = .ok (.iload_n 2, 1) := by decide +kernel
theorem dX3_pairs_5 : decode (mC mX3_pairs) 5 = .ok (.bipush 10, 2) := by decide +kernel
theorem dX3_pairs_7 : decode (mC mX3_pairs) 7 = .ok (.if_icmp .ge 24, 3) := by decide +kernel
theorem dX3_pairs_10 : decode (mC mX3_pairs) 10 = .ok (.iload_n 1, 1) := by decide +kernel
theorem dX3_pairs_11 : decode (mC mX3_pairs) 11 = .ok (.aload_n 0, 1) := by decide +kernel
theorem dX3_pairs_12 : decode (mC mX3_pairs) 12 = .ok (.getfield 27, 3) := by decide +kernel
theorem dX3_pairs_15 : decode (mC mX3_pairs) 15 = .ok (.iload_n 2, 1) := by decide +kernel
theorem dX3_pairs_16 : decode (mC mX3_pairs) 16 = .ok (.iaload, 1) := by decide +kernel
theorem dX3_pairs_17 : decode (mC mX3_pairs) 17 = .ok (.aload_n 0, 1) := by decide +kernel
theorem dX3_pairs_18 : decode (mC mX3_pairs) 18 = .ok (.iload_n 2, 1) := by decide +kernel
theorem dX3_pairs_19 : decode (mC mX3_pairs) 19 = .ok (.invokevirtual 103, 3) := by decide +kernel
theorem dX3_pairs_22 : decode (mC mX3_pairs) 22 = .ok (.imul, 1) := by decide +kernel
theorem dX3_pairs_23 : decode (mC mX3_pairs) 23 = .ok (.iadd, 1) := by decide +kernel
theorem dX3_pairs_24 : decode (mC mX3_pairs) 24 = .ok (.istore_n 1, 1) := by decide +kernel
theorem dX3_pairs_25 : decode (mC mX3_pairs) 25 = .ok (.iinc 2 1, 3) := by decide +kernel
theorem dX3_pairs_28 : decode (mC mX3_pairs) 28 = .ok (.goto (-24), 3) := by decide +kernel
theorem dX3_pairs_31 : decode (mC mX3_pairs) 31 = .ok (.iload_n 1, 1) := by decide +kernel
theorem dX3_pairs_32 : decode (mC mX3_pairs) 32 = .ok (.ireturn, 1) := by decide +kernel
set_option maxRecDepth 100000 in
theorem bX3_pairs_0 {sc : Nat × (Nat → Int32)} {h : jH} {Q : jQ} {t : Nat} (t_h : jI3 t)
    (v1 : WP mX3_pairs Q 4 [some (.ref t), some (.int 0), some (.int 0)] [] (jG0 sc) h (0, 0)) :
    WP mX3_pairs Q 0 [some (.ref t), none, none] [] (jG0 sc) h (0, 0) := by
  obtain ⟨t_lt6, t_K0, t_R0_0, t_K1, t_L1, t_R0_1, t_K2, t_L2, t_R0_2, t_K3, t_L3, t_R0_3, t_K4, t_L4, t_R0_4, t_K5, t_L5, t_R0_5, t_K6, t_L6⟩ := t_h
  have t_lt5 : t + 5 < jN (jG0 sc) := Nat.lt_of_succ_lt t_lt6
  have t_lt4 : t + 4 < jN (jG0 sc) := Nat.lt_of_succ_lt t_lt5
  have t_lt3 : t + 3 < jN (jG0 sc) := Nat.lt_of_succ_lt t_lt4
  have t_lt2 : t + 2 < jN (jG0 sc) := Nat.lt_of_succ_lt t_lt3
  have t_lt1 : t + 1 < jN (jG0 sc) := Nat.lt_of_succ_lt t_lt2
  have t_lt0 : t + 0 < jN (jG0 sc) := Nat.lt_of_succ_lt t_lt1
  refine j_iconst (n := 0) 0 (by decide) dX3_pairs_0 ?_
  refine j_istore_n (i := 1) dX3_pairs_1 (Nat.le_of_ble_eq_true rfl) ?_
  refine j_iconst (n := 0) 0 (by decide) dX3_pairs_2 ?_
  refine j_istore_n (i := 2) dX3_pairs_3 (Nat.le_of_ble_eq_true rfl) ?_
  exact j_le [some (.ref t), some (.int 0), some (.int 0)] (And.intro rfl (And.intro rfl (And.intro rfl True.intro))) v1
set_option maxRecDepth 100000 in
theorem bX3_pairs_4 {sc : Nat × (Nat → Int32)} {h : jH} {Q : jQ} {t : Nat} {l1 l2 : Int32} (t_h : jI3 t)
    (v1 : 10 ≤ l2 → WP mX3_pairs Q 31 [some (.ref t), some (.int l1), some (.int l2)] [] (jG0 sc) h (0, 0))
    (v2 : ¬ 10 ≤ l2 → WP mX3_pairs Q 10 [some (.ref t), some (.int l1), some (.int l2)] [] (jG0 sc) h (0, 0)) :
    WP mX3_pairs Q 4 [some (.ref t), some (.int l1), some (.int l2)] [] (jG0 sc) h (0, 0) := by
  obtain ⟨t_lt6, t_K0, t_R0_0, t_K1, t_L1, t_R0_1, t_K2, t_L2, t_R0_2, t_K3, t_L3, t_R0_3, t_K4, t_L4, t_R0_4, t_K5, t_L5, t_R0_5, t_K6, t_L6⟩ := t_h
  have t_lt5 : t + 5 < jN (jG0 sc) := Nat.lt_of_succ_lt t_lt6
  have t_lt4 : t + 4 < jN (jG0 sc) := Nat.lt_of_succ_lt t_lt5
  have t_lt3 : t + 3 < jN (jG0 sc) := Nat.lt_of_succ_lt t_lt4
  have t_lt2 : t + 2 < jN (jG0 sc) := Nat.lt_of_succ_lt t_lt3
  have t_lt1 : t + 1 < jN (jG0 sc) := Nat.lt_of_succ_lt t_lt2
  have t_lt0 : t + 0 < jN (jG0 sc) := Nat.lt_of_succ_lt t_lt1
  refine j_iload_n (i := 2) rfl dX3_pairs_4 ?_
  refine j_bipush (n := 10) 10 (by decide) dX3_pairs_5 ?_
  refine j_icmp_ge (off := 24) 31 dX3_pairs_7 (by decide) (fun c1 => ?_) (fun c1 => ?_)
  · exact j_le [some (.ref t), some (.int l1), some (.int l2)] (And.intro rfl (And.intro rfl (And.intro rfl True.intro))) (v1 c1)
  · exact j_le [some (.ref t), some (.int l1), some (.int l2)] (And.intro rfl (And.intro rfl (And.intro rfl True.intro))) (v2 c1)
set_option maxRecDepth 100000 in
theorem bX3_pairs_10 {sc : Nat × (Nat → Int32)} {h : jH} {Q : jQ} {t : Nat} {l1 l2 : Int32} {P1 : Int32 → jH → Prop} (t_h : jI3 t)
    (o1 : vp_in l2 10)
    (k1 : JM mX3_plainBehind [.ref t, .int l2] (jG0 sc) h (jint sc P1))
    (v1 : ∀ (x1 : Int32) (h1 : jH), P1 x1 h1 → WP mX3_pairs Q 4 [some (.ref t), some (.int (l1 + ((h (t + 6) l2.toNatClampNeg) * x1))), some (.int (l2 + 1))] [] (jG0 sc) h1 (0, 0)) :
    WP mX3_pairs Q 10 [some (.ref t), some (.int l1), some (.int l2)] [] (jG0 sc) h (0, 0) := by
  obtain ⟨t_lt6, t_K0, t_R0_0, t_K1, t_L1, t_R0_1, t_K2, t_L2, t_R0_2, t_K3, t_L3, t_R0_3, t_K4, t_L4, t_R0_4, t_K5, t_L5, t_R0_5, t_K6, t_L6⟩ := t_h
  have t_lt5 : t + 5 < jN (jG0 sc) := Nat.lt_of_succ_lt t_lt6
  have t_lt4 : t + 4 < jN (jG0 sc) := Nat.lt_of_succ_lt t_lt5
  have t_lt3 : t + 3 < jN (jG0 sc) := Nat.lt_of_succ_lt t_lt4
  have t_lt2 : t + 2 < jN (jG0 sc) := Nat.lt_of_succ_lt t_lt3
  have t_lt1 : t + 1 < jN (jG0 sc) := Nat.lt_of_succ_lt t_lt2
  have t_lt0 : t + 0 < jN (jG0 sc) := Nat.lt_of_succ_lt t_lt1
  refine j_iload_n (i := 1) rfl dX3_pairs_10 ?_
  refine j_aload_n (i := 0) rfl dX3_pairs_11 ?_
  refine j_getR (idx := 27) (ci := 3) (k := 5) (nest := false) (show (3, 27, 3, 5, false) ∈ jFT by decide) rfl (t_lt0) t_K0 (a := (t + 6)) t_R0_5 dX3_pairs_12 ?_
  refine j_iload_n (i := 2) rfl dX3_pairs_15 ?_
  refine j_iald (t_lt6) t_K6 (by rw [show jL (jG0 sc) (t + 6) = 10 from t_L6]; exact o1) dX3_pairs_16 ?_
  refine j_aload_n (i := 0) rfl dX3_pairs_17 ?_
  refine j_iload_n (i := 2) rfl dX3_pairs_18 ?_
  refine j_callV (idx := 103) (As := [.int l2]) (ci := 3) (n := 1) k1 jint_nt (jlkT (jtb2 211 rfl) rfl) sX3_plainBehind kX3_plainBehind rfl ⟨rfl, by decide +kernel, by decide +kernel, by decide +kernel⟩ rfl ⟨by decide, by decide⟩ (t_lt0) t_K0 (Nat.le_of_ble_eq_true rfl) (Nat.le_of_ble_eq_true rfl) ⟨Nat.zero_le _, Nat.zero_le _⟩ dX3_pairs_19 (fun r Γ' h1 q => ?_)
  obtain ⟨x1, q0, rfl, p1⟩ := q; cases q0
  refine j_eqst [.int x1, .int (h (t + 6) l2.toNatClampNeg), .int l1] (by rfl) ?_
  refine j_imul dX3_pairs_22 ?_
  refine j_iadd dX3_pairs_23 ?_
  refine j_istore_n (i := 1) dX3_pairs_24 (Nat.le_of_ble_eq_true rfl) ?_
  refine j_iinc (i := 2) (n := 1) rfl dX3_pairs_25 (Nat.le_of_ble_eq_true rfl) ?_
  refine j_eqlv [some (.ref t), some (.int (l1 + ((h (t + 6) l2.toNatClampNeg) * x1))), some (.int (l2 + 1))] rfl ?_
  refine j_goto (off := -24) 4 dX3_pairs_28 (by decide) ?_
  exact j_le [some (.ref t), some (.int (l1 + ((h (t + 6) l2.toNatClampNeg) * x1))), some (.int (l2 + 1))] (And.intro rfl (And.intro rfl (And.intro rfl True.intro))) (v1 x1 h1 p1)
set_option maxRecDepth 100000 in
theorem bX3_pairs_31 {sc : Nat × (Nat → Int32)} {h : jH} {Q : jQ} {t : Nat} {l1 l2 : Int32} (t_h : jI3 t)
    (v1 : Q (.inl (some (.int l1))) (jG0 sc) h) :
    WP mX3_pairs Q 31 [some (.ref t), some (.int l1), some (.int l2)] [] (jG0 sc) h (0, 0) := by
  obtain ⟨t_lt6, t_K0, t_R0_0, t_K1, t_L1, t_R0_1, t_K2, t_L2, t_R0_2, t_K3, t_L3, t_R0_3, t_K4, t_L4, t_R0_4, t_K5, t_L5, t_R0_5, t_K6, t_L6⟩ := t_h
  have t_lt5 : t + 5 < jN (jG0 sc) := Nat.lt_of_succ_lt t_lt6
  have t_lt4 : t + 4 < jN (jG0 sc) := Nat.lt_of_succ_lt t_lt5
  have t_lt3 : t + 3 < jN (jG0 sc) := Nat.lt_of_succ_lt t_lt4
  have t_lt2 : t + 2 < jN (jG0 sc) := Nat.lt_of_succ_lt t_lt3
  have t_lt1 : t + 1 < jN (jG0 sc) := Nat.lt_of_succ_lt t_lt2
  have t_lt0 : t + 0 < jN (jG0 sc) := Nat.lt_of_succ_lt t_lt1
  refine j_iload_n (i := 1) rfl dX3_pairs_31 ?_
  exact j_iret rfl rfl (Nat.zero_le _) (Nat.zero_le _) dX3_pairs_32 v1
set_option maxRecDepth 100000 in
theorem rX3_pairs_0 {sc : Nat × (Nat → Int32)} {h : jH} {Q : jQ} {t : Nat} (t_h : jI3 t)
    (v1 : WP mX3_pairs Q 4 [some (.ref t), some (.int 0), some (.int 0)] [] (jG0 sc) h (0, 0)) :
    WP mX3_pairs Q 0 [some (.ref t), none, none] [] (jG0 sc) h (0, 0) := by
  exact (bX3_pairs_0 t_h v1)
set_option maxRecDepth 100000 in
theorem rX3_pairs_4 {sc : Nat × (Nat → Int32)} {h : jH} {Q : jQ} {t : Nat} {l1 l2 : Int32} {P1 : Int32 → jH → Prop} (t_h : jI3 t)
    (v1 : 10 ≤ l2 → Q (.inl (some (.int l1))) (jG0 sc) h)
    (o1 : ¬ 10 ≤ l2 → vp_in l2 10)
    (k1 : ¬ 10 ≤ l2 → JM mX3_plainBehind [.ref t, .int l2] (jG0 sc) h (jint sc P1))
    (v2 : ¬ 10 ≤ l2 → ∀ (x1 : Int32) (h1 : jH), P1 x1 h1 → WP mX3_pairs Q 4 [some (.ref t), some (.int (l1 + ((h (t + 6) l2.toNatClampNeg) * x1))), some (.int (l2 + 1))] [] (jG0 sc) h1 (0, 0)) :
    WP mX3_pairs Q 4 [some (.ref t), some (.int l1), some (.int l2)] [] (jG0 sc) h (0, 0) := by
  exact (bX3_pairs_4 t_h (fun c1 => (bX3_pairs_31 t_h (v1 c1))) (fun c1 => (bX3_pairs_10 t_h (o1 c1) (k1 c1) (fun x1 h1 p1 => (v2 c1 x1 h1 p1)))))
theorem dX3_part_0 : decode (mC mX3_part) 0 = .ok (.aload_n 0, 1) := by decide +kernel
theorem dX3_part_1 : decode (mC mX3_part) 1 = .ok (.iconst (-1), 1) := by decide +kernel
theorem dX3_part_2 : decode (mC mX3_part) 2 = .ok (.putfield 30, 3) := by decide +kernel
theorem dX3_part_5 : decode (mC mX3_part) 5 = .ok (.aload_n 0, 1) := by decide +kernel
theorem dX3_part_6 : decode (mC mX3_part) 6 = .ok (.iconst (-1), 1) := by decide +kernel
theorem dX3_part_7 : decode (mC mX3_part) 7 = .ok (.putfield 34, 3) := by decide +kernel
theorem dX3_part_10 : decode (mC mX3_part) 10 = .ok (.iload_n 1, 1) := by decide +kernel
theorem dX3_part_11 : decode (mC mX3_part) 11 = .ok (.ifCond .lt 18, 3) := by decide +kernel
theorem dX3_part_14 : decode (mC mX3_part) 14 = .ok (.iload_n 1, 1) := by decide +kernel
theorem dX3_part_15 : decode (mC mX3_part) 15 = .ok (.aload_n 0, 1) := by decide +kernel
theorem dX3_part_16 : decode (mC mX3_part) 16 = .ok (.getfield 37, 3) := by decide +kernel
theorem dX3_part_19 : decode (mC mX3_part) 19 = .ok (.if_icmp .ge 10, 3) := by decide +kernel
theorem dX3_part_22 : decode (mC mX3_part) 22 = .ok (.aload_n 0, 1) := by decide +kernel
theorem dX3_part_23 : decode (mC mX3_part) 23 = .ok (.iload_n 1, 1) := by decide +kernel
theorem dX3_part_24 : decode (mC mX3_part) 24 = .ok (.putfield 30, 3) := by decide +kernel
theorem dX3_part_27 : decode (mC mX3_part) 27 = .ok (.iconst 1, 1) := by decide +kernel
theorem dX3_part_28 : decode (mC mX3_part) 28 = .ok (.ireturn, 1) := by decide +kernel
theorem dX3_part_29 : decode (mC mX3_part) 29 = .ok (.iload_n 1, 1) := by decide +kernel
theorem dX3_part_30 : decode (mC mX3_part) 30 = .ok (.aload_n 0, 1) := by decide +kernel
theorem dX3_part_31 : decode (mC mX3_part) 31 = .ok (.getfield 37, 3) := by decide +kernel
theorem dX3_part_34 : decode (mC mX3_part) 34 = .ok (.isub, 1) := by decide +kernel
theorem dX3_part_35 : decode (mC mX3_part) 35 = .ok (.istore_n 2, 1) := by decide +kernel
theorem dX3_part_36 : decode (mC mX3_part) 36 = .ok (.iconst 0, 1) := by decide +kernel
theorem dX3_part_37 : decode (mC mX3_part) 37 = .ok (.istore_n 3, 1) := by decide +kernel
theorem dX3_part_38 : decode (mC mX3_part) 38 = .ok (.iload_n 3, 1) := by decide +kernel
theorem dX3_part_39 : decode (mC mX3_part) 39 = .ok (.bipush 10, 2) := by decide +kernel
theorem dX3_part_41 : decode (mC mX3_part) 41 = .ok (.if_icmp .ge 80, 3) := by decide +kernel
theorem dX3_part_44 : decode (mC mX3_part) 44 = .ok (.iload_n 2, 1) := by decide +kernel
theorem dX3_part_45 : decode (mC mX3_part) 45 = .ok (.ifCond .lt 76, 3) := by decide +kernel
theorem dX3_part_48 : decode (mC mX3_part) 48 = .ok (.aload_n 0, 1) := by decide +kernel
theorem dX3_part_49 : decode (mC mX3_part) 49 = .ok (.iload_n 3, 1) := by decide +kernel
theorem dX3_part_50 : decode (mC mX3_part) 50 = .ok (.invokevirtual 103, 3) := by decide +kernel
theorem dX3_part_53 : decode (mC mX3_part) 53 = .ok (.istore 4, 2) := by decide +kernel
theorem dX3_part_55 : decode (mC mX3_part) 55 = .ok (.iload 4, 2) := by decide +kernel
theorem dX3_part_57 : decode (mC mX3_part) 57 = .ok (.ifCond .le 46, 3) := by decide +kernel
theorem dX3_part_60 : decode (mC mX3_part) 60 = .ok (.iload_n 2, 1) := by decide +kernel
theorem dX3_part_61 : decode (mC mX3_part) 61 = .ok (.aload_n 0, 1) := by decide +kernel
theorem dX3_part_62 : decode (mC mX3_part) 62 = .ok (.getfield 27, 3) := by decide +kernel
theorem dX3_part_65 : decode (mC mX3_part) 65 = .ok (.iload_n 3, 1) := by decide +kernel
theorem dX3_part_66 : decode (mC mX3_part) 66 = .ok (.iaload, 1) := by decide +kernel
theorem dX3_part_67 : decode (mC mX3_part) 67 = .ok (.iload 4, 2) := by decide +kernel
theorem dX3_part_69 : decode (mC mX3_part) 69 = .ok (.imul, 1) := by decide +kernel
theorem dX3_part_70 : decode (mC mX3_part) 70 = .ok (.if_icmp .ge 33, 3) := by decide +kernel
theorem dX3_part_73 : decode (mC mX3_part) 73 = .ok (.aload_n 0, 1) := by decide +kernel
theorem dX3_part_74 : decode (mC mX3_part) 74 = .ok (.aload_n 0, 1) := by decide +kernel
theorem dX3_part_75 : decode (mC mX3_part) 75 = .ok (.iload_n 3, 1) := by decide +kernel
theorem dX3_part_76 : decode (mC mX3_part) 76 = .ok (.iload_n 2, 1) := by decide +kernel
theorem dX3_part_77 : decode (mC mX3_part) 77 = .ok (.iload 4, 2) := by decide +kernel
theorem dX3_part_79 : decode (mC mX3_part) 79 = .ok (.idiv, 1) := by decide +kernel
theorem dX3_part_80 : decode (mC mX3_part) 80 = .ok (.invokevirtual 106, 3) := by decide +kernel
theorem dX3_part_83 : decode (mC mX3_part) 83 = .ok (.putfield 30, 3) := by decide +kernel
theorem dX3_part_86 : decode (mC mX3_part) 86 = .ok (.aload_n 0, 1) := by decide +kernel
theorem dX3_part_87 : decode (mC mX3_part) 87 = .ok (.aload_n 0, 1) := by decide +kernel
theorem dX3_part_88 : decode (mC mX3_part) 88 = .ok (.iload_n 3, 1) := by decide +kernel
theorem dX3_part_89 : decode (mC mX3_part) 89 = .ok (.iconst 1, 1) := by decide +kernel
theorem dX3_part_90 : decode (mC mX3_part) 90 = .ok (.iadd, 1) := by decide +kernel
theorem dX3_part_91 : decode (mC mX3_part) 91 = .ok (.iload_n 2, 1) := by decide +kernel
theorem dX3_part_92 : decode (mC mX3_part) 92 = .ok (.iload 4, 2) := by decide +kernel
theorem dX3_part_94 : decode (mC mX3_part) 94 = .ok (.irem, 1) := by decide +kernel
theorem dX3_part_95 : decode (mC mX3_part) 95 = .ok (.invokevirtual 106, 3) := by decide +kernel
theorem dX3_part_98 : decode (mC mX3_part) 98 = .ok (.putfield 34, 3) := by decide +kernel
theorem dX3_part_101 : decode (mC mX3_part) 101 = .ok (.iconst 1, 1) := by decide +kernel
theorem dX3_part_102 : decode (mC mX3_part) 102 = .ok (.ireturn, 1) := by decide +kernel
theorem dX3_part_103 : decode (mC mX3_part) 103 = .ok (.iload_n 2, 1) := by decide +kernel
theorem dX3_part_104 : decode (mC mX3_part) 104 = .ok (.aload_n 0, 1) := by decide +kernel
theorem dX3_part_105 : decode (mC mX3_part) 105 = .ok (.getfield 27, 3) := by decide +kernel
theorem dX3_part_108 : decode (mC mX3_part) 108 = .ok (.iload_n 3, 1) := by decide +kernel
theorem dX3_part_109 : decode (mC mX3_part) 109 = .ok (.iaload, 1) := by decide +kernel
theorem dX3_part_110 : decode (mC mX3_part) 110 = .ok (.iload 4, 2) := by decide +kernel
theorem dX3_part_112 : decode (mC mX3_part) 112 = .ok (.imul, 1) := by decide +kernel
theorem dX3_part_113 : decode (mC mX3_part) 113 = .ok (.isub, 1) := by decide +kernel
theorem dX3_part_114 : decode (mC mX3_part) 114 = .ok (.istore_n 2, 1) := by decide +kernel
theorem dX3_part_115 : decode (mC mX3_part) 115 = .ok (.iinc 3 1, 3) := by decide +kernel
theorem dX3_part_118 : decode (mC mX3_part) 118 = .ok (.goto (-80), 3) := by decide +kernel
theorem dX3_part_121 : decode (mC mX3_part) 121 = .ok (.iconst 0, 1) := by decide +kernel
theorem dX3_part_122 : decode (mC mX3_part) 122 = .ok (.ireturn, 1) := by decide +kernel
set_option maxRecDepth 100000 in
theorem bX3_part_0 {sc : Nat × (Nat → Int32)} {h : jH} {Q : jQ} {t : Nat} {l1 : Int32} (t_h : jI3 t)
    (v1 : l1 < 0 → WP mX3_part Q 29 [some (.ref t), some (.int l1), none, none, none] [] (jG0 sc) (jput (jput h t 7 (-1)) t 8 (-1)) (0, 0))
    (v2 : ¬ l1 < 0 → WP mX3_part Q 14 [some (.ref t), some (.int l1), none, none, none] [] (jG0 sc) (jput (jput h t 7 (-1)) t 8 (-1)) (0, 0)) :
    WP mX3_part Q 0 [some (.ref t), some (.int l1), none, none, none] [] (jG0 sc) h (0, 0) := by
  obtain ⟨t_lt6, t_K0, t_R0_0, t_K1, t_L1, t_R0_1, t_K2, t_L2, t_R0_2, t_K3, t_L3, t_R0_3, t_K4, t_L4, t_R0_4, t_K5, t_L5, t_R0_5, t_K6, t_L6⟩ := t_h
  have t_lt5 : t + 5 < jN (jG0 sc) := Nat.lt_of_succ_lt t_lt6
  have t_lt4 : t + 4 < jN (jG0 sc) := Nat.lt_of_succ_lt t_lt5
  have t_lt3 : t + 3 < jN (jG0 sc) := Nat.lt_of_succ_lt t_lt4
  have t_lt2 : t + 2 < jN (jG0 sc) := Nat.lt_of_succ_lt t_lt3
  have t_lt1 : t + 1 < jN (jG0 sc) := Nat.lt_of_succ_lt t_lt2
  have t_lt0 : t + 0 < jN (jG0 sc) := Nat.lt_of_succ_lt t_lt1
  refine j_aload_n (i := 0) rfl dX3_part_0 ?_
  refine j_iconst (n := (-1)) (-1) (by decide) dX3_part_1 ?_
  refine j_putI (idx := 30) (ci := 3) (k := 7) (nest := false) (show (3, 30, 3, 7, false) ∈ jFT by decide) rfl rfl rfl rfl (t_lt0) t_K0 dX3_part_2 ?_
  refine j_aload_n (i := 0) rfl dX3_part_5 ?_
  refine j_iconst (n := (-1)) (-1) (by decide) dX3_part_6 ?_
  refine j_putI (idx := 34) (ci := 3) (k := 8) (nest := false) (show (3, 34, 3, 8, false) ∈ jFT by decide) rfl rfl rfl rfl (t_lt0) t_K0 dX3_part_7 ?_
  refine j_iload_n (i := 1) rfl dX3_part_10 ?_
  refine j_if_lt (off := 18) 29 dX3_part_11 (by decide) (fun c1 => ?_) (fun c1 => ?_)
  · exact j_le [some (.ref t), some (.int l1), none, none, none] (And.intro rfl (And.intro rfl True.intro)) (v1 c1)
  · exact j_le [some (.ref t), some (.int l1), none, none, none] (And.intro rfl (And.intro rfl True.intro)) (v2 c1)
set_option maxRecDepth 100000 in
theorem bX3_part_14 {sc : Nat × (Nat → Int32)} {h : jH} {Q : jQ} {t : Nat} {l1 : Int32} (t_h : jI3 t)
    (v1 : (h t 6) ≤ l1 → WP mX3_part Q 29 [some (.ref t), some (.int l1), none, none, none] [] (jG0 sc) h (0, 0))
    (v2 : ¬ (h t 6) ≤ l1 → WP mX3_part Q 22 [some (.ref t), some (.int l1), none, none, none] [] (jG0 sc) h (0, 0)) :
    WP mX3_part Q 14 [some (.ref t), some (.int l1), none, none, none] [] (jG0 sc) h (0, 0) := by
  obtain ⟨t_lt6, t_K0, t_R0_0, t_K1, t_L1, t_R0_1, t_K2, t_L2, t_R0_2, t_K3, t_L3, t_R0_3, t_K4, t_L4, t_R0_4, t_K5, t_L5, t_R0_5, t_K6, t_L6⟩ := t_h
  have t_lt5 : t + 5 < jN (jG0 sc) := Nat.lt_of_succ_lt t_lt6
  have t_lt4 : t + 4 < jN (jG0 sc) := Nat.lt_of_succ_lt t_lt5
  have t_lt3 : t + 3 < jN (jG0 sc) := Nat.lt_of_succ_lt t_lt4
  have t_lt2 : t + 2 < jN (jG0 sc) := Nat.lt_of_succ_lt t_lt3
  have t_lt1 : t + 1 < jN (jG0 sc) := Nat.lt_of_succ_lt t_lt2
  have t_lt0 : t + 0 < jN (jG0 sc) := Nat.lt_of_succ_lt t_lt1
  refine j_iload_n (i := 1) rfl dX3_part_14 ?_
  refine j_aload_n (i := 0) rfl dX3_part_15 ?_
  refine j_getI (idx := 37) (ci := 3) (k := 6) (nest := false) (show (3, 37, 3, 6, false) ∈ jFT by decide) rfl (t_lt0) t_K0 dX3_part_16 ?_
  refine j_icmp_ge (off := 10) 29 dX3_part_19 (by decide) (fun c1 => ?_) (fun c1 => ?_)
  · exact j_le [some (.ref t), some (.int l1), none, none, none] (And.intro rfl (And.intro rfl True.intro)) (v1 c1)
  · exact j_le [some (.ref t), some (.int l1), none, none, none] (And.intro rfl (And.intro rfl True.intro)) (v2 c1)
set_option maxRecDepth 100000 in
theorem bX3_part_22 {sc : Nat × (Nat → Int32)} {h : jH} {Q : jQ} {t : Nat} {l1 : Int32} (t_h : jI3 t)
    (v1 : Q (.inl (some (.int 1))) (jG0 sc) (jput h t 7 l1)) :
    WP mX3_part Q 22 [some (.ref t), some (.int l1), none, none, none] [] (jG0 sc) h (0, 0) := by
  obtain ⟨t_lt6, t_K0, t_R0_0, t_K1, t_L1, t_R0_1, t_K2, t_L2, t_R0_2, t_K3, t_L3, t_R0_3, t_K4, t_L4, t_R0_4, t_K5, t_L5, t_R0_5, t_K6, t_L6⟩ := t_h
  have t_lt5 : t + 5 < jN (jG0 sc) := Nat.lt_of_succ_lt t_lt6
  have t_lt4 : t + 4 < jN (jG0 sc) := Nat.lt_of_succ_lt t_lt5
  have t_lt3 : t + 3 < jN (jG0 sc) := Nat.lt_of_succ_lt t_lt4
  have t_lt2 : t + 2 < jN (jG0 sc) := Nat.lt_of_succ_lt t_lt3
  have t_lt1 : t + 1 < jN (jG0 sc) := Nat.lt_of_succ_lt t_lt2
  have t_lt0 : t + 0 < jN (jG0 sc) := Nat.lt_of_succ_lt t_lt1
  refine j_aload_n (i := 0) rfl dX3_part_22 ?_
  refine j_iload_n (i := 1) rfl dX3_part_23 ?_
  refine j_putI (idx := 30) (ci := 3) (k := 7) (nest := false) (show (3, 30, 3, 7, false) ∈ jFT by decide) rfl rfl rfl rfl (t_lt0) t_K0 dX3_part_24 ?_
  refine j_iconst (n := 1) 1 (by decide) dX3_part_27 ?_
  exact j_iret rfl rfl (Nat.zero_le _) (Nat.zero_le _) dX3_part_28 v1
set_option maxRecDepth 100000 in
theorem bX3_part_29 {sc : Nat × (Nat → Int32)} {h : jH} {Q : jQ} {t : Nat} {l1 : Int32} (t_h : jI3 t)
    (v1 : WP mX3_part Q 38 [some (.ref t), some (.int l1), some (.int (l1 - (h t 6))), some (.int 0), none] [] (jG0 sc) h (0, 0)) :
    WP mX3_part Q 29 [some (.ref t), some (.int l1), none, none, none] [] (jG0 sc) h (0, 0) := by
  obtain ⟨t_lt6, t_K0, t_R0_0, t_K1, t_L1, t_R0_1, t_K2, t_L2, t_R0_2, t_K3, t_L3, t_R0_3, t_K4, t_L4, t_R0_4, t_K5, t_L5, t_R0_5, t_K6, t_L6⟩ := t_h
  have t_lt5 : t + 5 < jN (jG0 sc) := Nat.lt_of_succ_lt t_lt6
  have t_lt4 : t + 4 < jN (jG0 sc) := Nat.lt_of_succ_lt t_lt5
  have t_lt3 : t + 3 < jN (jG0 sc) := Nat.lt_of_succ_lt t_lt4
  have t_lt2 : t + 2 < jN (jG0 sc) := Nat.lt_of_succ_lt t_lt3
  have t_lt1 : t + 1 < jN (jG0 sc) := Nat.lt_of_succ_lt t_lt2
  have t_lt0 : t + 0 < jN (jG0 sc) := Nat.lt_of_succ_lt t_lt1
  refine j_iload_n (i := 1) rfl dX3_part_29 ?_
  refine j_aload_n (i := 0) rfl dX3_part_30 ?_
  refine j_getI (idx := 37) (ci := 3) (k := 6) (nest := false) (show (3, 37, 3, 6, false) ∈ jFT by decide) rfl (t_lt0) t_K0 dX3_part_31 ?_
  refine j_isub dX3_part_34 ?_
  refine j_istore_n (i := 2) dX3_part_35 (Nat.le_of_ble_eq_true rfl) ?_
  refine j_iconst (n := 0) 0 (by decide) dX3_part_36 ?_
  refine j_istore_n (i := 3) dX3_part_37 (Nat.le_of_ble_eq_true rfl) ?_
  exact j_le [some (.ref t), some (.int l1), some (.int (l1 - (h t 6))), some (.int 0), none] (And.intro rfl (And.intro rfl (And.intro rfl (And.intro rfl True.intro)))) v1
set_option maxRecDepth 100000 in
theorem bX3_part_38 {sc : Nat × (Nat → Int32)} {h : jH} {Q : jQ} {t : Nat} {l1 l2 l3 : Int32} (t_h : jI3 t)
    (v1 : 10 ≤ l3 → WP mX3_part Q 121 [some (.ref t), some (.int l1), some (.int l2), some (.int l3), none] [] (jG0 sc) h (0, 0))
    (v2 : ¬ 10 ≤ l3 → WP mX3_part Q 44 [some (.ref t), some (.int l1), some (.int l2), some (.int l3), none] [] (jG0 sc) h (0, 0)) :
    WP mX3_part Q 38 [some (.ref t), some (.int l1), some (.int l2), some (.int l3), none] [] (jG0 sc) h (0, 0) := by
  obtain ⟨t_lt6, t_K0, t_R0_0, t_K1, t_L1, t_R0_1, t_K2, t_L2, t_R0_2, t_K3, t_L3, t_R0_3, t_K4, t_L4, t_R0_4, t_K5, t_L5, t_R0_5, t_K6, t_L6⟩ := t_h
  have t_lt5 : t + 5 < jN (jG0 sc) := Nat.lt_of_succ_lt t_lt6
  have t_lt4 : t + 4 < jN (jG0 sc) := Nat.lt_of_succ_lt t_lt5
  have t_lt3 : t + 3 < jN (jG0 sc) := Nat.lt_of_succ_lt t_lt4
  have t_lt2 : t + 2 < jN (jG0 sc) := Nat.lt_of_succ_lt t_lt3
  have t_lt1 : t + 1 < jN (jG0 sc) := Nat.lt_of_succ_lt t_lt2
  have t_lt0 : t + 0 < jN (jG0 sc) := Nat.lt_of_succ_lt t_lt1
  refine j_iload_n (i := 3) rfl dX3_part_38 ?_
  refine j_bipush (n := 10) 10 (by decide) dX3_part_39 ?_
  refine j_icmp_ge (off := 80) 121 dX3_part_41 (by decide) (fun c1 => ?_) (fun c1 => ?_)
  · exact j_le [some (.ref t), some (.int l1), some (.int l2), some (.int l3), none] (And.intro rfl (And.intro rfl (And.intro rfl (And.intro rfl True.intro)))) (v1 c1)
  · exact j_le [some (.ref t), some (.int l1), some (.int l2), some (.int l3), none] (And.intro rfl (And.intro rfl (And.intro rfl (And.intro rfl True.intro)))) (v2 c1)
set_option maxRecDepth 100000 in
theorem bX3_part_44 {sc : Nat × (Nat → Int32)} {h : jH} {Q : jQ} {t : Nat} {l1 l2 l3 : Int32} (t_h : jI3 t)
    (v1 : l2 < 0 → WP mX3_part Q 121 [some (.ref t), some (.int l1), some (.int l2), some (.int l3), none] [] (jG0 sc) h (0, 0))
    (v2 : ¬ l2 < 0 → WP mX3_part Q 48 [some (.ref t), some (.int l1), some (.int l2), some (.int l3), none] [] (jG0 sc) h (0, 0)) :
    WP mX3_part Q 44 [some (.ref t), some (.int l1), some (.int l2), some (.int l3), none] [] (jG0 sc) h (0, 0) := by
  obtain ⟨t_lt6, t_K0, t_R0_0, t_K1, t_L1, t_R0_1, t_K2, t_L2, t_R0_2, t_K3, t_L3, t_R0_3, t_K4, t_L4, t_R0_4, t_K5, t_L5, t_R0_5, t_K6, t_L6⟩ := t_h
  have t_lt5 : t + 5 < jN (jG0 sc) := Nat.lt_of_succ_lt t_lt6
  have t_lt4 : t + 4 < jN (jG0 sc) := Nat.lt_of_succ_lt t_lt5
  have t_lt3 : t + 3 < jN (jG0 sc) := Nat.lt_of_succ_lt t_lt4
  have t_lt2 : t + 2 < jN (jG0 sc) := Nat.lt_of_succ_lt t_lt3
  have t_lt1 : t + 1 < jN (jG0 sc) := Nat.lt_of_succ_lt t_lt2
  have t_lt0 : t + 0 < jN (jG0 sc) := Nat.lt_of_succ_lt t_lt1
  refine j_iload_n (i := 2) rfl dX3_part_44 ?_
  refine j_if_lt (off := 76) 121 dX3_part_45 (by decide) (fun c1 => ?_) (fun c1 => ?_)
  · exact j_le [some (.ref t), some (.int l1), some (.int l2), some (.int l3), none] (And.intro rfl (And.intro rfl (And.intro rfl (And.intro rfl True.intro)))) (v1 c1)
  · exact j_le [some (.ref t), some (.int l1), some (.int l2), some (.int l3), none] (And.intro rfl (And.intro rfl (And.intro rfl (And.intro rfl True.intro)))) (v2 c1)
set_option maxRecDepth 100000 in
theorem bX3_part_48 {sc : Nat × (Nat → Int32)} {h : jH} {Q : jQ} {t : Nat} {l1 l2 l3 : Int32} {P1 : Int32 → jH → Prop} (t_h : jI3 t)
    (k1 : JM mX3_plainBehind [.ref t, .int l3] (jG0 sc) h (jint sc P1))
    (v1 : ∀ (x1 : Int32) (h1 : jH), P1 x1 h1 → x1 ≤ 0 → WP mX3_part Q 103 [some (.ref t), some (.int l1), some (.int l2), some (.int l3), some (.int x1)] [] (jG0 sc) h1 (0, 0))
    (v2 : ∀ (x1 : Int32) (h1 : jH), P1 x1 h1 → ¬ x1 ≤ 0 → WP mX3_part Q 60 [some (.ref t), some (.int l1), some (.int l2), some (.int l3), some (.int x1)] [] (jG0 sc) h1 (0, 0)) :
    WP mX3_part Q 48 [some (.ref t), some (.int l1), some (.int l2), some (.int l3), none] [] (jG0 sc) h (0, 0) := by
  obtain ⟨t_lt6, t_K0, t_R0_0, t_K1, t_L1, t_R0_1, t_K2, t_L2, t_R0_2, t_K3, t_L3, t_R0_3, t_K4, t_L4, t_R0_4, t_K5, t_L5, t_R0_5, t_K6, t_L6⟩ := t_h
  have t_lt5 : t + 5 < jN (jG0 sc) := Nat.lt_of_succ_lt t_lt6
  have t_lt4 : t + 4 < jN (jG0 sc) := Nat.lt_of_succ_lt t_lt5
  have t_lt3 : t + 3 < jN (jG0 sc) := Nat.lt_of_succ_lt t_lt4
  have t_lt2 : t + 2 < jN (jG0 sc) := Nat.lt_of_succ_lt t_lt3
  have t_lt1 : t + 1 < jN (jG0 sc) := Nat.lt_of_succ_lt t_lt2
  have t_lt0 : t + 0 < jN (jG0 sc) := Nat.lt_of_succ_lt t_lt1
  refine j_aload_n (i := 0) rfl dX3_part_48 ?_
  refine j_iload_n (i := 3) rfl dX3_part_49 ?_
  refine j_callV (idx := 103) (As := [.int l3]) (ci := 3) (n := 1) k1 jint_nt (jlkT (jtb2 211 rfl) rfl) sX3_plainBehind kX3_plainBehind rfl ⟨rfl, by decide +kernel, by decide +kernel, by decide +kernel⟩ rfl ⟨by decide, by decide⟩ (t_lt0) t_K0 (Nat.le_of_ble_eq_true rfl) (Nat.le_of_ble_eq_true rfl) ⟨Nat.zero_le _, Nat.zero_le _⟩ dX3_part_50 (fun r Γ' h1 q => ?_)
  obtain ⟨x1, q0, rfl, p1⟩ := q; cases q0
  refine j_eqst [.int x1] (by rfl) ?_
  refine j_istore (i := 4) dX3_part_53 (Nat.le_of_ble_eq_true rfl) ?_
  refine j_iload (i := 4) rfl dX3_part_55 ?_
  refine j_if_le (off := 46) 103 dX3_part_57 (by decide) (fun c1 => ?_) (fun c1 => ?_)
  · exact j_le [some (.ref t), some (.int l1), some (.int l2), some (.int l3), some (.int x1)] (And.intro rfl (And.intro rfl (And.intro rfl (And.intro rfl (And.intro rfl True.intro))))) (v1 x1 h1 p1 c1)
  · exact j_le [some (.ref t), some (.int l1), some (.int l2), some (.int l3), some (.int x1)] (And.intro rfl (And.intro rfl (And.intro rfl (And.intro rfl (And.intro rfl True.intro))))) (v2 x1 h1 p1 c1)
set_option maxRecDepth 100000 in
theorem bX3_part_60 {sc : Nat × (Nat → Int32)} {h : jH} {Q : jQ} {t : Nat} {l1 l2 l3 l4 : Int32} (t_h : jI3 t)
    (o1 : vp_in l3 10)
    (v1 : ((h (t + 6) l3.toNatClampNeg) * l4) ≤ l2 → WP mX3_part Q 103 [some (.ref t), some (.int l1), some (.int l2), some (.int l3), some (.int l4)] [] (jG0 sc) h (0, 0))
    (v2 : ¬ ((h (t + 6) l3.toNatClampNeg) * l4) ≤ l2 → WP mX3_part Q 73 [some (.ref t), some (.int l1), some (.int l2), some (.int l3), some (.int l4)] [] (jG0 sc) h (0, 0)) :
    WP mX3_part Q 60 [some (.ref t), some (.int l1), some (.int l2), some (.int l3), some (.int l4)] [] (jG0 sc) h (0, 0) := by
  obtain ⟨t_lt6, t_K0, t_R0_0, t_K1, t_L1, t_R0_1, t_K2, t_L2, t_R0_2, t_K3, t_L3, t_R0_3, t_K4, t_L4, t_R0_4, t_K5, t_L5, t_R0_5, t_K6, t_L6⟩ := t_h
  have t_lt5 : t + 5 < jN (jG0 sc) := Nat.lt_of_succ_lt t_lt6
  have t_lt4 : t + 4 < jN (jG0 sc) := Nat.lt_of_succ_lt t_lt5
  have t_lt3 : t + 3 < jN (jG0 sc) := Nat.lt_of_succ_lt t_lt4
  have t_lt2 : t + 2 < jN (jG0 sc) := Nat.lt_of_succ_lt t_lt3
  have t_lt1 : t + 1 < jN (jG0 sc) := Nat.lt_of_succ_lt t_lt2
  have t_lt0 : t + 0 < jN (jG0 sc) := Nat.lt_of_succ_lt t_lt1
  refine j_iload_n (i := 2) rfl dX3_part_60 ?_
  refine j_aload_n (i := 0) rfl dX3_part_61 ?_
  refine j_getR (idx := 27) (ci := 3) (k := 5) (nest := false) (show (3, 27, 3, 5, false) ∈ jFT by decide) rfl (t_lt0) t_K0 (a := (t + 6)) t_R0_5 dX3_part_62 ?_
  refine j_iload_n (i := 3) rfl dX3_part_65 ?_
  refine j_iald (t_lt6) t_K6 (by rw [show jL (jG0 sc) (t + 6) = 10 from t_L6]; exact o1) dX3_part_66 ?_
  refine j_iload (i := 4) rfl dX3_part_67 ?_
  refine j_imul dX3_part_69 ?_
  refine j_icmp_ge (off := 33) 103 dX3_part_70 (by decide) (fun c1 => ?_) (fun c1 => ?_)
  · exact j_le [some (.ref t), some (.int l1), some (.int l2), some (.int l3), some (.int l4)] (And.intro rfl (And.intro rfl (And.intro rfl (And.intro rfl (And.intro rfl True.intro))))) (v1 c1)
  · exact j_le [some (.ref t), some (.int l1), some (.int l2), some (.int l3), some (.int l4)] (And.intro rfl (And.intro rfl (And.intro rfl (And.intro rfl (And.intro rfl True.intro))))) (v2 c1)
set_option maxRecDepth 100000 in
theorem bX3_part_73 {sc : Nat × (Nat → Int32)} {h : jH} {Q : jQ} {t : Nat} {l1 l2 l3 l4 : Int32} {P1 : Int32 → jH → Prop} {P2 : Int32 → jH → Prop} (t_h : jI3 t)
    (o1 : ¬ l4 = 0)
    (k1 : JM mX3_plainFrom [.ref t, .int l3, .int (l2 / l4)] (jG0 sc) h (jint sc P1))
    (o2 : ∀ (x1 : Int32) (h1 : jH), P1 x1 h1 → ¬ l4 = 0)
    (k2 : ∀ (x1 : Int32) (h1 : jH), P1 x1 h1 → JM mX3_plainFrom [.ref t, .int (l3 + 1), .int (l2 - l2 / l4 * l4)] (jG0 sc) (jput h1 t 7 x1) (jint sc P2))
    (v1 : ∀ (x1 : Int32) (h1 : jH), P1 x1 h1 → ∀ (x2 : Int32) (h2 : jH), P2 x2 h2 → WP mX3_part Q 98 [some (.ref t), some (.int l1), some (.int l2), some (.int l3), some (.int l4)] [.int x2, .ref t] (jG0 sc) h2 (0, 0)) :
    WP mX3_part Q 73 [some (.ref t), some (.int l1), some (.int l2), some (.int l3), some (.int l4)] [] (jG0 sc) h (0, 0) := by
  obtain ⟨t_lt6, t_K0, t_R0_0, t_K1, t_L1, t_R0_1, t_K2, t_L2, t_R0_2, t_K3, t_L3, t_R0_3, t_K4, t_L4, t_R0_4, t_K5, t_L5, t_R0_5, t_K6, t_L6⟩ := t_h
  have t_lt5 : t + 5 < jN (jG0 sc) := Nat.lt_of_succ_lt t_lt6
  have t_lt4 : t + 4 < jN (jG0 sc) := Nat.lt_of_succ_lt t_lt5
  have t_lt3 : t + 3 < jN (jG0 sc) := Nat.lt_of_succ_lt t_lt4
  have t_lt2 : t + 2 < jN (jG0 sc) := Nat.lt_of_succ_lt t_lt3
  have t_lt1 : t + 1 < jN (jG0 sc) := Nat.lt_of_succ_lt t_lt2
  have t_lt0 : t + 0 < jN (jG0 sc) := Nat.lt_of_succ_lt t_lt1
  refine j_aload_n (i := 0) rfl dX3_part_73 ?_
  refine j_aload_n (i := 0) rfl dX3_part_74 ?_
  refine j_iload_n (i := 3) rfl dX3_part_75 ?_
  refine j_iload_n (i := 2) rfl dX3_part_76 ?_
  refine j_iload (i := 4) rfl dX3_part_77 ?_
  refine j_idiv o1 dX3_part_79 ?_
  refine j_callV (idx := 106) (As := [.int l3, .int (l2 / l4)]) (ci := 3) (n := 2) k1 jint_nt (jlkT (jtb2 215 rfl) rfl) sX3_plainFrom kX3_plainFrom rfl ⟨rfl, by decide +kernel, by decide +kernel, by decide +kernel⟩ rfl ⟨by decide, by decide⟩ (t_lt0) t_K0 (Nat.le_of_ble_eq_true rfl) (Nat.le_of_ble_eq_true rfl) ⟨Nat.zero_le _, Nat.zero_le _⟩ dX3_part_80 (fun r Γ' h1 q => ?_)
  obtain ⟨x1, q0, rfl, p1⟩ := q; cases q0
  refine j_eqst [.int x1, .ref t] (by rfl) ?_
  refine j_putI (idx := 30) (ci := 3) (k := 7) (nest := false) (show (3, 30, 3, 7, false) ∈ jFT by decide) rfl rfl rfl rfl (t_lt0) t_K0 dX3_part_83 ?_
  refine j_aload_n (i := 0) rfl dX3_part_86 ?_
  refine j_aload_n (i := 0) rfl dX3_part_87 ?_
  refine j_iload_n (i := 3) rfl dX3_part_88 ?_
  refine j_iconst (n := 1) 1 (by decide) dX3_part_89 ?_
  refine j_iadd dX3_part_90 ?_
  refine j_iload_n (i := 2) rfl dX3_part_91 ?_
  refine j_iload (i := 4) rfl dX3_part_92 ?_
  refine j_irem (o2 x1 h1 p1) dX3_part_94 ?_
  refine j_callV (idx := 106) (As := [.int (l3 + 1), .int (l2 - l2 / l4 * l4)]) (ci := 3) (n := 2) (k2 x1 h1 p1) jint_nt (jlkT (jtb2 215 rfl) rfl) sX3_plainFrom kX3_plainFrom rfl ⟨rfl, by decide +kernel, by decide +kernel, by decide +kernel⟩ rfl ⟨by decide, by decide⟩ (t_lt0) t_K0 (Nat.le_of_ble_eq_true rfl) (Nat.le_of_ble_eq_true rfl) ⟨Nat.zero_le _, Nat.zero_le _⟩ dX3_part_95 (fun r Γ' h2 q => ?_)
  obtain ⟨x2, q0, rfl, p2⟩ := q; cases q0
  refine j_eqst [.int x2, .ref t] (by rfl) ?_
  exact j_le [some (.ref t), some (.int l1), some (.int l2), some (.int l3), some (.int l4)] (And.intro rfl (And.intro rfl (And.intro rfl (And.intro rfl (And.intro rfl True.intro))))) (v1 x1 h1 p1 x2 h2 p2)
set_option maxRecDepth 100000 in
theorem bX3_part_98 {sc : Nat × (Nat → Int32)} {h : jH} {Q : jQ} {t : Nat} {l1 l2 l3 l4 s0 : Int32} (t_h : jI3 t)
    (v1 : Q (.inl (some (.int 1))) (jG0 sc) (jput h t 8 s0)) :
    WP mX3_part Q 98 [some (.ref t), some (.int l1), some (.int l2), some (.int l3), some (.int l4)] [.int s0, .ref t] (jG0 sc) h (0, 0) := by
  obtain ⟨t_lt6, t_K0, t_R0_0, t_K1, t_L1, t_R0_1, t_K2, t_L2, t_R0_2, t_K3, t_L3, t_R0_3, t_K4, t_L4, t_R0_4, t_K5, t_L5, t_R0_5, t_K6, t_L6⟩ := t_h
  have t_lt5 : t + 5 < jN (jG0 sc) := Nat.lt_of_succ_lt t_lt6
  have t_lt4 : t + 4 < jN (jG0 sc) := Nat.lt_of_succ_lt t_lt5
  have t_lt3 : t + 3 < jN (jG0 sc) := Nat.lt_of_succ_lt t_lt4
  have t_lt2 : t + 2 < jN (jG0 sc) := Nat.lt_of_succ_lt t_lt3
  have t_lt1 : t + 1 < jN (jG0 sc) := Nat.lt_of_succ_lt t_lt2
  have t_lt0 : t + 0 < jN (jG0 sc) := Nat.lt_of_succ_lt t_lt1
  refine j_putI (idx := 34) (ci := 3) (k := 8) (nest := false) (show (3, 34, 3, 8, false) ∈ jFT by decide) rfl rfl rfl rfl (t_lt0) t_K0 dX3_part_98 ?_
  refine j_iconst (n := 1) 1 (by decide) dX3_part_101 ?_
  exact j_iret rfl rfl (Nat.zero_le _) (Nat.zero_le _) dX3_part_102 v1
set_option maxRecDepth 100000 in
theorem bX3_part_103 {sc : Nat × (Nat → Int32)} {h : jH} {Q : jQ} {t : Nat} {l1 l2 l3 l4 : Int32} (t_h : jI3 t)
    (o1 : vp_in l3 10)
    (v1 : WP mX3_part Q 38 [some (.ref t), some (.int l1), some (.int (l2 - ((h (t + 6) l3.toNatClampNeg) * l4))), some (.int (l3 + 1)), none] [] (jG0 sc) h (0, 0)) :
    WP mX3_part Q 103 [some (.ref t), some (.int l1), some (.int l2), some (.int l3), some (.int l4)] [] (jG0 sc) h (0, 0) := by
  obtain ⟨t_lt6, t_K0, t_R0_0, t_K1, t_L1, t_R0_1, t_K2, t_L2, t_R0_2, t_K3, t_L3, t_R0_3, t_K4, t_L4, t_R0_4, t_K5, t_L5, t_R0_5, t_K6, t_L6⟩ := t_h
  have t_lt5 : t + 5 < jN (jG0 sc) := Nat.lt_of_succ_lt t_lt6
  have t_lt4 : t + 4 < jN (jG0 sc) := Nat.lt_of_succ_lt t_lt5
  have t_lt3 : t + 3 < jN (jG0 sc) := Nat.lt_of_succ_lt t_lt4
  have t_lt2 : t + 2 < jN (jG0 sc) := Nat.lt_of_succ_lt t_lt3
  have t_lt1 : t + 1 < jN (jG0 sc) := Nat.lt_of_succ_lt t_lt2
  have t_lt0 : t + 0 < jN (jG0 sc) := Nat.lt_of_succ_lt t_lt1
  refine j_iload_n (i := 2) rfl dX3_part_103 ?_
  refine j_aload_n (i := 0) rfl dX3_part_104 ?_
  refine j_getR (idx := 27) (ci := 3) (k := 5) (nest := false) (show (3, 27, 3, 5, false) ∈ jFT by decide) rfl (t_lt0) t_K0 (a := (t + 6)) t_R0_5 dX3_part_105 ?_
  refine j_iload_n (i := 3) rfl dX3_part_108 ?_
  refine j_iald (t_lt6) t_K6 (by rw [show jL (jG0 sc) (t + 6) = 10 from t_L6]; exact o1) dX3_part_109 ?_
  refine j_iload (i := 4) rfl dX3_part_110 ?_
  refine j_imul dX3_part_112 ?_
  refine j_isub dX3_part_113 ?_
  refine j_istore_n (i := 2) dX3_part_114 (Nat.le_of_ble_eq_true rfl) ?_
  refine j_iinc (i := 3) (n := 1) rfl dX3_part_115 (Nat.le_of_ble_eq_true rfl) ?_
  refine j_eqlv [some (.ref t), some (.int l1), some (.int (l2 - ((h (t + 6) l3.toNatClampNeg) * l4))), some (.int (l3 + 1)), some (.int l4)] rfl ?_
  refine j_goto (off := -80) 38 dX3_part_118 (by decide) ?_
  exact j_le [some (.ref t), some (.int l1), some (.int (l2 - ((h (t + 6) l3.toNatClampNeg) * l4))), some (.int (l3 + 1)), none] (And.intro rfl (And.intro rfl (And.intro rfl (And.intro rfl True.intro)))) v1
set_option maxRecDepth 100000 in
theorem bX3_part_121 {sc : Nat × (Nat → Int32)} {h : jH} {Q : jQ} {t : Nat} {l1 l2 l3 : Int32} (t_h : jI3 t)
    (v1 : Q (.inl (some (.int 0))) (jG0 sc) h) :
    WP mX3_part Q 121 [some (.ref t), some (.int l1), some (.int l2), some (.int l3), none] [] (jG0 sc) h (0, 0) := by
  obtain ⟨t_lt6, t_K0, t_R0_0, t_K1, t_L1, t_R0_1, t_K2, t_L2, t_R0_2, t_K3, t_L3, t_R0_3, t_K4, t_L4, t_R0_4, t_K5, t_L5, t_R0_5, t_K6, t_L6⟩ := t_h
  have t_lt5 : t + 5 < jN (jG0 sc) := Nat.lt_of_succ_lt t_lt6
  have t_lt4 : t + 4 < jN (jG0 sc) := Nat.lt_of_succ_lt t_lt5
  have t_lt3 : t + 3 < jN (jG0 sc) := Nat.lt_of_succ_lt t_lt4
  have t_lt2 : t + 2 < jN (jG0 sc) := Nat.lt_of_succ_lt t_lt3
  have t_lt1 : t + 1 < jN (jG0 sc) := Nat.lt_of_succ_lt t_lt2
  have t_lt0 : t + 0 < jN (jG0 sc) := Nat.lt_of_succ_lt t_lt1
  refine j_iconst (n := 0) 0 (by decide) dX3_part_121 ?_
  exact j_iret rfl rfl (Nat.zero_le _) (Nat.zero_le _) dX3_part_122 v1
set_option maxRecDepth 100000 in
theorem rX3_part_0 {sc : Nat × (Nat → Int32)} {h : jH} {Q : jQ} {t : Nat} {l1 : Int32} (t_h : jI3 t)
    (v1 : l1 < 0 → WP mX3_part Q 38 [some (.ref t), some (.int l1), some (.int (l1 - ((jput (jput h t 7 (-1)) t 8 (-1)) t 6))), some (.int 0), none] [] (jG0 sc) (jput (jput h t 7 (-1)) t 8 (-1)) (0, 0))
    (v2 : ¬ l1 < 0 → ((jput (jput h t 7 (-1)) t 8 (-1)) t 6) ≤ l1 → WP mX3_part Q 38 [some (.ref t), some (.int l1), some (.int (l1 - ((jput (jput h t 7 (-1)) t 8 (-1)) t 6))), some (.int 0), none] [] (jG0 sc) (jput (jput h t 7 (-1)) t 8 (-1)) (0, 0))
    (v3 : ¬ l1 < 0 → ¬ ((jput (jput h t 7 (-1)) t 8 (-1)) t 6) ≤ l1 → Q (.inl (some (.int 1))) (jG0 sc) (jput (jput (jput h t 7 (-1)) t 8 (-1)) t 7 l1)) :
    WP mX3_part Q 0 [some (.ref t), some (.int l1), none, none, none] [] (jG0 sc) h (0, 0) := by
  exact (bX3_part_0 t_h (fun c1 => (bX3_part_29 t_h (v1 c1))) (fun c1 => (bX3_part_14 t_h (fun c2 => (bX3_part_29 t_h (v2 c1 c2))) (fun c2 => (bX3_part_22 t_h (v3 c1 c2))))))
set_option maxRecDepth 100000 in
theorem rX3_part_38 {sc : Nat × (Nat → Int32)} {h : jH} {Q : jQ} {t : Nat} {l1 l2 l3 : Int32} {P1 : Int32 → jH → Prop} {P2 : Int32 → jH → Prop} {P3 : Int32 → jH → Prop} (t_h : jI3 t)
    (v1 : 10 ≤ l3 → Q (.inl (some (.int 0))) (jG0 sc) h)
    (v2 : ¬ 10 ≤ l3 → l2 < 0 → Q (.inl (some (.int 0))) (jG0 sc) h)
    (k1 : ¬ 10 ≤ l3 → ¬ l2 < 0 → JM mX3_plainBehind [.ref t, .int l3] (jG0 sc) h (jint sc P1))
    (o1 : ¬ 10 ≤ l3 → ¬ l2 < 0 → ∀ (x1 : Int32) (h1 : jH), P1 x1 h1 → x1 ≤ 0 → vp_in l3 10)
    (v3 : ¬ 10 ≤ l3 → ¬ l2 < 0 → ∀ (x1 : Int32) (h1 : jH), P1 x1 h1 → x1 ≤ 0 → WP mX3_part Q 38 [some (.ref t), some (.int l1), some (.int (l2 - ((h1 (t + 6) l3.toNatClampNeg) * x1))), some (.int (l3 + 1)), none] [] (jG0 sc) h1 (0, 0))
    (o2 : ¬ 10 ≤ l3 → ¬ l2 < 0 → ∀ (x1 : Int32) (h1 : jH), P1 x1 h1 → ¬ x1 ≤ 0 → vp_in l3 10)
    (o3 : ¬ 10 ≤ l3 → ¬ l2 < 0 → ∀ (x1 : Int32) (h1 : jH), P1 x1 h1 → ¬ x1 ≤ 0 → ((h1 (t + 6) l3.toNatClampNeg) * x1) ≤ l2 → vp_in l3 10)
    (v4 : ¬ 10 ≤ l3 → ¬ l2 < 0 → ∀ (x1 : Int32) (h1 : jH), P1 x1 h1 → ¬ x1 ≤ 0 → ((h1 (t + 6) l3.toNatClampNeg) * x1) ≤ l2 → WP mX3_part Q 38 [some (.ref t), some (.int l1), some (.int (l2 - ((h1 (t + 6) l3.toNatClampNeg) * x1))), some (.int (l3 + 1)), none] [] (jG0 sc) h1 (0, 0))
    (o4 : ¬ 10 ≤ l3 → ¬ l2 < 0 → ∀ (x1 : Int32) (h1 : jH), P1 x1 h1 → ¬ x1 ≤ 0 → ¬ ((h1 (t + 6) l3.toNatClampNeg) * x1) ≤ l2 → ¬ x1 = 0)
    (k2 : ¬ 10 ≤ l3 → ¬ l2 < 0 → ∀ (x1 : Int32) (h1 : jH), P1 x1 h1 → ¬ x1 ≤ 0 → ¬ ((h1 (t + 6) l3.toNatClampNeg) * x1) ≤ l2 → JM mX3_plainFrom [.ref t, .int l3, .int (l2 / x1)] (jG0 sc) h1 (jint sc P2))
    (o5 : ¬ 10 ≤ l3 → ¬ l2 < 0 → ∀ (x1 : Int32) (h1 : jH), P1 x1 h1 → ¬ x1 ≤ 0 → ¬ ((h1 (t + 6) l3.toNatClampNeg) * x1) ≤ l2 → ∀ (x2 : Int32) (h2 : jH), P2 x2 h2 → ¬ x1 = 0)
    (k3 : ¬ 10 ≤ l3 → ¬ l2 < 0 → ∀ (x1 : Int32) (h1 : jH), P1 x1 h1 → ¬ x1 ≤ 0 → ¬ ((h1 (t + 6) l3.toNatClampNeg) * x1) ≤ l2 → ∀ (x2 : Int32) (h2 : jH), P2 x2 h2 → JM mX3_plainFrom [.ref t, .int (l3 + 1), .int (l2 - l2 / x1 * x1)] (jG0 sc) (jput h2 t 7 x2) (jint sc P3))
    (v5 : ¬ 10 ≤ l3 → ¬ l2 < 0 → ∀ (x1 : Int32) (h1 : jH), P1 x1 h1 → ¬ x1 ≤ 0 → ¬ ((h1 (t + 6) l3.toNatClampNeg) * x1) ≤ l2 → ∀ (x2 : Int32) (h2 : jH), P2 x2 h2 → ∀ (x3 : Int32) (h3 : jH), P3 x3 h3 → Q (.inl (some (.int 1))) (jG0 sc) (jput h3 t 8 x3)) :
    WP mX3_part Q 38 [some (.ref t), some (.int l1), some (.int l2), some (.int l3), none] [] (jG0 sc) h (0, 0) := by
  exact (bX3_part_38 t_h (fun c1 => (bX3_part_121 t_h (v1 c1))) (fun c1 => (bX3_part_44 t_h (fun c2 => (bX3_part_121 t_h (v2 c1 c2))) (fun c2 => (bX3_part_48 t_h (k1 c1 c2) (fun x1 h1 p1 c3 => (bX3_part_103 t_h (o1 c1 c2 x1 h1 p1 c3) (v3 c1 c2 x1 h1 p1 c3))) (fun x1 h1 p1 c3 => (bX3_part_60 t_h (o2 c1 c2 x1 h1 p1 c3) (fun c4 => (bX3_part_103 t_h (o3 c1 c2 x1 h1 p1 c3 c4) (v4 c1 c2 x1 h1 p1 c3 c4))) (fun c4 => (bX3_part_73 t_h (o4 c1 c2 x1 h1 p1 c3 c4) (k2 c1 c2 x1 h1 p1 c3 c4) (fun x2 h2 p2 => (o5 c1 c2 x1 h1 p1 c3 c4 x2 h2 p2)) (fun x2 h2 p2 => (k3 c1 c2 x1 h1 p1 c3 c4 x2 h2 p2)) (fun x2 h2 p2 x3 h3 p3 => (bX3_part_98 t_h (v5 c1 c2 x1 h1 p1 c3 c4 x2 h2 p2 x3 h3 p3))))))))))))
theorem dX3_plainFrom_0 : decode (mC mX3_plainFrom) 0 = .ok (.iload_n 2, 1) := by decide +kernel
theorem dX3_plainFrom_1 : decode (mC mX3_plainFrom) 1 = .ok (.istore_n 3, 1) := by decide +kernel
theorem dX3_plainFrom_2 : decode (mC mX3_plainFrom) 2 = .ok (.iload_n 1, 1) := by decide +kernel
theorem dX3_plainFrom_3 : decode (mC mX3_plainFrom) 3 = .ok (.istore 4, 2) := by decide +kernel
theorem dX3_plainFrom_5 : decode (mC mX3_plainFrom) 5 = .ok (.iload 4, 2) := by decide +kernel
theorem dX3_plainFrom_7 : decode (mC mX3_plainFrom) 7 = .ok (.ifCond .lt 81, 3) := by decide +kernel
theorem dX3_plainFrom_10 : decode (mC mX3_plainFrom) 10 = .ok (.iload 4, 2) := by decide +kernel
theorem dX3_plainFrom_12 : decode (mC mX3_plainFrom) 12 = .ok (.bipush 10, 2) := by decide +kernel
theorem dX3_plainFrom_14 : decode (mC mX3_plainFrom) 14 = .ok (.if_icmp .ge 74, 3) := by decide +kernel
theorem dX3_plainFrom_17 : decode (mC mX3_plainFrom) 17 = .ok (.iload_n 3, 1) := by decide +kernel
theorem dX3_plainFrom_18 : decode (mC mX3_plainFrom) 18 = .ok (.aload_n 0, 1) := by decide +kernel
theorem dX3_plainFrom_19 : decode (mC mX3_plainFrom) 19 = .ok (.getfield 27, 3) := by decide +kernel
theorem dX3_plainFrom_22 : decode (mC mX3_plainFrom) 22 = .ok (.iload 4, 2) := by decide +kernel
theorem dX3_plainFrom_24 : decode (mC mX3_plainFrom) 24 = .ok (.iaload, 1) := by decide +kernel
theorem dX3_plainFrom_25 : decode (mC mX3_plainFrom) 25 = .ok (.if_icmp .ge 47, 3) := by decide +kernel
theorem dX3_plainFrom_28 : decode (mC mX3_plainFrom) 28 = .ok (.aload_n 0, 1) := by decide +kernel
theorem dX3_plainFrom_29 : decode (mC mX3_plainFrom) 29 = .ok (.getfield 21, 3) := by decide +kernel
theorem dX3_plainFrom_32 : decode (mC mX3_plainFrom) 32 = .ok (.iload 4, 2) := by decide +kernel
theorem dX3_plainFrom_34 : decode (mC mX3_plainFrom) 34 = .ok (.iaload, 1) := by decide +kernel
theorem dX3_plainFrom_35 : decode (mC mX3_plainFrom) 35 = .ok (.iload_n 3, 1) := by decide +kernel
theorem dX3_plainFrom_36 : decode (mC mX3_plainFrom) 36 = .ok (.iadd, 1) := by decide +kernel
theorem dX3_plainFrom_37 : decode (mC mX3_plainFrom) 37 = .ok (.istore 5, 2) := by decide +kernel
theorem dX3_plainFrom_39 : decode (mC mX3_plainFrom) 39 = .ok (.aload_n 0, 1) := by decide +kernel
theorem dX3_plainFrom_40 : decode (mC mX3_plainFrom) 40 = .ok (.getfield 24, 3) := by decide +kernel
theorem dX3_plainFrom_43 : decode (mC mX3_plainFrom) 43 = .ok (.iload 4, 2) := by decide +kernel
theorem dX3_plainFrom_45 : decode (mC mX3_plainFrom) 45 = .ok (.iaload, 1) := by decide +kernel
theorem dX3_plainFrom_46 : decode (mC mX3_plainFrom) 46 = .ok (.iconst (-1), 1) := by decide +kernel
theorem dX3_plainFrom_47 : decode (mC mX3_plainFrom) 47 = .ok (.if_icmp .eq 22, 3) := by decide +kernel
theorem dX3_plainFrom_50 : decode (mC mX3_plainFrom) 50 = .ok (.iload 5, 2) := by decide +kernel
theorem dX3_plainFrom_52 : decode (mC mX3_plainFrom) 52 = .ok (.aload_n 0, 1) := by decide +kernel
theorem dX3_plainFrom_53 : decode (mC mX3_plainFrom) 53 = .ok (.getfield 24, 3) := by decide +kernel
theorem dX3_plainFrom_56 : decode (mC mX3_plainFrom) 56 = .ok (.iload 4, 2) := by decide +kernel
theorem dX3_plainFrom_58 : decode (mC mX3_plainFrom) 58 = .ok (.iaload, 1) := by decide +kernel
theorem dX3_plainFrom_59 : decode (mC mX3_plainFrom) 59 = .ok (.if_icmp .lt 10, 3) := by decide +kernel
theorem dX3_plainFrom_62 : decode (mC mX3_plainFrom) 62 = .ok (.iload 5, 2) := by decide +kernel
theorem dX3_plainFrom_64 : decode (mC mX3_plainFrom) 64 = .ok (.iconst 1, 1) := by decide +kernel
theorem dX3_plainFrom_65 : decode (mC mX3_plainFrom) 65 = .ok (.iadd, 1) := by decide +kernel
theorem dX3_plainFrom_66 : decode (mC mX3_plainFrom) 66 = .ok (.goto 5, 3) := by decide +kernel
theorem dX3_plainFrom_69 : decode (mC mX3_plainFrom) 69 = .ok (.iload 5, 2) := by decide +kernel
theorem dX3_plainFrom_71 : decode (mC mX3_plainFrom) 71 = .ok (.ireturn, 1) := by decide +kernel
theorem dX3_plainFrom_72 : decode (mC mX3_plainFrom) 72 = .ok (.iload_n 3, 1) := by decide +kernel
theorem dX3_plainFrom_73 : decode (mC mX3_plainFrom) 73 = .ok (.aload_n 0, 1) := by decide +kernel
theorem dX3_plainFrom_74 : decode (mC mX3_plainFrom) 74 = .ok (.getfield 27, 3) := by decide +kernel
theorem dX3_plainFrom_77 : decode (mC mX3_plainFrom) 77 = .ok (.iload 4, 2) := by decide +kernel
theorem dX3_plainFrom_79 : decode (mC mX3_plainFrom) 79 = .ok (.iaload, 1) := by decide +kernel
theorem dX3_plainFrom_80 : decode (mC mX3_plainFrom) 80 = .ok (.isub, 1) := by decide +kernel
theorem dX3_plainFrom_81 : decode (mC mX3_plainFrom) 81 = .ok (.istore_n 3, 1) := by decide +kernel
theorem dX3_plainFrom_82 : decode (mC mX3_plainFrom) 82 = .ok (.iinc 4 1, 3) := by decide +kernel
theorem dX3_plainFrom_85 : decode (mC mX3_plainFrom) 85 = .ok (.goto (-80), 3) := by decide +kernel
theorem dX3_plainFrom_88 : decode (mC mX3_plainFrom) 88 = .ok (.iconst (-1), 1) := by decide +kernel
theorem dX3_plainFrom_89 : decode (mC mX3_plainFrom) 89 = .ok (.ireturn, 1) := by decide +kernel
set_option maxRecDepth 100000 in
theorem bX3_plainFrom_0 {sc : Nat × (Nat → Int32)} {h : jH} {Q : jQ} {t : Nat} {l1 l2 : Int32} (t_h : jI3 t)
    (v1 : WP mX3_plainFrom Q 5 [some (.ref t), some (.int l1), some (.int l2), some (.int l2), some (.int l1), none] [] (jG0 sc) h (0, 0)) :
    WP mX3_plainFrom Q 0 [some (.ref t), some (.int l1), some (.int l2), none, none, none] [] (jG0 sc) h (0, 0) := by
  obtain ⟨t_lt6, t_K0, t_R0_0, t_K1, t_L1, t_R0_1, t_K2, t_L2, t_R0_2, t_K3, t_L3, t_R0_3, t_K4, t_L4, t_R0_4, t_K5, t_L5, t_R0_5, t_K6, t_L6⟩ := t_h
  have t_lt5 : t + 5 < jN (jG0 sc) := Nat.lt_of_succ_lt t_lt6
  have t_lt4 : t + 4 < jN (jG0 sc) := Nat.lt_of_succ_lt t_lt5
  have t_lt3 : t + 3 < jN (jG0 sc) := Nat.lt_of_succ_lt t_lt4
  have t_lt2 : t + 2 < jN (jG0 sc) := Nat.lt_of_succ_lt t_lt3
  have t_lt1 : t + 1 < jN (jG0 sc) := Nat.lt_of_succ_lt t_lt2
  have t_lt0 : t + 0 < jN (jG0 sc) := Nat.lt_of_succ_lt t_lt1
  refine j_iload_n (i := 2) rfl dX3_plainFrom_0 ?_
  refine j_istore_n (i := 3) dX3_plainFrom_1 (Nat.le_of_ble_eq_true rfl) ?_
  refine j_iload_n (i := 1) rfl dX3_plainFrom_2 ?_
  refine j_istore (i := 4) dX3_plainFrom_3 (Nat.le_of_ble_eq_true rfl) ?_
  exact j_le [some (.ref t), some (.int l1), some (.int l2), some (.int l2), some (.int l1), none] (And.intro rfl (And.intro rfl (And.intro rfl (And.intro rfl (And.intro rfl True.intro))))) v1
set_option maxRecDepth 100000 in
theorem bX3_plainFrom_5 {sc : Nat × (Nat → Int32)} {h : jH} {Q : jQ} {t : Nat} {l1 l2 l3 l4 : Int32} (t_h : jI3 t)
    (v1 : l4 < 0 → WP mX3_plainFrom Q 88 [some (.ref t), some (.int l1), some (.int l2), some (.int l3), some (.int l4), none] [] (jG0 sc) h (0, 0))
    (v2 : ¬ l4 < 0 → WP mX3_plainFrom Q 10 [some (.ref t), some (.int l1), some (.int l2), some (.int l3), some (.int l4), none] [] (jG0 sc) h (0, 0)) :
    WP mX3_plainFrom Q 5 [some (.ref t), some (.int l1), some (.int l2), some (.int l3), some (.int l4), none] [] (jG0 sc) h (0, 0) := by
  obtain ⟨t_lt6, t_K0, t_R0_0, t_K1, t_L1, t_R0_1, t_K2, t_L2, t_R0_2, t_K3, t_L3, t_R0_3, t_K4, t_L4, t_R0_4, t_K5, t_L5, t_R0_5, t_K6, t_L6⟩ := t_h
  have t_lt5 : t + 5 < jN (jG0 sc) := Nat.lt_of_succ_lt t_lt6
  have t_lt4 : t + 4 < jN (jG0 sc) := Nat.lt_of_succ_lt t_lt5
  have t_lt3 : t + 3 < jN (jG0 sc) := Nat.lt_of_succ_lt t_lt4
  have t_lt2 : t + 2 < jN (jG0 sc) := Nat.lt_of_succ_lt t_lt3
  have t_lt1 : t + 1 < jN (jG0 sc) := Nat.lt_of_succ_lt t_lt2
  have t_lt0 : t + 0 < jN (jG0 sc) := Nat.lt_of_succ_lt t_lt1
  refine j_iload (i := 4) rfl dX3_plainFrom_5 ?_
  refine j_if_lt (off := 81) 88 dX3_plainFrom_7 (by decide) (fun c1 => ?_) (fun c1 => ?_)
  · exact j_le [some (.ref t), some (.int l1), some (.int l2), some (.int l3), some (.int l4), none] (And.intro rfl (And.intro rfl (And.intro rfl (And.intro rfl (And.intro rfl True.intro))))) (v1 c1)
  · exact j_le [some (.ref t), some (.int l1), some (.int l2), some (.int l3), some (.int l4), none] (And.intro rfl (And.intro rfl (And.intro rfl (And.intro rfl (And.intro rfl True.intro))))) (v2 c1)
set_option maxRecDepth 100000 in
theorem bX3_plainFrom_10 {sc : Nat × (Nat → Int32)} {h : jH} {Q : jQ} {t : Nat} {l1 l2 l3 l4 : Int32} (t_h : jI3 t)
    (v1 : 10 ≤ l4 → WP mX3_plainFrom Q 88 [some (.ref t), some (.int l1), some (.int l2), some (.int l3), some (.int l4), none] [] (jG0 sc) h (0, 0))
    (v2 : ¬ 10 ≤ l4 → WP mX3_plainFrom Q 17 [some (.ref t), some (.int l1), some (.int l2), some (.int l3), some (.int l4), none] [] (jG0 sc) h (0, 0)) :
    WP mX3_plainFrom Q 10 [some (.ref t), some (.int l1), some (.int l2), some (.int l3), some (.int l4), none] [] (jG0 sc) h (0, 0) := by
  obtain ⟨t_lt6, t_K0, t_R0_0, t_K1, t_L1, t_R0_1, t_K2, t_L2, t_R0_2, t_K3, t_L3, t_R0_3, t_K4, t_L4, t_R0_4, t_K5, t_L5, t_R0_5, t_K6, t_L6⟩ := t_h
  have t_lt5 : t + 5 < jN (jG0 sc) := Nat.lt_of_succ_lt t_lt6
  have t_lt4 : t + 4 < jN (jG0 sc) := Nat.lt_of_succ_lt t_lt5
  have t_lt3 : t + 3 < jN (jG0 sc) := Nat.lt_of_succ_lt t_lt4
  have t_lt2 : t + 2 < jN (jG0 sc) := Nat.lt_of_succ_lt t_lt3
  have t_lt1 : t + 1 < jN (jG0 sc) := Nat.lt_of_succ_lt t_lt2
  have t_lt0 : t + 0 < jN (jG0 sc) := Nat.lt_of_succ_lt t_lt1
  refine j_iload (i := 4) rfl dX3_plainFrom_10 ?_
  refine j_bipush (n := 10) 10 (by decide) dX3_plainFrom_12 ?_
  refine j_icmp_ge (off := 74) 88 dX3_plainFrom_14 (by decide) (fun c1 => ?_) (fun c1 => ?_)
  · exact j_le [some (.ref t), some (.int l1), some (.int l2), some (.int l3), some (.int l4), none] (And.intro rfl (And.intro rfl (And.intro rfl (And.intro rfl (And.intro rfl True.intro))))) (v1 c1)
  · exact j_le [some (.ref t), some (.int l1), some (.int l2), some (.int l3), some (.int l4), none] (And.intro rfl (And.intro rfl (And.intro rfl (And.intro rfl (And.intro rfl True.intro))))) (v2 c1)
set_option maxRecDepth 100000 in
theorem bX3_plainFrom_17 {sc : Nat × (Nat → Int32)} {h : jH} {Q : jQ} {t : Nat} {l1 l2 l3 l4 : Int32} (t_h : jI3 t)
    (o1 : vp_in l4 10)
    (v1 : (h (t + 6) l4.toNatClampNeg) ≤ l3 → WP mX3_plainFrom Q 72 [some (.ref t), some (.int l1), some (.int l2), some (.int l3), some (.int l4), none] [] (jG0 sc) h (0, 0))
    (v2 : ¬ (h (t + 6) l4.toNatClampNeg) ≤ l3 → WP mX3_plainFrom Q 28 [some (.ref t), some (.int l1), some (.int l2), some (.int l3), some (.int l4), none] [] (jG0 sc) h (0, 0)) :
    WP mX3_plainFrom Q 17 [some (.ref t), some (.int l1), some (.int l2), some (.int l3), some (.int l4), none] [] (jG0 sc) h (0, 0) := by
  obtain ⟨t_lt6, t_K0, t_R0_0, t_K1, t_L1, t_R0_1, t_K2, t_L2, t_R0_2, t_K3, t_L3, t_R0_3, t_K4, t_L4, t_R0_4, t_K5, t_L5, t_R0_5, t_K6, t_L6⟩ := t_h
  have t_lt5 : t + 5 < jN (jG0 sc) := Nat.lt_of_succ_lt t_lt6
  have t_lt4 : t + 4 < jN (jG0 sc) := Nat.lt_of_succ_lt t_lt5
  have t_lt3 : t + 3 < jN (jG0 sc) := Nat.lt_of_succ_lt t_lt4
  have t_lt2 : t + 2 < jN (jG0 sc) := Nat.lt_of_succ_lt t_lt3
  have t_lt1 : t + 1 < jN (jG0 sc) := Nat.lt_of_succ_lt t_lt2
  have t_lt0 : t + 0 < jN (jG0 sc) := Nat.lt_of_succ_lt t_lt1
  refine j_iload_n (i := 3) rfl dX3_plainFrom_17 ?_
  refine j_aload_n (i := 0) rfl dX3_plainFrom_18 ?_
  refine j_getR (idx := 27) (ci := 3) (k := 5) (nest := false) (show (3, 27, 3, 5, false) ∈ jFT by decide) rfl (t_lt0) t_K0 (a := (t + 6)) t_R0_5 dX3_plainFrom_19 ?_
  refine j_iload (i := 4) rfl dX3_plainFrom_22 ?_
  refine j_iald (t_lt6) t_K6 (by rw [show jL (jG0 sc) (t + 6) = 10 from t_L6]; exact o1) dX3_plainFrom_24 ?_
  refine j_icmp_ge (off := 47) 72 dX3_plainFrom_25 (by decide) (fun c1 => ?_) (fun c1 => ?_)
  · exact j_le [some (.ref t), some (.int l1), some (.int l2), some (.int l3), some (.int l4), none] (And.intro rfl (And.intro rfl (And.intro rfl (And.intro rfl (And.intro rfl True.intro))))) (v1 c1)
  · exact j_le [some (.ref t), some (.int l1), some (.int l2), some (.int l3), some (.int l4), none] (And.intro rfl (And.intro rfl (And.intro rfl (And.intro rfl (And.intro rfl True.intro))))) (v2 c1)
set_option maxRecDepth 100000 in
theorem bX3_plainFrom_28 {sc : Nat × (Nat → Int32)} {h : jH} {Q : jQ} {t : Nat} {l1 l2 l3 l4 : Int32} (t_h : jI3 t)
    (o1 : vp_in l4 10)
    (o2 : vp_in l4 10)
    (v1 : (h (t + 5) l4.toNatClampNeg) = (-1) → WP mX3_plainFrom Q 69 [some (.ref t), some (.int l1), some (.int l2), some (.int l3), some (.int l4), some (.int ((h (t + 4) l4.toNatClampNeg) + l3))] [] (jG0 sc) h (0, 0))
    (v2 : ¬ (h (t + 5) l4.toNatClampNeg) = (-1) → WP mX3_plainFrom Q 50 [some (.ref t), some (.int l1), some (.int l2), some (.int l3), some (.int l4), some (.int ((h (t + 4) l4.toNatClampNeg) + l3))] [] (jG0 sc) h (0, 0)) :
    WP mX3_plainFrom Q 28 [some (.ref t), some (.int l1), some (.int l2), some (.int l3), some (.int l4), none] [] (jG0 sc) h (0, 0) := by
  obtain ⟨t_lt6, t_K0, t_R0_0, t_K1, t_L1, t_R0_1, t_K2, t_L2, t_R0_2, t_K3, t_L3, t_R0_3, t_K4, t_L4, t_R0_4, t_K5, t_L5, t_R0_5, t_K6, t_L6⟩ := t_h
  have t_lt5 : t + 5 < jN (jG0 sc) := Nat.lt_of_succ_lt t_lt6
  have t_lt4 : t + 4 < jN (jG0 sc) := Nat.lt_of_succ_lt t_lt5
  have t_lt3 : t + 3 < jN (jG0 sc) := Nat.lt_of_succ_lt t_lt4
  have t_lt2 : t + 2 < jN (jG0 sc) := Nat.lt_of_succ_lt t_lt3
  have t_lt1 : t + 1 < jN (jG0 sc) := Nat.lt_of_succ_lt t_lt2
  have t_lt0 : t + 0 < jN (jG0 sc) := Nat.lt_of_succ_lt t_lt1
  refine j_aload_n (i := 0) rfl dX3_plainFrom_28 ?_
  refine j_getR (idx := 21) (ci := 3) (k := 3) (nest := false) (show (3, 21, 3, 3, false) ∈ jFT by decide) rfl (t_lt0) t_K0 (a := (t + 4)) t_R0_3 dX3_plainFrom_29 ?_
  refine j_iload (i := 4) rfl dX3_plainFrom_32 ?_
  refine j_iald (t_lt4) t_K4 (by rw [show jL (jG0 sc) (t + 4) = 10 from t_L4]; exact o1) dX3_plainFrom_34 ?_
  refine j_iload_n (i := 3) rfl dX3_plainFrom_35 ?_
  refine j_iadd dX3_plainFrom_36 ?_
  refine j_istore (i := 5) dX3_plainFrom_37 (Nat.le_of_ble_eq_true rfl) ?_
  refine j_aload_n (i := 0) rfl dX3_plainFrom_39 ?_
  refine j_getR (idx := 24) (ci := 3) (k := 4) (nest := false) (show (3, 24, 3, 4, false) ∈ jFT by decide) rfl (t_lt0) t_K0 (a := (t + 5)) t_R0_4 dX3_plainFrom_40 ?_
  refine j_iload (i := 4) rfl dX3_plainFrom_43 ?_
  refine j_iald (t_lt5) t_K5 (by rw [show jL (jG0 sc) (t + 5) = 10 from t_L5]; exact o2) dX3_plainFrom_45 ?_
  refine j_iconst (n := (-1)) (-1) (by decide) dX3_plainFrom_46 ?_
  refine j_icmp_eq (off := 22) 69 dX3_plainFrom_47 (by decide) (fun c1 => ?_) (fun c1 => ?_)
  · exact j_le [some (.ref t), some (.int l1), some (.int l2), some (.int l3), some (.int l4), some (.int ((h (t + 4) l4.toNatClampNeg) + l3))] (And.intro rfl (And.intro rfl (And.intro rfl (And.intro rfl (And.intro rfl (And.intro rfl True.intro)))))) (v1 c1)
  · exact j_le [some (.ref t), some (.int l1), some (.int l2), some (.int l3), some (.int l4), some (.int ((h (t + 4) l4.toNatClampNeg) + l3))] (And.intro rfl (And.intro rfl (And.intro rfl (And.intro rfl (And.intro rfl (And.intro rfl True.intro)))))) (v2 c1)
set_option maxRecDepth 100000 in
theorem bX3_plainFrom_50 {sc : Nat × (Nat → Int32)} {h : jH} {Q : jQ} {t : Nat} {l1 l2 l3 l4 l5 : Int32} (t_h : jI3 t)
    (o1 : vp_in l4 10)
    (v1 : l5 < (h (t + 5) l4.toNatClampNeg) → WP mX3_plainFrom Q 69 [some (.ref t), some (.int l1), some (.int l2), some (.int l3), some (.int l4), some (.int l5)] [] (jG0 sc) h (0, 0))
    (v2 : ¬ l5 < (h (t + 5) l4.toNatClampNeg) → WP mX3_plainFrom Q 62 [some (.ref t), some (.int l1), some (.int l2), some (.int l3), some (.int l4), some (.int l5)] [] (jG0 sc) h (0, 0)) :
    WP mX3_plainFrom Q 50 [some (.ref t), some (.int l1), some (.int l2), some (.int l3), some (.int l4), some (.int l5)] [] (jG0 sc) h (0, 0) := by
  obtain ⟨t_lt6, t_K0, t_R0_0, t_K1, t_L1, t_R0_1, t_K2, t_L2, t_R0_2, t_K3, t_L3, t_R0_3, t_K4, t_L4, t_R0_4, t_K5, t_L5, t_R0_5, t_K6, t_L6⟩ := t_h
  have t_lt5 : t + 5 < jN (jG0 sc) := Nat.lt_of_succ_lt t_lt6
  have t_lt4 : t + 4 < jN (jG0 sc) := Nat.lt_of_succ_lt t_lt5
  have t_lt3 : t + 3 < jN (jG0 sc) := Nat.lt_of_succ_lt t_lt4
  have t_lt2 : t + 2 < jN (jG0 sc) := Nat.lt_of_succ_lt t_lt3
  have t_lt1 : t + 1 < jN (jG0 sc) := Nat.lt_of_succ_lt t_lt2
  have t_lt0 : t + 0 < jN (jG0 sc) := Nat.lt_of_succ_lt t_lt1
  refine j_iload (i := 5) rfl dX3_plainFrom_50 ?_
  refine j_aload_n (i := 0) rfl dX3_plainFrom_52 ?_
  refine j_getR (idx := 24) (ci := 3) (k := 4) (nest := false) (show (3, 24, 3, 4, false) ∈ jFT by decide) rfl (t_lt0) t_K0 (a := (t + 5)) t_R0_4 dX3_plainFrom_53 ?_
  refine j_iload (i := 4) rfl dX3_plainFrom_56 ?_
  refine j_iald (t_lt5) t_K5 (by rw [show jL (jG0 sc) (t + 5) = 10 from t_L5]; exact o1) dX3_plainFrom_58 ?_
  refine j_icmp_lt (off := 10) 69 dX3_plainFrom_59 (by decide) (fun c1 => ?_) (fun c1 => ?_)
  · exact j_le [some (.ref t), some (.int l1), some (.int l2), some (.int l3), some (.int l4), some (.int l5)] (And.intro rfl (And.intro rfl (And.intro rfl (And.intro rfl (And.intro rfl (And.intro rfl True.intro)))))) (v1 c1)
  · exact j_le [some (.ref t), some (.int l1), some (.int l2), some (.int l3), some (.int l4), some (.int l5)] (And.intro rfl (And.intro rfl (And.intro rfl (And.intro rfl (And.intro rfl (And.intro rfl True.intro)))))) (v2 c1)
set_option maxRecDepth 100000 in
theorem bX3_plainFrom_62 {sc : Nat × (Nat → Int32)} {h : jH} {Q : jQ} {t : Nat} {l1 l2 l3 l4 l5 : Int32} (t_h : jI3 t)
    (v1 : WP mX3_plainFrom Q 71 [some (.ref t), some (.int l1), some (.int l2), some (.int l3), some (.int l4), some (.int l5)] [.int (l5 + 1)] (jG0 sc) h (0, 0)) :
    WP mX3_plainFrom Q 62 [some (.ref t), some (.int l1), some (.int l2), some (.int l3), some (.int l4), some (.int l5)] [] (jG0 sc) h (0, 0) := by
  obtain ⟨t_lt6, t_K0, t_R0_0, t_K1, t_L1, t_R0_1, t_K2, t_L2, t_R0_2, t_K3, t_L3, t_R0_3, t_K4, t_L4, t_R0_4, t_K5, t_L5, t_R0_5, t_K6, t_L6⟩ := t_h
  have t_lt5 : t + 5 < jN (jG0 sc) := Nat.lt_of_succ_lt t_lt6
  have t_lt4 : t + 4 < jN (jG0 sc) := Nat.lt_of_succ_lt t_lt5
  have t_lt3 : t + 3 < jN (jG0 sc) := Nat.lt_of_succ_lt t_lt4
  have t_lt2 : t + 2 < jN (jG0 sc) := Nat.lt_of_succ_lt t_lt3
  have t_lt1 : t + 1 < jN (jG0 sc) := Nat.lt_of_succ_lt t_lt2
  have t_lt0 : t + 0 < jN (jG0 sc) := Nat.lt_of_succ_lt t_lt1
  refine j_iload (i := 5) rfl dX3_plainFrom_62 ?_
  refine j_iconst (n := 1) 1 (by decide) dX3_plainFrom_64 ?_
  refine j_iadd dX3_plainFrom_65 ?_
  refine j_goto (off := 5) 71 dX3_plainFrom_66 (by decide) ?_
  exact j_le [some (.ref t), some (.int l1), some (.int l2), some (.int l3), some (.int l4), some (.int l5)] (And.intro rfl (And.intro rfl (And.intro rfl (And.intro rfl (And.intro rfl (And.intro rfl True.intro)))))) v1
set_option maxRecDepth 100000 in
theorem bX3_plainFrom_69 {sc : Nat × (Nat → Int32)} {h : jH} {Q : jQ} {t : Nat} {l1 l2 l3 l4 l5 : Int32} (t_h : jI3 t)
    (v1 : WP mX3_plainFrom Q 71 [some (.ref t), some (.int l1), some (.int l2), some (.int l3), some (.int l4), some (.int l5)] [.int l5] (jG0 sc) h (0, 0)) :
    WP mX3_plainFrom Q 69 [some (.ref t), some (.int l1), some (.int l2), some (.int l3), some (.int l4), some (.int l5)] [] (jG0 sc) h (0, 0) := by
  obtain ⟨t_lt6, t_K0, t_R0_0, t_K1, t_L1, t_R0_1, t_K2, t_L2, t_R0_2, t_K3, t_L3, t_R0_3, t_K4, t_L4, t_R0_4, t_K5, t_L5, t_R0_5, t_K6, t_L6⟩ := t_h
  have t_lt5 : t + 5 < jN (jG0 sc) := Nat.lt_of_succ_lt t_lt6
  have t_lt4 : t + 4 < jN (jG0 sc) := Nat.lt_of_succ_lt t_lt5
  have t_lt3 : t + 3 < jN (jG0 sc) := Nat.lt_of_succ_lt t_lt4
  have t_lt2 : t + 2 < jN (jG0 sc) := Nat.lt_of_succ_lt t_lt3
  have t_lt1 : t + 1 < jN (jG0 sc) := Nat.lt_of_succ_lt t_lt2
  have t_lt0 : t + 0 < jN (jG0 sc) := Nat.lt_of_succ_lt t_lt1
  refine j_iload (i := 5) rfl dX3_plainFrom_69 ?_
  exact j_le [some (.ref t), some (.int l1), some (.int l2), some (.int l3), some (.int l4), some (.int l5)] (And.intro rfl (And.intro rfl (And.intro rfl (And.intro rfl (And.intro rfl (And.intro rfl True.intro)))))) v1
set_option maxRecDepth 100000 in
theorem bX3_plainFrom_71 {sc : Nat × (Nat → Int32)} {h : jH} {Q : jQ} {t : Nat} {l1 l2 l3 l4 l5 s0 : Int32} (t_h : jI3 t)
    (v1 : Q (.inl (some (.int s0))) (jG0 sc) h) :
    WP mX3_plainFrom Q 71 [some (.ref t), some (.int l1), some (.int l2), some (.int l3), some (.int l4), some (.int l5)] [.int s0] (jG0 sc) h (0, 0) := by
  obtain ⟨t_lt6, t_K0, t_R0_0, t_K1, t_L1, t_R0_1, t_K2, t_L2, t_R0_2, t_K3, t_L3, t_R0_3, t_K4, t_L4, t_R0_4, t_K5, t_L5, t_R0_5, t_K6, t_L6⟩ := t_h
  have t_lt5 : t + 5 < jN (jG0 sc) := Nat.lt_of_succ_lt t_lt6
  have t_lt4 : t + 4 < jN (jG0 sc) := Nat.lt_of_succ_lt t_lt5
  have t_lt3 : t + 3 < jN (jG0 sc) := Nat.lt_of_succ_lt t_lt4
  have t_lt2 : t + 2 < jN (jG0 sc) := Nat.lt_of_succ_lt t_lt3
  have t_lt1 : t + 1 < jN (jG0 sc) := Nat.lt_of_succ_lt t_lt2
  have t_lt0 : t + 0 < jN (jG0 sc) := Nat.lt_of_succ_lt t_lt1
  exact j_iret rfl rfl (Nat.zero_le _) (Nat.zero_le _) dX3_plainFrom_71 v1
set_option maxRecDepth 100000 in
theorem bX3_plainFrom_72 {sc : Nat × (Nat → Int32)} {h : jH} {Q : jQ} {t : Nat} {l1 l2 l3 l4 : Int32} (t_h : jI3 t)
    (o1 : vp_in l4 10)
    (v1 : WP mX3_plainFrom Q 5 [some (.ref t), some (.int l1), some (.int l2), some (.int (l3 - (h (t + 6) l4.toNatClampNeg))), some (.int (l4 + 1)), none] [] (jG0 sc) h (0, 0)) :
    WP mX3_plainFrom Q 72 [some (.ref t), some (.int l1), some (.int l2), some (.int l3), some (.int l4), none] [] (jG0 sc) h (0, 0) := by
  obtain ⟨t_lt6, t_K0, t_R0_0, t_K1, t_L1, t_R0_1, t_K2, t_L2, t_R0_2, t_K3, t_L3, t_R0_3, t_K4, t_L4, t_R0_4, t_K5, t_L5, t_R0_5, t_K6, t_L6⟩ := t_h
  have t_lt5 : t + 5 < jN (jG0 sc) := Nat.lt_of_succ_lt t_lt6
  have t_lt4 : t + 4 < jN (jG0 sc) := Nat.lt_of_succ_lt t_lt5
  have t_lt3 : t + 3 < jN (jG0 sc) := Nat.lt_of_succ_lt t_lt4
  have t_lt2 : t + 2 < jN (jG0 sc) := Nat.lt_of_succ_lt t_lt3
  have t_lt1 : t + 1 < jN (jG0 sc) := Nat.lt_of_succ_lt t_lt2
  have t_lt0 : t + 0 < jN (jG0 sc) := Nat.lt_of_succ_lt t_lt1
  refine j_iload_n (i := 3) rfl dX3_plainFrom_72 ?_
  refine j_aload_n (i := 0) rfl dX3_plainFrom_73 ?_
  refine j_getR (idx := 27) (ci := 3) (k := 5) (nest := false) (show (3, 27, 3, 5, false) ∈ jFT by decide) rfl (t_lt0) t_K0 (a := (t + 6)) t_R0_5 dX3_plainFrom_74 ?_
  refine j_iload (i := 4) rfl dX3_plainFrom_77 ?_
  refine j_iald (t_lt6) t_K6 (by rw [show jL (jG0 sc) (t + 6) = 10 from t_L6]; exact o1) dX3_plainFrom_79 ?_
  refine j_isub dX3_plainFrom_80 ?_
  refine j_istore_n (i := 3) dX3_plainFrom_81 (Nat.le_of_ble_eq_true rfl) ?_
  refine j_iinc (i := 4) (n := 1) rfl dX3_plainFrom_82 (Nat.le_of_ble_eq_true rfl) ?_
  refine j_eqlv [some (.ref t), some (.int l1), some (.int l2), some (.int (l3 - (h (t + 6) l4.toNatClampNeg))), some (.int (l4 + 1)), none] rfl ?_
  refine j_goto (off := -80) 5 dX3_plainFrom_85 (by decide) ?_
  exact j_le [some (.ref t), some (.int l1), some (.int l2), some (.int (l3 - (h (t + 6) l4.toNatClampNeg))), some (.int (l4 + 1)), none] (And.intro rfl (And.intro rfl (And.intro rfl (And.intro rfl (And.intro rfl True.intro))))) v1
set_option maxRecDepth 100000 in
theorem bX3_plainFrom_88 {sc : Nat × (Nat → Int32)} {h : jH} {Q : jQ} {t : Nat} {l1 l2 l3 l4 : Int32} (t_h : jI3 t)
    (v1 : Q (.inl (some (.int (-1)))) (jG0 sc) h) :
    WP mX3_plainFrom Q 88 [some (.ref t), some (.int l1), some (.int l2), some (.int l3), some (.int l4), none] [] (jG0 sc) h (0, 0) := by
  obtain ⟨t_lt6, t_K0, t_R0_0, t_K1, t_L1, t_R0_1, t_K2, t_L2, t_R0_2, t_K3, t_L3, t_R0_3, t_K4, t_L4, t_R0_4, t_K5, t_L5, t_R0_5, t_K6, t_L6⟩ := t_h
  have t_lt5 : t + 5 < jN (jG0 sc) := Nat.lt_of_succ_lt t_lt6
  have t_lt4 : t + 4 < jN (jG0 sc) := Nat.lt_of_succ_lt t_lt5
  have t_lt3 : t + 3 < jN (jG0 sc) := Nat.lt_of_succ_lt t_lt4
  have t_lt2 : t + 2 < jN (jG0 sc) := Nat.lt_of_succ_lt t_lt3
  have t_lt1 : t + 1 < jN (jG0 sc) := Nat.lt_of_succ_lt t_lt2
  have t_lt0 : t + 0 < jN (jG0 sc) := Nat.lt_of_succ_lt t_lt1
  refine j_iconst (n := (-1)) (-1) (by decide) dX3_plainFrom_88 ?_
  exact j_iret rfl rfl (Nat.zero_le _) (Nat.zero_le _) dX3_plainFrom_89 v1
set_option maxRecDepth 100000 in
theorem rX3_plainFrom_0 {sc : Nat × (Nat → Int32)} {h : jH} {Q : jQ} {t : Nat} {l1 l2 : Int32} (t_h : jI3 t)
    (v1 : WP mX3_plainFrom Q 5 [some (.ref t), some (.int l1), some (.int l2), some (.int l2), some (.int l1), none] [] (jG0 sc) h (0, 0)) :
    WP mX3_plainFrom Q 0 [some (.ref t), some (.int l1), some (.int l2), none, none, none] [] (jG0 sc) h (0, 0) := by
  exact (bX3_plainFrom_0 t_h v1)
set_option maxRecDepth 100000 in
theorem rX3_plainFrom_5 {sc : Nat × (Nat → Int32)} {h : jH} {Q : jQ} {t : Nat} {l1 l2 l3 l4 : Int32} (t_h : jI3 t)
    (v1 : l4 < 0 → Q (.inl (some (.int (-1)))) (jG0 sc) h)
    (v2 : ¬ l4 < 0 → 10 ≤ l4 → Q (.inl (some (.int (-1)))) (jG0 sc) h)
    (o1 : ¬ l4 < 0 → ¬ 10 ≤ l4 → vp_in l4 10)
    (o2 : ¬ l4 < 0 → ¬ 10 ≤ l4 → (h (t + 6) l4.toNatClampNeg) ≤ l3 → vp_in l4 10)
    (v3 : ¬ l4 < 0 → ¬ 10 ≤ l4 → (h (t + 6) l4.toNatClampNeg) ≤ l3 → WP mX3_plainFrom Q 5 [some (.ref t), some (.int l1), some (.int l2), some (.int (l3 - (h (t + 6) l4.toNatClampNeg))), some (.int (l4 + 1)), none] [] (jG0 sc) h (0, 0))
    (o3 : ¬ l4 < 0 → ¬ 10 ≤ l4 → ¬ (h (t + 6) l4.toNatClampNeg) ≤ l3 → vp_in l4 10)
    (v4 : ¬ l4 < 0 → ¬ 10 ≤ l4 → ¬ (h (t + 6) l4.toNatClampNeg) ≤ l3 → (h (t + 5) l4.toNatClampNeg) = (-1) → Q (.inl (some (.int ((h (t + 4) l4.toNatClampNeg) + l3)))) (jG0 sc) h)
    (o4 : ¬ l4 < 0 → ¬ 10 ≤ l4 → ¬ (h (t + 6) l4.toNatClampNeg) ≤ l3 → ¬ (h (t + 5) l4.toNatClampNeg) = (-1) → vp_in l4 10)
    (v5 : ¬ l4 < 0 → ¬ 10 ≤ l4 → ¬ (h (t + 6) l4.toNatClampNeg) ≤ l3 → ¬ (h (t + 5) l4.toNatClampNeg) = (-1) → ((h (t + 4) l4.toNatClampNeg) + l3) < (h (t + 5) l4.toNatClampNeg) → Q (.inl (some (.int ((h (t + 4) l4.toNatClampNeg) + l3)))) (jG0 sc) h)
    (v6 : ¬ l4 < 0 → ¬ 10 ≤ l4 → ¬ (h (t + 6) l4.toNatClampNeg) ≤ l3 → ¬ (h (t + 5) l4.toNatClampNeg) = (-1) → ¬ ((h (t + 4) l4.toNatClampNeg) + l3) < (h (t + 5) l4.toNatClampNeg) → Q (.inl (some (.int (((h (t + 4) l4.toNatClampNeg) + l3) + 1)))) (jG0 sc) h) :
    WP mX3_plainFrom Q 5 [some (.ref t), some (.int l1), some (.int l2), some (.int l3), some (.int l4), none] [] (jG0 sc) h (0, 0) := by
  exact (bX3_plainFrom_5 t_h (fun c1 => (bX3_plainFrom_88 t_h (v1 c1))) (fun c1 => (bX3_plainFrom_10 t_h (fun c2 => (bX3_plainFrom_88 t_h (v2 c1 c2))) (fun c2 => (bX3_plainFrom_17 t_h (o1 c1 c2) (fun c3 => (bX3_plainFrom_72 t_h (o2 c1 c2 c3) (v3 c1 c2 c3))) (fun c3 => (bX3_plainFrom_28 t_h (o3 c1 c2 c3) (o3 c1 c2 c3) (fun c4 => (bX3_plainFrom_69 t_h (bX3_plainFrom_71 t_h (v4 c1 c2 c3 c4)))) (fun c4 => (bX3_plainFrom_50 t_h (o4 c1 c2 c3 c4) (fun c5 => (bX3_plainFrom_69 t_h (bX3_plainFrom_71 t_h (v5 c1 c2 c3 c4 c5)))) (fun c5 => (bX3_plainFrom_62 t_h (bX3_plainFrom_71 t_h (v6 c1 c2 c3 c4 c5)))))))))))))
theorem dX3_shape_0 : decode (mC mX3_shape) 0 = .ok (.aload_n 3, 1) := by decide +kernel
theorem dX3_shape_1 : decode (mC mX3_shape) 1 = .ok (.aload_n 1, 1) := by decide +kernel
theorem dX3_shape_2 : decode (mC mX3_shape) 2 = .ok (.invokevirtual 109, 3) := by decide +kernel
theorem dX3_shape_5 : decode (mC mX3_shape) 5 = .ok (.aload_n 0, 1) := by decide +kernel
theorem dX3_shape_6 : decode (mC mX3_shape) 6 = .ok (.iload_n 2, 1) := by decide +kernel
theorem dX3_shape_7 : decode (mC mX3_shape) 7 = .ok (.invokevirtual 113, 3) := by decide +kernel
theorem dX3_shape_10 : decode (mC mX3_shape) 10 = .ok (.istore 4, 2) := by decide +kernel
theorem dX3_shape_12 : decode (mC mX3_shape) 12 = .ok (.aload_n 0, 1) := by decide +kernel
theorem dX3_shape_13 : decode (mC mX3_shape) 13 = .ok (.aload_n 0, 1) := by decide +kernel
theorem dX3_shape_14 : decode (mC mX3_shape) 14 = .ok (.getfield 30, 3) := by decide +kernel
theorem dX3_shape_17 : decode (mC mX3_shape) 17 = .ok (.aload_n 1, 1) := by decide +kernel
theorem dX3_shape_18 : decode (mC mX3_shape) 18 = .ok (.aload_n 3, 1) := by decide +kernel
theorem dX3_shape_19 : decode (mC mX3_shape) 19 = .ok (.invokevirtual 116, 3) := by decide +kernel
theorem dX3_shape_22 : decode (mC mX3_shape) 22 = .ok (.aload_n 0, 1) := by decide +kernel
theorem dX3_shape_23 : decode (mC mX3_shape) 23 = .ok (.aload_n 0, 1) := by decide +kernel
theorem dX3_shape_24 : decode (mC mX3_shape) 24 = .ok (.getfield 34, 3) := by decide +kernel
theorem dX3_shape_27 : decode (mC mX3_shape) 27 = .ok (.aload_n 1, 1) := by decide +kernel
theorem dX3_shape_28 : decode (mC mX3_shape) 28 = .ok (.aload_n 3, 1) := by decide +kernel
theorem dX3_shape_29 : decode (mC mX3_shape) 29 = .ok (.invokevirtual 116, 3) := by decide +kernel
theorem dX3_shape_32 : decode (mC mX3_shape) 32 = .ok (.iload 4, 2) := by decide +kernel
theorem dX3_shape_34 : decode (mC mX3_shape) 34 = .ok (.ireturn, 1) := by decide +kernel
set_option maxRecDepth 100000 in
theorem bX3_shape_0 {sc : Nat × (Nat → Int32)} {h : jH} {Q : jQ} {a : Nat} {b : Nat} {t : Nat} {l2 : Int32} {P1 : jH → Prop} {P2 : Int32 → jH → Prop} {P3 : jH → Prop} (a_h : jI4 a) (b_h : jI4 b) (t_h : jI3 t)
    (k1 : JM mX4_copyOf [.ref b, .ref a] (jG0 sc) h (jvoid sc P1))
    (k2 : ∀ h1 : jH, P1 h1 → JM mX3_part [.ref t, .int l2] (jG0 sc) h1 (jint sc P2))
    (k3 : ∀ h1 : jH, P1 h1 → ∀ (x2 : Int32) (h2 : jH), P2 x2 h2 → JM mX3_change [.ref t, .int (h2 t 7), .ref a, .ref b] (jG0 sc) h2 (jvoid sc P3))
    (v1 : ∀ h1 : jH, P1 h1 → ∀ (x2 : Int32) (h2 : jH), P2 x2 h2 → ∀ h3 : jH, P3 h3 → WP mX3_shape Q 23 [some (.ref t), some (.ref a), some (.int l2), some (.ref b), some (.int x2)] [.ref t] (jG0 sc) h3 (0, 0)) :
    WP mX3_shape Q 0 [some (.ref t), some (.ref a), some (.int l2), some (.ref b), none] [] (jG0 sc) h (0, 0) := by
  obtain ⟨a_lt1, a_K0, a_R0_0, a_K1, a_L1⟩ := a_h
  have a_lt0 : a + 0 < jN (jG0 sc) := Nat.lt_of_succ_lt a_lt1
  obtain ⟨b_lt1, b_K0, b_R0_0, b_K1, b_L1⟩ := b_h
  have b_lt0 : b + 0 < jN (jG0 sc) := Nat.lt_of_succ_lt b_lt1
  obtain ⟨t_lt6, t_K0, t_R0_0, t_K1, t_L1, t_R0_1, t_K2, t_L2, t_R0_2, t_K3, t_L3, t_R0_3, t_K4, t_L4, t_R0_4, t_K5, t_L5, t_R0_5, t_K6, t_L6⟩ := t_h
  have t_lt5 : t + 5 < jN (jG0 sc) := Nat.lt_of_succ_lt t_lt6
  have t_lt4 : t + 4 < jN (jG0 sc) := Nat.lt_of_succ_lt t_lt5
  have t_lt3 : t + 3 < jN (jG0 sc) := Nat.lt_of_succ_lt t_lt4
  have t_lt2 : t + 2 < jN (jG0 sc) := Nat.lt_of_succ_lt t_lt3
  have t_lt1 : t + 1 < jN (jG0 sc) := Nat.lt_of_succ_lt t_lt2
  have t_lt0 : t + 0 < jN (jG0 sc) := Nat.lt_of_succ_lt t_lt1
  refine j_aload_n (i := 3) rfl dX3_shape_0 ?_
  refine j_aload_n (i := 1) rfl dX3_shape_1 ?_
  refine j_callVN (idx := 109) (As := [.ref a]) (ci := 4) (n := 1) k1 jvoid_nt (jTbl (jtb2 203 rfl)) sX4_copyOf kX4_copyOf rfl ⟨rfl, by decide +kernel, by decide +kernel, by decide +kernel⟩ rfl ⟨by decide, by decide⟩ (b_lt0) b_K0 (Nat.le_of_ble_eq_true rfl) (Nat.le_of_ble_eq_true rfl) ⟨Nat.zero_le _, Nat.zero_le _⟩ dX3_shape_2 (fun r Γ' h1 q => ?_)
  obtain ⟨q0, rfl, p1⟩ := q; cases q0
  refine j_eqst [] (by rfl) ?_
  refine j_aload_n (i := 0) rfl dX3_shape_5 ?_
  refine j_iload_n (i := 2) rfl dX3_shape_6 ?_
  refine j_callV (idx := 113) (As := [.int l2]) (ci := 3) (n := 1) (k2 h1 p1) jint_nt (jlkT (jtb2 207 rfl) rfl) sX3_part kX3_part rfl ⟨rfl, by decide +kernel, by decide +kernel, by decide +kernel⟩ rfl ⟨by decide, by decide⟩ (t_lt0) t_K0 (Nat.le_of_ble_eq_true rfl) (Nat.le_of_ble_eq_true rfl) ⟨Nat.zero_le _, Nat.zero_le _⟩ dX3_shape_7 (fun r Γ' h2 q => ?_)
  obtain ⟨x2, q0, rfl, p2⟩ := q; cases q0
  refine j_eqst [.int x2] (by rfl) ?_
  refine j_istore (i := 4) dX3_shape_10 (Nat.le_of_ble_eq_true rfl) ?_
  refine j_aload_n (i := 0) rfl dX3_shape_12 ?_
  refine j_aload_n (i := 0) rfl dX3_shape_13 ?_
  refine j_getI (idx := 30) (ci := 3) (k := 7) (nest := false) (show (3, 30, 3, 7, false) ∈ jFT by decide) rfl (t_lt0) t_K0 dX3_shape_14 ?_
  refine j_aload_n (i := 1) rfl dX3_shape_17 ?_
  refine j_aload_n (i := 3) rfl dX3_shape_18 ?_
  refine j_callV (idx := 116) (As := [.int (h2 t 7), .ref a, .ref b]) (ci := 3) (n := 3) (k3 h1 p1 x2 h2 p2) jvoid_nt (jlkT (jtb2 219 rfl) rfl) sX3_change kX3_change rfl ⟨rfl, by decide +kernel, by decide +kernel, by decide +kernel⟩ rfl ⟨by decide, by decide⟩ (t_lt0) t_K0 (Nat.le_of_ble_eq_true rfl) (Nat.le_of_ble_eq_true rfl) ⟨Nat.zero_le _, Nat.zero_le _⟩ dX3_shape_19 (fun r Γ' h3 q => ?_)
  obtain ⟨q0, rfl, p3⟩ := q; cases q0
  refine j_eqst [] (by rfl) ?_
  refine j_aload_n (i := 0) rfl dX3_shape_22 ?_
  exact j_le [some (.ref t), some (.ref a), some (.int l2), some (.ref b), some (.int x2)] (And.intro rfl (And.intro rfl (And.intro rfl (And.intro rfl (And.intro rfl True.intro))))) (v1 h1 p1 x2 h2 p2 h3 p3)
set_option maxRecDepth 100000 in
theorem bX3_shape_23 {sc : Nat × (Nat → Int32)} {h : jH} {Q : jQ} {a : Nat} {b : Nat} {t : Nat} {l2 l4 : Int32} {P1 : jH → Prop} (a_h : jI4 a) (b_h : jI4 b) (t_h : jI3 t)
    (k1 : JM mX3_change [.ref t, .int (h t 8), .ref a, .ref b] (jG0 sc) h (jvoid sc P1))
    (o1 : ∀ h1 : jH, P1 h1 → l4 = 0 ∨ l4 = 1)
    (v1 : ∀ h1 : jH, P1 h1 → Q (.inl (some (.int l4))) (jG0 sc) h1) :
    WP mX3_shape Q 23 [some (.ref t), some (.ref a), some (.int l2), some (.ref b), some (.int l4)] [.ref t] (jG0 sc) h (0, 0) := by
  obtain ⟨a_lt1, a_K0, a_R0_0, a_K1, a_L1⟩ := a_h
  have a_lt0 : a + 0 < jN (jG0 sc) := Nat.lt_of_succ_lt a_lt1
  obtain ⟨b_lt1, b_K0, b_R0_0, b_K1, b_L1⟩ := b_h
  have b_lt0 : b + 0 < jN (jG0 sc) := Nat.lt_of_succ_lt b_lt1
  obtain ⟨t_lt6, t_K0, t_R0_0, t_K1, t_L1, t_R0_1, t_K2, t_L2, t_R0_2, t_K3, t_L3, t_R0_3, t_K4, t_L4, t_R0_4, t_K5, t_L5, t_R0_5, t_K6, t_L6⟩ := t_h
  have t_lt5 : t + 5 < jN (jG0 sc) := Nat.lt_of_succ_lt t_lt6
  have t_lt4 : t + 4 < jN (jG0 sc) := Nat.lt_of_succ_lt t_lt5
  have t_lt3 : t + 3 < jN (jG0 sc) := Nat.lt_of_succ_lt t_lt4
  have t_lt2 : t + 2 < jN (jG0 sc) := Nat.lt_of_succ_lt t_lt3
  have t_lt1 : t + 1 < jN (jG0 sc) := Nat.lt_of_succ_lt t_lt2
  have t_lt0 : t + 0 < jN (jG0 sc) := Nat.lt_of_succ_lt t_lt1
  refine j_aload_n (i := 0) rfl dX3_shape_23 ?_
  refine j_getI (idx := 34) (ci := 3) (k := 8) (nest := false) (show (3, 34, 3, 8, false) ∈ jFT by decide) rfl (t_lt0) t_K0 dX3_shape_24 ?_
  refine j_aload_n (i := 1) rfl dX3_shape_27 ?_
  refine j_aload_n (i := 3) rfl dX3_shape_28 ?_
  refine j_callV (idx := 116) (As := [.int (h t 8), .ref a, .ref b]) (ci := 3) (n := 3) k1 jvoid_nt (jlkT (jtb2 219 rfl) rfl) sX3_change kX3_change rfl ⟨rfl, by decide +kernel, by decide +kernel, by decide +kernel⟩ rfl ⟨by decide, by decide⟩ (t_lt0) t_K0 (Nat.le_of_ble_eq_true rfl) (Nat.le_of_ble_eq_true rfl) ⟨Nat.zero_le _, Nat.zero_le _⟩ dX3_shape_29 (fun r Γ' h1 q => ?_)
  obtain ⟨q0, rfl, p1⟩ := q; cases q0
  refine j_eqst [] (by rfl) ?_
  refine j_iload (i := 4) rfl dX3_shape_32 ?_
  exact j_iret rfl (jbn (o1 h1 p1)) (Nat.zero_le _) (Nat.zero_le _) dX3_shape_34 (v1 h1 p1)
set_option maxRecDepth 100000 in
theorem rX3_shape_0 {sc : Nat × (Nat → Int32)} {h : jH} {Q : jQ} {a : Nat} {b : Nat} {t : Nat} {l2 : Int32} {P1 : jH → Prop} {P2 : Int32 → jH → Prop} {P3 : jH → Prop} {P4 : jH → Prop} (a_h : jI4 a) (b_h : jI4 b) (t_h : jI3 t)
    (k1 : JM mX4_copyOf [.ref b, .ref a] (jG0 sc) h (jvoid sc P1))
    (k2 : ∀ h1 : jH, P1 h1 → JM mX3_part [.ref t, .int l2] (jG0 sc) h1 (jint sc P2))
    (k3 : ∀ h1 : jH, P1 h1 → ∀ (x2 : Int32) (h2 : jH), P2 x2 h2 → JM mX3_change [.ref t, .int (h2 t 7), .ref a, .ref b] (jG0 sc) h2 (jvoid sc P3))
    (k4 : ∀ h1 : jH, P1 h1 → ∀ (x2 : Int32) (h2 : jH), P2 x2 h2 → ∀ h3 : jH, P3 h3 → JM mX3_change [.ref t, .int (h3 t 8), .ref a, .ref b] (jG0 sc) h3 (jvoid sc P4))
    (o1 : ∀ h1 : jH, P1 h1 → ∀ (x2 : Int32) (h2 : jH), P2 x2 h2 → ∀ h3 : jH, P3 h3 → ∀ h4 : jH, P4 h4 → x2 = 0 ∨ x2 = 1)
    (v1 : ∀ h1 : jH, P1 h1 → ∀ (x2 : Int32) (h2 : jH), P2 x2 h2 → ∀ h3 : jH, P3 h3 → ∀ h4 : jH, P4 h4 → Q (.inl (some (.int x2))) (jG0 sc) h4) :
    WP mX3_shape Q 0 [some (.ref t), some (.ref a), some (.int l2), some (.ref b), none] [] (jG0 sc) h (0, 0) := by
  exact (bX3_shape_0 a_h b_h t_h k1 (fun h1 p1 => (k2 h1 p1)) (fun h1 p1 x2 h2 p2 => (k3 h1 p1 x2 h2 p2)) (fun h1 p1 x2 h2 p2 h3 p3 => (bX3_shape_23 a_h b_h t_h (k4 h1 p1 x2 h2 p2 h3 p3) (fun h4 p4 => (o1 h1 p1 x2 h2 p2 h3 p3 h4 p4)) (fun h4 p4 => (v1 h1 p1 x2 h2 p2 h3 p3 h4 p4)))))
theorem dX3_change_0 : decode (mC mX3_change) 0 = .ok (.iload_n 1, 1) := by decide +kernel
theorem dX3_change_1 : decode (mC mX3_change) 1 = .ok (.ifCond .lt 18, 3) := by decide +kernel
theorem dX3_change_4 : decode (mC mX3_change) 4 = .ok (.iload_n 1, 1) := by decide +kernel
theorem dX3_change_5 : decode (mC mX3_change) 5 = .ok (.aload_n 0, 1) := by decide +kernel
theorem dX3_change_6 : decode (mC mX3_change) 6 = .ok (.getfield 37, 3) := by decide +kernel
theorem dX3_change_9 : decode (mC mX3_change) 9 = .ok (.if_icmp .ge 10, 3) := by decide +kernel
theorem dX3_change_12 : decode (mC mX3_change) 12 = .ok (.iload_n 1, 1) := by decide +kernel
theorem dX3_change_13 : decode (mC mX3_change) 13 = .ok (.sipush 300, 3) := by decide +kernel
theorem dX3_change_16 : decode (mC mX3_change) 16 = .ok (.if_icmp .lt 4, 3) := by decide +kernel
theorem dX3_change_19 : decode (mC mX3_change) 19 = .ok (.return_, 1) := by decide +kernel
theorem dX3_change_20 : decode (mC mX3_change) 20 = .ok (.aload_n 0, 1) := by decide +kernel
theorem dX3_change_21 : decode (mC mX3_change) 21 = .ok (.getfield 15, 3) := by decide +kernel
theorem dX3_change_24 : decode (mC mX3_change) 24 = .ok (.iload_n 1, 1) := by decide +kernel
theorem dX3_change_25 : decode (mC mX3_change) 25 = .ok (.iaload, 1) := by decide +kernel
theorem dX3_change_26 : decode (mC mX3_change) 26 = .ok (.istore 4, 2) := by decide +kernel
theorem dX3_change_28 : decode (mC mX3_change) 28 = .ok (.aload_n 0, 1) := by decide +kernel
theorem dX3_change_29 : decode (mC mX3_change) 29 = .ok (.getfield 9, 3) := by decide +kernel
theorem dX3_change_32 : decode (mC mX3_change) 32 = .ok (.iload_n 1, 1) := by decide +kernel
theorem dX3_change_33 : decode (mC mX3_change) 33 = .ok (.iaload, 1) := by decide +kernel
theorem dX3_change_34 : decode (mC mX3_change) 34 = .ok (.iconst 4, 1) := by decide +kernel
theorem dX3_change_35 : decode (mC mX3_change) 35 = .ok (.if_icmp .ne 34, 3) := by decide +kernel
theorem dX3_change_38 : decode (mC mX3_change) 38 = .ok (.aload_n 3, 1) := by decide +kernel
theorem dX3_change_39 : decode (mC mX3_change) 39 = .ok (.iload 4, 2) := by decide +kernel
theorem dX3_change_41 : decode (mC mX3_change) 41 = .ok (.aload_n 2, 1) := by decide +kernel
theorem dX3_change_42 : decode (mC mX3_change) 42 = .ok (.iload 4, 2) := by decide +kernel
theorem dX3_change_44 : decode (mC mX3_change) 44 = .ok (.iconst 1, 1) := by decide +kernel
theorem dX3_change_45 : decode (mC mX3_change) 45 = .ok (.iadd, 1) := by decide +kernel
theorem dX3_change_46 : decode (mC mX3_change) 46 = .ok (.invokevirtual 43, 3) := by decide +kernel
theorem dX3_change_49 : decode (mC mX3_change) 49 = .ok (.invokevirtual 120, 3) := by decide +kernel
theorem dX3_change_52 : decode (mC mX3_change) 52 = .ok (.aload_n 3, 1) := by decide +kernel
theorem dX3_change_53 : decode (mC mX3_change) 53 = .ok (.iload 4, 2) := by decide +kernel
theorem dX3_change_55 : decode (mC mX3_change) 55 = .ok (.iconst 1, 1) := by decide +kernel
theorem dX3_change_56 : decode (mC mX3_change) 56 = .ok (.iadd, 1) := by decide +kernel
theorem dX3_change_57 : decode (mC mX3_change) 57 = .ok (.aload_n 2, 1) := by decide +kernel
theorem dX3_change_58 : decode (mC mX3_change) 58 = .ok (.iload 4, 2) := by decide +kernel
theorem dX3_change_60 : decode (mC mX3_change) 60 = .ok (.invokevirtual 43, 3) := by decide +kernel
theorem dX3_change_63 : decode (mC mX3_change) 63 = .ok (.invokevirtual 120, 3) := by decide +kernel
theorem dX3_change_66 : decode (mC mX3_change) 66 = .ok (.goto 15, 3) := by decide +kernel
theorem dX3_change_69 : decode (mC mX3_change) 69 = .ok (.aload_n 3, 1) := by decide +kernel
theorem dX3_change_70 : decode (mC mX3_change) 70 = .ok (.iload 4, 2) := by decide +kernel
theorem dX3_change_72 : decode (mC mX3_change) 72 = .ok (.aload_n 0, 1) := by decide +kernel
theorem dX3_change_73 : decode (mC mX3_change) 73 = .ok (.getfield 18, 3) := by decide +kernel
theorem dX3_change_76 : decode (mC mX3_change) 76 = .ok (.iload_n 1, 1) := by decide +kernel
theorem dX3_change_77 : decode (mC mX3_change) 77 = .ok (.iaload, 1) := by decide +kernel
theorem dX3_change_78 : decode (mC mX3_change) 78 = .ok (.invokevirtual 120, 3) := by decide +kernel
theorem dX3_change_81 : decode (mC mX3_change) 81 = .ok (.return_, 1) := by decide +kernel
set_option maxRecDepth 100000 in
theorem bX3_change_0 {sc : Nat × (Nat → Int32)} {h : jH} {Q : jQ} {a : Nat} {b : Nat} {t : Nat} {l1 : Int32} (a_h : jI4 a) (b_h : jI4 b) (t_h : jI3 t)
    (v1 : l1 < 0 → WP mX3_change Q 19 [some (.ref t), some (.int l1), some (.ref a), some (.ref b), none] [] (jG0 sc) h (0, 0))
    (v2 : ¬ l1 < 0 → WP mX3_change Q 4 [some (.ref t), some (.int l1), some (.ref a), some (.ref b), none] [] (jG0 sc) h (0, 0)) :
    WP mX3_change Q 0 [some (.ref t), some (.int l1), some (.ref a), some (.ref b), none] [] (jG0 sc) h (0, 0) := by
  obtain ⟨a_lt1, a_K0, a_R0_0, a_K1, a_L1⟩ := a_h
  have a_lt0 : a + 0 < jN (jG0 sc) := Nat.lt_of_succ_lt a_lt1
  obtain ⟨b_lt1, b_K0, b_R0_0, b_K1, b_L1⟩ := b_h
  have b_lt0 : b + 0 < jN (jG0 sc) := Nat.lt_of_succ_lt b_lt1
  obtain ⟨t_lt6, t_K0, t_R0_0, t_K1, t_L1, t_R0_1, t_K2, t_L2, t_R0_2, t_K3, t_L3, t_R0_3, t_K4, t_L4, t_R0_4, t_K5, t_L5, t_R0_5, t_K6, t_L6⟩ := t_h
  have t_lt5 : t + 5 < jN (jG0 sc) := Nat.lt_of_succ_lt t_lt6
  have t_lt4 : t + 4 < jN (jG0 sc) := Nat.lt_of_succ_lt t_lt5
  have t_lt3 : t + 3 < jN (jG0 sc) := Nat.lt_of_succ_lt t_lt4
  have t_lt2 : t + 2 < jN (jG0 sc) := Nat.lt_of_succ_lt t_lt3
  have t_lt1 : t + 1 < jN (jG0 sc) := Nat.lt_of_succ_lt t_lt2
  have t_lt0 : t + 0 < jN (jG0 sc) := Nat.lt_of_succ_lt t_lt1
  refine j_iload_n (i := 1) rfl dX3_change_0 ?_
  refine j_if_lt (off := 18) 19 dX3_change_1 (by decide) (fun c1 => ?_) (fun c1 => ?_)
  · exact j_le [some (.ref t), some (.int l1), some (.ref a), some (.ref b), none] (And.intro rfl (And.intro rfl (And.intro rfl (And.intro rfl True.intro)))) (v1 c1)
  · exact j_le [some (.ref t), some (.int l1), some (.ref a), some (.ref b), none] (And.intro rfl (And.intro rfl (And.intro rfl (And.intro rfl True.intro)))) (v2 c1)
set_option maxRecDepth 100000 in
theorem bX3_change_4 {sc : Nat × (Nat → Int32)} {h : jH} {Q : jQ} {a : Nat} {b : Nat} {t : Nat} {l1 : Int32} (a_h : jI4 a) (b_h : jI4 b) (t_h : jI3 t)
    (v1 : (h t 6) ≤ l1 → WP mX3_change Q 19 [some (.ref t), some (.int l1), some (.ref a), some (.ref b), none] [] (jG0 sc) h (0, 0))
    (v2 : ¬ (h t 6) ≤ l1 → WP mX3_change Q 12 [some (.ref t), some (.int l1), some (.ref a), some (.ref b), none] [] (jG0 sc) h (0, 0)) :
    WP mX3_change Q 4 [some (.ref t), some (.int l1), some (.ref a), some (.ref b), none] [] (jG0 sc) h (0, 0) := by
  obtain ⟨a_lt1, a_K0, a_R0_0, a_K1, a_L1⟩ := a_h
  have a_lt0 : a + 0 < jN (jG0 sc) := Nat.lt_of_succ_lt a_lt1
  obtain ⟨b_lt1, b_K0, b_R0_0, b_K1, b_L1⟩ := b_h
  have b_lt0 : b + 0 < jN (jG0 sc) := Nat.lt_of_succ_lt b_lt1
  obtain ⟨t_lt6, t_K0, t_R0_0, t_K1, t_L1, t_R0_1, t_K2, t_L2, t_R0_2, t_K3, t_L3, t_R0_3, t_K4, t_L4, t_R0_4, t_K5, t_L5, t_R0_5, t_K6, t_L6⟩ := t_h
  have t_lt5 : t + 5 < jN (jG0 sc) := Nat.lt_of_succ_lt t_lt6
  have t_lt4 : t + 4 < jN (jG0 sc) := Nat.lt_of_succ_lt t_lt5
  have t_lt3 : t + 3 < jN (jG0 sc) := Nat.lt_of_succ_lt t_lt4
  have t_lt2 : t + 2 < jN (jG0 sc) := Nat.lt_of_succ_lt t_lt3
  have t_lt1 : t + 1 < jN (jG0 sc) := Nat.lt_of_succ_lt t_lt2
  have t_lt0 : t + 0 < jN (jG0 sc) := Nat.lt_of_succ_lt t_lt1
  refine j_iload_n (i := 1) rfl dX3_change_4 ?_
  refine j_aload_n (i := 0) rfl dX3_change_5 ?_
  refine j_getI (idx := 37) (ci := 3) (k := 6) (nest := false) (show (3, 37, 3, 6, false) ∈ jFT by decide) rfl (t_lt0) t_K0 dX3_change_6 ?_
  refine j_icmp_ge (off := 10) 19 dX3_change_9 (by decide) (fun c1 => ?_) (fun c1 => ?_)
  · exact j_le [some (.ref t), some (.int l1), some (.ref a), some (.ref b), none] (And.intro rfl (And.intro rfl (And.intro rfl (And.intro rfl True.intro)))) (v1 c1)
  · exact j_le [some (.ref t), some (.int l1), some (.ref a), some (.ref b), none] (And.intro rfl (And.intro rfl (And.intro rfl (And.intro rfl True.intro)))) (v2 c1)
set_option maxRecDepth 100000 in
theorem bX3_change_12 {sc : Nat × (Nat → Int32)} {h : jH} {Q : jQ} {a : Nat} {b : Nat} {t : Nat} {l1 : Int32} (a_h : jI4 a) (b_h : jI4 b) (t_h : jI3 t)
    (v1 : l1 < 300 → WP mX3_change Q 20 [some (.ref t), some (.int l1), some (.ref a), some (.ref b), none] [] (jG0 sc) h (0, 0))
    (v2 : ¬ l1 < 300 → WP mX3_change Q 19 [some (.ref t), some (.int l1), some (.ref a), some (.ref b), none] [] (jG0 sc) h (0, 0)) :
    WP mX3_change Q 12 [some (.ref t), some (.int l1), some (.ref a), some (.ref b), none] [] (jG0 sc) h (0, 0) := by
  obtain ⟨a_lt1, a_K0, a_R0_0, a_K1, a_L1⟩ := a_h
  have a_lt0 : a + 0 < jN (jG0 sc) := Nat.lt_of_succ_lt a_lt1
  obtain ⟨b_lt1, b_K0, b_R0_0, b_K1, b_L1⟩ := b_h
  have b_lt0 : b + 0 < jN (jG0 sc) := Nat.lt_of_succ_lt b_lt1
  obtain ⟨t_lt6, t_K0, t_R0_0, t_K1, t_L1, t_R0_1, t_K2, t_L2, t_R0_2, t_K3, t_L3, t_R0_3, t_K4, t_L4, t_R0_4, t_K5, t_L5, t_R0_5, t_K6, t_L6⟩ := t_h
  have t_lt5 : t + 5 < jN (jG0 sc) := Nat.lt_of_succ_lt t_lt6
  have t_lt4 : t + 4 < jN (jG0 sc) := Nat.lt_of_succ_lt t_lt5
  have t_lt3 : t + 3 < jN (jG0 sc) := Nat.lt_of_succ_lt t_lt4
  have t_lt2 : t + 2 < jN (jG0 sc) := Nat.lt_of_succ_lt t_lt3
  have t_lt1 : t + 1 < jN (jG0 sc) := Nat.lt_of_succ_lt t_lt2
  have t_lt0 : t + 0 < jN (jG0 sc) := Nat.lt_of_succ_lt t_lt1
  refine j_iload_n (i := 1) rfl dX3_change_12 ?_
  refine j_sipush (n := 300) 300 (by decide) dX3_change_13 ?_
  refine j_icmp_lt (off := 4) 20 dX3_change_16 (by decide) (fun c1 => ?_) (fun c1 => ?_)
  · exact j_le [some (.ref t), some (.int l1), some (.ref a), some (.ref b), none] (And.intro rfl (And.intro rfl (And.intro rfl (And.intro rfl True.intro)))) (v1 c1)
  · exact j_le [some (.ref t), some (.int l1), some (.ref a), some (.ref b), none] (And.intro rfl (And.intro rfl (And.intro rfl (And.intro rfl True.intro)))) (v2 c1)
set_option maxRecDepth 100000 in
theorem bX3_change_19 {sc : Nat × (Nat → Int32)} {h : jH} {Q : jQ} {a : Nat} {b : Nat} {t : Nat} {l1 : Int32} (a_h : jI4 a) (b_h : jI4 b) (t_h : jI3 t)
    (v1 : Q (.inl none) (jG0 sc) h) :
    WP mX3_change Q 19 [some (.ref t), some (.int l1), some (.ref a), some (.ref b), none] [] (jG0 sc) h (0, 0) := by
  obtain ⟨a_lt1, a_K0, a_R0_0, a_K1, a_L1⟩ := a_h
  have a_lt0 : a + 0 < jN (jG0 sc) := Nat.lt_of_succ_lt a_lt1
  obtain ⟨b_lt1, b_K0, b_R0_0, b_K1, b_L1⟩ := b_h
  have b_lt0 : b + 0 < jN (jG0 sc) := Nat.lt_of_succ_lt b_lt1
  obtain ⟨t_lt6, t_K0, t_R0_0, t_K1, t_L1, t_R0_1, t_K2, t_L2, t_R0_2, t_K3, t_L3, t_R0_3, t_K4, t_L4, t_R0_4, t_K5, t_L5, t_R0_5, t_K6, t_L6⟩ := t_h
  have t_lt5 : t + 5 < jN (jG0 sc) := Nat.lt_of_succ_lt t_lt6
  have t_lt4 : t + 4 < jN (jG0 sc) := Nat.lt_of_succ_lt t_lt5
  have t_lt3 : t + 3 < jN (jG0 sc) := Nat.lt_of_succ_lt t_lt4
  have t_lt2 : t + 2 < jN (jG0 sc) := Nat.lt_of_succ_lt t_lt3
  have t_lt1 : t + 1 < jN (jG0 sc) := Nat.lt_of_succ_lt t_lt2
  have t_lt0 : t + 0 < jN (jG0 sc) := Nat.lt_of_succ_lt t_lt1
  exact j_vret rfl (Nat.zero_le _) (Nat.zero_le _) dX3_change_19 v1
set_option maxRecDepth 100000 in
theorem bX3_change_20 {sc : Nat × (Nat → Int32)} {h : jH} {Q : jQ} {a : Nat} {b : Nat} {t : Nat} {l1 : Int32} (a_h : jI4 a) (b_h : jI4 b) (t_h : jI3 t)
    (o1 : vp_in l1 300)
    (o2 : vp_in l1 300)
    (v1 : ¬ (h (t + 1) l1.toNatClampNeg) = 4 → WP mX3_change Q 69 [some (.ref t), some (.int l1), some (.ref a), some (.ref b), some (.int (h (t + 2) l1.toNatClampNeg))] [] (jG0 sc) h (0, 0))
    (v2 : (h (t + 1) l1.toNatClampNeg) = 4 → WP mX3_change Q 38 [some (.ref t), some (.int l1), some (.ref a), some (.ref b), some (.int (h (t + 2) l1.toNatClampNeg))] [] (jG0 sc) h (0, 0)) :
    WP mX3_change Q 20 [some (.ref t), some (.int l1), some (.ref a), some (.ref b), none] [] (jG0 sc) h (0, 0) := by
  obtain ⟨a_lt1, a_K0, a_R0_0, a_K1, a_L1⟩ := a_h
  have a_lt0 : a + 0 < jN (jG0 sc) := Nat.lt_of_succ_lt a_lt1
  obtain ⟨b_lt1, b_K0, b_R0_0, b_K1, b_L1⟩ := b_h
  have b_lt0 : b + 0 < jN (jG0 sc) := Nat.lt_of_succ_lt b_lt1
  obtain ⟨t_lt6, t_K0, t_R0_0, t_K1, t_L1, t_R0_1, t_K2, t_L2, t_R0_2, t_K3, t_L3, t_R0_3, t_K4, t_L4, t_R0_4, t_K5, t_L5, t_R0_5, t_K6, t_L6⟩ := t_h
  have t_lt5 : t + 5 < jN (jG0 sc) := Nat.lt_of_succ_lt t_lt6
  have t_lt4 : t + 4 < jN (jG0 sc) := Nat.lt_of_succ_lt t_lt5
  have t_lt3 : t + 3 < jN (jG0 sc) := Nat.lt_of_succ_lt t_lt4
  have t_lt2 : t + 2 < jN (jG0 sc) := Nat.lt_of_succ_lt t_lt3
  have t_lt1 : t + 1 < jN (jG0 sc) := Nat.lt_of_succ_lt t_lt2
  have t_lt0 : t + 0 < jN (jG0 sc) := Nat.lt_of_succ_lt t_lt1
  refine j_aload_n (i := 0) rfl dX3_change_20 ?_
  refine j_getR (idx := 15) (ci := 3) (k := 1) (nest := false) (show (3, 15, 3, 1, false) ∈ jFT by decide) rfl (t_lt0) t_K0 (a := (t + 2)) t_R0_1 dX3_change_21 ?_
  refine j_iload_n (i := 1) rfl dX3_change_24 ?_
  refine j_iald (t_lt2) t_K2 (by rw [show jL (jG0 sc) (t + 2) = 300 from t_L2]; exact o1) dX3_change_25 ?_
  refine j_istore (i := 4) dX3_change_26 (Nat.le_of_ble_eq_true rfl) ?_
  refine j_aload_n (i := 0) rfl dX3_change_28 ?_
  refine j_getR (idx := 9) (ci := 3) (k := 0) (nest := false) (show (3, 9, 3, 0, false) ∈ jFT by decide) rfl (t_lt0) t_K0 (a := (t + 1)) t_R0_0 dX3_change_29 ?_
  refine j_iload_n (i := 1) rfl dX3_change_32 ?_
  refine j_iald (t_lt1) t_K1 (by rw [show jL (jG0 sc) (t + 1) = 300 from t_L1]; exact o2) dX3_change_33 ?_
  refine j_iconst (n := 4) 4 (by decide) dX3_change_34 ?_
  refine j_icmp_ne (off := 34) 69 dX3_change_35 (by decide) (fun c1 => ?_) (fun c1 => ?_)
  · exact j_le [some (.ref t), some (.int l1), some (.ref a), some (.ref b), some (.int (h (t + 2) l1.toNatClampNeg))] (And.intro rfl (And.intro rfl (And.intro rfl (And.intro rfl (And.intro rfl True.intro))))) (v1 c1)
  · exact j_le [some (.ref t), some (.int l1), some (.ref a), some (.ref b), some (.int (h (t + 2) l1.toNatClampNeg))] (And.intro rfl (And.intro rfl (And.intro rfl (And.intro rfl (And.intro rfl True.intro))))) (v2 c1)
set_option maxRecDepth 100000 in
theorem bX3_change_38 {sc : Nat × (Nat → Int32)} {h : jH} {Q : jQ} {a : Nat} {b : Nat} {t : Nat} {l1 l4 : Int32} {P1 : Int32 → jH → Prop} {P2 : jH → Prop} (a_h : jI4 a) (b_h : jI4 b) (t_h : jI3 t)
    (k1 : JM mX4_lineAt [.ref a, .int (l4 + 1)] (jG0 sc) h (jint sc P1))
    (k2 : ∀ (x1 : Int32) (h1 : jH), P1 x1 h1 → JM mX4_putLine [.ref b, .int l4, .int x1] (jG0 sc) h1 (jvoid sc P2))
    (v1 : ∀ (x1 : Int32) (h1 : jH), P1 x1 h1 → ∀ h2 : jH, P2 h2 → WP mX3_change Q 60 [some (.ref t), some (.int l1), some (.ref a), some (.ref b), some (.int l4)] [.int l4, .ref a, .int (l4 + 1), .ref b] (jG0 sc) h2 (0, 0)) :
    WP mX3_change Q 38 [some (.ref t), some (.int l1), some (.ref a), some (.ref b), some (.int l4)] [] (jG0 sc) h (0, 0) := by
  obtain ⟨a_lt1, a_K0, a_R0_0, a_K1, a_L1⟩ := a_h
  have a_lt0 : a + 0 < jN (jG0 sc) := Nat.lt_of_succ_lt a_lt1
  obtain ⟨b_lt1, b_K0, b_R0_0, b_K1, b_L1⟩ := b_h
  have b_lt0 : b + 0 < jN (jG0 sc) := Nat.lt_of_succ_lt b_lt1
  obtain ⟨t_lt6, t_K0, t_R0_0, t_K1, t_L1, t_R0_1, t_K2, t_L2, t_R0_2, t_K3, t_L3, t_R0_3, t_K4, t_L4, t_R0_4, t_K5, t_L5, t_R0_5, t_K6, t_L6⟩ := t_h
  have t_lt5 : t + 5 < jN (jG0 sc) := Nat.lt_of_succ_lt t_lt6
  have t_lt4 : t + 4 < jN (jG0 sc) := Nat.lt_of_succ_lt t_lt5
  have t_lt3 : t + 3 < jN (jG0 sc) := Nat.lt_of_succ_lt t_lt4
  have t_lt2 : t + 2 < jN (jG0 sc) := Nat.lt_of_succ_lt t_lt3
  have t_lt1 : t + 1 < jN (jG0 sc) := Nat.lt_of_succ_lt t_lt2
  have t_lt0 : t + 0 < jN (jG0 sc) := Nat.lt_of_succ_lt t_lt1
  refine j_aload_n (i := 3) rfl dX3_change_38 ?_
  refine j_iload (i := 4) rfl dX3_change_39 ?_
  refine j_aload_n (i := 2) rfl dX3_change_41 ?_
  refine j_iload (i := 4) rfl dX3_change_42 ?_
  refine j_iconst (n := 1) 1 (by decide) dX3_change_44 ?_
  refine j_iadd dX3_change_45 ?_
  refine j_callVN (idx := 43) (As := [.int (l4 + 1)]) (ci := 4) (n := 1) k1 jint_nt (jTbl (jtb2 223 rfl)) sX4_lineAt kX4_lineAt rfl ⟨rfl, by decide +kernel, by decide +kernel, by decide +kernel⟩ rfl ⟨by decide, by decide⟩ (a_lt0) a_K0 (Nat.le_of_ble_eq_true rfl) (Nat.le_of_ble_eq_true rfl) ⟨Nat.zero_le _, Nat.zero_le _⟩ dX3_change_46 (fun r Γ' h1 q => ?_)
  obtain ⟨x1, q0, rfl, p1⟩ := q; cases q0
  refine j_eqst [.int x1, .int l4, .ref b] (by rfl) ?_
  refine j_callVN (idx := 120) (As := [.int l4, .int x1]) (ci := 4) (n := 2) (k2 x1 h1 p1) jvoid_nt (jTbl (jtb2 227 rfl)) sX4_putLine kX4_putLine rfl ⟨rfl, by decide +kernel, by decide +kernel, by decide +kernel⟩ rfl ⟨by decide, by decide⟩ (b_lt0) b_K0 (Nat.le_of_ble_eq_true rfl) (Nat.le_of_ble_eq_true rfl) ⟨Nat.zero_le _, Nat.zero_le _⟩ dX3_change_49 (fun r Γ' h2 q => ?_)
  obtain ⟨q0, rfl, p2⟩ := q; cases q0
  refine j_eqst [] (by rfl) ?_
  refine j_aload_n (i := 3) rfl dX3_change_52 ?_
  refine j_iload (i := 4) rfl dX3_change_53 ?_
  refine j_iconst (n := 1) 1 (by decide) dX3_change_55 ?_
  refine j_iadd dX3_change_56 ?_
  refine j_aload_n (i := 2) rfl dX3_change_57 ?_
  refine j_iload (i := 4) rfl dX3_change_58 ?_
  exact j_le [some (.ref t), some (.int l1), some (.ref a), some (.ref b), some (.int l4)] (And.intro rfl (And.intro rfl (And.intro rfl (And.intro rfl (And.intro rfl True.intro))))) (v1 x1 h1 p1 h2 p2)
set_option maxRecDepth 100000 in
theorem bX3_change_60 {sc : Nat × (Nat → Int32)} {h : jH} {Q : jQ} {a : Nat} {b : Nat} {t : Nat} {l1 l4 s0 s2 : Int32} {P1 : Int32 → jH → Prop} {P2 : jH → Prop} (a_h : jI4 a) (b_h : jI4 b) (t_h : jI3 t)
    (k1 : JM mX4_lineAt [.ref a, .int s0] (jG0 sc) h (jint sc P1))
    (k2 : ∀ (x1 : Int32) (h1 : jH), P1 x1 h1 → JM mX4_putLine [.ref b, .int s2, .int x1] (jG0 sc) h1 (jvoid sc P2))
    (v1 : ∀ (x1 : Int32) (h1 : jH), P1 x1 h1 → ∀ h2 : jH, P2 h2 → WP mX3_change Q 81 [some (.ref t), some (.int l1), some (.ref a), some (.ref b), some (.int l4)] [] (jG0 sc) h2 (0, 0)) :
    WP mX3_change Q 60 [some (.ref t), some (.int l1), some (.ref a), some (.ref b), some (.int l4)] [.int s0, .ref a, .int s2, .ref b] (jG0 sc) h (0, 0) := by
  obtain ⟨a_lt1, a_K0, a_R0_0, a_K1, a_L1⟩ := a_h
  have a_lt0 : a + 0 < jN (jG0 sc) := Nat.lt_of_succ_lt a_lt1
  obtain ⟨b_lt1, b_K0, b_R0_0, b_K1, b_L1⟩ := b_h
  have b_lt0 : b + 0 < jN (jG0 sc) := Nat.lt_of_succ_lt b_lt1
  obtain ⟨t_lt6, t_K0, t_R0_0, t_K1, t_L1, t_R0_1, t_K2, t_L2, t_R0_2, t_K3, t_L3, t_R0_3, t_K4, t_L4, t_R0_4, t_K5, t_L5, t_R0_5, t_K6, t_L6⟩ := t_h
  have t_lt5 : t + 5 < jN (jG0 sc) := Nat.lt_of_succ_lt t_lt6
  have t_lt4 : t + 4 < jN (jG0 sc) := Nat.lt_of_succ_lt t_lt5
  have t_lt3 : t + 3 < jN (jG0 sc) := Nat.lt_of_succ_lt t_lt4
  have t_lt2 : t + 2 < jN (jG0 sc) := Nat.lt_of_succ_lt t_lt3
  have t_lt1 : t + 1 < jN (jG0 sc) := Nat.lt_of_succ_lt t_lt2
  have t_lt0 : t + 0 < jN (jG0 sc) := Nat.lt_of_succ_lt t_lt1
  refine j_callVN (idx := 43) (As := [.int s0]) (ci := 4) (n := 1) k1 jint_nt (jTbl (jtb2 223 rfl)) sX4_lineAt kX4_lineAt rfl ⟨rfl, by decide +kernel, by decide +kernel, by decide +kernel⟩ rfl ⟨by decide, by decide⟩ (a_lt0) a_K0 (Nat.le_of_ble_eq_true rfl) (Nat.le_of_ble_eq_true rfl) ⟨Nat.zero_le _, Nat.zero_le _⟩ dX3_change_60 (fun r Γ' h1 q => ?_)
  obtain ⟨x1, q0, rfl, p1⟩ := q; cases q0
  refine j_eqst [.int x1, .int s2, .ref b] (by rfl) ?_
  refine j_callVN (idx := 120) (As := [.int s2, .int x1]) (ci := 4) (n := 2) (k2 x1 h1 p1) jvoid_nt (jTbl (jtb2 227 rfl)) sX4_putLine kX4_putLine rfl ⟨rfl, by decide +kernel, by decide +kernel, by decide +kernel⟩ rfl ⟨by decide, by decide⟩ (b_lt0) b_K0 (Nat.le_of_ble_eq_true rfl) (Nat.le_of_ble_eq_true rfl) ⟨Nat.zero_le _, Nat.zero_le _⟩ dX3_change_63 (fun r Γ' h2 q => ?_)
  obtain ⟨q0, rfl, p2⟩ := q; cases q0
  refine j_eqst [] (by rfl) ?_
  refine j_goto (off := 15) 81 dX3_change_66 (by decide) ?_
  exact j_le [some (.ref t), some (.int l1), some (.ref a), some (.ref b), some (.int l4)] (And.intro rfl (And.intro rfl (And.intro rfl (And.intro rfl (And.intro rfl True.intro))))) (v1 x1 h1 p1 h2 p2)
set_option maxRecDepth 100000 in
theorem bX3_change_69 {sc : Nat × (Nat → Int32)} {h : jH} {Q : jQ} {a : Nat} {b : Nat} {t : Nat} {l1 l4 : Int32} {P1 : jH → Prop} (a_h : jI4 a) (b_h : jI4 b) (t_h : jI3 t)
    (o1 : vp_in l1 300)
    (k1 : JM mX4_putLine [.ref b, .int l4, .int (h (t + 3) l1.toNatClampNeg)] (jG0 sc) h (jvoid sc P1))
    (v1 : ∀ h1 : jH, P1 h1 → WP mX3_change Q 81 [some (.ref t), some (.int l1), some (.ref a), some (.ref b), some (.int l4)] [] (jG0 sc) h1 (0, 0)) :
    WP mX3_change Q 69 [some (.ref t), some (.int l1), some (.ref a), some (.ref b), some (.int l4)] [] (jG0 sc) h (0, 0) := by
  obtain ⟨a_lt1, a_K0, a_R0_0, a_K1, a_L1⟩ := a_h
  have a_lt0 : a + 0 < jN (jG0 sc) := Nat.lt_of_succ_lt a_lt1
  obtain ⟨b_lt1, b_K0, b_R0_0, b_K1, b_L1⟩ := b_h
  have b_lt0 : b + 0 < jN (jG0 sc) := Nat.lt_of_succ_lt b_lt1
  obtain ⟨t_lt6, t_K0, t_R0_0, t_K1, t_L1, t_R0_1, t_K2, t_L2, t_R0_2, t_K3, t_L3, t_R0_3, t_K4, t_L4, t_R0_4, t_K5, t_L5, t_R0_5, t_K6, t_L6⟩ := t_h
  have t_lt5 : t + 5 < jN (jG0 sc) := Nat.lt_of_succ_lt t_lt6
  have t_lt4 : t + 4 < jN (jG0 sc) := Nat.lt_of_succ_lt t_lt5
  have t_lt3 : t + 3 < jN (jG0 sc) := Nat.lt_of_succ_lt t_lt4
  have t_lt2 : t + 2 < jN (jG0 sc) := Nat.lt_of_succ_lt t_lt3
  have t_lt1 : t + 1 < jN (jG0 sc) := Nat.lt_of_succ_lt t_lt2
  have t_lt0 : t + 0 < jN (jG0 sc) := Nat.lt_of_succ_lt t_lt1
  refine j_aload_n (i := 3) rfl dX3_change_69 ?_
  refine j_iload (i := 4) rfl dX3_change_70 ?_
  refine j_aload_n (i := 0) rfl dX3_change_72 ?_
  refine j_getR (idx := 18) (ci := 3) (k := 2) (nest := false) (show (3, 18, 3, 2, false) ∈ jFT by decide) rfl (t_lt0) t_K0 (a := (t + 3)) t_R0_2 dX3_change_73 ?_
  refine j_iload_n (i := 1) rfl dX3_change_76 ?_
  refine j_iald (t_lt3) t_K3 (by rw [show jL (jG0 sc) (t + 3) = 300 from t_L3]; exact o1) dX3_change_77 ?_
  refine j_callVN (idx := 120) (As := [.int l4, .int (h (t + 3) l1.toNatClampNeg)]) (ci := 4) (n := 2) k1 jvoid_nt (jTbl (jtb2 227 rfl)) sX4_putLine kX4_putLine rfl ⟨rfl, by decide +kernel, by decide +kernel, by decide +kernel⟩ rfl ⟨by decide, by decide⟩ (b_lt0) b_K0 (Nat.le_of_ble_eq_true rfl) (Nat.le_of_ble_eq_true rfl) ⟨Nat.zero_le _, Nat.zero_le _⟩ dX3_change_78 (fun r Γ' h1 q => ?_)
  obtain ⟨q0, rfl, p1⟩ := q; cases q0
  refine j_eqst [] (by rfl) ?_
  exact j_le [some (.ref t), some (.int l1), some (.ref a), some (.ref b), some (.int l4)] (And.intro rfl (And.intro rfl (And.intro rfl (And.intro rfl (And.intro rfl True.intro))))) (v1 h1 p1)
set_option maxRecDepth 100000 in
theorem bX3_change_81 {sc : Nat × (Nat → Int32)} {h : jH} {Q : jQ} {a : Nat} {b : Nat} {t : Nat} {l1 l4 : Int32} (a_h : jI4 a) (b_h : jI4 b) (t_h : jI3 t)
    (v1 : Q (.inl none) (jG0 sc) h) :
    WP mX3_change Q 81 [some (.ref t), some (.int l1), some (.ref a), some (.ref b), some (.int l4)] [] (jG0 sc) h (0, 0) := by
  obtain ⟨a_lt1, a_K0, a_R0_0, a_K1, a_L1⟩ := a_h
  have a_lt0 : a + 0 < jN (jG0 sc) := Nat.lt_of_succ_lt a_lt1
  obtain ⟨b_lt1, b_K0, b_R0_0, b_K1, b_L1⟩ := b_h
  have b_lt0 : b + 0 < jN (jG0 sc) := Nat.lt_of_succ_lt b_lt1
  obtain ⟨t_lt6, t_K0, t_R0_0, t_K1, t_L1, t_R0_1, t_K2, t_L2, t_R0_2, t_K3, t_L3, t_R0_3, t_K4, t_L4, t_R0_4, t_K5, t_L5, t_R0_5, t_K6, t_L6⟩ := t_h
  have t_lt5 : t + 5 < jN (jG0 sc) := Nat.lt_of_succ_lt t_lt6
  have t_lt4 : t + 4 < jN (jG0 sc) := Nat.lt_of_succ_lt t_lt5
  have t_lt3 : t + 3 < jN (jG0 sc) := Nat.lt_of_succ_lt t_lt4
  have t_lt2 : t + 2 < jN (jG0 sc) := Nat.lt_of_succ_lt t_lt3
  have t_lt1 : t + 1 < jN (jG0 sc) := Nat.lt_of_succ_lt t_lt2
  have t_lt0 : t + 0 < jN (jG0 sc) := Nat.lt_of_succ_lt t_lt1
  exact j_vret rfl (Nat.zero_le _) (Nat.zero_le _) dX3_change_81 v1
set_option maxRecDepth 100000 in
theorem rX3_change_0 {sc : Nat × (Nat → Int32)} {h : jH} {Q : jQ} {a : Nat} {b : Nat} {t : Nat} {l1 : Int32} {P1 : jH → Prop} {P2 : Int32 → jH → Prop} {P3 : jH → Prop} {P4 : Int32 → jH → Prop} {P5 : jH → Prop} (a_h : jI4 a) (b_h : jI4 b) (t_h : jI3 t)
    (v1 : l1 < 0 → Q (.inl none) (jG0 sc) h)
    (v2 : ¬ l1 < 0 → (h t 6) ≤ l1 → Q (.inl none) (jG0 sc) h)
    (o1 : ¬ l1 < 0 → ¬ (h t 6) ≤ l1 → l1 < 300 → vp_in l1 300)
    (o2 : ¬ l1 < 0 → ¬ (h t 6) ≤ l1 → l1 < 300 → ¬ (h (t + 1) l1.toNatClampNeg) = 4 → vp_in l1 300)
    (k1 : ¬ l1 < 0 → ¬ (h t 6) ≤ l1 → l1 < 300 → ¬ (h (t + 1) l1.toNatClampNeg) = 4 → JM mX4_putLine [.ref b, .int (h (t + 2) l1.toNatClampNeg), .int (h (t + 3) l1.toNatClampNeg)] (jG0 sc) h (jvoid sc P1))
    (v3 : ¬ l1 < 0 → ¬ (h t 6) ≤ l1 → l1 < 300 → ¬ (h (t + 1) l1.toNatClampNeg) = 4 → ∀ h1 : jH, P1 h1 → Q (.inl none) (jG0 sc) h1)
    (k2 : ¬ l1 < 0 → ¬ (h t 6) ≤ l1 → l1 < 300 → (h (t + 1) l1.toNatClampNeg) = 4 → JM mX4_lineAt [.ref a, .int ((h (t + 2) l1.toNatClampNeg) + 1)] (jG0 sc) h (jint sc P2))
    (k3 : ¬ l1 < 0 → ¬ (h t 6) ≤ l1 → l1 < 300 → (h (t + 1) l1.toNatClampNeg) = 4 → ∀ (x2 : Int32) (h2 : jH), P2 x2 h2 → JM mX4_putLine [.ref b, .int (h (t + 2) l1.toNatClampNeg), .int x2] (jG0 sc) h2 (jvoid sc P3))
    (k4 : ¬ l1 < 0 → ¬ (h t 6) ≤ l1 → l1 < 300 → (h (t + 1) l1.toNatClampNeg) = 4 → ∀ (x2 : Int32) (h2 : jH), P2 x2 h2 → ∀ h3 : jH, P3 h3 → JM mX4_lineAt [.ref a, .int (h (t + 2) l1.toNatClampNeg)] (jG0 sc) h3 (jint sc P4))
    (k5 : ¬ l1 < 0 → ¬ (h t 6) ≤ l1 → l1 < 300 → (h (t + 1) l1.toNatClampNeg) = 4 → ∀ (x2 : Int32) (h2 : jH), P2 x2 h2 → ∀ h3 : jH, P3 h3 → ∀ (x4 : Int32) (h4 : jH), P4 x4 h4 → JM mX4_putLine [.ref b, .int ((h (t + 2) l1.toNatClampNeg) + 1), .int x4] (jG0 sc) h4 (jvoid sc P5))
    (v4 : ¬ l1 < 0 → ¬ (h t 6) ≤ l1 → l1 < 300 → (h (t + 1) l1.toNatClampNeg) = 4 → ∀ (x2 : Int32) (h2 : jH), P2 x2 h2 → ∀ h3 : jH, P3 h3 → ∀ (x4 : Int32) (h4 : jH), P4 x4 h4 → ∀ h5 : jH, P5 h5 → Q (.inl none) (jG0 sc) h5)
    (v5 : ¬ l1 < 0 → ¬ (h t 6) ≤ l1 → ¬ l1 < 300 → Q (.inl none) (jG0 sc) h) :
    WP mX3_change Q 0 [some (.ref t), some (.int l1), some (.ref a), some (.ref b), none] [] (jG0 sc) h (0, 0) := by
  exact (bX3_change_0 a_h b_h t_h (fun c1 => (bX3_change_19 a_h b_h t_h (v1 c1))) (fun c1 => (bX3_change_4 a_h b_h t_h (fun c2 => (bX3_change_19 a_h b_h t_h (v2 c1 c2))) (fun c2 => (bX3_change_12 a_h b_h t_h (fun c3 => (bX3_change_20 a_h b_h t_h (o1 c1 c2 c3) (o1 c1 c2 c3) (fun c4 => (bX3_change_69 a_h b_h t_h (o2 c1 c2 c3 c4) (k1 c1 c2 c3 c4) (fun h1 p1 => (bX3_change_81 a_h b_h t_h (v3 c1 c2 c3 c4 h1 p1))))) (fun c4 => (bX3_change_38 a_h b_h t_h (k2 c1 c2 c3 c4) (fun x2 h2 p2 => (k3 c1 c2 c3 c4 x2 h2 p2)) (fun x2 h2 p2 h3 p3 => (bX3_change_60 a_h b_h t_h (k4 c1 c2 c3 c4 x2 h2 p2 h3 p3) (fun x4 h4 p4 => (k5 c1 c2 c3 c4 x2 h2 p2 h3 p3 x4 h4 p4)) (fun x4 h4 p4 h5 p5 => (bX3_change_81 a_h b_h t_h (v4 c1 c2 c3 c4 x2 h2 p2 h3 p3 x4 h4 p4 h5 p5))))))))) (fun c3 => (bX3_change_19 a_h b_h t_h (v5 c1 c2 c3))))))))
theorem dX5_add_0 : decode (mC mX5_add) 0 = .ok (.aload_n 0, 1) := by decide +kernel
theorem dX5_add_1 : decode (mC mX5_add) 1 = .ok (.getfield 21, 3) := by decide +kernel
theorem dX5_add_4 : decode (mC mX5_add) 4 = .ok (.ifCond .lt 52, 3) := by decide +kernel
theorem dX5_add_7 : decode (mC mX5_add) 7 = .ok (.aload_n 0, 1) := by decide +kernel
theorem dX5_add_8 : decode (mC mX5_add) 8 = .ok (.getfield 21, 3) := by decide +kernel
theorem dX5_add_11 : decode (mC mX5_add) 11 = .ok (.bipush 12, 2) := by decide +kernel
theorem dX5_add_13 : decode (mC mX5_add) 13 = .ok (.if_icmp .ge 43, 3) := by decide +kernel
theorem dX5_add_16 : decode (mC mX5_add) 16 = .ok (.aload_n 0, 1) := by decide +kernel
theorem dX5_add_17 : decode (mC mX5_add) 17 = .ok (.getfield 9, 3) := by decide +kernel
theorem dX5_add_20 : decode (mC mX5_add) 20 = .ok (.aload_n 0, 1) := by decide +kernel
theorem dX5_add_21 : decode (mC mX5_add) 21 = .ok (.getfield 21, 3) := by decide +kernel
theorem dX5_add_24 : decode (mC mX5_add) 24 = .ok (.iload_n 1, 1) := by decide +kernel
theorem dX5_add_25 : decode (mC mX5_add) 25 = .ok (.iastore, 1) := by decide +kernel
theorem dX5_add_26 : decode (mC mX5_add) 26 = .ok (.aload_n 0, 1) := by decide +kernel
theorem dX5_add_27 : decode (mC mX5_add) 27 = .ok (.getfield 15, 3) := by decide +kernel
theorem dX5_add_30 : decode (mC mX5_add) 30 = .ok (.aload_n 0, 1) := by decide +kernel
theorem dX5_add_31 : decode (mC mX5_add) 31 = .ok (.getfield 21, 3) := by decide +kernel
theorem dX5_add_34 : decode (mC mX5_add) 34 = .ok (.iload_n 2, 1) := by decide +kernel
theorem dX5_add_35 : decode (mC mX5_add) 35 = .ok (.iastore, 1) := by decide +kernel
theorem dX5_add_36 : decode (mC mX5_add) 36 = .ok (.aload_n 0, 1) := by decide +kernel
theorem dX5_add_37 : decode (mC mX5_add) 37 = .ok (.getfield 18, 3) := by decide +kernel
theorem dX5_add_40 : decode (mC mX5_add) 40 = .ok (.aload_n 0, 1) := by decide +kernel
theorem dX5_add_41 : decode (mC mX5_add) 41 = .ok (.getfield 21, 3) := by decide +kernel
theorem dX5_add_44 : decode (mC mX5_add) 44 = .ok (.iload_n 3, 1) := by decide +kernel
theorem dX5_add_45 : decode (mC mX5_add) 45 = .ok (.iastore, 1) := by decide +kernel
theorem dX5_add_46 : decode (mC mX5_add) 46 = .ok (.aload_n 0, 1) := by decide +kernel
theorem dX5_add_47 : decode (mC mX5_add) 47 = .ok (.dup, 1) := by decide +kernel
theorem dX5_add_48 : decode (mC mX5_add) 48 = .ok (.getfield 21, 3) := by decide +kernel
theorem dX5_add_51 : decode (mC mX5_add) 51 = .ok (.iconst 1, 1) := by decide +kernel
theorem dX5_add_52 : decode (mC mX5_add) 52 = .ok (.iadd, 1) := by decide +kernel
theorem dX5_add_53 : decode (mC mX5_add) 53 = .ok (.putfield 21, 3) := by decide +kernel
theorem dX5_add_56 : decode (mC mX5_add) 56 = .ok (.return_, 1) := by decide +kernel
set_option maxRecDepth 100000 in
theorem bX5_add_0 {sc : Nat × (Nat → Int32)} {h : jH} {Q : jQ} {t : Nat} {l1 l2 l3 : Int32} (t_h : jI5 t)
    (v1 : (h t 3) < 0 → WP mX5_add Q 56 [some (.ref t), some (.int l1), some (.int l2), some (.int l3)] [] (jG0 sc) h (0, 0))
    (v2 : ¬ (h t 3) < 0 → WP mX5_add Q 7 [some (.ref t), some (.int l1), some (.int l2), some (.int l3)] [] (jG0 sc) h (0, 0)) :
    WP mX5_add Q 0 [some (.ref t), some (.int l1), some (.int l2), some (.int l3)] [] (jG0 sc) h (0, 0) := by
  obtain ⟨t_lt3, t_K0, t_R0_0, t_K1, t_L1, t_R0_1, t_K2, t_L2, t_R0_2, t_K3, t_L3⟩ := t_h
  have t_lt2 : t + 2 < jN (jG0 sc) := Nat.lt_of_succ_lt t_lt3
  have t_lt1 : t + 1 < jN (jG0 sc) := Nat.lt_of_succ_lt t_lt2
  have t_lt0 : t + 0 < jN (jG0 sc) := Nat.lt_of_succ_lt t_lt1
  refine j_aload_n (i := 0) rfl dX5_add_0 ?_
  refine j_getI (idx := 21) (ci := 5) (k := 3) (nest := false) (show (5, 21, 5, 3, false) ∈ jFT by decide) rfl (t_lt0) t_K0 dX5_add_1 ?_
  refine j_if_lt (off := 52) 56 dX5_add_4 (by decide) (fun c1 => ?_) (fun c1 => ?_)
  · exact j_le [some (.ref t), some (.int l1), some (.int l2), some (.int l3)] (And.intro rfl (And.intro rfl (And.intro rfl (And.intro rfl True.intro)))) (v1 c1)
  · exact j_le [some (.ref t), some (.int l1), some (.int l2), some (.int l3)] (And.intro rfl (And.intro rfl (And.intro rfl (And.intro rfl True.intro)))) (v2 c1)
set_option maxRecDepth 100000 in
theorem bX5_add_7 {sc : Nat × (Nat → Int32)} {h : jH} {Q : jQ} {t : Nat} {l1 l2 l3 : Int32} (t_h : jI5 t)
    (v1 : 12 ≤ (h t 3) → WP mX5_add Q 56 [some (.ref t), some (.int l1), some (.int l2), some (.int l3)] [] (jG0 sc) h (0, 0))
    (v2 : ¬ 12 ≤ (h t 3) → WP mX5_add Q 16 [some (.ref t), some (.int l1), some (.int l2), some (.int l3)] [] (jG0 sc) h (0, 0)) :
    WP mX5_add Q 7 [some (.ref t), some (.int l1), some (.int l2), some (.int l3)] [] (jG0 sc) h (0, 0) := by
  obtain ⟨t_lt3, t_K0, t_R0_0, t_K1, t_L1, t_R0_1, t_K2, t_L2, t_R0_2, t_K3, t_L3⟩ := t_h
  have t_lt2 : t + 2 < jN (jG0 sc) := Nat.lt_of_succ_lt t_lt3
  have t_lt1 : t + 1 < jN (jG0 sc) := Nat.lt_of_succ_lt t_lt2
  have t_lt0 : t + 0 < jN (jG0 sc) := Nat.lt_of_succ_lt t_lt1
  refine j_aload_n (i := 0) rfl dX5_add_7 ?_
  refine j_getI (idx := 21) (ci := 5) (k := 3) (nest := false) (show (5, 21, 5, 3, false) ∈ jFT by decide) rfl (t_lt0) t_K0 dX5_add_8 ?_
  refine j_bipush (n := 12) 12 (by decide) dX5_add_11 ?_
  refine j_icmp_ge (off := 43) 56 dX5_add_13 (by decide) (fun c1 => ?_) (fun c1 => ?_)
  · exact j_le [some (.ref t), some (.int l1), some (.int l2), some (.int l3)] (And.intro rfl (And.intro rfl (And.intro rfl (And.intro rfl True.intro)))) (v1 c1)
  · exact j_le [some (.ref t), some (.int l1), some (.int l2), some (.int l3)] (And.intro rfl (And.intro rfl (And.intro rfl (And.intro rfl True.intro)))) (v2 c1)
set_option maxRecDepth 100000 in
theorem bX5_add_16 {sc : Nat × (Nat → Int32)} {h : jH} {Q : jQ} {t : Nat} {l1 l2 l3 : Int32} (t_h : jI5 t)
    (o1 : vp_in (h t 3) 12)
    (o2 : vp_in ((jput h (t + 1) ((h t 3).toNatClampNeg) l1) t 3) 12)
    (o3 : vp_in ((jput (jput h (t + 1) ((h t 3).toNatClampNeg) l1) (t + 2) (((jput h (t + 1) ((h t 3).toNatClampNeg) l1) t 3).toNatClampNeg) l2) t 3) 12)
    (v1 : WP mX5_add Q 53 [some (.ref t), some (.int l1), some (.int l2), some (.int l3)] [.int (((jput (jput (jput h (t + 1) ((h t 3).toNatClampNeg) l1) (t + 2) (((jput h (t + 1) ((h t 3).toNatClampNeg) l1) t 3).toNatClampNeg) l2) (t + 3) (((jput (jput h (t + 1) ((h t 3).toNatClampNeg) l1) (t + 2) (((jput h (t + 1) ((h t 3).toNatClampNeg) l1) t 3).toNatClampNeg) l2) t 3).toNatClampNeg) l3) t 3) + 1), .ref t] (jG0 sc) (jput (jput (jput h (t + 1) ((h t 3).toNatClampNeg) l1) (t + 2) (((jput h (t + 1) ((h t 3).toNatClampNeg) l1) t 3).toNatClampNeg) l2) (t + 3) (((jput (jput h (t + 1) ((h t 3).toNatClampNeg) l1) (t + 2) (((jput h (t + 1) ((h t 3).toNatClampNeg) l1) t 3).toNatClampNeg) l2) t 3).toNatClampNeg) l3) (0, 0)) :
    WP mX5_add Q 16 [some (.ref t), some (.int l1), some (.int l2), some (.int l3)] [] (jG0 sc) h (0, 0) := by
  obtain ⟨t_lt3, t_K0, t_R0_0, t_K1, t_L1, t_R0_1, t_K2, t_L2, t_R0_2, t_K3, t_L3⟩ := t_h
  have t_lt2 : t + 2 < jN (jG0 sc) := Nat.lt_of_succ_lt t_lt3
  have t_lt1 : t + 1 < jN (jG0 sc) := Nat.lt_of_succ_lt t_lt2
  have t_lt0 : t + 0 < jN (jG0 sc) := Nat.lt_of_succ_lt t_lt1
  refine j_aload_n (i := 0) rfl dX5_add_16 ?_
  refine j_getR (idx := 9) (ci := 5) (k := 0) (nest := false) (show (5, 9, 5, 0, false) ∈ jFT by decide) rfl (t_lt0) t_K0 (a := (t + 1)) t_R0_0 dX5_add_17 ?_
  refine j_aload_n (i := 0) rfl dX5_add_20 ?_
  refine j_getI (idx := 21) (ci := 5) (k := 3) (nest := false) (show (5, 21, 5, 3, false) ∈ jFT by decide) rfl (t_lt0) t_K0 dX5_add_21 ?_
  refine j_iload_n (i := 1) rfl dX5_add_24 ?_
  refine j_iast (t_lt1) t_K1 (by rw [show jL (jG0 sc) (t + 1) = 12 from t_L1]; exact o1) dX5_add_25 ?_
  refine j_aload_n (i := 0) rfl dX5_add_26 ?_
  refine j_getR (idx := 15) (ci := 5) (k := 1) (nest := false) (show (5, 15, 5, 1, false) ∈ jFT by decide) rfl (t_lt0) t_K0 (a := (t + 2)) t_R0_1 dX5_add_27 ?_
  refine j_aload_n (i := 0) rfl dX5_add_30 ?_
  refine j_getI (idx := 21) (ci := 5) (k := 3) (nest := false) (show (5, 21, 5, 3, false) ∈ jFT by decide) rfl (t_lt0) t_K0 dX5_add_31 ?_
  refine j_iload_n (i := 2) rfl dX5_add_34 ?_
  refine j_iast (t_lt2) t_K2 (by rw [show jL (jG0 sc) (t + 2) = 12 from t_L2]; exact o2) dX5_add_35 ?_
  refine j_aload_n (i := 0) rfl dX5_add_36 ?_
  refine j_getR (idx := 18) (ci := 5) (k := 2) (nest := false) (show (5, 18, 5, 2, false) ∈ jFT by decide) rfl (t_lt0) t_K0 (a := (t + 3)) t_R0_2 dX5_add_37 ?_
  refine j_aload_n (i := 0) rfl dX5_add_40 ?_
  refine j_getI (idx := 21) (ci := 5) (k := 3) (nest := false) (show (5, 21, 5, 3, false) ∈ jFT by decide) rfl (t_lt0) t_K0 dX5_add_41 ?_
  refine j_iload_n (i := 3) rfl dX5_add_44 ?_
  refine j_iast (t_lt3) t_K3 (by rw [show jL (jG0 sc) (t + 3) = 12 from t_L3]; exact o3) dX5_add_45 ?_
  refine j_aload_n (i := 0) rfl dX5_add_46 ?_
  refine j_dup rfl dX5_add_47 ?_
  refine j_getI (idx := 21) (ci := 5) (k := 3) (nest := false) (show (5, 21, 5, 3, false) ∈ jFT by decide) rfl (t_lt0) t_K0 dX5_add_48 ?_
  refine j_iconst (n := 1) 1 (by decide) dX5_add_51 ?_
  refine j_iadd dX5_add_52 ?_
  exact j_le [some (.ref t), some (.int l1), some (.int l2), some (.int l3)] (And.intro rfl (And.intro rfl (And.intro rfl (And.intro rfl True.intro)))) v1
set_option maxRecDepth 100000 in
theorem bX5_add_53 {sc : Nat × (Nat → Int32)} {h : jH} {Q : jQ} {t : Nat} {l1 l2 l3 s0 : Int32} (t_h : jI5 t)
    (v1 : WP mX5_add Q 56 [some (.ref t), some (.int l1), some (.int l2), some (.int l3)] [] (jG0 sc) (jput h t 3 s0) (0, 0)) :
    WP mX5_add Q 53 [some (.ref t), some (.int l1), some (.int l2), some (.int l3)] [.int s0, .ref t] (jG0 sc) h (0, 0) := by
  obtain ⟨t_lt3, t_K0, t_R0_0, t_K1, t_L1, t_R0_1, t_K2, t_L2, t_R0_2, t_K3, t_L3⟩ := t_h
  have t_lt2 : t + 2 < jN (jG0 sc) := Nat.lt_of_succ_lt t_lt3
  have t_lt1 : t + 1 < jN (jG0 sc) := Nat.lt_of_succ_lt t_lt2
  have t_lt0 : t + 0 < jN (jG0 sc) := Nat.lt_of_succ_lt t_lt1
  refine j_putI (idx := 21) (ci := 5) (k := 3) (nest := false) (show (5, 21, 5, 3, false) ∈ jFT by decide) rfl rfl rfl rfl (t_lt0) t_K0 dX5_add_53 ?_
  exact j_le [some (.ref t), some (.int l1), some (.int l2), some (.int l3)] (And.intro rfl (And.intro rfl (And.intro rfl (And.intro rfl True.intro)))) v1
set_option maxRecDepth 100000 in
theorem bX5_add_56 {sc : Nat × (Nat → Int32)} {h : jH} {Q : jQ} {t : Nat} {l1 l2 l3 : Int32} (t_h : jI5 t)
    (v1 : Q (.inl none) (jG0 sc) h) :
    WP mX5_add Q 56 [some (.ref t), some (.int l1), some (.int l2), some (.int l3)] [] (jG0 sc) h (0, 0) := by
  obtain ⟨t_lt3, t_K0, t_R0_0, t_K1, t_L1, t_R0_1, t_K2, t_L2, t_R0_2, t_K3, t_L3⟩ := t_h
  have t_lt2 : t + 2 < jN (jG0 sc) := Nat.lt_of_succ_lt t_lt3
  have t_lt1 : t + 1 < jN (jG0 sc) := Nat.lt_of_succ_lt t_lt2
  have t_lt0 : t + 0 < jN (jG0 sc) := Nat.lt_of_succ_lt t_lt1
  exact j_vret rfl (Nat.zero_le _) (Nat.zero_le _) dX5_add_56 v1
set_option maxRecDepth 100000 in
theorem rX5_add_0 {sc : Nat × (Nat → Int32)} {h : jH} {Q : jQ} {t : Nat} {l1 l2 l3 : Int32} (t_h : jI5 t)
    (v1 : (h t 3) < 0 → Q (.inl none) (jG0 sc) h)
    (v2 : ¬ (h t 3) < 0 → 12 ≤ (h t 3) → Q (.inl none) (jG0 sc) h)
    (o1 : ¬ (h t 3) < 0 → ¬ 12 ≤ (h t 3) → vp_in (h t 3) 12)
    (o2 : ¬ (h t 3) < 0 → ¬ 12 ≤ (h t 3) → vp_in ((jput h (t + 1) ((h t 3).toNatClampNeg) l1) t 3) 12)
    (o3 : ¬ (h t 3) < 0 → ¬ 12 ≤ (h t 3) → vp_in ((jput (jput h (t + 1) ((h t 3).toNatClampNeg) l1) (t + 2) (((jput h (t + 1) ((h t 3).toNatClampNeg) l1) t 3).toNatClampNeg) l2) t 3) 12)
    (v3 : ¬ (h t 3) < 0 → ¬ 12 ≤ (h t 3) → Q (.inl none) (jG0 sc) (jput (jput (jput (jput h (t + 1) ((h t 3).toNatClampNeg) l1) (t + 2) (((jput h (t + 1) ((h t 3).toNatClampNeg) l1) t 3).toNatClampNeg) l2) (t + 3) (((jput (jput h (t + 1) ((h t 3).toNatClampNeg) l1) (t + 2) (((jput h (t + 1) ((h t 3).toNatClampNeg) l1) t 3).toNatClampNeg) l2) t 3).toNatClampNeg) l3) t 3 (((jput (jput (jput h (t + 1) ((h t 3).toNatClampNeg) l1) (t + 2) (((jput h (t + 1) ((h t 3).toNatClampNeg) l1) t 3).toNatClampNeg) l2) (t + 3) (((jput (jput h (t + 1) ((h t 3).toNatClampNeg) l1) (t + 2) (((jput h (t + 1) ((h t 3).toNatClampNeg) l1) t 3).toNatClampNeg) l2) t 3).toNatClampNeg) l3) t 3) + 1))) :
    WP mX5_add Q 0 [some (.ref t), some (.int l1), some (.int l2), some (.int l3)] [] (jG0 sc) h (0, 0) := by
  exact (bX5_add_0 t_h (fun c1 => (bX5_add_56 t_h (v1 c1))) (fun c1 => (bX5_add_7 t_h (fun c2 => (bX5_add_56 t_h (v2 c1 c2))) (fun c2 => (bX5_add_16 t_h (o1 c1 c2) (o2 c1 c2) (o3 c1 c2) (bX5_add_53 t_h (bX5_add_56 t_h (v3 c1 c2))))))))
theorem dX5_stepsTo_0 : decode (mC mX5_stepsTo) 0 = .ok (.aload_n 0, 1) := by decide +kernel
theorem dX5_stepsTo_1 : decode (mC mX5_stepsTo) 1 = .ok (.getfield 21, 3) := by decide +kernel
theorem dX5_stepsTo_4 : decode (mC mX5_stepsTo) 4 = .ok (.ifCond .ne 7, 3) := by decide +kernel
theorem dX5_stepsTo_7 : decode (mC mX5_stepsTo) 7 = .ok (.iconst 0, 1) := by decide +kernel
theorem dX5_stepsTo_8 : decode (mC mX5_stepsTo) 8 = .ok (.goto 6, 3) := by decide +kernel
theorem dX5_stepsTo_11 : decode (mC mX5_stepsTo) 11 = .ok (.sipush 1000, 3) := by decide +kernel
theorem dX5_stepsTo_14 : decode (mC mX5_stepsTo) 14 = .ok (.istore_n 3, 1) := by decide +kernel
theorem dX5_stepsTo_15 : decode (mC mX5_stepsTo) 15 = .ok (.iconst 0, 1) := by decide +kernel
theorem dX5_stepsTo_16 : decode (mC mX5_stepsTo) 16 = .ok (.istore 4, 2) := by decide +kernel
theorem dX5_stepsTo_18 : decode (mC mX5_stepsTo) 18 = .ok (.iload 4, 2) := by decide +kernel
theorem dX5_stepsTo_20 : decode (mC mX5_stepsTo) 20 = .ok (.aload_n 0, 1) := by decide +kernel
theorem dX5_stepsTo_21 : decode (mC mX5_stepsTo) 21 = .ok (.getfield 21, 3) := by decide +kernel
theorem dX5_stepsTo_24 : decode (mC mX5_stepsTo) 24 = .ok (.if_icmp .ge 46, 3) := by decide +kernel
theorem dX5_stepsTo_27 : decode (mC mX5_stepsTo) 27 = .ok (.iload 4, 2) := by decide +kernel
theorem dX5_stepsTo_29 : decode (mC mX5_stepsTo) 29 = .ok (.bipush 12, 2) := by decide +kernel
theorem dX5_stepsTo_31 : decode (mC mX5_stepsTo) 31 = .ok (.if_icmp .ge 39, 3) := by decide +kernel
theorem dX5_stepsTo_34 : decode (mC mX5_stepsTo) 34 = .ok (.iload_n 3, 1) := by decide +kernel
theorem dX5_stepsTo_35 : decode (mC mX5_stepsTo) 35 = .ok (.iload_n 1, 1) := by decide +kernel
theorem dX5_stepsTo_36 : decode (mC mX5_stepsTo) 36 = .ok (.aload_n 0, 1) := by decide +kernel
theorem dX5_stepsTo_37 : decode (mC mX5_stepsTo) 37 = .ok (.getfield 9, 3) := by decide +kernel
theorem dX5_stepsTo_40 : decode (mC mX5_stepsTo) 40 = .ok (.iload 4, 2) := by decide +kernel
theorem dX5_stepsTo_42 : decode (mC mX5_stepsTo) 42 = .ok (.iaload, 1) := by decide +kernel
theorem dX5_stepsTo_43 : decode (mC mX5_stepsTo) 43 = .ok (.isub, 1) := by decide +kernel
theorem dX5_stepsTo_44 : decode (mC mX5_stepsTo) 44 = .ok (.invokestatic 25, 3) := by decide +kernel
theorem dX5_stepsTo_47 : decode (mC mX5_stepsTo) 47 = .ok (.iload_n 2, 1) := by decide +kernel
theorem dX5_stepsTo_48 : decode (mC mX5_stepsTo) 48 = .ok (.aload_n 0, 1) := by decide +kernel
theorem dX5_stepsTo_49 : decode (mC mX5_stepsTo) 49 = .ok (.getfield 15, 3) := by decide +kernel
theorem dX5_stepsTo_52 : decode (mC mX5_stepsTo) 52 = .ok (.iload 4, 2) := by decide +kernel
theorem dX5_stepsTo_54 : decode (mC mX5_stepsTo) 54 = .ok (.iaload, 1) := by decide +kernel
theorem dX5_stepsTo_55 : decode (mC mX5_stepsTo) 55 = .ok (.isub, 1) := by decide +kernel
theorem dX5_stepsTo_56 : decode (mC mX5_stepsTo) 56 = .ok (.invokestatic 25, 3) := by decide +kernel
theorem dX5_stepsTo_59 : decode (mC mX5_stepsTo) 59 = .ok (.iadd, 1) := by decide +kernel
theorem dX5_stepsTo_60 : decode (mC mX5_stepsTo) 60 = .ok (.invokestatic 31, 3) := by decide +kernel
theorem dX5_stepsTo_63 : decode (mC mX5_stepsTo) 63 = .ok (.istore_n 3, 1) := by decide +kernel
theorem dX5_stepsTo_64 : decode (mC mX5_stepsTo) 64 = .ok (.iinc 4 1, 3) := by decide +kernel
theorem dX5_stepsTo_67 : decode (mC mX5_stepsTo) 67 = .ok (.goto (-49), 3) := by decide +kernel
theorem dX5_stepsTo_70 : decode (mC mX5_stepsTo) 70 = .ok (.iload_n 3, 1) := by decide +kernel
theorem dX5_stepsTo_71 : decode (mC mX5_stepsTo) 71 = .ok (.ireturn, 1) := by decide +kernel
set_option maxRecDepth 100000 in
theorem bX5_stepsTo_0 {sc : Nat × (Nat → Int32)} {h : jH} {Q : jQ} {t : Nat} {l1 l2 : Int32} (t_h : jI5 t)
    (v1 : ¬ (h t 3) = 0 → WP mX5_stepsTo Q 11 [some (.ref t), some (.int l1), some (.int l2), none, none] [] (jG0 sc) h (0, 0))
    (v2 : (h t 3) = 0 → WP mX5_stepsTo Q 7 [some (.ref t), some (.int l1), some (.int l2), none, none] [] (jG0 sc) h (0, 0)) :
    WP mX5_stepsTo Q 0 [some (.ref t), some (.int l1), some (.int l2), none, none] [] (jG0 sc) h (0, 0) := by
  obtain ⟨t_lt3, t_K0, t_R0_0, t_K1, t_L1, t_R0_1, t_K2, t_L2, t_R0_2, t_K3, t_L3⟩ := t_h
  have t_lt2 : t + 2 < jN (jG0 sc) := Nat.lt_of_succ_lt t_lt3
  have t_lt1 : t + 1 < jN (jG0 sc) := Nat.lt_of_succ_lt t_lt2
  have t_lt0 : t + 0 < jN (jG0 sc) := Nat.lt_of_succ_lt t_lt1
  refine j_aload_n (i := 0) rfl dX5_stepsTo_0 ?_
  refine j_getI (idx := 21) (ci := 5) (k := 3) (nest := false) (show (5, 21, 5, 3, false) ∈ jFT by decide) rfl (t_lt0) t_K0 dX5_stepsTo_1 ?_
  refine j_if_ne (off := 7) 11 dX5_stepsTo_4 (by decide) (fun c1 => ?_) (fun c1 => ?_)
  · exact j_le [some (.ref t), some (.int l1), some (.int l2), none, none] (And.intro rfl (And.intro rfl (And.intro rfl True.intro))) (v1 c1)
  · exact j_le [some (.ref t), some (.int l1), some (.int l2), none, none] (And.intro rfl (And.intro rfl (And.intro rfl True.intro))) (v2 c1)
set_option maxRecDepth 100000 in
theorem bX5_stepsTo_7 {sc : Nat × (Nat → Int32)} {h : jH} {Q : jQ} {t : Nat} {l1 l2 : Int32} (t_h : jI5 t)
    (v1 : WP mX5_stepsTo Q 14 [some (.ref t), some (.int l1), some (.int l2), none, none] [.int 0] (jG0 sc) h (0, 0)) :
    WP mX5_stepsTo Q 7 [some (.ref t), some (.int l1), some (.int l2), none, none] [] (jG0 sc) h (0, 0) := by
  obtain ⟨t_lt3, t_K0, t_R0_0, t_K1, t_L1, t_R0_1, t_K2, t_L2, t_R0_2, t_K3, t_L3⟩ := t_h
  have t_lt2 : t + 2 < jN (jG0 sc) := Nat.lt_of_succ_lt t_lt3
  have t_lt1 : t + 1 < jN (jG0 sc) := Nat.lt_of_succ_lt t_lt2
  have t_lt0 : t + 0 < jN (jG0 sc) := Nat.lt_of_succ_lt t_lt1
  refine j_iconst (n := 0) 0 (by decide) dX5_stepsTo_7 ?_
  refine j_goto (off := 6) 14 dX5_stepsTo_8 (by decide) ?_
  exact j_le [some (.ref t), some (.int l1), some (.int l2), none, none] (And.intro rfl (And.intro rfl (And.intro rfl True.intro))) v1
set_option maxRecDepth 100000 in
theorem bX5_stepsTo_11 {sc : Nat × (Nat → Int32)} {h : jH} {Q : jQ} {t : Nat} {l1 l2 : Int32} (t_h : jI5 t)
    (v1 : WP mX5_stepsTo Q 14 [some (.ref t), some (.int l1), some (.int l2), none, none] [.int 1000] (jG0 sc) h (0, 0)) :
    WP mX5_stepsTo Q 11 [some (.ref t), some (.int l1), some (.int l2), none, none] [] (jG0 sc) h (0, 0) := by
  obtain ⟨t_lt3, t_K0, t_R0_0, t_K1, t_L1, t_R0_1, t_K2, t_L2, t_R0_2, t_K3, t_L3⟩ := t_h
  have t_lt2 : t + 2 < jN (jG0 sc) := Nat.lt_of_succ_lt t_lt3
  have t_lt1 : t + 1 < jN (jG0 sc) := Nat.lt_of_succ_lt t_lt2
  have t_lt0 : t + 0 < jN (jG0 sc) := Nat.lt_of_succ_lt t_lt1
  refine j_sipush (n := 1000) 1000 (by decide) dX5_stepsTo_11 ?_
  exact j_le [some (.ref t), some (.int l1), some (.int l2), none, none] (And.intro rfl (And.intro rfl (And.intro rfl True.intro))) v1
set_option maxRecDepth 100000 in
theorem bX5_stepsTo_14 {sc : Nat × (Nat → Int32)} {h : jH} {Q : jQ} {t : Nat} {l1 l2 s0 : Int32} (t_h : jI5 t)
    (v1 : WP mX5_stepsTo Q 18 [some (.ref t), some (.int l1), some (.int l2), some (.int s0), some (.int 0)] [] (jG0 sc) h (0, 0)) :
    WP mX5_stepsTo Q 14 [some (.ref t), some (.int l1), some (.int l2), none, none] [.int s0] (jG0 sc) h (0, 0) := by
  obtain ⟨t_lt3, t_K0, t_R0_0, t_K1, t_L1, t_R0_1, t_K2, t_L2, t_R0_2, t_K3, t_L3⟩ := t_h
  have t_lt2 : t + 2 < jN (jG0 sc) := Nat.lt_of_succ_lt t_lt3
  have t_lt1 : t + 1 < jN (jG0 sc) := Nat.lt_of_succ_lt t_lt2
  have t_lt0 : t + 0 < jN (jG0 sc) := Nat.lt_of_succ_lt t_lt1
  refine j_istore_n (i := 3) dX5_stepsTo_14 (Nat.le_of_ble_eq_true rfl) ?_
  refine j_iconst (n := 0) 0 (by decide) dX5_stepsTo_15 ?_
  refine j_istore (i := 4) dX5_stepsTo_16 (Nat.le_of_ble_eq_true rfl) ?_
  exact j_le [some (.ref t), some (.int l1), some (.int l2), some (.int s0), some (.int 0)] (And.intro rfl (And.intro rfl (And.intro rfl (And.intro rfl (And.intro rfl True.intro))))) v1
set_option maxRecDepth 100000 in
theorem bX5_stepsTo_18 {sc : Nat × (Nat → Int32)} {h : jH} {Q : jQ} {t : Nat} {l1 l2 l3 l4 : Int32} (t_h : jI5 t)
    (v1 : (h t 3) ≤ l4 → WP mX5_stepsTo Q 70 [some (.ref t), some (.int l1), some (.int l2), some (.int l3), some (.int l4)] [] (jG0 sc) h (0, 0))
    (v2 : ¬ (h t 3) ≤ l4 → WP mX5_stepsTo Q 27 [some (.ref t), some (.int l1), some (.int l2), some (.int l3), some (.int l4)] [] (jG0 sc) h (0, 0)) :
    WP mX5_stepsTo Q 18 [some (.ref t), some (.int l1), some (.int l2), some (.int l3), some (.int l4)] [] (jG0 sc) h (0, 0) := by
  obtain ⟨t_lt3, t_K0, t_R0_0, t_K1, t_L1, t_R0_1, t_K2, t_L2, t_R0_2, t_K3, t_L3⟩ := t_h
  have t_lt2 : t + 2 < jN (jG0 sc) := Nat.lt_of_succ_lt t_lt3
  have t_lt1 : t + 1 < jN (jG0 sc) := Nat.lt_of_succ_lt t_lt2
  have t_lt0 : t + 0 < jN (jG0 sc) := Nat.lt_of_succ_lt t_lt1
  refine j_iload (i := 4) rfl dX5_stepsTo_18 ?_
  refine j_aload_n (i := 0) rfl dX5_stepsTo_20 ?_
  refine j_getI (idx := 21) (ci := 5) (k := 3) (nest := false) (show (5, 21, 5, 3, false) ∈ jFT by decide) rfl (t_lt0) t_K0 dX5_stepsTo_21 ?_
  refine j_icmp_ge (off := 46) 70 dX5_stepsTo_24 (by decide) (fun c1 => ?_) (fun c1 => ?_)
  · exact j_le [some (.ref t), some (.int l1), some (.int l2), some (.int l3), some (.int l4)] (And.intro rfl (And.intro rfl (And.intro rfl (And.intro rfl (And.intro rfl True.intro))))) (v1 c1)
  · exact j_le [some (.ref t), some (.int l1), some (.int l2), some (.int l3), some (.int l4)] (And.intro rfl (And.intro rfl (And.intro rfl (And.intro rfl (And.intro rfl True.intro))))) (v2 c1)
set_option maxRecDepth 100000 in
theorem bX5_stepsTo_27 {sc : Nat × (Nat → Int32)} {h : jH} {Q : jQ} {t : Nat} {l1 l2 l3 l4 : Int32} (t_h : jI5 t)
    (v1 : 12 ≤ l4 → WP mX5_stepsTo Q 70 [some (.ref t), some (.int l1), some (.int l2), some (.int l3), some (.int l4)] [] (jG0 sc) h (0, 0))
    (v2 : ¬ 12 ≤ l4 → WP mX5_stepsTo Q 34 [some (.ref t), some (.int l1), some (.int l2), some (.int l3), some (.int l4)] [] (jG0 sc) h (0, 0)) :
    WP mX5_stepsTo Q 27 [some (.ref t), some (.int l1), some (.int l2), some (.int l3), some (.int l4)] [] (jG0 sc) h (0, 0) := by
  obtain ⟨t_lt3, t_K0, t_R0_0, t_K1, t_L1, t_R0_1, t_K2, t_L2, t_R0_2, t_K3, t_L3⟩ := t_h
  have t_lt2 : t + 2 < jN (jG0 sc) := Nat.lt_of_succ_lt t_lt3
  have t_lt1 : t + 1 < jN (jG0 sc) := Nat.lt_of_succ_lt t_lt2
  have t_lt0 : t + 0 < jN (jG0 sc) := Nat.lt_of_succ_lt t_lt1
  refine j_iload (i := 4) rfl dX5_stepsTo_27 ?_
  refine j_bipush (n := 12) 12 (by decide) dX5_stepsTo_29 ?_
  refine j_icmp_ge (off := 39) 70 dX5_stepsTo_31 (by decide) (fun c1 => ?_) (fun c1 => ?_)
  · exact j_le [some (.ref t), some (.int l1), some (.int l2), some (.int l3), some (.int l4)] (And.intro rfl (And.intro rfl (And.intro rfl (And.intro rfl (And.intro rfl True.intro))))) (v1 c1)
  · exact j_le [some (.ref t), some (.int l1), some (.int l2), some (.int l3), some (.int l4)] (And.intro rfl (And.intro rfl (And.intro rfl (And.intro rfl (And.intro rfl True.intro))))) (v2 c1)
set_option maxRecDepth 100000 in
theorem bX5_stepsTo_34 {sc : Nat × (Nat → Int32)} {h : jH} {Q : jQ} {t : Nat} {l1 l2 l3 l4 : Int32} (t_h : jI5 t)
    (o1 : vp_in l4 12)
    (o2 : vp_in l4 12)
    (v1 : WP mX5_stepsTo Q 60 [some (.ref t), some (.int l1), some (.int l2), some (.int l3), some (.int l4)] [.int ((if 0 ≤ (l1 - (h (t + 1) l4.toNatClampNeg)) then (l1 - (h (t + 1) l4.toNatClampNeg)) else 0 - (l1 - (h (t + 1) l4.toNatClampNeg))) + (if 0 ≤ (l2 - (h (t + 2) l4.toNatClampNeg)) then (l2 - (h (t + 2) l4.toNatClampNeg)) else 0 - (l2 - (h (t + 2) l4.toNatClampNeg)))), .int l3] (jG0 sc) h (0, 0)) :
    WP mX5_stepsTo Q 34 [some (.ref t), some (.int l1), some (.int l2), some (.int l3), some (.int l4)] [] (jG0 sc) h (0, 0) := by
  obtain ⟨t_lt3, t_K0, t_R0_0, t_K1, t_L1, t_R0_1, t_K2, t_L2, t_R0_2, t_K3, t_L3⟩ := t_h
  have t_lt2 : t + 2 < jN (jG0 sc) := Nat.lt_of_succ_lt t_lt3
  have t_lt1 : t + 1 < jN (jG0 sc) := Nat.lt_of_succ_lt t_lt2
  have t_lt0 : t + 0 < jN (jG0 sc) := Nat.lt_of_succ_lt t_lt1
  refine j_iload_n (i := 3) rfl dX5_stepsTo_34 ?_
  refine j_iload_n (i := 1) rfl dX5_stepsTo_35 ?_
  refine j_aload_n (i := 0) rfl dX5_stepsTo_36 ?_
  refine j_getR (idx := 9) (ci := 5) (k := 0) (nest := false) (show (5, 9, 5, 0, false) ∈ jFT by decide) rfl (t_lt0) t_K0 (a := (t + 1)) t_R0_0 dX5_stepsTo_37 ?_
  refine j_iload (i := 4) rfl dX5_stepsTo_40 ?_
  refine j_iald (t_lt1) t_K1 (by rw [show jL (jG0 sc) (t + 1) = 12 from t_L1]; exact o1) dX5_stepsTo_42 ?_
  refine j_isub dX5_stepsTo_43 ?_
  refine j_mabs (idx := 25) (jlkT (jtb2 239 rfl) rfl) dX5_stepsTo_44 (Nat.le_of_ble_eq_true rfl) ⟨Nat.zero_le _, Nat.zero_le _⟩ ?_
  refine j_iload_n (i := 2) rfl dX5_stepsTo_47 ?_
  refine j_aload_n (i := 0) rfl dX5_stepsTo_48 ?_
  refine j_getR (idx := 15) (ci := 5) (k := 1) (nest := false) (show (5, 15, 5, 1, false) ∈ jFT by decide) rfl (t_lt0) t_K0 (a := (t + 2)) t_R0_1 dX5_stepsTo_49 ?_
  refine j_iload (i := 4) rfl dX5_stepsTo_52 ?_
  refine j_iald (t_lt2) t_K2 (by rw [show jL (jG0 sc) (t + 2) = 12 from t_L2]; exact o2) dX5_stepsTo_54 ?_
  refine j_isub dX5_stepsTo_55 ?_
  refine j_mabs (idx := 25) (jlkT (jtb2 239 rfl) rfl) dX5_stepsTo_56 (Nat.le_of_ble_eq_true rfl) ⟨Nat.zero_le _, Nat.zero_le _⟩ ?_
  refine j_iadd dX5_stepsTo_59 ?_
  exact j_le [some (.ref t), some (.int l1), some (.int l2), some (.int l3), some (.int l4)] (And.intro rfl (And.intro rfl (And.intro rfl (And.intro rfl (And.intro rfl True.intro))))) v1
set_option maxRecDepth 100000 in
theorem bX5_stepsTo_60 {sc : Nat × (Nat → Int32)} {h : jH} {Q : jQ} {t : Nat} {l1 l2 l3 l4 s0 s1 : Int32} (t_h : jI5 t)
    (v1 : WP mX5_stepsTo Q 18 [some (.ref t), some (.int l1), some (.int l2), some (.int (if s0 < s1 then s0 else s1)), some (.int (l4 + 1))] [] (jG0 sc) h (0, 0)) :
    WP mX5_stepsTo Q 60 [some (.ref t), some (.int l1), some (.int l2), some (.int l3), some (.int l4)] [.int s0, .int s1] (jG0 sc) h (0, 0) := by
  obtain ⟨t_lt3, t_K0, t_R0_0, t_K1, t_L1, t_R0_1, t_K2, t_L2, t_R0_2, t_K3, t_L3⟩ := t_h
  have t_lt2 : t + 2 < jN (jG0 sc) := Nat.lt_of_succ_lt t_lt3
  have t_lt1 : t + 1 < jN (jG0 sc) := Nat.lt_of_succ_lt t_lt2
  have t_lt0 : t + 0 < jN (jG0 sc) := Nat.lt_of_succ_lt t_lt1
  refine j_mmin (idx := 31) (jlkT (jtb3 2 rfl) rfl) dX5_stepsTo_60 (Nat.le_of_ble_eq_true rfl) ⟨Nat.zero_le _, Nat.zero_le _⟩ ?_
  refine j_istore_n (i := 3) dX5_stepsTo_63 (Nat.le_of_ble_eq_true rfl) ?_
  refine j_iinc (i := 4) (n := 1) rfl dX5_stepsTo_64 (Nat.le_of_ble_eq_true rfl) ?_
  refine j_eqlv [some (.ref t), some (.int l1), some (.int l2), some (.int (if s0 < s1 then s0 else s1)), some (.int (l4 + 1))] rfl ?_
  refine j_goto (off := -49) 18 dX5_stepsTo_67 (by decide) ?_
  exact j_le [some (.ref t), some (.int l1), some (.int l2), some (.int (if s0 < s1 then s0 else s1)), some (.int (l4 + 1))] (And.intro rfl (And.intro rfl (And.intro rfl (And.intro rfl (And.intro rfl True.intro))))) v1
set_option maxRecDepth 100000 in
theorem bX5_stepsTo_70 {sc : Nat × (Nat → Int32)} {h : jH} {Q : jQ} {t : Nat} {l1 l2 l3 l4 : Int32} (t_h : jI5 t)
    (v1 : Q (.inl (some (.int l3))) (jG0 sc) h) :
    WP mX5_stepsTo Q 70 [some (.ref t), some (.int l1), some (.int l2), some (.int l3), some (.int l4)] [] (jG0 sc) h (0, 0) := by
  obtain ⟨t_lt3, t_K0, t_R0_0, t_K1, t_L1, t_R0_1, t_K2, t_L2, t_R0_2, t_K3, t_L3⟩ := t_h
  have t_lt2 : t + 2 < jN (jG0 sc) := Nat.lt_of_succ_lt t_lt3
  have t_lt1 : t + 1 < jN (jG0 sc) := Nat.lt_of_succ_lt t_lt2
  have t_lt0 : t + 0 < jN (jG0 sc) := Nat.lt_of_succ_lt t_lt1
  refine j_iload_n (i := 3) rfl dX5_stepsTo_70 ?_
  exact j_iret rfl rfl (Nat.zero_le _) (Nat.zero_le _) dX5_stepsTo_71 v1
set_option maxRecDepth 100000 in
theorem rX5_stepsTo_0 {sc : Nat × (Nat → Int32)} {h : jH} {Q : jQ} {t : Nat} {l1 l2 : Int32} (t_h : jI5 t)
    (v1 : ¬ (h t 3) = 0 → WP mX5_stepsTo Q 18 [some (.ref t), some (.int l1), some (.int l2), some (.int 1000), some (.int 0)] [] (jG0 sc) h (0, 0))
    (v2 : (h t 3) = 0 → WP mX5_stepsTo Q 18 [some (.ref t), some (.int l1), some (.int l2), some (.int 0), some (.int 0)] [] (jG0 sc) h (0, 0)) :
    WP mX5_stepsTo Q 0 [some (.ref t), some (.int l1), some (.int l2), none, none] [] (jG0 sc) h (0, 0) := by
  exact (bX5_stepsTo_0 t_h (fun c1 => (bX5_stepsTo_11 t_h (bX5_stepsTo_14 t_h (v1 c1)))) (fun c1 => (bX5_stepsTo_7 t_h (bX5_stepsTo_14 t_h (v2 c1)))))
set_option maxRecDepth 100000 in
theorem rX5_stepsTo_18 {sc : Nat × (Nat → Int32)} {h : jH} {Q : jQ} {t : Nat} {l1 l2 l3 l4 : Int32} (t_h : jI5 t)
    (v1 : (h t 3) ≤ l4 → Q (.inl (some (.int l3))) (jG0 sc) h)
    (v2 : ¬ (h t 3) ≤ l4 → 12 ≤ l4 → Q (.inl (some (.int l3))) (jG0 sc) h)
    (o1 : ¬ (h t 3) ≤ l4 → ¬ 12 ≤ l4 → vp_in l4 12)
    (v3 : ¬ (h t 3) ≤ l4 → ¬ 12 ≤ l4 → WP mX5_stepsTo Q 18 [some (.ref t), some (.int l1), some (.int l2), some (.int (if ((if 0 ≤ (l1 - (h (t + 1) l4.toNatClampNeg)) then (l1 - (h (t + 1) l4.toNatClampNeg)) else 0 - (l1 - (h (t + 1) l4.toNatClampNeg))) + (if 0 ≤ (l2 - (h (t + 2) l4.toNatClampNeg)) then (l2 - (h (t + 2) l4.toNatClampNeg)) else 0 - (l2 - (h (t + 2) l4.toNatClampNeg)))) < l3 then ((if 0 ≤ (l1 - (h (t + 1) l4.toNatClampNeg)) then (l1 - (h (t + 1) l4.toNatClampNeg)) else 0 - (l1 - (h (t + 1) l4.toNatClampNeg))) + (if 0 ≤ (l2 - (h (t + 2) l4.toNatClampNeg)) then (l2 - (h (t + 2) l4.toNatClampNeg)) else 0 - (l2 - (h (t + 2) l4.toNatClampNeg)))) else l3)), some (.int (l4 + 1))] [] (jG0 sc) h (0, 0)) :
    WP mX5_stepsTo Q 18 [some (.ref t), some (.int l1), some (.int l2), some (.int l3), some (.int l4)] [] (jG0 sc) h (0, 0) := by
  exact (bX5_stepsTo_18 t_h (fun c1 => (bX5_stepsTo_70 t_h (v1 c1))) (fun c1 => (bX5_stepsTo_27 t_h (fun c2 => (bX5_stepsTo_70 t_h (v2 c1 c2))) (fun c2 => (bX5_stepsTo_34 t_h (o1 c1 c2) (o1 c1 c2) (bX5_stepsTo_60 t_h (v3 c1 c2)))))))
theorem dX5_copyOf_0 : decode (mC mX5_copyOf) 0 = .ok (.iconst 0, 1) := by decide +kernel
theorem dX5_copyOf_1 : decode (mC mX5_copyOf) 1 = .ok (.istore_n 2, 1) := by decide +kernel
theorem dX5_copyOf_2 : decode (mC mX5_copyOf) 2 = .ok (.iload_n 2, 1) := by decide +kernel
theorem dX5_copyOf_3 : decode (mC mX5_copyOf) 3 = .ok (.bipush 12, 2) := by decide +kernel
theorem dX5_copyOf_5 : decode (mC mX5_copyOf) 5 = .ok (.if_icmp .ge 45, 3) := by decide +kernel
theorem dX5_copyOf_8 : decode (mC mX5_copyOf) 8 = .ok (.aload_n 0, 1) := by decide +kernel
theorem dX5_copyOf_9 : decode (mC mX5_copyOf) 9 = .ok (.getfield 9, 3) := by decide +kernel
theorem dX5_copyOf_12 : decode (mC mX5_copyOf) 12 = .ok (.iload_n 2, 1) := by decide +kernel
theorem dX5_copyOf_13 : decode (mC mX5_copyOf) 13 = .ok (.aload_n 1, 1) := by decide +kernel
theorem dX5_copyOf_14 : decode (mC mX5_copyOf) 14 = .ok (.getfield 9, 3) := by decide +kernel
theorem dX5_copyOf_17 : decode (mC mX5_copyOf) 17 = .ok (.iload_n 2, 1) := by decide +kernel
theorem dX5_copyOf_18 : decode (mC mX5_copyOf) 18 = .ok (.iaload, 1) := by decide +kernel
theorem dX5_copyOf_19 : decode (mC mX5_copyOf) 19 = .ok (.iastore, 1) := by decide +kernel
theorem dX5_copyOf_20 : decode (mC mX5_copyOf) 20 = .ok (.aload_n 0, 1) := by decide +kernel
theorem dX5_copyOf_21 : decode (mC mX5_copyOf) 21 = .ok (.getfield 15, 3) := by decide +kernel
theorem dX5_copyOf_24 : decode (mC mX5_copyOf) 24 = .ok (.iload_n 2, 1) := by decide +kernel
theorem dX5_copyOf_25 : decode (mC mX5_copyOf) 25 = .ok (.aload_n 1, 1) := by decide +kernel
theorem dX5_copyOf_26 : decode (mC mX5_copyOf) 26 = .ok (.getfield 15, 3) := by decide +kernel
theorem dX5_copyOf_29 : decode (mC mX5_copyOf) 29 = .ok (.iload_n 2, 1) := by decide +kernel
theorem dX5_copyOf_30 : decode (mC mX5_copyOf) 30 = .ok (.iaload, 1) := by decide +kernel
theorem dX5_copyOf_31 : decode (mC mX5_copyOf) 31 = .ok (.iastore, 1) := by decide +kernel
theorem dX5_copyOf_32 : decode (mC mX5_copyOf) 32 = .ok (.aload_n 0, 1) := by decide +kernel
theorem dX5_copyOf_33 : decode (mC mX5_copyOf) 33 = .ok (.getfield 18, 3) := by decide +kernel
theorem dX5_copyOf_36 : decode (mC mX5_copyOf) 36 = .ok (.iload_n 2, 1) := by decide +kernel
theorem dX5_copyOf_37 : decode (mC mX5_copyOf) 37 = .ok (.aload_n 1, 1) := by decide +kernel
theorem dX5_copyOf_38 : decode (mC mX5_copyOf) 38 = .ok (.getfield 18, 3) := by decide +kernel
theorem dX5_copyOf_41 : decode (mC mX5_copyOf) 41 = .ok (.iload_n 2, 1) := by decide +kernel
theorem dX5_copyOf_42 : decode (mC mX5_copyOf) 42 = .ok (.iaload, 1) := by decide +kernel
theorem dX5_copyOf_43 : decode (mC mX5_copyOf) 43 = .ok (.iastore, 1) := by decide +kernel
theorem dX5_copyOf_44 : decode (mC mX5_copyOf) 44 = .ok (.iinc 2 1, 3) := by decide +kernel
theorem dX5_copyOf_47 : decode (mC mX5_copyOf) 47 = .ok (.goto (-45), 3) := by decide +kernel
theorem dX5_copyOf_50 : decode (mC mX5_copyOf) 50 = .ok (.aload_n 0, 1) := by decide +kernel
theorem dX5_copyOf_51 : decode (mC mX5_copyOf) 51 = .ok (.aload_n 1, 1) := by decide +kernel
theorem dX5_copyOf_52 : decode (mC mX5_copyOf) 52 = .ok (.getfield 21, 3) := by decide +kernel
theorem dX5_copyOf_55 : decode (mC mX5_copyOf) 55 = .ok (.putfield 21, 3) := by decide +kernel
theorem dX5_copyOf_58 : decode (mC mX5_copyOf) 58 = .ok (.return_, 1) := by decide +kernel
set_option maxRecDepth 100000 in
theorem bX5_copyOf_0 {sc : Nat × (Nat → Int32)} {h : jH} {Q : jQ} {a : Nat} {t : Nat} (a_h : jI5 a) (t_h : jI5 t)
    (v1 : WP mX5_copyOf Q 2 [some (.ref t), some (.ref a), some (.int 0)] [] (jG0 sc) h (0, 0)) :
    WP mX5_copyOf Q 0 [some (.ref t), some (.ref a), none] [] (jG0 sc) h (0, 0) := by
  obtain ⟨a_lt3, a_K0, a_R0_0, a_K1, a_L1, a_R0_1, a_K2, a_L2, a_R0_2, a_K3, a_L3⟩ := a_h
  have a_lt2 : a + 2 < jN (jG0 sc) := Nat.lt_of_succ_lt a_lt3
  have a_lt1 : a + 1 < jN (jG0 sc) := Nat.lt_of_succ_lt a_lt2
  have a_lt0 : a + 0 < jN (jG0 sc) := Nat.lt_of_succ_lt a_lt1
  obtain ⟨t_lt3, t_K0, t_R0_0, t_K1, t_L1, t_R0_1, t_K2, t_L2, t_R0_2, t_K3, t_L3⟩ := t_h
  have t_lt2 : t + 2 < jN (jG0 sc) := Nat.lt_of_succ_lt t_lt3
  have t_lt1 : t + 1 < jN (jG0 sc) := Nat.lt_of_succ_lt t_lt2
  have t_lt0 : t + 0 < jN (jG0 sc) := Nat.lt_of_succ_lt t_lt1
  refine j_iconst (n := 0) 0 (by decide) dX5_copyOf_0 ?_
  refine j_istore_n (i := 2) dX5_copyOf_1 (Nat.le_of_ble_eq_true rfl) ?_
  exact j_le [some (.ref t), some (.ref a), some (.int 0)] (And.intro rfl (And.intro rfl (And.intro rfl True.intro))) v1
set_option maxRecDepth 100000 in
theorem bX5_copyOf_2 {sc : Nat × (Nat → Int32)} {h : jH} {Q : jQ} {a : Nat} {t : Nat} {l2 : Int32} (a_h : jI5 a) (t_h : jI5 t)
    (v1 : 12 ≤ l2 → WP mX5_copyOf Q 50 [some (.ref t), some (.ref a), some (.int l2)] [] (jG0 sc) h (0, 0))
    (v2 : ¬ 12 ≤ l2 → WP mX5_copyOf Q 8 [some (.ref t), some (.ref a), some (.int l2)] [] (jG0 sc) h (0, 0)) :
    WP mX5_copyOf Q 2 [some (.ref t), some (.ref a), some (.int l2)] [] (jG0 sc) h (0, 0) := by
  obtain ⟨a_lt3, a_K0, a_R0_0, a_K1, a_L1, a_R0_1, a_K2, a_L2, a_R0_2, a_K3, a_L3⟩ := a_h
  have a_lt2 : a + 2 < jN (jG0 sc) := Nat.lt_of_succ_lt a_lt3
  have a_lt1 : a + 1 < jN (jG0 sc) := Nat.lt_of_succ_lt a_lt2
  have a_lt0 : a + 0 < jN (jG0 sc) := Nat.lt_of_succ_lt a_lt1
  obtain ⟨t_lt3, t_K0, t_R0_0, t_K1, t_L1, t_R0_1, t_K2, t_L2, t_R0_2, t_K3, t_L3⟩ := t_h
  have t_lt2 : t + 2 < jN (jG0 sc) := Nat.lt_of_succ_lt t_lt3
  have t_lt1 : t + 1 < jN (jG0 sc) := Nat.lt_of_succ_lt t_lt2
  have t_lt0 : t + 0 < jN (jG0 sc) := Nat.lt_of_succ_lt t_lt1
  refine j_iload_n (i := 2) rfl dX5_copyOf_2 ?_
  refine j_bipush (n := 12) 12 (by decide) dX5_copyOf_3 ?_
  refine j_icmp_ge (off := 45) 50 dX5_copyOf_5 (by decide) (fun c1 => ?_) (fun c1 => ?_)
  · exact j_le [some (.ref t), some (.ref a), some (.int l2)] (And.intro rfl (And.intro rfl (And.intro rfl True.intro))) (v1 c1)
  · exact j_le [some (.ref t), some (.ref a), some (.int l2)] (And.intro rfl (And.intro rfl (And.intro rfl True.intro))) (v2 c1)
set_option maxRecDepth 100000 in
theorem bX5_copyOf_8 {sc : Nat × (Nat → Int32)} {h : jH} {Q : jQ} {a : Nat} {t : Nat} {l2 : Int32} (a_h : jI5 a) (t_h : jI5 t)
    (o1 : vp_in l2 12)
    (o2 : vp_in l2 12)
    (o3 : vp_in l2 12)
    (o4 : vp_in l2 12)
    (o5 : vp_in l2 12)
    (v1 : WP mX5_copyOf Q 43 [some (.ref t), some (.ref a), some (.int l2)] [.int ((jput (jput h (t + 1) l2.toNatClampNeg (h (a + 1) l2.toNatClampNeg)) (t + 2) l2.toNatClampNeg ((jput h (t + 1) l2.toNatClampNeg (h (a + 1) l2.toNatClampNeg)) (a + 2) l2.toNatClampNeg)) (a + 3) l2.toNatClampNeg), .int l2, .ref (t + 3)] (jG0 sc) (jput (jput h (t + 1) l2.toNatClampNeg (h (a + 1) l2.toNatClampNeg)) (t + 2) l2.toNatClampNeg ((jput h (t + 1) l2.toNatClampNeg (h (a + 1) l2.toNatClampNeg)) (a + 2) l2.toNatClampNeg)) (0, 0)) :
    WP mX5_copyOf Q 8 [some (.ref t), some (.ref a), some (.int l2)] [] (jG0 sc) h (0, 0) := by
  obtain ⟨a_lt3, a_K0, a_R0_0, a_K1, a_L1, a_R0_1, a_K2, a_L2, a_R0_2, a_K3, a_L3⟩ := a_h
  have a_lt2 : a + 2 < jN (jG0 sc) := Nat.lt_of_succ_lt a_lt3
  have a_lt1 : a + 1 < jN (jG0 sc) := Nat.lt_of_succ_lt a_lt2
  have a_lt0 : a + 0 < jN (jG0 sc) := Nat.lt_of_succ_lt a_lt1
  obtain ⟨t_lt3, t_K0, t_R0_0, t_K1, t_L1, t_R0_1, t_K2, t_L2, t_R0_2, t_K3, t_L3⟩ := t_h
  have t_lt2 : t + 2 < jN (jG0 sc) := Nat.lt_of_succ_lt t_lt3
  have t_lt1 : t + 1 < jN (jG0 sc) := Nat.lt_of_succ_lt t_lt2
  have t_lt0 : t + 0 < jN (jG0 sc) := Nat.lt_of_succ_lt t_lt1
  refine j_aload_n (i := 0) rfl dX5_copyOf_8 ?_
  refine j_getR (idx := 9) (ci := 5) (k := 0) (nest := false) (show (5, 9, 5, 0, false) ∈ jFT by decide) rfl (t_lt0) t_K0 (a := (t + 1)) t_R0_0 dX5_copyOf_9 ?_
  refine j_iload_n (i := 2) rfl dX5_copyOf_12 ?_
  refine j_aload_n (i := 1) rfl dX5_copyOf_13 ?_
  refine j_getR (idx := 9) (ci := 5) (k := 0) (nest := false) (show (5, 9, 5, 0, false) ∈ jFT by decide) rfl (a_lt0) a_K0 (a := (a + 1)) a_R0_0 dX5_copyOf_14 ?_
  refine j_iload_n (i := 2) rfl dX5_copyOf_17 ?_
  refine j_iald (a_lt1) a_K1 (by rw [show jL (jG0 sc) (a + 1) = 12 from a_L1]; exact o1) dX5_copyOf_18 ?_
  refine j_iast (t_lt1) t_K1 (by rw [show jL (jG0 sc) (t + 1) = 12 from t_L1]; exact o2) dX5_copyOf_19 ?_
  refine j_aload_n (i := 0) rfl dX5_copyOf_20 ?_
  refine j_getR (idx := 15) (ci := 5) (k := 1) (nest := false) (show (5, 15, 5, 1, false) ∈ jFT by decide) rfl (t_lt0) t_K0 (a := (t + 2)) t_R0_1 dX5_copyOf_21 ?_
  refine j_iload_n (i := 2) rfl dX5_copyOf_24 ?_
  refine j_aload_n (i := 1) rfl dX5_copyOf_25 ?_
  refine j_getR (idx := 15) (ci := 5) (k := 1) (nest := false) (show (5, 15, 5, 1, false) ∈ jFT by decide) rfl (a_lt0) a_K0 (a := (a + 2)) a_R0_1 dX5_copyOf_26 ?_
  refine j_iload_n (i := 2) rfl dX5_copyOf_29 ?_
  refine j_iald (a_lt2) a_K2 (by rw [show jL (jG0 sc) (a + 2) = 12 from a_L2]; exact o3) dX5_copyOf_30 ?_
  refine j_iast (t_lt2) t_K2 (by rw [show jL (jG0 sc) (t + 2) = 12 from t_L2]; exact o4) dX5_copyOf_31 ?_
  refine j_aload_n (i := 0) rfl dX5_copyOf_32 ?_
  refine j_getR (idx := 18) (ci := 5) (k := 2) (nest := false) (show (5, 18, 5, 2, false) ∈ jFT by decide) rfl (t_lt0) t_K0 (a := (t + 3)) t_R0_2 dX5_copyOf_33 ?_
  refine j_iload_n (i := 2) rfl dX5_copyOf_36 ?_
  refine j_aload_n (i := 1) rfl dX5_copyOf_37 ?_
  refine j_getR (idx := 18) (ci := 5) (k := 2) (nest := false) (show (5, 18, 5, 2, false) ∈ jFT by decide) rfl (a_lt0) a_K0 (a := (a + 3)) a_R0_2 dX5_copyOf_38 ?_
  refine j_iload_n (i := 2) rfl dX5_copyOf_41 ?_
  refine j_iald (a_lt3) a_K3 (by rw [show jL (jG0 sc) (a + 3) = 12 from a_L3]; exact o5) dX5_copyOf_42 ?_
  exact j_le [some (.ref t), some (.ref a), some (.int l2)] (And.intro rfl (And.intro rfl (And.intro rfl True.intro))) v1
set_option maxRecDepth 100000 in
theorem bX5_copyOf_43 {sc : Nat × (Nat → Int32)} {h : jH} {Q : jQ} {a : Nat} {t : Nat} {l2 s0 s1 : Int32} (a_h : jI5 a) (t_h : jI5 t)
    (o1 : vp_in s1 12)
    (v1 : WP mX5_copyOf Q 2 [some (.ref t), some (.ref a), some (.int (l2 + 1))] [] (jG0 sc) (jput h (t + 3) s1.toNatClampNeg s0) (0, 0)) :
    WP mX5_copyOf Q 43 [some (.ref t), some (.ref a), some (.int l2)] [.int s0, .int s1, .ref (t + 3)] (jG0 sc) h (0, 0) := by
  obtain ⟨a_lt3, a_K0, a_R0_0, a_K1, a_L1, a_R0_1, a_K2, a_L2, a_R0_2, a_K3, a_L3⟩ := a_h
  have a_lt2 : a + 2 < jN (jG0 sc) := Nat.lt_of_succ_lt a_lt3
  have a_lt1 : a + 1 < jN (jG0 sc) := Nat.lt_of_succ_lt a_lt2
  have a_lt0 : a + 0 < jN (jG0 sc) := Nat.lt_of_succ_lt a_lt1
  obtain ⟨t_lt3, t_K0, t_R0_0, t_K1, t_L1, t_R0_1, t_K2, t_L2, t_R0_2, t_K3, t_L3⟩ := t_h
  have t_lt2 : t + 2 < jN (jG0 sc) := Nat.lt_of_succ_lt t_lt3
  have t_lt1 : t + 1 < jN (jG0 sc) := Nat.lt_of_succ_lt t_lt2
  have t_lt0 : t + 0 < jN (jG0 sc) := Nat.lt_of_succ_lt t_lt1
  refine j_iast (t_lt3) t_K3 (by rw [show jL (jG0 sc) (t + 3) = 12 from t_L3]; exact o1) dX5_copyOf_43 ?_
  refine j_iinc (i := 2) (n := 1) rfl dX5_copyOf_44 (Nat.le_of_ble_eq_true rfl) ?_
  refine j_eqlv [some (.ref t), some (.ref a), some (.int (l2 + 1))] rfl ?_
  refine j_goto (off := -45) 2 dX5_copyOf_47 (by decide) ?_
  exact j_le [some (.ref t), some (.ref a), some (.int (l2 + 1))] (And.intro rfl (And.intro rfl (And.intro rfl True.intro))) v1
set_option maxRecDepth 100000 in
theorem bX5_copyOf_50 {sc : Nat × (Nat → Int32)} {h : jH} {Q : jQ} {a : Nat} {t : Nat} {l2 : Int32} (a_h : jI5 a) (t_h : jI5 t)
    (v1 : Q (.inl none) (jG0 sc) (jput h t 3 (h a 3))) :
    WP mX5_copyOf Q 50 [some (.ref t), some (.ref a), some (.int l2)] [] (jG0 sc) h (0, 0) := by
  obtain ⟨a_lt3, a_K0, a_R0_0, a_K1, a_L1, a_R0_1, a_K2, a_L2, a_R0_2, a_K3, a_L3⟩ := a_h
  have a_lt2 : a + 2 < jN (jG0 sc) := Nat.lt_of_succ_lt a_lt3
  have a_lt1 : a + 1 < jN (jG0 sc) := Nat.lt_of_succ_lt a_lt2
  have a_lt0 : a + 0 < jN (jG0 sc) := Nat.lt_of_succ_lt a_lt1
  obtain ⟨t_lt3, t_K0, t_R0_0, t_K1, t_L1, t_R0_1, t_K2, t_L2, t_R0_2, t_K3, t_L3⟩ := t_h
  have t_lt2 : t + 2 < jN (jG0 sc) := Nat.lt_of_succ_lt t_lt3
  have t_lt1 : t + 1 < jN (jG0 sc) := Nat.lt_of_succ_lt t_lt2
  have t_lt0 : t + 0 < jN (jG0 sc) := Nat.lt_of_succ_lt t_lt1
  refine j_aload_n (i := 0) rfl dX5_copyOf_50 ?_
  refine j_aload_n (i := 1) rfl dX5_copyOf_51 ?_
  refine j_getI (idx := 21) (ci := 5) (k := 3) (nest := false) (show (5, 21, 5, 3, false) ∈ jFT by decide) rfl (a_lt0) a_K0 dX5_copyOf_52 ?_
  refine j_putI (idx := 21) (ci := 5) (k := 3) (nest := false) (show (5, 21, 5, 3, false) ∈ jFT by decide) rfl rfl rfl rfl (t_lt0) t_K0 dX5_copyOf_55 ?_
  exact j_vret rfl (Nat.zero_le _) (Nat.zero_le _) dX5_copyOf_58 v1
set_option maxRecDepth 100000 in
theorem rX5_copyOf_0 {sc : Nat × (Nat → Int32)} {h : jH} {Q : jQ} {a : Nat} {t : Nat} (a_h : jI5 a) (t_h : jI5 t)
    (v1 : WP mX5_copyOf Q 2 [some (.ref t), some (.ref a), some (.int 0)] [] (jG0 sc) h (0, 0)) :
    WP mX5_copyOf Q 0 [some (.ref t), some (.ref a), none] [] (jG0 sc) h (0, 0) := by
  exact (bX5_copyOf_0 a_h t_h v1)
set_option maxRecDepth 100000 in
theorem rX5_copyOf_2 {sc : Nat × (Nat → Int32)} {h : jH} {Q : jQ} {a : Nat} {t : Nat} {l2 : Int32} (a_h : jI5 a) (t_h : jI5 t)
    (v1 : 12 ≤ l2 → Q (.inl none) (jG0 sc) (jput h t 3 (h a 3)))
    (o1 : ¬ 12 ≤ l2 → vp_in l2 12)
    (v2 : ¬ 12 ≤ l2 → WP mX5_copyOf Q 2 [some (.ref t), some (.ref a), some (.int (l2 + 1))] [] (jG0 sc) (jput (jput (jput h (t + 1) l2.toNatClampNeg (h (a + 1) l2.toNatClampNeg)) (t + 2) l2.toNatClampNeg ((jput h (t + 1) l2.toNatClampNeg (h (a + 1) l2.toNatClampNeg)) (a + 2) l2.toNatClampNeg)) (t + 3) l2.toNatClampNeg ((jput (jput h (t + 1) l2.toNatClampNeg (h (a + 1) l2.toNatClampNeg)) (t + 2) l2.toNatClampNeg ((jput h (t + 1) l2.toNatClampNeg (h (a + 1) l2.toNatClampNeg)) (a + 2) l2.toNatClampNeg)) (a + 3) l2.toNatClampNeg)) (0, 0)) :
    WP mX5_copyOf Q 2 [some (.ref t), some (.ref a), some (.int l2)] [] (jG0 sc) h (0, 0) := by
  exact (bX5_copyOf_2 a_h t_h (fun c1 => (bX5_copyOf_50 a_h t_h (v1 c1))) (fun c1 => (bX5_copyOf_8 a_h t_h (o1 c1) (o1 c1) (o1 c1) (o1 c1) (o1 c1) (bX5_copyOf_43 a_h t_h (o1 c1) (v2 c1)))))
theorem dX9_forget_0 : decode (mC mX9_forget) 0 = .ok (.aload_n 0, 1) := by decide +kernel
theorem dX9_forget_1 : decode (mC mX9_forget) 1 = .ok (.iconst 0, 1) := by decide +kernel
theorem dX9_forget_2 : decode (mC mX9_forget) 2 = .ok (.putfield 24, 3) := by decide +kernel
theorem dX9_forget_5 : decode (mC mX9_forget) 5 = .ok (.aload_n 0, 1) := by decide +kernel
theorem dX9_forget_6 : decode (mC mX9_forget) 6 = .ok (.iconst 0, 1) := by decide +kernel
theorem dX9_forget_7 : decode (mC mX9_forget) 7 = .ok (.putfield 28, 3) := by decide +kernel
theorem dX9_forget_10 : decode (mC mX9_forget) 10 = .ok (.aload_n 0, 1) := by decide +kernel
theorem dX9_forget_11 : decode (mC mX9_forget) 11 = .ok (.iconst 0, 1) := by decide +kernel
theorem dX9_forget_12 : decode (mC mX9_forget) 12 = .ok (.putfield 31, 3) := by decide +kernel
theorem dX9_forget_15 : decode (mC mX9_forget) 15 = .ok (.aload_n 0, 1) := by decide +kernel
theorem dX9_forget_16 : decode (mC mX9_forget) 16 = .ok (.iconst 0, 1) := by decide +kernel
theorem dX9_forget_17 : decode (mC mX9_forget) 17 = .ok (.putfield 34, 3) := by decide +kernel
theorem dX9_forget_20 : decode (mC mX9_forget) 20 = .ok (.aload_n 0, 1) := by decide +kernel
theorem dX9_forget_21 : decode (mC mX9_forget) 21 = .ok (.iconst 0, 1) := by decide +kernel
theorem dX9_forget_22 : decode (mC mX9_forget) 22 = .ok (.putfield 37, 3) := by decide +kernel
theorem dX9_forget_25 : decode (mC mX9_forget) 25 = .ok (.aload_n 0, 1) := by decide +kernel
theorem dX9_forget_26 : decode (mC mX9_forget) 26 = .ok (.iconst 0, 1) := by decide +kernel
theorem dX9_forget_27 : decode (mC mX9_forget) 27 = .ok (.putfield 40, 3) := by decide +kernel
theorem dX9_forget_30 : decode (mC mX9_forget) 30 = .ok (.return_, 1) := by decide +kernel
set_option maxRecDepth 100000 in
theorem bX9_forget_0 {sc : Nat × (Nat → Int32)} {h : jH} {Q : jQ} {t : Nat} (t_h : jI9 t)
    (v1 : Q (.inl none) (jG0 sc) (jput (jput (jput (jput (jput (jput h t 1 0) t 2 0) t 3 0) t 4 0) t 5 0) t 9 0)) :
    WP mX9_forget Q 0 [some (.ref t)] [] (jG0 sc) h (0, 0) := by
  obtain ⟨t_lt4, t_K0, t_R0_0, t_K1, t_L1, t_R0_6, t_K2, t_L2, t_R0_7, t_K3, t_L3, t_R0_8, t_K4, t_L4⟩ := t_h
  have t_lt3 : t + 3 < jN (jG0 sc) := Nat.lt_of_succ_lt t_lt4
  have t_lt2 : t + 2 < jN (jG0 sc) := Nat.lt_of_succ_lt t_lt3
  have t_lt1 : t + 1 < jN (jG0 sc) := Nat.lt_of_succ_lt t_lt2
  have t_lt0 : t + 0 < jN (jG0 sc) := Nat.lt_of_succ_lt t_lt1
  refine j_aload_n (i := 0) rfl dX9_forget_0 ?_
  refine j_iconst (n := 0) 0 (by decide) dX9_forget_1 ?_
  refine j_putI (idx := 24) (ci := 9) (k := 1) (nest := false) (show (9, 24, 9, 1, false) ∈ jFT by decide) rfl rfl rfl rfl (t_lt0) t_K0 dX9_forget_2 ?_
  refine j_aload_n (i := 0) rfl dX9_forget_5 ?_
  refine j_iconst (n := 0) 0 (by decide) dX9_forget_6 ?_
  refine j_putI (idx := 28) (ci := 9) (k := 2) (nest := false) (show (9, 28, 9, 2, false) ∈ jFT by decide) rfl rfl rfl rfl (t_lt0) t_K0 dX9_forget_7 ?_
  refine j_aload_n (i := 0) rfl dX9_forget_10 ?_
  refine j_iconst (n := 0) 0 (by decide) dX9_forget_11 ?_
  refine j_putI (idx := 31) (ci := 9) (k := 3) (nest := false) (show (9, 31, 9, 3, false) ∈ jFT by decide) rfl rfl rfl rfl (t_lt0) t_K0 dX9_forget_12 ?_
  refine j_aload_n (i := 0) rfl dX9_forget_15 ?_
  refine j_iconst (n := 0) 0 (by decide) dX9_forget_16 ?_
  refine j_putI (idx := 34) (ci := 9) (k := 4) (nest := false) (show (9, 34, 9, 4, false) ∈ jFT by decide) rfl rfl rfl rfl (t_lt0) t_K0 dX9_forget_17 ?_
  refine j_aload_n (i := 0) rfl dX9_forget_20 ?_
  refine j_iconst (n := 0) 0 (by decide) dX9_forget_21 ?_
  refine j_putI (idx := 37) (ci := 9) (k := 5) (nest := false) (show (9, 37, 9, 5, false) ∈ jFT by decide) rfl rfl rfl rfl (t_lt0) t_K0 dX9_forget_22 ?_
  refine j_aload_n (i := 0) rfl dX9_forget_25 ?_
  refine j_iconst (n := 0) 0 (by decide) dX9_forget_26 ?_
  refine j_putI (idx := 40) (ci := 9) (k := 9) (nest := false) (show (9, 40, 9, 9, false) ∈ jFT by decide) rfl rfl rfl rfl (t_lt0) t_K0 dX9_forget_27 ?_
  exact j_vret rfl (Nat.zero_le _) (Nat.zero_le _) dX9_forget_30 v1
set_option maxRecDepth 100000 in
theorem rX9_forget_0 {sc : Nat × (Nat → Int32)} {h : jH} {Q : jQ} {t : Nat} (t_h : jI9 t)
    (v1 : Q (.inl none) (jG0 sc) (jput (jput (jput (jput (jput (jput h t 1 0) t 2 0) t 3 0) t 4 0) t 5 0) t 9 0)) :
    WP mX9_forget Q 0 [some (.ref t)] [] (jG0 sc) h (0, 0) := by
  exact (bX9_forget_0 t_h v1)
theorem dX9_add_0 : decode (mC mX9_add) 0 = .ok (.iload_n 1, 1) := by decide +kernel
theorem dX9_add_1 : decode (mC mX9_add) 1 = .ok (.iconst (-1), 1) := by decide +kernel
theorem dX9_add_2 : decode (mC mX9_add) 2 = .ok (.if_icmp .ne 52, 3) := by decide +kernel
theorem dX9_add_5 : decode (mC mX9_add) 5 = .ok (.aload_n 0, 1) := by decide +kernel
theorem dX9_add_6 : decode (mC mX9_add) 6 = .ok (.getfield 24, 3) := by decide +kernel
theorem dX9_add_9 : decode (mC mX9_add) 9 = .ok (.ifCond .lt 35, 3) := by decide +kernel
theorem dX9_add_12 : decode (mC mX9_add) 12 = .ok (.aload_n 0, 1) := by decide +kernel
theorem dX9_add_13 : decode (mC mX9_add) 13 = .ok (.getfield 24, 3) := by decide +kernel
theorem dX9_add_16 : decode (mC mX9_add) 16 = .ok (.bipush 30, 2) := by decide +kernel
theorem dX9_add_18 : decode (mC mX9_add) 18 = .ok (.if_icmp .ge 26, 3) := by decide +kernel
theorem dX9_add_21 : decode (mC mX9_add) 21 = .ok (.aload_n 0, 1) := by decide +kernel
theorem dX9_add_22 : decode (mC mX9_add) 22 = .ok (.getfield 9, 3) := by decide +kernel
theorem dX9_add_25 : decode (mC mX9_add) 25 = .ok (.aload_n 0, 1) := by decide +kernel
theorem dX9_add_26 : decode (mC mX9_add) 26 = .ok (.getfield 24, 3) := by decide +kernel
theorem dX9_add_29 : decode (mC mX9_add) 29 = .ok (.aload_n 0, 1) := by decide +kernel
theorem dX9_add_30 : decode (mC mX9_add) 30 = .ok (.getfield 28, 3) := by decide +kernel
theorem dX9_add_33 : decode (mC mX9_add) 33 = .ok (.iastore, 1) := by decide +kernel
theorem dX9_add_34 : decode (mC mX9_add) 34 = .ok (.aload_n 0, 1) := by decide +kernel
theorem dX9_add_35 : decode (mC mX9_add) 35 = .ok (.dup, 1) := by decide +kernel
theorem dX9_add_36 : decode (mC mX9_add) 36 = .ok (.getfield 24, 3) := by decide +kernel
theorem dX9_add_39 : decode (mC mX9_add) 39 = .ok (.iconst 1, 1) := by decide +kernel
theorem dX9_add_40 : decode (mC mX9_add) 40 = .ok (.iadd, 1) := by decide +kernel
theorem dX9_add_41 : decode (mC mX9_add) 41 = .ok (.putfield 24, 3) := by decide +kernel
theorem dX9_add_44 : decode (mC mX9_add) 44 = .ok (.aload_n 0, 1) := by decide +kernel
theorem dX9_add_45 : decode (mC mX9_add) 45 = .ok (.dup, 1) := by decide +kernel
theorem dX9_add_46 : decode (mC mX9_add) 46 = .ok (.getfield 31, 3) := by decide +kernel
theorem dX9_add_49 : decode (mC mX9_add) 49 = .ok (.iconst 1, 1) := by decide +kernel
theorem dX9_add_50 : decode (mC mX9_add) 50 = .ok (.iadd, 1) := by decide +kernel
theorem dX9_add_51 : decode (mC mX9_add) 51 = .ok (.putfield 31, 3) := by decide +kernel
theorem dX9_add_54 : decode (mC mX9_add) 54 = .ok (.aload_n 0, 1) := by decide +kernel
theorem dX9_add_55 : decode (mC mX9_add) 55 = .ok (.getfield 40, 3) := by decide +kernel
theorem dX9_add_58 : decode (mC mX9_add) 58 = .ok (.bipush 8, 2) := by decide +kernel
theorem dX9_add_60 : decode (mC mX9_add) 60 = .ok (.if_icmp .ne 7, 3) := by decide +kernel
theorem dX9_add_63 : decode (mC mX9_add) 63 = .ok (.aload_n 0, 1) := by decide +kernel
theorem dX9_add_64 : decode (mC mX9_add) 64 = .ok (.invokevirtual 43, 3) := by decide +kernel
theorem dX9_add_67 : decode (mC mX9_add) 67 = .ok (.aload_n 0, 1) := by decide +kernel
theorem dX9_add_68 : decode (mC mX9_add) 68 = .ok (.getfield 40, 3) := by decide +kernel
theorem dX9_add_71 : decode (mC mX9_add) 71 = .ok (.ifCond .lt 55, 3) := by decide +kernel
theorem dX9_add_74 : decode (mC mX9_add) 74 = .ok (.aload_n 0, 1) := by decide +kernel
theorem dX9_add_75 : decode (mC mX9_add) 75 = .ok (.getfield 40, 3) := by decide +kernel
theorem dX9_add_78 : decode (mC mX9_add) 78 = .ok (.bipush 8, 2) := by decide +kernel
theorem dX9_add_80 : decode (mC mX9_add) 80 = .ok (.if_icmp .ge 46, 3) := by decide +kernel
theorem dX9_add_83 : decode (mC mX9_add) 83 = .ok (.aload_n 0, 1) := by decide +kernel
theorem dX9_add_84 : decode (mC mX9_add) 84 = .ok (.getfield 15, 3) := by decide +kernel
theorem dX9_add_87 : decode (mC mX9_add) 87 = .ok (.aload_n 0, 1) := by decide +kernel
theorem dX9_add_88 : decode (mC mX9_add) 88 = .ok (.getfield 40, 3) := by decide +kernel
theorem dX9_add_91 : decode (mC mX9_add) 91 = .ok (.aload_n 0, 1) := by decide +kernel
theorem dX9_add_92 : decode (mC mX9_add) 92 = .ok (.getfield 28, 3) := by decide +kernel
theorem dX9_add_95 : decode (mC mX9_add) 95 = .ok (.iastore, 1) := by decide +kernel
theorem dX9_add_96 : decode (mC mX9_add) 96 = .ok (.aload_n 0, 1) := by decide +kernel
theorem dX9_add_97 : decode (mC mX9_add) 97 = .ok (.getfield 18, 3) := by decide +kernel
theorem dX9_add_100 : decode (mC mX9_add) 100 = .ok (.aload_n 0, 1) := by decide +kernel
theorem dX9_add_101 : decode (mC mX9_add) 101 = .ok (.getfield 40, 3) := by decide +kernel
theorem dX9_add_104 : decode (mC mX9_add) 104 = .ok (.iload_n 1, 1) := by decide +kernel
theorem dX9_add_105 : decode (mC mX9_add) 105 = .ok (.iastore, 1) := by decide +kernel
theorem dX9_add_106 : decode (mC mX9_add) 106 = .ok (.aload_n 0, 1) := by decide +kernel
theorem dX9_add_107 : decode (mC mX9_add) 107 = .ok (.getfield 21, 3) := by decide +kernel
theorem dX9_add_110 : decode (mC mX9_add) 110 = .ok (.aload_n 0, 1) := by decide +kernel
theorem dX9_add_111 : decode (mC mX9_add) 111 = .ok (.getfield 40, 3) := by decide +kernel
theorem dX9_add_114 : decode (mC mX9_add) 114 = .ok (.iload_n 1, 1) := by decide +kernel
theorem dX9_add_115 : decode (mC mX9_add) 115 = .ok (.iastore, 1) := by decide +kernel
theorem dX9_add_116 : decode (mC mX9_add) 116 = .ok (.aload_n 0, 1) := by decide +kernel
theorem dX9_add_117 : decode (mC mX9_add) 117 = .ok (.dup, 1) := by decide +kernel
theorem dX9_add_118 : decode (mC mX9_add) 118 = .ok (.getfield 40, 3) := by decide +kernel
theorem dX9_add_121 : decode (mC mX9_add) 121 = .ok (.iconst 1, 1) := by decide +kernel
theorem dX9_add_122 : decode (mC mX9_add) 122 = .ok (.iadd, 1) := by decide +kernel
theorem dX9_add_123 : decode (mC mX9_add) 123 = .ok (.putfield 40, 3) := by decide +kernel
theorem dX9_add_126 : decode (mC mX9_add) 126 = .ok (.aload_n 0, 1) := by decide +kernel
theorem dX9_add_127 : decode (mC mX9_add) 127 = .ok (.dup, 1) := by decide +kernel
theorem dX9_add_128 : decode (mC mX9_add) 128 = .ok (.getfield 28, 3) := by decide +kernel
theorem dX9_add_131 : decode (mC mX9_add) 131 = .ok (.iconst 1, 1) := by decide +kernel
theorem dX9_add_132 : decode (mC mX9_add) 132 = .ok (.iadd, 1) := by decide +kernel
theorem dX9_add_133 : decode (mC mX9_add) 133 = .ok (.putfield 28, 3) := by decide +kernel
theorem dX9_add_136 : decode (mC mX9_add) 136 = .ok (.return_, 1) := by decide +kernel
set_option maxRecDepth 100000 in
theorem bX9_add_0 {sc : Nat × (Nat → Int32)} {h : jH} {Q : jQ} {t : Nat} {l1 : Int32} (t_h : jI9 t)
    (v1 : ¬ l1 = (-1) → WP mX9_add Q 54 [some (.ref t), some (.int l1)] [] (jG0 sc) h (0, 0))
    (v2 : l1 = (-1) → WP mX9_add Q 5 [some (.ref t), some (.int l1)] [] (jG0 sc) h (0, 0)) :
    WP mX9_add Q 0 [some (.ref t), some (.int l1)] [] (jG0 sc) h (0, 0) := by
  obtain ⟨t_lt4, t_K0, t_R0_0, t_K1, t_L1, t_R0_6, t_K2, t_L2, t_R0_7, t_K3, t_L3, t_R0_8, t_K4, t_L4⟩ := t_h
  have t_lt3 : t + 3 < jN (jG0 sc) := Nat.lt_of_succ_lt t_lt4
  have t_lt2 : t + 2 < jN (jG0 sc) := Nat.lt_of_succ_lt t_lt3
  have t_lt1 : t + 1 < jN (jG0 sc) := Nat.lt_of_succ_lt t_lt2
  have t_lt0 : t + 0 < jN (jG0 sc) := Nat.lt_of_succ_lt t_lt1
  refine j_iload_n (i := 1) rfl dX9_add_0 ?_
  refine j_iconst (n := (-1)) (-1) (by decide) dX9_add_1 ?_
  refine j_icmp_ne (off := 52) 54 dX9_add_2 (by decide) (fun c1 => ?_) (fun c1 => ?_)
  · exact j_le [some (.ref t), some (.int l1)] (And.intro rfl (And.intro rfl True.intro)) (v1 c1)
  · exact j_le [some (.ref t), some (.int l1)] (And.intro rfl (And.intro rfl True.intro)) (v2 c1)
set_option maxRecDepth 100000 in
theorem bX9_add_5 {sc : Nat × (Nat → Int32)} {h : jH} {Q : jQ} {t : Nat} {l1 : Int32} (t_h : jI9 t)
    (v1 : (h t 1) < 0 → WP mX9_add Q 44 [some (.ref t), some (.int l1)] [] (jG0 sc) h (0, 0))
    (v2 : ¬ (h t 1) < 0 → WP mX9_add Q 12 [some (.ref t), some (.int l1)] [] (jG0 sc) h (0, 0)) :
    WP mX9_add Q 5 [some (.ref t), some (.int l1)] [] (jG0 sc) h (0, 0) := by
  obtain ⟨t_lt4, t_K0, t_R0_0, t_K1, t_L1, t_R0_6, t_K2, t_L2, t_R0_7, t_K3, t_L3, t_R0_8, t_K4, t_L4⟩ := t_h
  have t_lt3 : t + 3 < jN (jG0 sc) := Nat.lt_of_succ_lt t_lt4
  have t_lt2 : t + 2 < jN (jG0 sc) := Nat.lt_of_succ_lt t_lt3
  have t_lt1 : t + 1 < jN (jG0 sc) := Nat.lt_of_succ_lt t_lt2
  have t_lt0 : t + 0 < jN (jG0 sc) := Nat.lt_of_succ_lt t_lt1
  refine j_aload_n (i := 0) rfl dX9_add_5 ?_
  refine j_getI (idx := 24) (ci := 9) (k := 1) (nest := false) (show (9, 24, 9, 1, false) ∈ jFT by decide) rfl (t_lt0) t_K0 dX9_add_6 ?_
  refine j_if_lt (off := 35) 44 dX9_add_9 (by decide) (fun c1 => ?_) (fun c1 => ?_)
  · exact j_le [some (.ref t), some (.int l1)] (And.intro rfl (And.intro rfl True.intro)) (v1 c1)
  · exact j_le [some (.ref t), some (.int l1)] (And.intro rfl (And.intro rfl True.intro)) (v2 c1)
set_option maxRecDepth 100000 in
theorem bX9_add_12 {sc : Nat × (Nat → Int32)} {h : jH} {Q : jQ} {t : Nat} {l1 : Int32} (t_h : jI9 t)
    (v1 : 30 ≤ (h t 1) → WP mX9_add Q 44 [some (.ref t), some (.int l1)] [] (jG0 sc) h (0, 0))
    (v2 : ¬ 30 ≤ (h t 1) → WP mX9_add Q 21 [some (.ref t), some (.int l1)] [] (jG0 sc) h (0, 0)) :
    WP mX9_add Q 12 [some (.ref t), some (.int l1)] [] (jG0 sc) h (0, 0) := by
  obtain ⟨t_lt4, t_K0, t_R0_0, t_K1, t_L1, t_R0_6, t_K2, t_L2, t_R0_7, t_K3, t_L3, t_R0_8, t_K4, t_L4⟩ := t_h
  have t_lt3 : t + 3 < jN (jG0 sc) := Nat.lt_of_succ_lt t_lt4
  have t_lt2 : t + 2 < jN (jG0 sc) := Nat.lt_of_succ_lt t_lt3
  have t_lt1 : t + 1 < jN (jG0 sc) := Nat.lt_of_succ_lt t_lt2
  have t_lt0 : t + 0 < jN (jG0 sc) := Nat.lt_of_succ_lt t_lt1
  refine j_aload_n (i := 0) rfl dX9_add_12 ?_
  refine j_getI (idx := 24) (ci := 9) (k := 1) (nest := false) (show (9, 24, 9, 1, false) ∈ jFT by decide) rfl (t_lt0) t_K0 dX9_add_13 ?_
  refine j_bipush (n := 30) 30 (by decide) dX9_add_16 ?_
  refine j_icmp_ge (off := 26) 44 dX9_add_18 (by decide) (fun c1 => ?_) (fun c1 => ?_)
  · exact j_le [some (.ref t), some (.int l1)] (And.intro rfl (And.intro rfl True.intro)) (v1 c1)
  · exact j_le [some (.ref t), some (.int l1)] (And.intro rfl (And.intro rfl True.intro)) (v2 c1)
set_option maxRecDepth 100000 in
theorem bX9_add_21 {sc : Nat × (Nat → Int32)} {h : jH} {Q : jQ} {t : Nat} {l1 : Int32} (t_h : jI9 t)
    (o1 : vp_in (h t 1) 30)
    (v1 : WP mX9_add Q 44 [some (.ref t), some (.int l1)] [] (jG0 sc) (jput (jput h (t + 1) ((h t 1).toNatClampNeg) (h t 2)) t 1 (((jput h (t + 1) ((h t 1).toNatClampNeg) (h t 2)) t 1) + 1)) (0, 0)) :
    WP mX9_add Q 21 [some (.ref t), some (.int l1)] [] (jG0 sc) h (0, 0) := by
  obtain ⟨t_lt4, t_K0, t_R0_0, t_K1, t_L1, t_R0_6, t_K2, t_L2, t_R0_7, t_K3, t_L3, t_R0_8, t_K4, t_L4⟩ := t_h
  have t_lt3 : t + 3 < jN (jG0 sc) := Nat.lt_of_succ_lt t_lt4
  have t_lt2 : t + 2 < jN (jG0 sc) := Nat.lt_of_succ_lt t_lt3
  have t_lt1 : t + 1 < jN (jG0 sc) := Nat.lt_of_succ_lt t_lt2
  have t_lt0 : t + 0 < jN (jG0 sc) := Nat.lt_of_succ_lt t_lt1
  refine j_aload_n (i := 0) rfl dX9_add_21 ?_
  refine j_getR (idx := 9) (ci := 9) (k := 0) (nest := false) (show (9, 9, 9, 0, false) ∈ jFT by decide) rfl (t_lt0) t_K0 (a := (t + 1)) t_R0_0 dX9_add_22 ?_
  refine j_aload_n (i := 0) rfl dX9_add_25 ?_
  refine j_getI (idx := 24) (ci := 9) (k := 1) (nest := false) (show (9, 24, 9, 1, false) ∈ jFT by decide) rfl (t_lt0) t_K0 dX9_add_26 ?_
  refine j_aload_n (i := 0) rfl dX9_add_29 ?_
  refine j_getI (idx := 28) (ci := 9) (k := 2) (nest := false) (show (9, 28, 9, 2, false) ∈ jFT by decide) rfl (t_lt0) t_K0 dX9_add_30 ?_
  refine j_iast (t_lt1) t_K1 (by rw [show jL (jG0 sc) (t + 1) = 30 from t_L1]; exact o1) dX9_add_33 ?_
  refine j_aload_n (i := 0) rfl dX9_add_34 ?_
  refine j_dup rfl dX9_add_35 ?_
  refine j_getI (idx := 24) (ci := 9) (k := 1) (nest := false) (show (9, 24, 9, 1, false) ∈ jFT by decide) rfl (t_lt0) t_K0 dX9_add_36 ?_
  refine j_iconst (n := 1) 1 (by decide) dX9_add_39 ?_
  refine j_iadd dX9_add_40 ?_
  refine j_putI (idx := 24) (ci := 9) (k := 1) (nest := false) (show (9, 24, 9, 1, false) ∈ jFT by decide) rfl rfl rfl rfl (t_lt0) t_K0 dX9_add_41 ?_
  exact j_le [some (.ref t), some (.int l1)] (And.intro rfl (And.intro rfl True.intro)) v1
set_option maxRecDepth 100000 in
theorem bX9_add_44 {sc : Nat × (Nat → Int32)} {h : jH} {Q : jQ} {t : Nat} {l1 : Int32} (t_h : jI9 t)
    (v1 : WP mX9_add Q 54 [some (.ref t), some (.int l1)] [] (jG0 sc) (jput h t 3 ((h t 3) + 1)) (0, 0)) :
    WP mX9_add Q 44 [some (.ref t), some (.int l1)] [] (jG0 sc) h (0, 0) := by
  obtain ⟨t_lt4, t_K0, t_R0_0, t_K1, t_L1, t_R0_6, t_K2, t_L2, t_R0_7, t_K3, t_L3, t_R0_8, t_K4, t_L4⟩ := t_h
  have t_lt3 : t + 3 < jN (jG0 sc) := Nat.lt_of_succ_lt t_lt4
  have t_lt2 : t + 2 < jN (jG0 sc) := Nat.lt_of_succ_lt t_lt3
  have t_lt1 : t + 1 < jN (jG0 sc) := Nat.lt_of_succ_lt t_lt2
  have t_lt0 : t + 0 < jN (jG0 sc) := Nat.lt_of_succ_lt t_lt1
  refine j_aload_n (i := 0) rfl dX9_add_44 ?_
  refine j_dup rfl dX9_add_45 ?_
  refine j_getI (idx := 31) (ci := 9) (k := 3) (nest := false) (show (9, 31, 9, 3, false) ∈ jFT by decide) rfl (t_lt0) t_K0 dX9_add_46 ?_
  refine j_iconst (n := 1) 1 (by decide) dX9_add_49 ?_
  refine j_iadd dX9_add_50 ?_
  refine j_putI (idx := 31) (ci := 9) (k := 3) (nest := false) (show (9, 31, 9, 3, false) ∈ jFT by decide) rfl rfl rfl rfl (t_lt0) t_K0 dX9_add_51 ?_
  exact j_le [some (.ref t), some (.int l1)] (And.intro rfl (And.intro rfl True.intro)) v1
set_option maxRecDepth 100000 in
theorem bX9_add_54 {sc : Nat × (Nat → Int32)} {h : jH} {Q : jQ} {t : Nat} {l1 : Int32} (t_h : jI9 t)
    (v1 : ¬ (h t 9) = 8 → WP mX9_add Q 67 [some (.ref t), some (.int l1)] [] (jG0 sc) h (0, 0))
    (v2 : (h t 9) = 8 → WP mX9_add Q 63 [some (.ref t), some (.int l1)] [] (jG0 sc) h (0, 0)) :
    WP mX9_add Q 54 [some (.ref t), some (.int l1)] [] (jG0 sc) h (0, 0) := by
  obtain ⟨t_lt4, t_K0, t_R0_0, t_K1, t_L1, t_R0_6, t_K2, t_L2, t_R0_7, t_K3, t_L3, t_R0_8, t_K4, t_L4⟩ := t_h
  have t_lt3 : t + 3 < jN (jG0 sc) := Nat.lt_of_succ_lt t_lt4
  have t_lt2 : t + 2 < jN (jG0 sc) := Nat.lt_of_succ_lt t_lt3
  have t_lt1 : t + 1 < jN (jG0 sc) := Nat.lt_of_succ_lt t_lt2
  have t_lt0 : t + 0 < jN (jG0 sc) := Nat.lt_of_succ_lt t_lt1
  refine j_aload_n (i := 0) rfl dX9_add_54 ?_
  refine j_getI (idx := 40) (ci := 9) (k := 9) (nest := false) (show (9, 40, 9, 9, false) ∈ jFT by decide) rfl (t_lt0) t_K0 dX9_add_55 ?_
  refine j_bipush (n := 8) 8 (by decide) dX9_add_58 ?_
  refine j_icmp_ne (off := 7) 67 dX9_add_60 (by decide) (fun c1 => ?_) (fun c1 => ?_)
  · exact j_le [some (.ref t), some (.int l1)] (And.intro rfl (And.intro rfl True.intro)) (v1 c1)
  · exact j_le [some (.ref t), some (.int l1)] (And.intro rfl (And.intro rfl True.intro)) (v2 c1)
set_option maxRecDepth 100000 in
theorem bX9_add_63 {sc : Nat × (Nat → Int32)} {h : jH} {Q : jQ} {t : Nat} {l1 : Int32} {P1 : jH → Prop} (t_h : jI9 t)
    (k1 : JM mX9_dropOldest [.ref t] (jG0 sc) h (jvoid sc P1))
    (v1 : ∀ h1 : jH, P1 h1 → WP mX9_add Q 67 [some (.ref t), some (.int l1)] [] (jG0 sc) h1 (0, 0)) :
    WP mX9_add Q 63 [some (.ref t), some (.int l1)] [] (jG0 sc) h (0, 0) := by
  obtain ⟨t_lt4, t_K0, t_R0_0, t_K1, t_L1, t_R0_6, t_K2, t_L2, t_R0_7, t_K3, t_L3, t_R0_8, t_K4, t_L4⟩ := t_h
  have t_lt3 : t + 3 < jN (jG0 sc) := Nat.lt_of_succ_lt t_lt4
  have t_lt2 : t + 2 < jN (jG0 sc) := Nat.lt_of_succ_lt t_lt3
  have t_lt1 : t + 1 < jN (jG0 sc) := Nat.lt_of_succ_lt t_lt2
  have t_lt0 : t + 0 < jN (jG0 sc) := Nat.lt_of_succ_lt t_lt1
  refine j_aload_n (i := 0) rfl dX9_add_63 ?_
  refine j_callV (idx := 43) (As := []) (ci := 9) (n := 0) k1 jvoid_nt (jlkT (jtb5 141 rfl) rfl) sX9_dropOldest kX9_dropOldest rfl ⟨rfl, by decide +kernel, by decide +kernel, by decide +kernel⟩ rfl ⟨by decide, by decide⟩ (t_lt0) t_K0 (Nat.le_of_ble_eq_true rfl) (Nat.le_of_ble_eq_true rfl) ⟨Nat.zero_le _, Nat.zero_le _⟩ dX9_add_64 (fun r Γ' h1 q => ?_)
  obtain ⟨q0, rfl, p1⟩ := q; cases q0
  refine j_eqst [] (by rfl) ?_
  exact j_le [some (.ref t), some (.int l1)] (And.intro rfl (And.intro rfl True.intro)) (v1 h1 p1)
set_option maxRecDepth 100000 in
theorem bX9_add_67 {sc : Nat × (Nat → Int32)} {h : jH} {Q : jQ} {t : Nat} {l1 : Int32} (t_h : jI9 t)
    (v1 : (h t 9) < 0 → WP mX9_add Q 126 [some (.ref t), some (.int l1)] [] (jG0 sc) h (0, 0))
    (v2 : ¬ (h t 9) < 0 → WP mX9_add Q 74 [some (.ref t), some (.int l1)] [] (jG0 sc) h (0, 0)) :
    WP mX9_add Q 67 [some (.ref t), some (.int l1)] [] (jG0 sc) h (0, 0) := by
  obtain ⟨t_lt4, t_K0, t_R0_0, t_K1, t_L1, t_R0_6, t_K2, t_L2, t_R0_7, t_K3, t_L3, t_R0_8, t_K4, t_L4⟩ := t_h
  have t_lt3 : t + 3 < jN (jG0 sc) := Nat.lt_of_succ_lt t_lt4
  have t_lt2 : t + 2 < jN (jG0 sc) := Nat.lt_of_succ_lt t_lt3
  have t_lt1 : t + 1 < jN (jG0 sc) := Nat.lt_of_succ_lt t_lt2
  have t_lt0 : t + 0 < jN (jG0 sc) := Nat.lt_of_succ_lt t_lt1
  refine j_aload_n (i := 0) rfl dX9_add_67 ?_
  refine j_getI (idx := 40) (ci := 9) (k := 9) (nest := false) (show (9, 40, 9, 9, false) ∈ jFT by decide) rfl (t_lt0) t_K0 dX9_add_68 ?_
  refine j_if_lt (off := 55) 126 dX9_add_71 (by decide) (fun c1 => ?_) (fun c1 => ?_)
  · exact j_le [some (.ref t), some (.int l1)] (And.intro rfl (And.intro rfl True.intro)) (v1 c1)
  · exact j_le [some (.ref t), some (.int l1)] (And.intro rfl (And.intro rfl True.intro)) (v2 c1)
set_option maxRecDepth 100000 in
theorem bX9_add_74 {sc : Nat × (Nat → Int32)} {h : jH} {Q : jQ} {t : Nat} {l1 : Int32} (t_h : jI9 t)
    (v1 : 8 ≤ (h t 9) → WP mX9_add Q 126 [some (.ref t), some (.int l1)] [] (jG0 sc) h (0, 0))
    (v2 : ¬ 8 ≤ (h t 9) → WP mX9_add Q 83 [some (.ref t), some (.int l1)] [] (jG0 sc) h (0, 0)) :
    WP mX9_add Q 74 [some (.ref t), some (.int l1)] [] (jG0 sc) h (0, 0) := by
  obtain ⟨t_lt4, t_K0, t_R0_0, t_K1, t_L1, t_R0_6, t_K2, t_L2, t_R0_7, t_K3, t_L3, t_R0_8, t_K4, t_L4⟩ := t_h
  have t_lt3 : t + 3 < jN (jG0 sc) := Nat.lt_of_succ_lt t_lt4
  have t_lt2 : t + 2 < jN (jG0 sc) := Nat.lt_of_succ_lt t_lt3
  have t_lt1 : t + 1 < jN (jG0 sc) := Nat.lt_of_succ_lt t_lt2
  have t_lt0 : t + 0 < jN (jG0 sc) := Nat.lt_of_succ_lt t_lt1
  refine j_aload_n (i := 0) rfl dX9_add_74 ?_
  refine j_getI (idx := 40) (ci := 9) (k := 9) (nest := false) (show (9, 40, 9, 9, false) ∈ jFT by decide) rfl (t_lt0) t_K0 dX9_add_75 ?_
  refine j_bipush (n := 8) 8 (by decide) dX9_add_78 ?_
  refine j_icmp_ge (off := 46) 126 dX9_add_80 (by decide) (fun c1 => ?_) (fun c1 => ?_)
  · exact j_le [some (.ref t), some (.int l1)] (And.intro rfl (And.intro rfl True.intro)) (v1 c1)
  · exact j_le [some (.ref t), some (.int l1)] (And.intro rfl (And.intro rfl True.intro)) (v2 c1)
set_option maxRecDepth 100000 in
theorem bX9_add_83 {sc : Nat × (Nat → Int32)} {h : jH} {Q : jQ} {t : Nat} {l1 : Int32} (t_h : jI9 t)
    (o1 : vp_in (h t 9) 8)
    (o2 : vp_in ((jput h (t + 2) ((h t 9).toNatClampNeg) (h t 2)) t 9) 8)
    (o3 : vp_in ((jput (jput h (t + 2) ((h t 9).toNatClampNeg) (h t 2)) (t + 3) (((jput h (t + 2) ((h t 9).toNatClampNeg) (h t 2)) t 9).toNatClampNeg) l1) t 9) 8)
    (v1 : WP mX9_add Q 122 [some (.ref t), some (.int l1)] [.int 1, .int ((jput (jput (jput h (t + 2) ((h t 9).toNatClampNeg) (h t 2)) (t + 3) (((jput h (t + 2) ((h t 9).toNatClampNeg) (h t 2)) t 9).toNatClampNeg) l1) (t + 4) (((jput (jput h (t + 2) ((h t 9).toNatClampNeg) (h t 2)) (t + 3) (((jput h (t + 2) ((h t 9).toNatClampNeg) (h t 2)) t 9).toNatClampNeg) l1) t 9).toNatClampNeg) l1) t 9), .ref t] (jG0 sc) (jput (jput (jput h (t + 2) ((h t 9).toNatClampNeg) (h t 2)) (t + 3) (((jput h (t + 2) ((h t 9).toNatClampNeg) (h t 2)) t 9).toNatClampNeg) l1) (t + 4) (((jput (jput h (t + 2) ((h t 9).toNatClampNeg) (h t 2)) (t + 3) (((jput h (t + 2) ((h t 9).toNatClampNeg) (h t 2)) t 9).toNatClampNeg) l1) t 9).toNatClampNeg) l1) (0, 0)) :
    WP mX9_add Q 83 [some (.ref t), some (.int l1)] [] (jG0 sc) h (0, 0) := by
  obtain ⟨t_lt4, t_K0, t_R0_0, t_K1, t_L1, t_R0_6, t_K2, t_L2, t_R0_7, t_K3, t_L3, t_R0_8, t_K4, t_L4⟩ := t_h
  have t_lt3 : t + 3 < jN (jG0 sc) := Nat.lt_of_succ_lt t_lt4
  have t_lt2 : t + 2 < jN (jG0 sc) := Nat.lt_of_succ_lt t_lt3
  have t_lt1 : t + 1 < jN (jG0 sc) := Nat.lt_of_succ_lt t_lt2
  have t_lt0 : t + 0 < jN (jG0 sc) := Nat.lt_of_succ_lt t_lt1
  refine j_aload_n (i := 0) rfl dX9_add_83 ?_
  refine j_getR (idx := 15) (ci := 9) (k := 6) (nest := false) (show (9, 15, 9, 6, false) ∈ jFT by decide) rfl (t_lt0) t_K0 (a := (t + 2)) t_R0_6 dX9_add_84 ?_
  refine j_aload_n (i := 0) rfl dX9_add_87 ?_
  refine j_getI (idx := 40) (ci := 9) (k := 9) (nest := false) (show (9, 40, 9, 9, false) ∈ jFT by decide) rfl (t_lt0) t_K0 dX9_add_88 ?_
  refine j_aload_n (i := 0) rfl dX9_add_91 ?_
  refine j_getI (idx := 28) (ci := 9) (k := 2) (nest := false) (show (9, 28, 9, 2, false) ∈ jFT by decide) rfl (t_lt0) t_K0 dX9_add_92 ?_
  refine j_iast (t_lt2) t_K2 (by rw [show jL (jG0 sc) (t + 2) = 8 from t_L2]; exact o1) dX9_add_95 ?_
  refine j_aload_n (i := 0) rfl dX9_add_96 ?_
  refine j_getR (idx := 18) (ci := 9) (k := 7) (nest := false) (show (9, 18, 9, 7, false) ∈ jFT by decide) rfl (t_lt0) t_K0 (a := (t + 3)) t_R0_7 dX9_add_97 ?_
  refine j_aload_n (i := 0) rfl dX9_add_100 ?_
  refine j_getI (idx := 40) (ci := 9) (k := 9) (nest := false) (show (9, 40, 9, 9, false) ∈ jFT by decide) rfl (t_lt0) t_K0 dX9_add_101 ?_
  refine j_iload_n (i := 1) rfl dX9_add_104 ?_
  refine j_iast (t_lt3) t_K3 (by rw [show jL (jG0 sc) (t + 3) = 8 from t_L3]; exact o2) dX9_add_105 ?_
  refine j_aload_n (i := 0) rfl dX9_add_106 ?_
  refine j_getR (idx := 21) (ci := 9) (k := 8) (nest := false) (show (9, 21, 9, 8, false) ∈ jFT by decide) rfl (t_lt0) t_K0 (a := (t + 4)) t_R0_8 dX9_add_107 ?_
  refine j_aload_n (i := 0) rfl dX9_add_110 ?_
  refine j_getI (idx := 40) (ci := 9) (k := 9) (nest := false) (show (9, 40, 9, 9, false) ∈ jFT by decide) rfl (t_lt0) t_K0 dX9_add_111 ?_
  refine j_iload_n (i := 1) rfl dX9_add_114 ?_
  refine j_iast (t_lt4) t_K4 (by rw [show jL (jG0 sc) (t + 4) = 8 from t_L4]; exact o3) dX9_add_115 ?_
  refine j_aload_n (i := 0) rfl dX9_add_116 ?_
  refine j_dup rfl dX9_add_117 ?_
  refine j_getI (idx := 40) (ci := 9) (k := 9) (nest := false) (show (9, 40, 9, 9, false) ∈ jFT by decide) rfl (t_lt0) t_K0 dX9_add_118 ?_
  refine j_iconst (n := 1) 1 (by decide) dX9_add_121 ?_
  exact j_le [some (.ref t), some (.int l1)] (And.intro rfl (And.intro rfl True.intro)) v1
set_option maxRecDepth 100000 in
theorem bX9_add_122 {sc : Nat × (Nat → Int32)} {h : jH} {Q : jQ} {t : Nat} {l1 s0 s1 : Int32} (t_h : jI9 t)
    (v1 : WP mX9_add Q 126 [some (.ref t), some (.int l1)] [] (jG0 sc) (jput h t 9 (s1 + s0)) (0, 0)) :
    WP mX9_add Q 122 [some (.ref t), some (.int l1)] [.int s0, .int s1, .ref t] (jG0 sc) h (0, 0) := by
  obtain ⟨t_lt4, t_K0, t_R0_0, t_K1, t_L1, t_R0_6, t_K2, t_L2, t_R0_7, t_K3, t_L3, t_R0_8, t_K4, t_L4⟩ := t_h
  have t_lt3 : t + 3 < jN (jG0 sc) := Nat.lt_of_succ_lt t_lt4
  have t_lt2 : t + 2 < jN (jG0 sc) := Nat.lt_of_succ_lt t_lt3
  have t_lt1 : t + 1 < jN (jG0 sc) := Nat.lt_of_succ_lt t_lt2
  have t_lt0 : t + 0 < jN (jG0 sc) := Nat.lt_of_succ_lt t_lt1
  refine j_iadd dX9_add_122 ?_
  refine j_putI (idx := 40) (ci := 9) (k := 9) (nest := false) (show (9, 40, 9, 9, false) ∈ jFT by decide) rfl rfl rfl rfl (t_lt0) t_K0 dX9_add_123 ?_
  exact j_le [some (.ref t), some (.int l1)] (And.intro rfl (And.intro rfl True.intro)) v1
set_option maxRecDepth 100000 in
theorem bX9_add_126 {sc : Nat × (Nat → Int32)} {h : jH} {Q : jQ} {t : Nat} {l1 : Int32} (t_h : jI9 t)
    (v1 : Q (.inl none) (jG0 sc) (jput h t 2 ((h t 2) + 1))) :
    WP mX9_add Q 126 [some (.ref t), some (.int l1)] [] (jG0 sc) h (0, 0) := by
  obtain ⟨t_lt4, t_K0, t_R0_0, t_K1, t_L1, t_R0_6, t_K2, t_L2, t_R0_7, t_K3, t_L3, t_R0_8, t_K4, t_L4⟩ := t_h
  have t_lt3 : t + 3 < jN (jG0 sc) := Nat.lt_of_succ_lt t_lt4
  have t_lt2 : t + 2 < jN (jG0 sc) := Nat.lt_of_succ_lt t_lt3
  have t_lt1 : t + 1 < jN (jG0 sc) := Nat.lt_of_succ_lt t_lt2
  have t_lt0 : t + 0 < jN (jG0 sc) := Nat.lt_of_succ_lt t_lt1
  refine j_aload_n (i := 0) rfl dX9_add_126 ?_
  refine j_dup rfl dX9_add_127 ?_
  refine j_getI (idx := 28) (ci := 9) (k := 2) (nest := false) (show (9, 28, 9, 2, false) ∈ jFT by decide) rfl (t_lt0) t_K0 dX9_add_128 ?_
  refine j_iconst (n := 1) 1 (by decide) dX9_add_131 ?_
  refine j_iadd dX9_add_132 ?_
  refine j_putI (idx := 28) (ci := 9) (k := 2) (nest := false) (show (9, 28, 9, 2, false) ∈ jFT by decide) rfl rfl rfl rfl (t_lt0) t_K0 dX9_add_133 ?_
  exact j_vret rfl (Nat.zero_le _) (Nat.zero_le _) dX9_add_136 v1
set_option maxRecDepth 100000 in
theorem rX9_add_0 {sc : Nat × (Nat → Int32)} {h : jH} {Q : jQ} {t : Nat} {l1 : Int32} {P1 : jH → Prop} {P2 : jH → Prop} {P3 : jH → Prop} {P4 : jH → Prop} (t_h : jI9 t)
    (v1 : ¬ l1 = (-1) → ¬ (h t 9) = 8 → (h t 9) < 0 → Q (.inl none) (jG0 sc) (jput h t 2 ((h t 2) + 1)))
    (v2 : ¬ l1 = (-1) → ¬ (h t 9) = 8 → ¬ (h t 9) < 0 → 8 ≤ (h t 9) → Q (.inl none) (jG0 sc) (jput h t 2 ((h t 2) + 1)))
    (o1 : ¬ l1 = (-1) → ¬ (h t 9) = 8 → ¬ (h t 9) < 0 → ¬ 8 ≤ (h t 9) → vp_in (h t 9) 8)
    (o2 : ¬ l1 = (-1) → ¬ (h t 9) = 8 → ¬ (h t 9) < 0 → ¬ 8 ≤ (h t 9) → vp_in ((jput h (t + 2) ((h t 9).toNatClampNeg) (h t 2)) t 9) 8)
    (o3 : ¬ l1 = (-1) → ¬ (h t 9) = 8 → ¬ (h t 9) < 0 → ¬ 8 ≤ (h t 9) → vp_in ((jput (jput h (t + 2) ((h t 9).toNatClampNeg) (h t 2)) (t + 3) (((jput h (t + 2) ((h t 9).toNatClampNeg) (h t 2)) t 9).toNatClampNeg) l1) t 9) 8)
    (v3 : ¬ l1 = (-1) → ¬ (h t 9) = 8 → ¬ (h t 9) < 0 → ¬ 8 ≤ (h t 9) → Q (.inl none) (jG0 sc) (jput (jput (jput (jput (jput h (t + 2) ((h t 9).toNatClampNeg) (h t 2)) (t + 3) (((jput h (t + 2) ((h t 9).toNatClampNeg) (h t 2)) t 9).toNatClampNeg) l1) (t + 4) (((jput (jput h (t + 2) ((h t 9).toNatClampNeg) (h t 2)) (t + 3) (((jput h (t + 2) ((h t 9).toNatClampNeg) (h t 2)) t 9).toNatClampNeg) l1) t 9).toNatClampNeg) l1) t 9 (((jput (jput (jput h (t + 2) ((h t 9).toNatClampNeg) (h t 2)) (t + 3) (((jput h (t + 2) ((h t 9).toNatClampNeg) (h t 2)) t 9).toNatClampNeg) l1) (t + 4) (((jput (jput h (t + 2) ((h t 9).toNatClampNeg) (h t 2)) (t + 3) (((jput h (t + 2) ((h t 9).toNatClampNeg) (h t 2)) t 9).toNatClampNeg) l1) t 9).toNatClampNeg) l1) t 9) + 1)) t 2 (((jput (jput (jput (jput h (t + 2) ((h t 9).toNatClampNeg) (h t 2)) (t + 3) (((jput h (t + 2) ((h t 9).toNatClampNeg) (h t 2)) t 9).toNatClampNeg) l1) (t + 4) (((jput (jput h (t + 2) ((h t 9).toNatClampNeg) (h t 2)) (t + 3) (((jput h (t + 2) ((h t 9).toNatClampNeg) (h t 2)) t 9).toNatClampNeg) l1) t 9).toNatClampNeg) l1) t 9 (((jput (jput (jput h (t + 2) ((h t 9).toNatClampNeg) (h t 2)) (t + 3) (((jput h (t + 2) ((h t 9).toNatClampNeg) (h t 2)) t 9).toNatClampNeg) l1) (t + 4) (((jput (jput h (t + 2) ((h t 9).toNatClampNeg) (h t 2)) (t + 3) (((jput h (t + 2) ((h t 9).toNatClampNeg) (h t 2)) t 9).toNatClampNeg) l1) t 9).toNatClampNeg) l1) t 9) + 1)) t 2) + 1)))
    (k1 : ¬ l1 = (-1) → (h t 9) = 8 → JM mX9_dropOldest [.ref t] (jG0 sc) h (jvoid sc P1))
    (v4 : ¬ l1 = (-1) → (h t 9) = 8 → ∀ h1 : jH, P1 h1 → (h1 t 9) < 0 → Q (.inl none) (jG0 sc) (jput h1 t 2 ((h1 t 2) + 1)))
    (v5 : ¬ l1 = (-1) → (h t 9) = 8 → ∀ h1 : jH, P1 h1 → ¬ (h1 t 9) < 0 → 8 ≤ (h1 t 9) → Q (.inl none) (jG0 sc) (jput h1 t 2 ((h1 t 2) + 1)))
    (o4 : ¬ l1 = (-1) → (h t 9) = 8 → ∀ h1 : jH, P1 h1 → ¬ (h1 t 9) < 0 → ¬ 8 ≤ (h1 t 9) → vp_in (h1 t 9) 8)
    (o5 : ¬ l1 = (-1) → (h t 9) = 8 → ∀ h1 : jH, P1 h1 → ¬ (h1 t 9) < 0 → ¬ 8 ≤ (h1 t 9) → vp_in ((jput h1 (t + 2) ((h1 t 9).toNatClampNeg) (h1 t 2)) t 9) 8)
    (o6 : ¬ l1 = (-1) → (h t 9) = 8 → ∀ h1 : jH, P1 h1 → ¬ (h1 t 9) < 0 → ¬ 8 ≤ (h1 t 9) → vp_in ((jput (jput h1 (t + 2) ((h1 t 9).toNatClampNeg) (h1 t 2)) (t + 3) (((jput h1 (t + 2) ((h1 t 9).toNatClampNeg) (h1 t 2)) t 9).toNatClampNeg) l1) t 9) 8)
    (v6 : ¬ l1 = (-1) → (h t 9) = 8 → ∀ h1 : jH, P1 h1 → ¬ (h1 t 9) < 0 → ¬ 8 ≤ (h1 t 9) → Q (.inl none) (jG0 sc) (jput (jput (jput (jput (jput h1 (t + 2) ((h1 t 9).toNatClampNeg) (h1 t 2)) (t + 3) (((jput h1 (t + 2) ((h1 t 9).toNatClampNeg) (h1 t 2)) t 9).toNatClampNeg) l1) (t + 4) (((jput (jput h1 (t + 2) ((h1 t 9).toNatClampNeg) (h1 t 2)) (t + 3) (((jput h1 (t + 2) ((h1 t 9).toNatClampNeg) (h1 t 2)) t 9).toNatClampNeg) l1) t 9).toNatClampNeg) l1) t 9 (((jput (jput (jput h1 (t + 2) ((h1 t 9).toNatClampNeg) (h1 t 2)) (t + 3) (((jput h1 (t + 2) ((h1 t 9).toNatClampNeg) (h1 t 2)) t 9).toNatClampNeg) l1) (t + 4) (((jput (jput h1 (t + 2) ((h1 t 9).toNatClampNeg) (h1 t 2)) (t + 3) (((jput h1 (t + 2) ((h1 t 9).toNatClampNeg) (h1 t 2)) t 9).toNatClampNeg) l1) t 9).toNatClampNeg) l1) t 9) + 1)) t 2 (((jput (jput (jput (jput h1 (t + 2) ((h1 t 9).toNatClampNeg) (h1 t 2)) (t + 3) (((jput h1 (t + 2) ((h1 t 9).toNatClampNeg) (h1 t 2)) t 9).toNatClampNeg) l1) (t + 4) (((jput (jput h1 (t + 2) ((h1 t 9).toNatClampNeg) (h1 t 2)) (t + 3) (((jput h1 (t + 2) ((h1 t 9).toNatClampNeg) (h1 t 2)) t 9).toNatClampNeg) l1) t 9).toNatClampNeg) l1) t 9 (((jput (jput (jput h1 (t + 2) ((h1 t 9).toNatClampNeg) (h1 t 2)) (t + 3) (((jput h1 (t + 2) ((h1 t 9).toNatClampNeg) (h1 t 2)) t 9).toNatClampNeg) l1) (t + 4) (((jput (jput h1 (t + 2) ((h1 t 9).toNatClampNeg) (h1 t 2)) (t + 3) (((jput h1 (t + 2) ((h1 t 9).toNatClampNeg) (h1 t 2)) t 9).toNatClampNeg) l1) t 9).toNatClampNeg) l1) t 9) + 1)) t 2) + 1)))
    (v7 : l1 = (-1) → (h t 1) < 0 → ¬ ((jput h t 3 ((h t 3) + 1)) t 9) = 8 → ((jput h t 3 ((h t 3) + 1)) t 9) < 0 → Q (.inl none) (jG0 sc) (jput (jput h t 3 ((h t 3) + 1)) t 2 (((jput h t 3 ((h t 3) + 1)) t 2) + 1)))
    (v8 : l1 = (-1) → (h t 1) < 0 → ¬ ((jput h t 3 ((h t 3) + 1)) t 9) = 8 → ¬ ((jput h t 3 ((h t 3) + 1)) t 9) < 0 → 8 ≤ ((jput h t 3 ((h t 3) + 1)) t 9) → Q (.inl none) (jG0 sc) (jput (jput h t 3 ((h t 3) + 1)) t 2 (((jput h t 3 ((h t 3) + 1)) t 2) + 1)))
    (o7 : l1 = (-1) → (h t 1) < 0 → ¬ ((jput h t 3 ((h t 3) + 1)) t 9) = 8 → ¬ ((jput h t 3 ((h t 3) + 1)) t 9) < 0 → ¬ 8 ≤ ((jput h t 3 ((h t 3) + 1)) t 9) → vp_in ((jput h t 3 ((h t 3) + 1)) t 9) 8)
    (o8 : l1 = (-1) → (h t 1) < 0 → ¬ ((jput h t 3 ((h t 3) + 1)) t 9) = 8 → ¬ ((jput h t 3 ((h t 3) + 1)) t 9) < 0 → ¬ 8 ≤ ((jput h t 3 ((h t 3) + 1)) t 9) → vp_in ((jput (jput h t 3 ((h t 3) + 1)) (t + 2) (((jput h t 3 ((h t 3) + 1)) t 9).toNatClampNeg) ((jput h t 3 ((h t 3) + 1)) t 2)) t 9) 8)
    (o9 : l1 = (-1) → (h t 1) < 0 → ¬ ((jput h t 3 ((h t 3) + 1)) t 9) = 8 → ¬ ((jput h t 3 ((h t 3) + 1)) t 9) < 0 → ¬ 8 ≤ ((jput h t 3 ((h t 3) + 1)) t 9) → vp_in ((jput (jput (jput h t 3 ((h t 3) + 1)) (t + 2) (((jput h t 3 ((h t 3) + 1)) t 9).toNatClampNeg) ((jput h t 3 ((h t 3) + 1)) t 2)) (t + 3) (((jput (jput h t 3 ((h t 3) + 1)) (t + 2) (((jput h t 3 ((h t 3) + 1)) t 9).toNatClampNeg) ((jput h t 3 ((h t 3) + 1)) t 2)) t 9).toNatClampNeg) l1) t 9) 8)
    (v9 : l1 = (-1) → (h t 1) < 0 → ¬ ((jput h t 3 ((h t 3) + 1)) t 9) = 8 → ¬ ((jput h t 3 ((h t 3) + 1)) t 9) < 0 → ¬ 8 ≤ ((jput h t 3 ((h t 3) + 1)) t 9) → Q (.inl none) (jG0 sc) (jput (jput (jput (jput (jput (jput h t 3 ((h t 3) + 1)) (t + 2) (((jput h t 3 ((h t 3) + 1)) t 9).toNatClampNeg) ((jput h t 3 ((h t 3) + 1)) t 2)) (t + 3) (((jput (jput h t 3 ((h t 3) + 1)) (t + 2) (((jput h t 3 ((h t 3) + 1)) t 9).toNatClampNeg) ((jput h t 3 ((h t 3) + 1)) t 2)) t 9).toNatClampNeg) l1) (t + 4) (((jput (jput (jput h t 3 ((h t 3) + 1)) (t + 2) (((jput h t 3 ((h t 3) + 1)) t 9).toNatClampNeg) ((jput h t 3 ((h t 3) + 1)) t 2)) (t + 3) (((jput (jput h t 3 ((h t 3) + 1)) (t + 2) (((jput h t 3 ((h t 3) + 1)) t 9).toNatClampNeg) ((jput h t 3 ((h t 3) + 1)) t 2)) t 9).toNatClampNeg) l1) t 9).toNatClampNeg) l1) t 9 (((jput (jput (jput (jput h t 3 ((h t 3) + 1)) (t + 2) (((jput h t 3 ((h t 3) + 1)) t 9).toNatClampNeg) ((jput h t 3 ((h t 3) + 1)) t 2)) (t + 3) (((jput (jput h t 3 ((h t 3) + 1)) (t + 2) (((jput h t 3 ((h t 3) + 1)) t 9).toNatClampNeg) ((jput h t 3 ((h t 3) + 1)) t 2)) t 9).toNatClampNeg) l1) (t + 4) (((jput (jput (jput h t 3 ((h t 3) + 1)) (t + 2) (((jput h t 3 ((h t 3) + 1)) t 9).toNatClampNeg) ((jput h t 3 ((h t 3) + 1)) t 2)) (t + 3) (((jput (jput h t 3 ((h t 3) + 1)) (t + 2) (((jput h t 3 ((h t 3) + 1)) t 9).toNatClampNeg) ((jput h t 3 ((h t 3) + 1)) t 2)) t 9).toNatClampNeg) l1) t 9).toNatClampNeg) l1) t 9) + 1)) t 2 (((jput (jput (jput (jput (jput h t 3 ((h t 3) + 1)) (t + 2) (((jput h t 3 ((h t 3) + 1)) t 9).toNatClampNeg) ((jput h t 3 ((h t 3) + 1)) t 2)) (t + 3) (((jput (jput h t 3 ((h t 3) + 1)) (t + 2) (((jput h t 3 ((h t 3) + 1)) t 9).toNatClampNeg) ((jput h t 3 ((h t 3) + 1)) t 2)) t 9).toNatClampNeg) l1) (t + 4) (((jput (jput (jput h t 3 ((h t 3) + 1)) (t + 2) (((jput h t 3 ((h t 3) + 1)) t 9).toNatClampNeg) ((jput h t 3 ((h t 3) + 1)) t 2)) (t + 3) (((jput (jput h t 3 ((h t 3) + 1)) (t + 2) (((jput h t 3 ((h t 3) + 1)) t 9).toNatClampNeg) ((jput h t 3 ((h t 3) + 1)) t 2)) t 9).toNatClampNeg) l1) t 9).toNatClampNeg) l1) t 9 (((jput (jput (jput (jput h t 3 ((h t 3) + 1)) (t + 2) (((jput h t 3 ((h t 3) + 1)) t 9).toNatClampNeg) ((jput h t 3 ((h t 3) + 1)) t 2)) (t + 3) (((jput (jput h t 3 ((h t 3) + 1)) (t + 2) (((jput h t 3 ((h t 3) + 1)) t 9).toNatClampNeg) ((jput h t 3 ((h t 3) + 1)) t 2)) t 9).toNatClampNeg) l1) (t + 4) (((jput (jput (jput h t 3 ((h t 3) + 1)) (t + 2) (((jput h t 3 ((h t 3) + 1)) t 9).toNatClampNeg) ((jput h t 3 ((h t 3) + 1)) t 2)) (t + 3) (((jput (jput h t 3 ((h t 3) + 1)) (t + 2) (((jput h t 3 ((h t 3) + 1)) t 9).toNatClampNeg) ((jput h t 3 ((h t 3) + 1)) t 2)) t 9).toNatClampNeg) l1) t 9).toNatClampNeg) l1) t 9) + 1)) t 2) + 1)))
    (k2 : l1 = (-1) → (h t 1) < 0 → ((jput h t 3 ((h t 3) + 1)) t 9) = 8 → JM mX9_dropOldest [.ref t] (jG0 sc) (jput h t 3 ((h t 3) + 1)) (jvoid sc P2))
    (v10 : l1 = (-1) → (h t 1) < 0 → ((jput h t 3 ((h t 3) + 1)) t 9) = 8 → ∀ h2 : jH, P2 h2 → (h2 t 9) < 0 → Q (.inl none) (jG0 sc) (jput h2 t 2 ((h2 t 2) + 1)))
    (v11 : l1 = (-1) → (h t 1) < 0 → ((jput h t 3 ((h t 3) + 1)) t 9) = 8 → ∀ h2 : jH, P2 h2 → ¬ (h2 t 9) < 0 → 8 ≤ (h2 t 9) → Q (.inl none) (jG0 sc) (jput h2 t 2 ((h2 t 2) + 1)))
    (o10 : l1 = (-1) → (h t 1) < 0 → ((jput h t 3 ((h t 3) + 1)) t 9) = 8 → ∀ h2 : jH, P2 h2 → ¬ (h2 t 9) < 0 → ¬ 8 ≤ (h2 t 9) → vp_in (h2 t 9) 8)
    (o11 : l1 = (-1) → (h t 1) < 0 → ((jput h t 3 ((h t 3) + 1)) t 9) = 8 → ∀ h2 : jH, P2 h2 → ¬ (h2 t 9) < 0 → ¬ 8 ≤ (h2 t 9) → vp_in ((jput h2 (t + 2) ((h2 t 9).toNatClampNeg) (h2 t 2)) t 9) 8)
    (o12 : l1 = (-1) → (h t 1) < 0 → ((jput h t 3 ((h t 3) + 1)) t 9) = 8 → ∀ h2 : jH, P2 h2 → ¬ (h2 t 9) < 0 → ¬ 8 ≤ (h2 t 9) → vp_in ((jput (jput h2 (t + 2) ((h2 t 9).toNatClampNeg) (h2 t 2)) (t + 3) (((jput h2 (t + 2) ((h2 t 9).toNatClampNeg) (h2 t 2)) t 9).toNatClampNeg) l1) t 9) 8)
    (v12 : l1 = (-1) → (h t 1) < 0 → ((jput h t 3 ((h t 3) + 1)) t 9) = 8 → ∀ h2 : jH, P2 h2 → ¬ (h2 t 9) < 0 → ¬ 8 ≤ (h2 t 9) → Q (.inl none) (jG0 sc) (jput (jput (jput (jput (jput h2 (t + 2) ((h2 t 9).toNatClampNeg) (h2 t 2)) (t + 3) (((jput h2 (t + 2) ((h2 t 9).toNatClampNeg) (h2 t 2)) t 9).toNatClampNeg) l1) (t + 4) (((jput (jput h2 (t + 2) ((h2 t 9).toNatClampNeg) (h2 t 2)) (t + 3) (((jput h2 (t + 2) ((h2 t 9).toNatClampNeg) (h2 t 2)) t 9).toNatClampNeg) l1) t 9).toNatClampNeg) l1) t 9 (((jput (jput (jput h2 (t + 2) ((h2 t 9).toNatClampNeg) (h2 t 2)) (t + 3) (((jput h2 (t + 2) ((h2 t 9).toNatClampNeg) (h2 t 2)) t 9).toNatClampNeg) l1) (t + 4) (((jput (jput h2 (t + 2) ((h2 t 9).toNatClampNeg) (h2 t 2)) (t + 3) (((jput h2 (t + 2) ((h2 t 9).toNatClampNeg) (h2 t 2)) t 9).toNatClampNeg) l1) t 9).toNatClampNeg) l1) t 9) + 1)) t 2 (((jput (jput (jput (jput h2 (t + 2) ((h2 t 9).toNatClampNeg) (h2 t 2)) (t + 3) (((jput h2 (t + 2) ((h2 t 9).toNatClampNeg) (h2 t 2)) t 9).toNatClampNeg) l1) (t + 4) (((jput (jput h2 (t + 2) ((h2 t 9).toNatClampNeg) (h2 t 2)) (t + 3) (((jput h2 (t + 2) ((h2 t 9).toNatClampNeg) (h2 t 2)) t 9).toNatClampNeg) l1) t 9).toNatClampNeg) l1) t 9 (((jput (jput (jput h2 (t + 2) ((h2 t 9).toNatClampNeg) (h2 t 2)) (t + 3) (((jput h2 (t + 2) ((h2 t 9).toNatClampNeg) (h2 t 2)) t 9).toNatClampNeg) l1) (t + 4) (((jput (jput h2 (t + 2) ((h2 t 9).toNatClampNeg) (h2 t 2)) (t + 3) (((jput h2 (t + 2) ((h2 t 9).toNatClampNeg) (h2 t 2)) t 9).toNatClampNeg) l1) t 9).toNatClampNeg) l1) t 9) + 1)) t 2) + 1)))
    (v13 : l1 = (-1) → ¬ (h t 1) < 0 → 30 ≤ (h t 1) → ¬ ((jput h t 3 ((h t 3) + 1)) t 9) = 8 → ((jput h t 3 ((h t 3) + 1)) t 9) < 0 → Q (.inl none) (jG0 sc) (jput (jput h t 3 ((h t 3) + 1)) t 2 (((jput h t 3 ((h t 3) + 1)) t 2) + 1)))
    (v14 : l1 = (-1) → ¬ (h t 1) < 0 → 30 ≤ (h t 1) → ¬ ((jput h t 3 ((h t 3) + 1)) t 9) = 8 → ¬ ((jput h t 3 ((h t 3) + 1)) t 9) < 0 → 8 ≤ ((jput h t 3 ((h t 3) + 1)) t 9) → Q (.inl none) (jG0 sc) (jput (jput h t 3 ((h t 3) + 1)) t 2 (((jput h t 3 ((h t 3) + 1)) t 2) + 1)))
    (o13 : l1 = (-1) → ¬ (h t 1) < 0 → 30 ≤ (h t 1) → ¬ ((jput h t 3 ((h t 3) + 1)) t 9) = 8 → ¬ ((jput h t 3 ((h t 3) + 1)) t 9) < 0 → ¬ 8 ≤ ((jput h t 3 ((h t 3) + 1)) t 9) → vp_in ((jput h t 3 ((h t 3) + 1)) t 9) 8)
    (o14 : l1 = (-1) → ¬ (h t 1) < 0 → 30 ≤ (h t 1) → ¬ ((jput h t 3 ((h t 3) + 1)) t 9) = 8 → ¬ ((jput h t 3 ((h t 3) + 1)) t 9) < 0 → ¬ 8 ≤ ((jput h t 3 ((h t 3) + 1)) t 9) → vp_in ((jput (jput h t 3 ((h t 3) + 1)) (t + 2) (((jput h t 3 ((h t 3) + 1)) t 9).toNatClampNeg) ((jput h t 3 ((h t 3) + 1)) t 2)) t 9) 8)
    (o15 : l1 = (-1) → ¬ (h t 1) < 0 → 30 ≤ (h t 1) → ¬ ((jput h t 3 ((h t 3) + 1)) t 9) = 8 → ¬ ((jput h t 3 ((h t 3) + 1)) t 9) < 0 → ¬ 8 ≤ ((jput h t 3 ((h t 3) + 1)) t 9) → vp_in ((jput (jput (jput h t 3 ((h t 3) + 1)) (t + 2) (((jput h t 3 ((h t 3) + 1)) t 9).toNatClampNeg) ((jput h t 3 ((h t 3) + 1)) t 2)) (t + 3) (((jput (jput h t 3 ((h t 3) + 1)) (t + 2) (((jput h t 3 ((h t 3) + 1)) t 9).toNatClampNeg) ((jput h t 3 ((h t 3) + 1)) t 2)) t 9).toNatClampNeg) l1) t 9) 8)
    (v15 : l1 = (-1) → ¬ (h t 1) < 0 → 30 ≤ (h t 1) → ¬ ((jput h t 3 ((h t 3) + 1)) t 9) = 8 → ¬ ((jput h t 3 ((h t 3) + 1)) t 9) < 0 → ¬ 8 ≤ ((jput h t 3 ((h t 3) + 1)) t 9) → Q (.inl none) (jG0 sc) (jput (jput (jput (jput (jput (jput h t 3 ((h t 3) + 1)) (t + 2) (((jput h t 3 ((h t 3) + 1)) t 9).toNatClampNeg) ((jput h t 3 ((h t 3) + 1)) t 2)) (t + 3) (((jput (jput h t 3 ((h t 3) + 1)) (t + 2) (((jput h t 3 ((h t 3) + 1)) t 9).toNatClampNeg) ((jput h t 3 ((h t 3) + 1)) t 2)) t 9).toNatClampNeg) l1) (t + 4) (((jput (jput (jput h t 3 ((h t 3) + 1)) (t + 2) (((jput h t 3 ((h t 3) + 1)) t 9).toNatClampNeg) ((jput h t 3 ((h t 3) + 1)) t 2)) (t + 3) (((jput (jput h t 3 ((h t 3) + 1)) (t + 2) (((jput h t 3 ((h t 3) + 1)) t 9).toNatClampNeg) ((jput h t 3 ((h t 3) + 1)) t 2)) t 9).toNatClampNeg) l1) t 9).toNatClampNeg) l1) t 9 (((jput (jput (jput (jput h t 3 ((h t 3) + 1)) (t + 2) (((jput h t 3 ((h t 3) + 1)) t 9).toNatClampNeg) ((jput h t 3 ((h t 3) + 1)) t 2)) (t + 3) (((jput (jput h t 3 ((h t 3) + 1)) (t + 2) (((jput h t 3 ((h t 3) + 1)) t 9).toNatClampNeg) ((jput h t 3 ((h t 3) + 1)) t 2)) t 9).toNatClampNeg) l1) (t + 4) (((jput (jput (jput h t 3 ((h t 3) + 1)) (t + 2) (((jput h t 3 ((h t 3) + 1)) t 9).toNatClampNeg) ((jput h t 3 ((h t 3) + 1)) t 2)) (t + 3) (((jput (jput h t 3 ((h t 3) + 1)) (t + 2) (((jput h t 3 ((h t 3) + 1)) t 9).toNatClampNeg) ((jput h t 3 ((h t 3) + 1)) t 2)) t 9).toNatClampNeg) l1) t 9).toNatClampNeg) l1) t 9) + 1)) t 2 (((jput (jput (jput (jput (jput h t 3 ((h t 3) + 1)) (t + 2) (((jput h t 3 ((h t 3) + 1)) t 9).toNatClampNeg) ((jput h t 3 ((h t 3) + 1)) t 2)) (t + 3) (((jput (jput h t 3 ((h t 3) + 1)) (t + 2) (((jput h t 3 ((h t 3) + 1)) t 9).toNatClampNeg) ((jput h t 3 ((h t 3) + 1)) t 2)) t 9).toNatClampNeg) l1) (t + 4) (((jput (jput (jput h t 3 ((h t 3) + 1)) (t + 2) (((jput h t 3 ((h t 3) + 1)) t 9).toNatClampNeg) ((jput h t 3 ((h t 3) + 1)) t 2)) (t + 3) (((jput (jput h t 3 ((h t 3) + 1)) (t + 2) (((jput h t 3 ((h t 3) + 1)) t 9).toNatClampNeg) ((jput h t 3 ((h t 3) + 1)) t 2)) t 9).toNatClampNeg) l1) t 9).toNatClampNeg) l1) t 9 (((jput (jput (jput (jput h t 3 ((h t 3) + 1)) (t + 2) (((jput h t 3 ((h t 3) + 1)) t 9).toNatClampNeg) ((jput h t 3 ((h t 3) + 1)) t 2)) (t + 3) (((jput (jput h t 3 ((h t 3) + 1)) (t + 2) (((jput h t 3 ((h t 3) + 1)) t 9).toNatClampNeg) ((jput h t 3 ((h t 3) + 1)) t 2)) t 9).toNatClampNeg) l1) (t + 4) (((jput (jput (jput h t 3 ((h t 3) + 1)) (t + 2) (((jput h t 3 ((h t 3) + 1)) t 9).toNatClampNeg) ((jput h t 3 ((h t 3) + 1)) t 2)) (t + 3) (((jput (jput h t 3 ((h t 3) + 1)) (t + 2) (((jput h t 3 ((h t 3) + 1)) t 9).toNatClampNeg) ((jput h t 3 ((h t 3) + 1)) t 2)) t 9).toNatClampNeg) l1) t 9).toNatClampNeg) l1) t 9) + 1)) t 2) + 1)))
    (k3 : l1 = (-1) → ¬ (h t 1) < 0 → 30 ≤ (h t 1) → ((jput h t 3 ((h t 3) + 1)) t 9) = 8 → JM mX9_dropOldest [.ref t] (jG0 sc) (jput h t 3 ((h t 3) + 1)) (jvoid sc P3))
    (v16 : l1 = (-1) → ¬ (h t 1) < 0 → 30 ≤ (h t 1) → ((jput h t 3 ((h t 3) + 1)) t 9) = 8 → ∀ h3 : jH, P3 h3 → (h3 t 9) < 0 → Q (.inl none) (jG0 sc) (jput h3 t 2 ((h3 t 2) + 1)))
    (v17 : l1 = (-1) → ¬ (h t 1) < 0 → 30 ≤ (h t 1) → ((jput h t 3 ((h t 3) + 1)) t 9) = 8 → ∀ h3 : jH, P3 h3 → ¬ (h3 t 9) < 0 → 8 ≤ (h3 t 9) → Q (.inl none) (jG0 sc) (jput h3 t 2 ((h3 t 2) + 1)))
    (o16 : l1 = (-1) → ¬ (h t 1) < 0 → 30 ≤ (h t 1) → ((jput h t 3 ((h t 3) + 1)) t 9) = 8 → ∀ h3 : jH, P3 h3 → ¬ (h3 t 9) < 0 → ¬ 8 ≤ (h3 t 9) → vp_in (h3 t 9) 8)
    (o17 : l1 = (-1) → ¬ (h t 1) < 0 → 30 ≤ (h t 1) → ((jput h t 3 ((h t 3) + 1)) t 9) = 8 → ∀ h3 : jH, P3 h3 → ¬ (h3 t 9) < 0 → ¬ 8 ≤ (h3 t 9) → vp_in ((jput h3 (t + 2) ((h3 t 9).toNatClampNeg) (h3 t 2)) t 9) 8)
    (o18 : l1 = (-1) → ¬ (h t 1) < 0 → 30 ≤ (h t 1) → ((jput h t 3 ((h t 3) + 1)) t 9) = 8 → ∀ h3 : jH, P3 h3 → ¬ (h3 t 9) < 0 → ¬ 8 ≤ (h3 t 9) → vp_in ((jput (jput h3 (t + 2) ((h3 t 9).toNatClampNeg) (h3 t 2)) (t + 3) (((jput h3 (t + 2) ((h3 t 9).toNatClampNeg) (h3 t 2)) t 9).toNatClampNeg) l1) t 9) 8)
    (v18 : l1 = (-1) → ¬ (h t 1) < 0 → 30 ≤ (h t 1) → ((jput h t 3 ((h t 3) + 1)) t 9) = 8 → ∀ h3 : jH, P3 h3 → ¬ (h3 t 9) < 0 → ¬ 8 ≤ (h3 t 9) → Q (.inl none) (jG0 sc) (jput (jput (jput (jput (jput h3 (t + 2) ((h3 t 9).toNatClampNeg) (h3 t 2)) (t + 3) (((jput h3 (t + 2) ((h3 t 9).toNatClampNeg) (h3 t 2)) t 9).toNatClampNeg) l1) (t + 4) (((jput (jput h3 (t + 2) ((h3 t 9).toNatClampNeg) (h3 t 2)) (t + 3) (((jput h3 (t + 2) ((h3 t 9).toNatClampNeg) (h3 t 2)) t 9).toNatClampNeg) l1) t 9).toNatClampNeg) l1) t 9 (((jput (jput (jput h3 (t + 2) ((h3 t 9).toNatClampNeg) (h3 t 2)) (t + 3) (((jput h3 (t + 2) ((h3 t 9).toNatClampNeg) (h3 t 2)) t 9).toNatClampNeg) l1) (t + 4) (((jput (jput h3 (t + 2) ((h3 t 9).toNatClampNeg) (h3 t 2)) (t + 3) (((jput h3 (t + 2) ((h3 t 9).toNatClampNeg) (h3 t 2)) t 9).toNatClampNeg) l1) t 9).toNatClampNeg) l1) t 9) + 1)) t 2 (((jput (jput (jput (jput h3 (t + 2) ((h3 t 9).toNatClampNeg) (h3 t 2)) (t + 3) (((jput h3 (t + 2) ((h3 t 9).toNatClampNeg) (h3 t 2)) t 9).toNatClampNeg) l1) (t + 4) (((jput (jput h3 (t + 2) ((h3 t 9).toNatClampNeg) (h3 t 2)) (t + 3) (((jput h3 (t + 2) ((h3 t 9).toNatClampNeg) (h3 t 2)) t 9).toNatClampNeg) l1) t 9).toNatClampNeg) l1) t 9 (((jput (jput (jput h3 (t + 2) ((h3 t 9).toNatClampNeg) (h3 t 2)) (t + 3) (((jput h3 (t + 2) ((h3 t 9).toNatClampNeg) (h3 t 2)) t 9).toNatClampNeg) l1) (t + 4) (((jput (jput h3 (t + 2) ((h3 t 9).toNatClampNeg) (h3 t 2)) (t + 3) (((jput h3 (t + 2) ((h3 t 9).toNatClampNeg) (h3 t 2)) t 9).toNatClampNeg) l1) t 9).toNatClampNeg) l1) t 9) + 1)) t 2) + 1)))
    (o19 : l1 = (-1) → ¬ (h t 1) < 0 → ¬ 30 ≤ (h t 1) → vp_in (h t 1) 30)
    (v19 : l1 = (-1) → ¬ (h t 1) < 0 → ¬ 30 ≤ (h t 1) → ¬ ((jput (jput (jput h (t + 1) ((h t 1).toNatClampNeg) (h t 2)) t 1 (((jput h (t + 1) ((h t 1).toNatClampNeg) (h t 2)) t 1) + 1)) t 3 (((jput (jput h (t + 1) ((h t 1).toNatClampNeg) (h t 2)) t 1 (((jput h (t + 1) ((h t 1).toNatClampNeg) (h t 2)) t 1) + 1)) t 3) + 1)) t 9) = 8 → ((jput (jput (jput h (t + 1) ((h t 1).toNatClampNeg) (h t 2)) t 1 (((jput h (t + 1) ((h t 1).toNatClampNeg) (h t 2)) t 1) + 1)) t 3 (((jput (jput h (t + 1) ((h t 1).toNatClampNeg) (h t 2)) t 1 (((jput h (t + 1) ((h t 1).toNatClampNeg) (h t 2)) t 1) + 1)) t 3) + 1)) t 9) < 0 → Q (.inl none) (jG0 sc) (jput (jput (jput (jput h (t + 1) ((h t 1).toNatClampNeg) (h t 2)) t 1 (((jput h (t + 1) ((h t 1).toNatClampNeg) (h t 2)) t 1) + 1)) t 3 (((jput (jput h (t + 1) ((h t 1).toNatClampNeg) (h t 2)) t 1 (((jput h (t + 1) ((h t 1).toNatClampNeg) (h t 2)) t 1) + 1)) t 3) + 1)) t 2 (((jput (jput (jput h (t + 1) ((h t 1).toNatClampNeg) (h t 2)) t 1 (((jput h (t + 1) ((h t 1).toNatClampNeg) (h t 2)) t 1) + 1)) t 3 (((jput (jput h (t + 1) ((h t 1).toNatClampNeg) (h t 2)) t 1 (((jput h (t + 1) ((h t 1).toNatClampNeg) (h t 2)) t 1) + 1)) t 3) + 1)) t 2) + 1)))
    (v20 : l1 = (-1) → ¬ (h t 1) < 0 → ¬ 30 ≤ (h t 1) → ¬ ((jput (jput (jput h (t + 1) ((h t 1).toNatClampNeg) (h t 2)) t 1 (((jput h (t + 1) ((h t 1).toNatClampNeg) (h t 2)) t 1) + 1)) t 3 (((jput (jput h (t + 1) ((h t 1).toNatClampNeg) (h t 2)) t 1 (((jput h (t + 1) ((h t 1).toNatClampNeg) (h t 2)) t 1) + 1)) t 3) + 1)) t 9) = 8 → ¬ ((jput (jput (jput h (t + 1) ((h t 1).toNatClampNeg) (h t 2)) t 1 (((jput h (t + 1) ((h t 1).toNatClampNeg) (h t 2)) t 1) + 1)) t 3 (((jput (jput h (t + 1) ((h t 1).toNatClampNeg) (h t 2)) t 1 (((jput h (t + 1) ((h t 1).toNatClampNeg) (h t 2)) t 1) + 1)) t 3) + 1)) t 9) < 0 → 8 ≤ ((jput (jput (jput h (t + 1) ((h t 1).toNatClampNeg) (h t 2)) t 1 (((jput h (t + 1) ((h t 1).toNatClampNeg) (h t 2)) t 1) + 1)) t 3 (((jput (jput h (t + 1) ((h t 1).toNatClampNeg) (h t 2)) t 1 (((jput h (t + 1) ((h t 1).toNatClampNeg) (h t 2)) t 1) + 1)) t 3) + 1)) t 9) → Q (.inl none) (jG0 sc) (jput (jput (jput (jput h (t + 1) ((h t 1).toNatClampNeg) (h t 2)) t 1 (((jput h (t + 1) ((h t 1).toNatClampNeg) (h t 2)) t 1) + 1)) t 3 (((jput (jput h (t + 1) ((h t 1).toNatClampNeg) (h t 2)) t 1 (((jput h (t + 1) ((h t 1).toNatClampNeg) (h t 2)) t 1) + 1)) t 3) + 1)) t 2 (((jput (jput (jput h (t + 1) ((h t 1).toNatClampNeg) (h t 2)) t 1 (((jput h (t + 1) ((h t 1).toNatClampNeg) (h t 2)) t 1) + 1)) t 3 (((jput (jput h (t + 1) ((h t 1).toNatClampNeg) (h t 2)) t 1 (((jput h (t + 1) ((h t 1).toNatClampNeg) (h t 2)) t 1) + 1)) t 3) + 1)) t 2) + 1)))
    (o20 : l1 = (-1) → ¬ (h t 1) < 0 → ¬ 30 ≤ (h t 1) → ¬ ((jput (jput (jput h (t + 1) ((h t 1).toNatClampNeg) (h t 2)) t 1 (((jput h (t + 1) ((h t 1).toNatClampNeg) (h t 2)) t 1) + 1)) t 3 (((jput (jput h (t + 1) ((h t 1).toNatClampNeg) (h t 2)) t 1 (((jput h (t + 1) ((h t 1).toNatClampNeg) (h t 2)) t 1) + 1)) t 3) + 1)) t 9) = 8 → ¬ ((jput (jput (jput h (t + 1) ((h t 1).toNatClampNeg) (h t 2)) t 1 (((jput h (t + 1) ((h t 1).toNatClampNeg) (h t 2)) t 1) + 1)) t 3 (((jput (jput h (t + 1) ((h t 1).toNatClampNeg) (h t 2)) t 1 (((jput h (t + 1) ((h t 1).toNatClampNeg) (h t 2)) t 1) + 1)) t 3) + 1)) t 9) < 0 → ¬ 8 ≤ ((jput (jput (jput h (t + 1) ((h t 1).toNatClampNeg) (h t 2)) t 1 (((jput h (t + 1) ((h t 1).toNatClampNeg) (h t 2)) t 1) + 1)) t 3 (((jput (jput h (t + 1) ((h t 1).toNatClampNeg) (h t 2)) t 1 (((jput h (t + 1) ((h t 1).toNatClampNeg) (h t 2)) t 1) + 1)) t 3) + 1)) t 9) → vp_in ((jput (jput (jput h (t + 1) ((h t 1).toNatClampNeg) (h t 2)) t 1 (((jput h (t + 1) ((h t 1).toNatClampNeg) (h t 2)) t 1) + 1)) t 3 (((jput (jput h (t + 1) ((h t 1).toNatClampNeg) (h t 2)) t 1 (((jput h (t + 1) ((h t 1).toNatClampNeg) (h t 2)) t 1) + 1)) t 3) + 1)) t 9) 8)
    (o21 : l1 = (-1) → ¬ (h t 1) < 0 → ¬ 30 ≤ (h t 1) → ¬ ((jput (jput (jput h (t + 1) ((h t 1).toNatClampNeg) (h t 2)) t 1 (((jput h (t + 1) ((h t 1).toNatClampNeg) (h t 2)) t 1) + 1)) t 3 (((jput (jput h (t + 1) ((h t 1).toNatClampNeg) (h t 2)) t 1 (((jput h (t + 1) ((h t 1).toNatClampNeg) (h t 2)) t 1) + 1)) t 3) + 1)) t 9) = 8 → ¬ ((jput (jput (jput h (t + 1) ((h t 1).toNatClampNeg) (h t 2)) t 1 (((jput h (t + 1) ((h t 1).toNatClampNeg) (h t 2)) t 1) + 1)) t 3 (((jput (jput h (t + 1) ((h t 1).toNatClampNeg) (h t 2)) t 1 (((jput h (t + 1) ((h t 1).toNatClampNeg) (h t 2)) t 1) + 1)) t 3) + 1)) t 9) < 0 → ¬ 8 ≤ ((jput (jput (jput h (t + 1) ((h t 1).toNatClampNeg) (h t 2)) t 1 (((jput h (t + 1) ((h t 1).toNatClampNeg) (h t 2)) t 1) + 1)) t 3 (((jput (jput h (t + 1) ((h t 1).toNatClampNeg) (h t 2)) t 1 (((jput h (t + 1) ((h t 1).toNatClampNeg) (h t 2)) t 1) + 1)) t 3) + 1)) t 9) → vp_in ((jput (jput (jput (jput h (t + 1) ((h t 1).toNatClampNeg) (h t 2)) t 1 (((jput h (t + 1) ((h t 1).toNatClampNeg) (h t 2)) t 1) + 1)) t 3 (((jput (jput h (t + 1) ((h t 1).toNatClampNeg) (h t 2)) t 1 (((jput h (t + 1) ((h t 1).toNatClampNeg) (h t 2)) t 1) + 1)) t 3) + 1)) (t + 2) (((jput (jput (jput h (t + 1) ((h t 1).toNatClampNeg) (h t 2)) t 1 (((jput h (t + 1) ((h t 1).toNatClampNeg) (h t 2)) t 1) + 1)) t 3 (((jput (jput h (t + 1) ((h t 1).toNatClampNeg) (h t 2)) t 1 (((jput h (t + 1) ((h t 1).toNatClampNeg) (h t 2)) t 1) + 1)) t 3) + 1)) t 9).toNatClampNeg) ((jput (jput (jput h (t + 1) ((h t 1).toNatClampNeg) (h t 2)) t 1 (((jput h (t + 1) ((h t 1).toNatClampNeg) (h t 2)) t 1) + 1)) t 3 (((jput (jput h (t + 1) ((h t 1).toNatClampNeg) (h t 2)) t 1 (((jput h (t + 1) ((h t 1).toNatClampNeg) (h t 2)) t 1) + 1)) t 3) + 1)) t 2)) t 9) 8)
    (o22 : l1 = (-1) → ¬ (h t 1) < 0 → ¬ 30 ≤ (h t 1) → ¬ ((jput (jput (jput h (t + 1) ((h t 1).toNatClampNeg) (h t 2)) t 1 (((jput h (t + 1) ((h t 1).toNatClampNeg) (h t 2)) t 1) + 1)) t 3 (((jput (jput h (t + 1) ((h t 1).toNatClampNeg) (h t 2)) t 1 (((jput h (t + 1) ((h t 1).toNatClampNeg) (h t 2)) t 1) + 1)) t 3) + 1)) t 9) = 8 → ¬ ((jput (jput (jput h (t + 1) ((h t 1).toNatClampNeg) (h t 2)) t 1 (((jput h (t + 1) ((h t 1).toNatClampNeg) (h t 2)) t 1) + 1)) t 3 (((jput (jput h (t + 1) ((h t 1).toNatClampNeg) (h t 2)) t 1 (((jput h (t + 1) ((h t 1).toNatClampNeg) (h t 2)) t 1) + 1)) t 3) + 1)) t 9) < 0 → ¬ 8 ≤ ((jput (jput (jput h (t + 1) ((h t 1).toNatClampNeg) (h t 2)) t 1 (((jput h (t + 1) ((h t 1).toNatClampNeg) (h t 2)) t 1) + 1)) t 3 (((jput (jput h (t + 1) ((h t 1).toNatClampNeg) (h t 2)) t 1 (((jput h (t + 1) ((h t 1).toNatClampNeg) (h t 2)) t 1) + 1)) t 3) + 1)) t 9) → vp_in ((jput (jput (jput (jput (jput h (t + 1) ((h t 1).toNatClampNeg) (h t 2)) t 1 (((jput h (t + 1) ((h t 1).toNatClampNeg) (h t 2)) t 1) + 1)) t 3 (((jput (jput h (t + 1) ((h t 1).toNatClampNeg) (h t 2)) t 1 (((jput h (t + 1) ((h t 1).toNatClampNeg) (h t 2)) t 1) + 1)) t 3) + 1)) (t + 2) (((jput (jput (jput h (t + 1) ((h t 1).toNatClampNeg) (h t 2)) t 1 (((jput h (t + 1) ((h t 1).toNatClampNeg) (h t 2)) t 1) + 1)) t 3 (((jput (jput h (t + 1) ((h t 1).toNatClampNeg) (h t 2)) t 1 (((jput h (t + 1) ((h t 1).toNatClampNeg) (h t 2)) t 1) + 1)) t 3) + 1)) t 9).toNatClampNeg) ((jput (jput (jput h (t + 1) ((h t 1).toNatClampNeg) (h t 2)) t 1 (((jput h (t + 1) ((h t 1).toNatClampNeg) (h t 2)) t 1) + 1)) t 3 (((jput (jput h (t + 1) ((h t 1).toNatClampNeg) (h t 2)) t 1 (((jput h (t + 1) ((h t 1).toNatClampNeg) (h t 2)) t 1) + 1)) t 3) + 1)) t 2)) (t + 3) (((jput (jput (jput (jput h (t + 1) ((h t 1).toNatClampNeg) (h t 2)) t 1 (((jput h (t + 1) ((h t 1).toNatClampNeg) (h t 2)) t 1) + 1)) t 3 (((jput (jput h (t + 1) ((h t 1).toNatClampNeg) (h t 2)) t 1 (((jput h (t + 1) ((h t 1).toNatClampNeg) (h t 2)) t 1) + 1)) t 3) + 1)) (t + 2) (((jput (jput (jput h (t + 1) ((h t 1).toNatClampNeg) (h t 2)) t 1 (((jput h (t + 1) ((h t 1).toNatClampNeg) (h t 2)) t 1) + 1)) t 3 (((jput (jput h (t + 1) ((h t 1).toNatClampNeg) (h t 2)) t 1 (((jput h (t + 1) ((h t 1).toNatClampNeg) (h t 2)) t 1) + 1)) t 3) + 1)) t 9).toNatClampNeg) ((jput (jput (jput h (t + 1) ((h t 1).toNatClampNeg) (h t 2)) t 1 (((jput h (t + 1) ((h t 1).toNatClampNeg) (h t 2)) t 1) + 1)) t 3 (((jput (jput h (t + 1) ((h t 1).toNatClampNeg) (h t 2)) t 1 (((jput h (t + 1) ((h t 1).toNatClampNeg) (h t 2)) t 1) + 1)) t 3) + 1)) t 2)) t 9).toNatClampNeg) l1) t 9) 8)
    (v21 : l1 = (-1) → ¬ (h t 1) < 0 → ¬ 30 ≤ (h t 1) → ¬ ((jput (jput (jput h (t + 1) ((h t 1).toNatClampNeg) (h t 2)) t 1 (((jput h (t + 1) ((h t 1).toNatClampNeg) (h t 2)) t 1) + 1)) t 3 (((jput (jput h (t + 1) ((h t 1).toNatClampNeg) (h t 2)) t 1 (((jput h (t + 1) ((h t 1).toNatClampNeg) (h t 2)) t 1) + 1)) t 3) + 1)) t 9) = 8 → ¬ ((jput (jput (jput h (t + 1) ((h t 1).toNatClampNeg) (h t 2)) t 1 (((jput h (t + 1) ((h t 1).toNatClampNeg) (h t 2)) t 1) + 1)) t 3 (((jput (jput h (t + 1) ((h t 1).toNatClampNeg) (h t 2)) t 1 (((jput h (t + 1) ((h t 1).toNatClampNeg) (h t 2)) t 1) + 1)) t 3) + 1)) t 9) < 0 → ¬ 8 ≤ ((jput (jput (jput h (t + 1) ((h t 1).toNatClampNeg) (h t 2)) t 1 (((jput h (t + 1) ((h t 1).toNatClampNeg) (h t 2)) t 1) + 1)) t 3 (((jput (jput h (t + 1) ((h t 1).toNatClampNeg) (h t 2)) t 1 (((jput h (t + 1) ((h t 1).toNatClampNeg) (h t 2)) t 1) + 1)) t 3) + 1)) t 9) → Q (.inl none) (jG0 sc) (jput (jput (jput (jput (jput (jput (jput (jput h (t + 1) ((h t 1).toNatClampNeg) (h t 2)) t 1 (((jput h (t + 1) ((h t 1).toNatClampNeg) (h t 2)) t 1) + 1)) t 3 (((jput (jput h (t + 1) ((h t 1).toNatClampNeg) (h t 2)) t 1 (((jput h (t + 1) ((h t 1).toNatClampNeg) (h t 2)) t 1) + 1)) t 3) + 1)) (t + 2) (((jput (jput (jput h (t + 1) ((h t 1).toNatClampNeg) (h t 2)) t 1 (((jput h (t + 1) ((h t 1).toNatClampNeg) (h t 2)) t 1) + 1)) t 3 (((jput (jput h (t + 1) ((h t 1).toNatClampNeg) (h t 2)) t 1 (((jput h (t + 1) ((h t 1).toNatClampNeg) (h t 2)) t 1) + 1)) t 3) + 1)) t 9).toNatClampNeg) ((jput (jput (jput h (t + 1) ((h t 1).toNatClampNeg) (h t 2)) t 1 (((jput h (t + 1) ((h t 1).toNatClampNeg) (h t 2)) t 1) + 1)) t 3 (((jput (jput h (t + 1) ((h t 1).toNatClampNeg) (h t 2)) t 1 (((jput h (t + 1) ((h t 1).toNatClampNeg) (h t 2)) t 1) + 1)) t 3) + 1)) t 2)) (t + 3) (((jput (jput (jput (jput h (t + 1) ((h t 1).toNatClampNeg) (h t 2)) t 1 (((jput h (t + 1) ((h t 1).toNatClampNeg) (h t 2)) t 1) + 1)) t 3 (((jput (jput h (t + 1) ((h t 1).toNatClampNeg) (h t 2)) t 1 (((jput h (t + 1) ((h t 1).toNatClampNeg) (h t 2)) t 1) + 1)) t 3) + 1)) (t + 2) (((jput (jput (jput h (t + 1) ((h t 1).toNatClampNeg) (h t 2)) t 1 (((jput h (t + 1) ((h t 1).toNatClampNeg) (h t 2)) t 1) + 1)) t 3 (((jput (jput h (t + 1) ((h t 1).toNatClampNeg) (h t 2)) t 1 (((jput h (t + 1) ((h t 1).toNatClampNeg) (h t 2)) t 1) + 1)) t 3) + 1)) t 9).toNatClampNeg) ((jput (jput (jput h (t + 1) ((h t 1).toNatClampNeg) (h t 2)) t 1 (((jput h (t + 1) ((h t 1).toNatClampNeg) (h t 2)) t 1) + 1)) t 3 (((jput (jput h (t + 1) ((h t 1).toNatClampNeg) (h t 2)) t 1 (((jput h (t + 1) ((h t 1).toNatClampNeg) (h t 2)) t 1) + 1)) t 3) + 1)) t 2)) t 9).toNatClampNeg) l1) (t + 4) (((jput (jput (jput (jput (jput h (t + 1) ((h t 1).toNatClampNeg) (h t 2)) t 1 (((jput h (t + 1) ((h t 1).toNatClampNeg) (h t 2)) t 1) + 1)) t 3 (((jput (jput h (t + 1) ((h t 1).toNatClampNeg) (h t 2)) t 1 (((jput h (t + 1) ((h t 1).toNatClampNeg) (h t 2)) t 1) + 1)) t 3) + 1)) (t + 2) (((jput (jput (jput h (t + 1) ((h t 1).toNatClampNeg) (h t 2)) t 1 (((jput h (t + 1) ((h t 1).toNatClampNeg) (h t 2)) t 1) + 1)) t 3 (((jput (jput h (t + 1) ((h t 1).toNatClampNeg) (h t 2)) t 1 (((jput h (t + 1) ((h t 1).toNatClampNeg) (h t 2)) t 1) + 1)) t 3) + 1)) t 9).toNatClampNeg) ((jput (jput (jput h (t + 1) ((h t 1).toNatClampNeg) (h t 2)) t 1 (((jput h (t + 1) ((h t 1).toNatClampNeg) (h t 2)) t 1) + 1)) t 3 (((jput (jput h (t + 1) ((h t 1).toNatClampNeg) (h t 2)) t 1 (((jput h (t + 1) ((h t 1).toNatClampNeg) (h t 2)) t 1) + 1)) t 3) + 1)) t 2)) (t + 3) (((jput (jput (jput (jput h (t + 1) ((h t 1).toNatClampNeg) (h t 2)) t 1 (((jput h (t + 1) ((h t 1).toNatClampNeg) (h t 2)) t 1) + 1)) t 3 (((jput (jput h (t + 1) ((h t 1).toNatClampNeg) (h t 2)) t 1 (((jput h (t + 1) ((h t 1).toNatClampNeg) (h t 2)) t 1) + 1)) t 3) + 1)) (t + 2) (((jput (jput (jput h (t + 1) ((h t 1).toNatClampNeg) (h t 2)) t 1 (((jput h (t + 1) ((h t 1).toNatClampNeg) (h t 2)) t 1) + 1)) t 3 (((jput (jput h (t + 1) ((h t 1).toNatClampNeg) (h t 2)) t 1 (((jput h (t + 1) ((h t 1).toNatClampNeg) (h t 2)) t 1) + 1)) t 3) + 1)) t 9).toNatClampNeg) ((jput (jput (jput h (t + 1) ((h t 1).toNatClampNeg) (h t 2)) t 1 (((jput h (t + 1) ((h t 1).toNatClampNeg) (h t 2)) t 1) + 1)) t 3 (((jput (jput h (t + 1) ((h t 1).toNatClampNeg) (h t 2)) t 1 (((jput h (t + 1) ((h t 1).toNatClampNeg) (h t 2)) t 1) + 1)) t 3) + 1)) t 2)) t 9).toNatClampNeg) l1) t 9).toNatClampNeg) l1) t 9 (((jput (jput (jput (jput (jput (jput h (t + 1) ((h t 1).toNatClampNeg) (h t 2)) t 1 (((jput h (t + 1) ((h t 1).toNatClampNeg) (h t 2)) t 1) + 1)) t 3 (((jput (jput h (t + 1) ((h t 1).toNatClampNeg) (h t 2)) t 1 (((jput h (t + 1) ((h t 1).toNatClampNeg) (h t 2)) t 1) + 1)) t 3) + 1)) (t + 2) (((jput (jput (jput h (t + 1) ((h t 1).toNatClampNeg) (h t 2)) t 1 (((jput h (t + 1) ((h t 1).toNatClampNeg) (h t 2)) t 1) + 1)) t 3 (((jput (jput h (t + 1) ((h t 1).toNatClampNeg) (h t 2)) t 1 (((jput h (t + 1) ((h t 1).toNatClampNeg) (h t 2)) t 1) + 1)) t 3) + 1)) t 9).toNatClampNeg) ((jput (jput (jput h (t + 1) ((h t 1).toNatClampNeg) (h t 2)) t 1 (((jput h (t + 1) ((h t 1).toNatClampNeg) (h t 2)) t 1) + 1)) t 3 (((jput (jput h (t + 1) ((h t 1).toNatClampNeg) (h t 2)) t 1 (((jput h (t + 1) ((h t 1).toNatClampNeg) (h t 2)) t 1) + 1)) t 3) + 1)) t 2)) (t + 3) (((jput (jput (jput (jput h (t + 1) ((h t 1).toNatClampNeg) (h t 2)) t 1 (((jput h (t + 1) ((h t 1).toNatClampNeg) (h t 2)) t 1) + 1)) t 3 (((jput (jput h (t + 1) ((h t 1).toNatClampNeg) (h t 2)) t 1 (((jput h (t + 1) ((h t 1).toNatClampNeg) (h t 2)) t 1) + 1)) t 3) + 1)) (t + 2) (((jput (jput (jput h (t + 1) ((h t 1).toNatClampNeg) (h t 2)) t 1 (((jput h (t + 1) ((h t 1).toNatClampNeg) (h t 2)) t 1) + 1)) t 3 (((jput (jput h (t + 1) ((h t 1).toNatClampNeg) (h t 2)) t 1 (((jput h (t + 1) ((h t 1).toNatClampNeg) (h t 2)) t 1) + 1)) t 3) + 1)) t 9).toNatClampNeg) ((jput (jput (jput h (t + 1) ((h t 1).toNatClampNeg) (h t 2)) t 1 (((jput h (t + 1) ((h t 1).toNatClampNeg) (h t 2)) t 1) + 1)) t 3 (((jput (jput h (t + 1) ((h t 1).toNatClampNeg) (h t 2)) t 1 (((jput h (t + 1) ((h t 1).toNatClampNeg) (h t 2)) t 1) + 1)) t 3) + 1)) t 2)) t 9).toNatClampNeg) l1) (t + 4) (((jput (jput (jput (jput (jput h (t + 1) ((h t 1).toNatClampNeg) (h t 2)) t 1 (((jput h (t + 1) ((h t 1).toNatClampNeg) (h t 2)) t 1) + 1)) t 3 (((jput (jput h (t + 1) ((h t 1).toNatClampNeg) (h t 2)) t 1 (((jput h (t + 1) ((h t 1).toNatClampNeg) (h t 2)) t 1) + 1)) t 3) + 1)) (t + 2) (((jput (jput (jput h (t + 1) ((h t 1).toNatClampNeg) (h t 2)) t 1 (((jput h (t + 1) ((h t 1).toNatClampNeg) (h t 2)) t 1) + 1)) t 3 (((jput (jput h (t + 1) ((h t 1).toNatClampNeg) (h t 2)) t 1 (((jput h (t + 1) ((h t 1).toNatClampNeg) (h t 2)) t 1) + 1)) t 3) + 1)) t 9).toNatClampNeg) ((jput (jput (jput h (t + 1) ((h t 1).toNatClampNeg) (h t 2)) t 1 (((jput h (t + 1) ((h t 1).toNatClampNeg) (h t 2)) t 1) + 1)) t 3 (((jput (jput h (t + 1) ((h t 1).toNatClampNeg) (h t 2)) t 1 (((jput h (t + 1) ((h t 1).toNatClampNeg) (h t 2)) t 1) + 1)) t 3) + 1)) t 2)) (t + 3) (((jput (jput (jput (jput h (t + 1) ((h t 1).toNatClampNeg) (h t 2)) t 1 (((jput h (t + 1) ((h t 1).toNatClampNeg) (h t 2)) t 1) + 1)) t 3 (((jput (jput h (t + 1) ((h t 1).toNatClampNeg) (h t 2)) t 1 (((jput h (t + 1) ((h t 1).toNatClampNeg) (h t 2)) t 1) + 1)) t 3) + 1)) (t + 2) (((jput (jput (jput h (t + 1) ((h t 1).toNatClampNeg) (h t 2)) t 1 (((jput h (t + 1) ((h t 1).toNatClampNeg) (h t 2)) t 1) + 1)) t 3 (((jput (jput h (t + 1) ((h t 1).toNatClampNeg) (h t 2)) t 1 (((jput h (t + 1) ((h t 1).toNatClampNeg) (h t 2)) t 1) + 1)) t 3) + 1)) t 9).toNatClampNeg) ((jput (jput (jput h (t + 1) ((h t 1).toNatClampNeg) (h t 2)) t 1 (((jput h (t + 1) ((h t 1).toNatClampNeg) (h t 2)) t 1) + 1)) t 3 (((jput (jput h (t + 1) ((h t 1).toNatClampNeg) (h t 2)) t 1 (((jput h (t + 1) ((h t 1).toNatClampNeg) (h t 2)) t 1) + 1)) t 3) + 1)) t 2)) t 9).toNatClampNeg) l1) t 9).toNatClampNeg) l1) t 9) + 1)) t 2 (((jput (jput (jput (jput (jput (jput (jput h (t + 1) ((h t 1).toNatClampNeg) (h t 2)) t 1 (((jput h (t + 1) ((h t 1).toNatClampNeg) (h t 2)) t 1) + 1)) t 3 (((jput (jput h (t + 1) ((h t 1).toNatClampNeg) (h t 2)) t 1 (((jput h (t + 1) ((h t 1).toNatClampNeg) (h t 2)) t 1) + 1)) t 3) + 1)) (t + 2) (((jput (jput (jput h (t + 1) ((h t 1).toNatClampNeg) (h t 2)) t 1 (((jput h (t + 1) ((h t 1).toNatClampNeg) (h t 2)) t 1) + 1)) t 3 (((jput (jput h (t + 1) ((h t 1).toNatClampNeg) (h t 2)) t 1 (((jput h (t + 1) ((h t 1).toNatClampNeg) (h t 2)) t 1) + 1)) t 3) + 1)) t 9).toNatClampNeg) ((jput (jput (jput h (t + 1) ((h t 1).toNatClampNeg) (h t 2)) t 1 (((jput h (t + 1) ((h t 1).toNatClampNeg) (h t 2)) t 1) + 1)) t 3 (((jput (jput h (t + 1) ((h t 1).toNatClampNeg) (h t 2)) t 1 (((jput h (t + 1) ((h t 1).toNatClampNeg) (h t 2)) t 1) + 1)) t 3) + 1)) t 2)) (t + 3) (((jput (jput (jput (jput h (t + 1) ((h t 1).toNatClampNeg) (h t 2)) t 1 (((jput h (t + 1) ((h t 1).toNatClampNeg) (h t 2)) t 1) + 1)) t 3 (((jput (jput h (t + 1) ((h t 1).toNatClampNeg) (h t 2)) t 1 (((jput h (t + 1) ((h t 1).toNatClampNeg) (h t 2)) t 1) + 1)) t 3) + 1)) (t + 2) (((jput (jput (jput h (t + 1) ((h t 1).toNatClampNeg) (h t 2)) t 1 (((jput h (t + 1) ((h t 1).toNatClampNeg) (h t 2)) t 1) + 1)) t 3 (((jput (jput h (t + 1) ((h t 1).toNatClampNeg) (h t 2)) t 1 (((jput h (t + 1) ((h t 1).toNatClampNeg) (h t 2)) t 1) + 1)) t 3) + 1)) t 9).toNatClampNeg) ((jput (jput (jput h (t + 1) ((h t 1).toNatClampNeg) (h t 2)) t 1 (((jput h (t + 1) ((h t 1).toNatClampNeg) (h t 2)) t 1) + 1)) t 3 (((jput (jput h (t + 1) ((h t 1).toNatClampNeg) (h t 2)) t 1 (((jput h (t + 1) ((h t 1).toNatClampNeg) (h t 2)) t 1) + 1)) t 3) + 1)) t 2)) t 9).toNatClampNeg) l1) (t + 4) (((jput (jput (jput (jput (jput h (t + 1) ((h t 1).toNatClampNeg) (h t 2)) t 1 (((jput h (t + 1) ((h t 1).toNatClampNeg) (h t 2)) t 1) + 1)) t 3 (((jput (jput h (t + 1) ((h t 1).toNatClampNeg) (h t 2)) t 1 (((jput h (t + 1) ((h t 1).toNatClampNeg) (h t 2)) t 1) + 1)) t 3) + 1)) (t + 2) (((jput (jput (jput h (t + 1) ((h t 1).toNatClampNeg) (h t 2)) t 1 (((jput h (t + 1) ((h t 1).toNatClampNeg) (h t 2)) t 1) + 1)) t 3 (((jput (jput h (t + 1) ((h t 1).toNatClampNeg) (h t 2)) t 1 (((jput h (t + 1) ((h t 1).toNatClampNeg) (h t 2)) t 1) + 1)) t 3) + 1)) t 9).toNatClampNeg) ((jput (jput (jput h (t + 1) ((h t 1).toNatClampNeg) (h t 2)) t 1 (((jput h (t + 1) ((h t 1).toNatClampNeg) (h t 2)) t 1) + 1)) t 3 (((jput (jput h (t + 1) ((h t 1).toNatClampNeg) (h t 2)) t 1 (((jput h (t + 1) ((h t 1).toNatClampNeg) (h t 2)) t 1) + 1)) t 3) + 1)) t 2)) (t + 3) (((jput (jput (jput (jput h (t + 1) ((h t 1).toNatClampNeg) (h t 2)) t 1 (((jput h (t + 1) ((h t 1).toNatClampNeg) (h t 2)) t 1) + 1)) t 3 (((jput (jput h (t + 1) ((h t 1).toNatClampNeg) (h t 2)) t 1 (((jput h (t + 1) ((h t 1).toNatClampNeg) (h t 2)) t 1) + 1)) t 3) + 1)) (t + 2) (((jput (jput (jput h (t + 1) ((h t 1).toNatClampNeg) (h t 2)) t 1 (((jput h (t + 1) ((h t 1).toNatClampNeg) (h t 2)) t 1) + 1)) t 3 (((jput (jput h (t + 1) ((h t 1).toNatClampNeg) (h t 2)) t 1 (((jput h (t + 1) ((h t 1).toNatClampNeg) (h t 2)) t 1) + 1)) t 3) + 1)) t 9).toNatClampNeg) ((jput (jput (jput h (t + 1) ((h t 1).toNatClampNeg) (h t 2)) t 1 (((jput h (t + 1) ((h t 1).toNatClampNeg) (h t 2)) t 1) + 1)) t 3 (((jput (jput h (t + 1) ((h t 1).toNatClampNeg) (h t 2)) t 1 (((jput h (t + 1) ((h t 1).toNatClampNeg) (h t 2)) t 1) + 1)) t 3) + 1)) t 2)) t 9).toNatClampNeg) l1) t 9).toNatClampNeg) l1) t 9 (((jput (jput (jput (jput (jput (jput h (t + 1) ((h t 1).toNatClampNeg) (h t 2)) t 1 (((jput h (t + 1) ((h t 1).toNatClampNeg) (h t 2)) t 1) + 1)) t 3 (((jput (jput h (t + 1) ((h t 1).toNatClampNeg) (h t 2)) t 1 (((jput h (t + 1) ((h t 1).toNatClampNeg) (h t 2)) t 1) + 1)) t 3) + 1)) (t + 2) (((jput (jput (jput h (t + 1) ((h t 1).toNatClampNeg) (h t 2)) t 1 (((jput h (t + 1) ((h t 1).toNatClampNeg) (h t 2)) t 1) + 1)) t 3 (((jput (jput h (t + 1) ((h t 1).toNatClampNeg) (h t 2)) t 1 (((jput h (t + 1) ((h t 1).toNatClampNeg) (h t 2)) t 1) + 1)) t 3) + 1)) t 9).toNatClampNeg) ((jput (jput (jput h (t + 1) ((h t 1).toNatClampNeg) (h t 2)) t 1 (((jput h (t + 1) ((h t 1).toNatClampNeg) (h t 2)) t 1) + 1)) t 3 (((jput (jput h (t + 1) ((h t 1).toNatClampNeg) (h t 2)) t 1 (((jput h (t + 1) ((h t 1).toNatClampNeg) (h t 2)) t 1) + 1)) t 3) + 1)) t 2)) (t + 3) (((jput (jput (jput (jput h (t + 1) ((h t 1).toNatClampNeg) (h t 2)) t 1 (((jput h (t + 1) ((h t 1).toNatClampNeg) (h t 2)) t 1) + 1)) t 3 (((jput (jput h (t + 1) ((h t 1).toNatClampNeg) (h t 2)) t 1 (((jput h (t + 1) ((h t 1).toNatClampNeg) (h t 2)) t 1) + 1)) t 3) + 1)) (t + 2) (((jput (jput (jput h (t + 1) ((h t 1).toNatClampNeg) (h t 2)) t 1 (((jput h (t + 1) ((h t 1).toNatClampNeg) (h t 2)) t 1) + 1)) t 3 (((jput (jput h (t + 1) ((h t 1).toNatClampNeg) (h t 2)) t 1 (((jput h (t + 1) ((h t 1).toNatClampNeg) (h t 2)) t 1) + 1)) t 3) + 1)) t 9).toNatClampNeg) ((jput (jput (jput h (t + 1) ((h t 1).toNatClampNeg) (h t 2)) t 1 (((jput h (t + 1) ((h t 1).toNatClampNeg) (h t 2)) t 1) + 1)) t 3 (((jput (jput h (t + 1) ((h t 1).toNatClampNeg) (h t 2)) t 1 (((jput h (t + 1) ((h t 1).toNatClampNeg) (h t 2)) t 1) + 1)) t 3) + 1)) t 2)) t 9).toNatClampNeg) l1) (t + 4) (((jput (jput (jput (jput (jput h (t + 1) ((h t 1).toNatClampNeg) (h t 2)) t 1 (((jput h (t + 1) ((h t 1).toNatClampNeg) (h t 2)) t 1) + 1)) t 3 (((jput (jput h (t + 1) ((h t 1).toNatClampNeg) (h t 2)) t 1 (((jput h (t + 1) ((h t 1).toNatClampNeg) (h t 2)) t 1) + 1)) t 3) + 1)) (t + 2) (((jput (jput (jput h (t + 1) ((h t 1).toNatClampNeg) (h t 2)) t 1 (((jput h (t + 1) ((h t 1).toNatClampNeg) (h t 2)) t 1) + 1)) t 3 (((jput (jput h (t + 1) ((h t 1).toNatClampNeg) (h t 2)) t 1 (((jput h (t + 1) ((h t 1).toNatClampNeg) (h t 2)) t 1) + 1)) t 3) + 1)) t 9).toNatClampNeg) ((jput (jput (jput h (t + 1) ((h t 1).toNatClampNeg) (h t 2)) t 1 (((jput h (t + 1) ((h t 1).toNatClampNeg) (h t 2)) t 1) + 1)) t 3 (((jput (jput h (t + 1) ((h t 1).toNatClampNeg) (h t 2)) t 1 (((jput h (t + 1) ((h t 1).toNatClampNeg) (h t 2)) t 1) + 1)) t 3) + 1)) t 2)) (t + 3) (((jput (jput (jput (jput h (t + 1) ((h t 1).toNatClampNeg) (h t 2)) t 1 (((jput h (t + 1) ((h t 1).toNatClampNeg) (h t 2)) t 1) + 1)) t 3 (((jput (jput h (t + 1) ((h t 1).toNatClampNeg) (h t 2)) t 1 (((jput h (t + 1) ((h t 1).toNatClampNeg) (h t 2)) t 1) + 1)) t 3) + 1)) (t + 2) (((jput (jput (jput h (t + 1) ((h t 1).toNatClampNeg) (h t 2)) t 1 (((jput h (t + 1) ((h t 1).toNatClampNeg) (h t 2)) t 1) + 1)) t 3 (((jput (jput h (t + 1) ((h t 1).toNatClampNeg) (h t 2)) t 1 (((jput h (t + 1) ((h t 1).toNatClampNeg) (h t 2)) t 1) + 1)) t 3) + 1)) t 9).toNatClampNeg) ((jput (jput (jput h (t + 1) ((h t 1).toNatClampNeg) (h t 2)) t 1 (((jput h (t + 1) ((h t 1).toNatClampNeg) (h t 2)) t 1) + 1)) t 3 (((jput (jput h (t + 1) ((h t 1).toNatClampNeg) (h t 2)) t 1 (((jput h (t + 1) ((h t 1).toNatClampNeg) (h t 2)) t 1) + 1)) t 3) + 1)) t 2)) t 9).toNatClampNeg) l1) t 9).toNatClampNeg) l1) t 9) + 1)) t 2) + 1)))
    (k4 : l1 = (-1) → ¬ (h t 1) < 0 → ¬ 30 ≤ (h t 1) → ((jput (jput (jput h (t + 1) ((h t 1).toNatClampNeg) (h t 2)) t 1 (((jput h (t + 1) ((h t 1).toNatClampNeg) (h t 2)) t 1) + 1)) t 3 (((jput (jput h (t + 1) ((h t 1).toNatClampNeg) (h t 2)) t 1 (((jput h (t + 1) ((h t 1).toNatClampNeg) (h t 2)) t 1) + 1)) t 3) + 1)) t 9) = 8 → JM mX9_dropOldest [.ref t] (jG0 sc) (jput (jput (jput h (t + 1) ((h t 1).toNatClampNeg) (h t 2)) t 1 (((jput h (t + 1) ((h t 1).toNatClampNeg) (h t 2)) t 1) + 1)) t 3 (((jput (jput h (t + 1) ((h t 1).toNatClampNeg) (h t 2)) t 1 (((jput h (t + 1) ((h t 1).toNatClampNeg) (h t 2)) t 1) + 1)) t 3) + 1)) (jvoid sc P4))
    (v22 : l1 = (-1) → ¬ (h t 1) < 0 → ¬ 30 ≤ (h t 1) → ((jput (jput (jput h (t + 1) ((h t 1).toNatClampNeg) (h t 2)) t 1 (((jput h (t + 1) ((h t 1).toNatClampNeg) (h t 2)) t 1) + 1)) t 3 (((jput (jput h (t + 1) ((h t 1).toNatClampNeg) (h t 2)) t 1 (((jput h (t + 1) ((h t 1).toNatClampNeg) (h t 2)) t 1) + 1)) t 3) + 1)) t 9) = 8 → ∀ h4 : jH, P4 h4 → (h4 t 9) < 0 → Q (.inl none) (jG0 sc) (jput h4 t 2 ((h4 t 2) + 1)))
    (v23 : l1 = (-1) → ¬ (h t 1) < 0 → ¬ 30 ≤ (h t 1) → ((jput (jput (jput h (t + 1) ((h t 1).toNatClampNeg) (h t 2)) t 1 (((jput h (t + 1) ((h t 1).toNatClampNeg) (h t 2)) t 1) + 1)) t 3 (((jput (jput h (t + 1) ((h t 1).toNatClampNeg) (h t 2)) t 1 (((jput h (t + 1) ((h t 1).toNatClampNeg) (h t 2)) t 1) + 1)) t 3) + 1)) t 9) = 8 → ∀ h4 : jH, P4 h4 → ¬ (h4 t 9) < 0 → 8 ≤ (h4 t 9) → Q (.inl none) (jG0 sc) (jput h4 t 2 ((h4 t 2) + 1)))
    (o23 : l1 = (-1) → ¬ (h t 1) < 0 → ¬ 30 ≤ (h t 1) → ((jput (jput (jput h (t + 1) ((h t 1).toNatClampNeg) (h t 2)) t 1 (((jput h (t + 1) ((h t 1).toNatClampNeg) (h t 2)) t 1) + 1)) t 3 (((jput (jput h (t + 1) ((h t 1).toNatClampNeg) (h t 2)) t 1 (((jput h (t + 1) ((h t 1).toNatClampNeg) (h t 2)) t 1) + 1)) t 3) + 1)) t 9) = 8 → ∀ h4 : jH, P4 h4 → ¬ (h4 t 9) < 0 → ¬ 8 ≤ (h4 t 9) → vp_in (h4 t 9) 8)
    (o24 : l1 = (-1) → ¬ (h t 1) < 0 → ¬ 30 ≤ (h t 1) → ((jput (jput (jput h (t + 1) ((h t 1).toNatClampNeg) (h t 2)) t 1 (((jput h (t + 1) ((h t 1).toNatClampNeg) (h t 2)) t 1) + 1)) t 3 (((jput (jput h (t + 1) ((h t 1).toNatClampNeg) (h t 2)) t 1 (((jput h (t + 1) ((h t 1).toNatClampNeg) (h t 2)) t 1) + 1)) t 3) + 1)) t 9) = 8 → ∀ h4 : jH, P4 h4 → ¬ (h4 t 9) < 0 → ¬ 8 ≤ (h4 t 9) → vp_in ((jput h4 (t + 2) ((h4 t 9).toNatClampNeg) (h4 t 2)) t 9) 8)
    (o25 : l1 = (-1) → ¬ (h t 1) < 0 → ¬ 30 ≤ (h t 1) → ((jput (jput (jput h (t + 1) ((h t 1).toNatClampNeg) (h t 2)) t 1 (((jput h (t + 1) ((h t 1).toNatClampNeg) (h t 2)) t 1) + 1)) t 3 (((jput (jput h (t + 1) ((h t 1).toNatClampNeg) (h t 2)) t 1 (((jput h (t + 1) ((h t 1).toNatClampNeg) (h t 2)) t 1) + 1)) t 3) + 1)) t 9) = 8 → ∀ h4 : jH, P4 h4 → ¬ (h4 t 9) < 0 → ¬ 8 ≤ (h4 t 9) → vp_in ((jput (jput h4 (t + 2) ((h4 t 9).toNatClampNeg) (h4 t 2)) (t + 3) (((jput h4 (t + 2) ((h4 t 9).toNatClampNeg) (h4 t 2)) t 9).toNatClampNeg) l1) t 9) 8)
    (v24 : l1 = (-1) → ¬ (h t 1) < 0 → ¬ 30 ≤ (h t 1) → ((jput (jput (jput h (t + 1) ((h t 1).toNatClampNeg) (h t 2)) t 1 (((jput h (t + 1) ((h t 1).toNatClampNeg) (h t 2)) t 1) + 1)) t 3 (((jput (jput h (t + 1) ((h t 1).toNatClampNeg) (h t 2)) t 1 (((jput h (t + 1) ((h t 1).toNatClampNeg) (h t 2)) t 1) + 1)) t 3) + 1)) t 9) = 8 → ∀ h4 : jH, P4 h4 → ¬ (h4 t 9) < 0 → ¬ 8 ≤ (h4 t 9) → Q (.inl none) (jG0 sc) (jput (jput (jput (jput (jput h4 (t + 2) ((h4 t 9).toNatClampNeg) (h4 t 2)) (t + 3) (((jput h4 (t + 2) ((h4 t 9).toNatClampNeg) (h4 t 2)) t 9).toNatClampNeg) l1) (t + 4) (((jput (jput h4 (t + 2) ((h4 t 9).toNatClampNeg) (h4 t 2)) (t + 3) (((jput h4 (t + 2) ((h4 t 9).toNatClampNeg) (h4 t 2)) t 9).toNatClampNeg) l1) t 9).toNatClampNeg) l1) t 9 (((jput (jput (jput h4 (t + 2) ((h4 t 9).toNatClampNeg) (h4 t 2)) (t + 3) (((jput h4 (t + 2) ((h4 t 9).toNatClampNeg) (h4 t 2)) t 9).toNatClampNeg) l1) (t + 4) (((jput (jput h4 (t + 2) ((h4 t 9).toNatClampNeg) (h4 t 2)) (t + 3) (((jput h4 (t + 2) ((h4 t 9).toNatClampNeg) (h4 t 2)) t 9).toNatClampNeg) l1) t 9).toNatClampNeg) l1) t 9) + 1)) t 2 (((jput (jput (jput (jput h4 (t + 2) ((h4 t 9).toNatClampNeg) (h4 t 2)) (t + 3) (((jput h4 (t + 2) ((h4 t 9).toNatClampNeg) (h4 t 2)) t 9).toNatClampNeg) l1) (t + 4) (((jput (jput h4 (t + 2) ((h4 t 9).toNatClampNeg) (h4 t 2)) (t + 3) (((jput h4 (t + 2) ((h4 t 9).toNatClampNeg) (h4 t 2)) t 9).toNatClampNeg) l1) t 9).toNatClampNeg) l1) t 9 (((jput (jput (jput h4 (t + 2) ((h4 t 9).toNatClampNeg) (h4 t 2)) (t + 3) (((jput h4 (t + 2) ((h4 t 9).toNatClampNeg) (h4 t 2)) t 9).toNatClampNeg) l1) (t + 4) (((jput (jput h4 (t + 2) ((h4 t 9).toNatClampNeg) (h4 t 2)) (t + 3) (((jput h4 (t + 2) ((h4 t 9).toNatClampNeg) (h4 t 2)) t 9).toNatClampNeg) l1) t 9).toNatClampNeg) l1) t 9) + 1)) t 2) + 1))) :
    WP mX9_add Q 0 [some (.ref t), some (.int l1)] [] (jG0 sc) h (0, 0) := by
  exact (bX9_add_0 t_h (fun c1 => (bX9_add_54 t_h (fun c2 => (bX9_add_67 t_h (fun c3 => (bX9_add_126 t_h (v1 c1 c2 c3))) (fun c3 => (bX9_add_74 t_h (fun c4 => (bX9_add_126 t_h (v2 c1 c2 c3 c4))) (fun c4 => (bX9_add_83 t_h (o1 c1 c2 c3 c4) (o2 c1 c2 c3 c4) (o3 c1 c2 c3 c4) (bX9_add_122 t_h (bX9_add_126 t_h (v3 c1 c2 c3 c4))))))))) (fun c2 => (bX9_add_63 t_h (k1 c1 c2) (fun h1 p1 => (bX9_add_67 t_h (fun c5 => (bX9_add_126 t_h (v4 c1 c2 h1 p1 c5))) (fun c5 => (bX9_add_74 t_h (fun c6 => (bX9_add_126 t_h (v5 c1 c2 h1 p1 c5 c6))) (fun c6 => (bX9_add_83 t_h (o4 c1 c2 h1 p1 c5 c6) (o5 c1 c2 h1 p1 c5 c6) (o6 c1 c2 h1 p1 c5 c6) (bX9_add_122 t_h (bX9_add_126 t_h (v6 c1 c2 h1 p1 c5 c6))))))))))))) (fun c1 => (bX9_add_5 t_h (fun c7 => (bX9_add_44 t_h (bX9_add_54 t_h (fun c8 => (bX9_add_67 t_h (fun c9 => (bX9_add_126 t_h (v7 c1 c7 c8 c9))) (fun c9 => (bX9_add_74 t_h (fun c10 => (bX9_add_126 t_h (v8 c1 c7 c8 c9 c10))) (fun c10 => (bX9_add_83 t_h (o7 c1 c7 c8 c9 c10) (o8 c1 c7 c8 c9 c10) (o9 c1 c7 c8 c9 c10) (bX9_add_122 t_h (bX9_add_126 t_h (v9 c1 c7 c8 c9 c10))))))))) (fun c8 => (bX9_add_63 t_h (k2 c1 c7 c8) (fun h2 p2 => (bX9_add_67 t_h (fun c11 => (bX9_add_126 t_h (v10 c1 c7 c8 h2 p2 c11))) (fun c11 => (bX9_add_74 t_h (fun c12 => (bX9_add_126 t_h (v11 c1 c7 c8 h2 p2 c11 c12))) (fun c12 => (bX9_add_83 t_h (o10 c1 c7 c8 h2 p2 c11 c12) (o11 c1 c7 c8 h2 p2 c11 c12) (o12 c1 c7 c8 h2 p2 c11 c12) (bX9_add_122 t_h (bX9_add_126 t_h (v12 c1 c7 c8 h2 p2 c11 c12)))))))))))))) (fun c7 => (bX9_add_12 t_h (fun c13 => (bX9_add_44 t_h (bX9_add_54 t_h (fun c14 => (bX9_add_67 t_h (fun c15 => (bX9_add_126 t_h (v13 c1 c7 c13 c14 c15))) (fun c15 => (bX9_add_74 t_h (fun c16 => (bX9_add_126 t_h (v14 c1 c7 c13 c14 c15 c16))) (fun c16 => (bX9_add_83 t_h (o13 c1 c7 c13 c14 c15 c16) (o14 c1 c7 c13 c14 c15 c16) (o15 c1 c7 c13 c14 c15 c16) (bX9_add_122 t_h (bX9_add_126 t_h (v15 c1 c7 c13 c14 c15 c16))))))))) (fun c14 => (bX9_add_63 t_h (k3 c1 c7 c13 c14) (fun h3 p3 => (bX9_add_67 t_h (fun c17 => (bX9_add_126 t_h (v16 c1 c7 c13 c14 h3 p3 c17))) (fun c17 => (bX9_add_74 t_h (fun c18 => (bX9_add_126 t_h (v17 c1 c7 c13 c14 h3 p3 c17 c18))) (fun c18 => (bX9_add_83 t_h (o16 c1 c7 c13 c14 h3 p3 c17 c18) (o17 c1 c7 c13 c14 h3 p3 c17 c18) (o18 c1 c7 c13 c14 h3 p3 c17 c18) (bX9_add_122 t_h (bX9_add_126 t_h (v18 c1 c7 c13 c14 h3 p3 c17 c18)))))))))))))) (fun c13 => (bX9_add_21 t_h (o19 c1 c7 c13) (bX9_add_44 t_h (bX9_add_54 t_h (fun c19 => (bX9_add_67 t_h (fun c20 => (bX9_add_126 t_h (v19 c1 c7 c13 c19 c20))) (fun c20 => (bX9_add_74 t_h (fun c21 => (bX9_add_126 t_h (v20 c1 c7 c13 c19 c20 c21))) (fun c21 => (bX9_add_83 t_h (o20 c1 c7 c13 c19 c20 c21) (o21 c1 c7 c13 c19 c20 c21) (o22 c1 c7 c13 c19 c20 c21) (bX9_add_122 t_h (bX9_add_126 t_h (v21 c1 c7 c13 c19 c20 c21))))))))) (fun c19 => (bX9_add_63 t_h (k4 c1 c7 c13 c19) (fun h4 p4 => (bX9_add_67 t_h (fun c22 => (bX9_add_126 t_h (v22 c1 c7 c13 c19 h4 p4 c22))) (fun c22 => (bX9_add_74 t_h (fun c23 => (bX9_add_126 t_h (v23 c1 c7 c13 c19 h4 p4 c22 c23))) (fun c23 => (bX9_add_83 t_h (o23 c1 c7 c13 c19 h4 p4 c22 c23) (o24 c1 c7 c13 c19 h4 p4 c22 c23) (o25 c1 c7 c13 c19 h4 p4 c22 c23) (bX9_add_122 t_h (bX9_add_126 t_h (v24 c1 c7 c13 c19 h4 p4 c22 c23))))))))))))))))))))
theorem dX9_dropOldest_0 : decode (mC mX9_dropOldest) 0 = .ok (.iconst 1, 1) := by decide +kernel
theorem dX9_dropOldest_1 : decode (mC mX9_dropOldest) 1 = .ok (.istore_n 1, 1) := by decide +kernel
theorem dX9_dropOldest_2 : decode (mC mX9_dropOldest) 2 = .ok (.iload_n 1, 1) := by decide +kernel
theorem dX9_dropOldest_3 : decode (mC mX9_dropOldest) 3 = .ok (.bipush 8, 2) := by decide +kernel
theorem dX9_dropOldest_5 : decode (mC mX9_dropOldest) 5 = .ok (.if_icmp .ge 51, 3) := by decide +kernel
theorem dX9_dropOldest_8 : decode (mC mX9_dropOldest) 8 = .ok (.aload_n 0, 1) := by decide +kernel
theorem dX9_dropOldest_9 : decode (mC mX9_dropOldest) 9 = .ok (.getfield 15, 3) := by decide +kernel
theorem dX9_dropOldest_12 : decode (mC mX9_dropOldest) 12 = .ok (.iload_n 1, 1) := by decide +kernel
theorem dX9_dropOldest_13 : decode (mC mX9_dropOldest) 13 = .ok (.iconst 1, 1) := by decide +kernel
theorem dX9_dropOldest_14 : decode (mC mX9_dropOldest) 14 = .ok (.isub, 1) := by decide +kernel
theorem dX9_dropOldest_15 : decode (mC mX9_dropOldest) 15 = .ok (.aload_n 0, 1) := by decide +kernel
theorem dX9_dropOldest_16 : decode (mC mX9_dropOldest) 16 = .ok (.getfield 15, 3) := by decide +kernel
theorem dX9_dropOldest_19 : decode (mC mX9_dropOldest) 19 = .ok (.iload_n 1, 1) := by decide +kernel
theorem dX9_dropOldest_20 : decode (mC mX9_dropOldest) 20 = .ok (.iaload, 1) := by decide +kernel
theorem dX9_dropOldest_21 : decode (mC mX9_dropOldest) 21 = .ok (.iastore, 1) := by decide +kernel
theorem dX9_dropOldest_22 : decode (mC mX9_dropOldest) 22 = .ok (.aload_n 0, 1) := by decide +kernel
theorem dX9_dropOldest_23 : decode (mC mX9_dropOldest) 23 = .ok (.getfield 18, 3) := by decide +kernel
theorem dX9_dropOldest_26 : decode (mC mX9_dropOldest) 26 = .ok (.iload_n 1, 1) := by decide +kernel
theorem dX9_dropOldest_27 : decode (mC mX9_dropOldest) 27 = .ok (.iconst 1, 1) := by decide +kernel
theorem dX9_dropOldest_28 : decode (mC mX9_dropOldest) 28 = .ok (.isub, 1) := by decide +kernel
theorem dX9_dropOldest_29 : decode (mC mX9_dropOldest) 29 = .ok (.aload_n 0, 1) := by decide +kernel
theorem dX9_dropOldest_30 : decode (mC mX9_dropOldest) 30 = .ok (.getfield 18, 3) := by decide +kernel
theorem dX9_dropOldest_33 : decode (mC mX9_dropOldest) 33 = .ok (.iload_n 1, 1) := by decide +kernel
theorem dX9_dropOldest_34 : decode (mC mX9_dropOldest) 34 = .ok (.iaload, 1) := by decide +kernel
theorem dX9_dropOldest_35 : decode (mC mX9_dropOldest) 35 = .ok (.iastore, 1) := by decide +kernel
theorem dX9_dropOldest_36 : decode (mC mX9_dropOldest) 36 = .ok (.aload_n 0, 1) := by decide +kernel
theorem dX9_dropOldest_37 : decode (mC mX9_dropOldest) 37 = .ok (.getfield 21, 3) := by decide +kernel
theorem dX9_dropOldest_40 : decode (mC mX9_dropOldest) 40 = .ok (.iload_n 1, 1) := by decide +kernel
theorem dX9_dropOldest_41 : decode (mC mX9_dropOldest) 41 = .ok (.iconst 1, 1) := by decide +kernel
theorem dX9_dropOldest_42 : decode (mC mX9_dropOldest) 42 = .ok (.isub, 1) := by decide +kernel
theorem dX9_dropOldest_43 : decode (mC mX9_dropOldest) 43 = .ok (.aload_n 0, 1) := by decide +kernel
theorem dX9_dropOldest_44 : decode (mC mX9_dropOldest) 44 = .ok (.getfield 21, 3) := by decide +kernel
theorem dX9_dropOldest_47 : decode (mC mX9_dropOldest) 47 = .ok (.iload_n 1, 1) := by decide +kernel
theorem dX9_dropOldest_48 : decode (mC mX9_dropOldest) 48 = .ok (.iaload, 1) := by decide +kernel
theorem dX9_dropOldest_49 : decode (mC mX9_dropOldest) 49 = .ok (.iastore, 1) := by decide +kernel
theorem dX9_dropOldest_50 : decode (mC mX9_dropOldest) 50 = .ok (.iinc 1 1, 3) := by decide +kernel
theorem dX9_dropOldest_53 : decode (mC mX9_dropOldest) 53 = .ok (.goto (-51), 3) := by decide +kernel
theorem dX9_dropOldest_56 : decode (mC mX9_dropOldest) 56 = .ok (.aload_n 0, 1) := by decide +kernel
theorem dX9_dropOldest_57 : decode (mC mX9_dropOldest) 57 = .ok (.dup, 1) := by decide +kernel
theorem dX9_dropOldest_58 : decode (mC mX9_dropOldest) 58 = .ok (.getfield 40, 3) := by decide +kernel
theorem dX9_dropOldest_61 : decode (mC mX9_dropOldest) 61 = .ok (.iconst 1, 1) := by decide +kernel
theorem dX9_dropOldest_62 : decode (mC mX9_dropOldest) 62 = .ok (.isub, 1) := by decide +kernel
theorem dX9_dropOldest_63 : decode (mC mX9_dropOldest) 63 = .ok (.putfield 40, 3) := by decide +kernel
theorem dX9_dropOldest_66 : decode (mC mX9_dropOldest) 66 = .ok (.return_, 1) := by decide +kernel
set_option maxRecDepth 100000 in
theorem bX9_dropOldest_0 {sc : Nat × (Nat → Int32)} {h : jH} {Q : jQ} {t : Nat} (t_h : jI9 t)
    (v1 : WP mX9_dropOldest Q 2 [some (.ref t), some (.int 1)] [] (jG0 sc) h (0, 0)) :
    WP mX9_dropOldest Q 0 [some (.ref t), none] [] (jG0 sc) h (0, 0) := by
  obtain ⟨t_lt4, t_K0, t_R0_0, t_K1, t_L1, t_R0_6, t_K2, t_L2, t_R0_7, t_K3, t_L3, t_R0_8, t_K4, t_L4⟩ := t_h
  have t_lt3 : t + 3 < jN (jG0 sc) := Nat.lt_of_succ_lt t_lt4
  have t_lt2 : t + 2 < jN (jG0 sc) := Nat.lt_of_succ_lt t_lt3
  have t_lt1 : t + 1 < jN (jG0 sc) := Nat.lt_of_succ_lt t_lt2
  have t_lt0 : t + 0 < jN (jG0 sc) := Nat.lt_of_succ_lt t_lt1
  refine j_iconst (n := 1) 1 (by decide) dX9_dropOldest_0 ?_
  refine j_istore_n (i := 1) dX9_dropOldest_1 (Nat.le_of_ble_eq_true rfl) ?_
  exact j_le [some (.ref t), some (.int 1)] (And.intro rfl (And.intro rfl True.intro)) v1
set_option maxRecDepth 100000 in
theorem bX9_dropOldest_2 {sc : Nat × (Nat → Int32)} {h : jH} {Q : jQ} {t : Nat} {l1 : Int32} (t_h : jI9 t)
    (v1 : 8 ≤ l1 → WP mX9_dropOldest Q 56 [some (.ref t), some (.int l1)] [] (jG0 sc) h (0, 0))
    (v2 : ¬ 8 ≤ l1 → WP mX9_dropOldest Q 8 [some (.ref t), some (.int l1)] [] (jG0 sc) h (0, 0)) :
    WP mX9_dropOldest Q 2 [some (.ref t), some (.int l1)] [] (jG0 sc) h (0, 0) := by
  obtain ⟨t_lt4, t_K0, t_R0_0, t_K1, t_L1, t_R0_6, t_K2, t_L2, t_R0_7, t_K3, t_L3, t_R0_8, t_K4, t_L4⟩ := t_h
  have t_lt3 : t + 3 < jN (jG0 sc) := Nat.lt_of_succ_lt t_lt4
  have t_lt2 : t + 2 < jN (jG0 sc) := Nat.lt_of_succ_lt t_lt3
  have t_lt1 : t + 1 < jN (jG0 sc) := Nat.lt_of_succ_lt t_lt2
  have t_lt0 : t + 0 < jN (jG0 sc) := Nat.lt_of_succ_lt t_lt1
  refine j_iload_n (i := 1) rfl dX9_dropOldest_2 ?_
  refine j_bipush (n := 8) 8 (by decide) dX9_dropOldest_3 ?_
  refine j_icmp_ge (off := 51) 56 dX9_dropOldest_5 (by decide) (fun c1 => ?_) (fun c1 => ?_)
  · exact j_le [some (.ref t), some (.int l1)] (And.intro rfl (And.intro rfl True.intro)) (v1 c1)
  · exact j_le [some (.ref t), some (.int l1)] (And.intro rfl (And.intro rfl True.intro)) (v2 c1)
set_option maxRecDepth 100000 in
theorem bX9_dropOldest_8 {sc : Nat × (Nat → Int32)} {h : jH} {Q : jQ} {t : Nat} {l1 : Int32} (t_h : jI9 t)
    (o1 : vp_in l1 8)
    (o2 : vp_in (l1 - 1) 8)
    (o3 : vp_in l1 8)
    (o4 : vp_in (l1 - 1) 8)
    (v1 : WP mX9_dropOldest Q 41 [some (.ref t), some (.int l1)] [.int l1, .ref (t + 4)] (jG0 sc) (jput (jput h (t + 2) ((l1 - 1).toNatClampNeg) (h (t + 2) l1.toNatClampNeg)) (t + 3) ((l1 - 1).toNatClampNeg) ((jput h (t + 2) ((l1 - 1).toNatClampNeg) (h (t + 2) l1.toNatClampNeg)) (t + 3) l1.toNatClampNeg)) (0, 0)) :
    WP mX9_dropOldest Q 8 [some (.ref t), some (.int l1)] [] (jG0 sc) h (0, 0) := by
  obtain ⟨t_lt4, t_K0, t_R0_0, t_K1, t_L1, t_R0_6, t_K2, t_L2, t_R0_7, t_K3, t_L3, t_R0_8, t_K4, t_L4⟩ := t_h
  have t_lt3 : t + 3 < jN (jG0 sc) := Nat.lt_of_succ_lt t_lt4
  have t_lt2 : t + 2 < jN (jG0 sc) := Nat.lt_of_succ_lt t_lt3
  have t_lt1 : t + 1 < jN (jG0 sc) := Nat.lt_of_succ_lt t_lt2
  have t_lt0 : t + 0 < jN (jG0 sc) := Nat.lt_of_succ_lt t_lt1
  refine j_aload_n (i := 0) rfl dX9_dropOldest_8 ?_
  refine j_getR (idx := 15) (ci := 9) (k := 6) (nest := false) (show (9, 15, 9, 6, false) ∈ jFT by decide) rfl (t_lt0) t_K0 (a := (t + 2)) t_R0_6 dX9_dropOldest_9 ?_
  refine j_iload_n (i := 1) rfl dX9_dropOldest_12 ?_
  refine j_iconst (n := 1) 1 (by decide) dX9_dropOldest_13 ?_
  refine j_isub dX9_dropOldest_14 ?_
  refine j_aload_n (i := 0) rfl dX9_dropOldest_15 ?_
  refine j_getR (idx := 15) (ci := 9) (k := 6) (nest := false) (show (9, 15, 9, 6, false) ∈ jFT by decide) rfl (t_lt0) t_K0 (a := (t + 2)) t_R0_6 dX9_dropOldest_16 ?_
  refine j_iload_n (i := 1) rfl dX9_dropOldest_19 ?_
  refine j_iald (t_lt2) t_K2 (by rw [show jL (jG0 sc) (t + 2) = 8 from t_L2]; exact o1) dX9_dropOldest_20 ?_
  refine j_iast (t_lt2) t_K2 (by rw [show jL (jG0 sc) (t + 2) = 8 from t_L2]; exact o2) dX9_dropOldest_21 ?_
  refine j_aload_n (i := 0) rfl dX9_dropOldest_22 ?_
  refine j_getR (idx := 18) (ci := 9) (k := 7) (nest := false) (show (9, 18, 9, 7, false) ∈ jFT by decide) rfl (t_lt0) t_K0 (a := (t + 3)) t_R0_7 dX9_dropOldest_23 ?_
  refine j_iload_n (i := 1) rfl dX9_dropOldest_26 ?_
  refine j_iconst (n := 1) 1 (by decide) dX9_dropOldest_27 ?_
  refine j_isub dX9_dropOldest_28 ?_
  refine j_aload_n (i := 0) rfl dX9_dropOldest_29 ?_
  refine j_getR (idx := 18) (ci := 9) (k := 7) (nest := false) (show (9, 18, 9, 7, false) ∈ jFT by decide) rfl (t_lt0) t_K0 (a := (t + 3)) t_R0_7 dX9_dropOldest_30 ?_
  refine j_iload_n (i := 1) rfl dX9_dropOldest_33 ?_
  refine j_iald (t_lt3) t_K3 (by rw [show jL (jG0 sc) (t + 3) = 8 from t_L3]; exact o3) dX9_dropOldest_34 ?_
  refine j_iast (t_lt3) t_K3 (by rw [show jL (jG0 sc) (t + 3) = 8 from t_L3]; exact o4) dX9_dropOldest_35 ?_
  refine j_aload_n (i := 0) rfl dX9_dropOldest_36 ?_
  refine j_getR (idx := 21) (ci := 9) (k := 8) (nest := false) (show (9, 21, 9, 8, false) ∈ jFT by decide) rfl (t_lt0) t_K0 (a := (t + 4)) t_R0_8 dX9_dropOldest_37 ?_
  refine j_iload_n (i := 1) rfl dX9_dropOldest_40 ?_
  exact j_le [some (.ref t), some (.int l1)] (And.intro rfl (And.intro rfl True.intro)) v1
set_option maxRecDepth 100000 in
theorem bX9_dropOldest_41 {sc : Nat × (Nat → Int32)} {h : jH} {Q : jQ} {t : Nat} {l1 s0 : Int32} (t_h : jI9 t)
    (o1 : vp_in l1 8)
    (o2 : vp_in (s0 - 1) 8)
    (v1 : WP mX9_dropOldest Q 2 [some (.ref t), some (.int (l1 + 1))] [] (jG0 sc) (jput h (t + 4) ((s0 - 1).toNatClampNeg) (h (t + 4) l1.toNatClampNeg)) (0, 0)) :
    WP mX9_dropOldest Q 41 [some (.ref t), some (.int l1)] [.int s0, .ref (t + 4)] (jG0 sc) h (0, 0) := by
  obtain ⟨t_lt4, t_K0, t_R0_0, t_K1, t_L1, t_R0_6, t_K2, t_L2, t_R0_7, t_K3, t_L3, t_R0_8, t_K4, t_L4⟩ := t_h
  have t_lt3 : t + 3 < jN (jG0 sc) := Nat.lt_of_succ_lt t_lt4
  have t_lt2 : t + 2 < jN (jG0 sc) := Nat.lt_of_succ_lt t_lt3
  have t_lt1 : t + 1 < jN (jG0 sc) := Nat.lt_of_succ_lt t_lt2
  have t_lt0 : t + 0 < jN (jG0 sc) := Nat.lt_of_succ_lt t_lt1
  refine j_iconst (n := 1) 1 (by decide) dX9_dropOldest_41 ?_
  refine j_isub dX9_dropOldest_42 ?_
  refine j_aload_n (i := 0) rfl dX9_dropOldest_43 ?_
  refine j_getR (idx := 21) (ci := 9) (k := 8) (nest := false) (show (9, 21, 9, 8, false) ∈ jFT by decide) rfl (t_lt0) t_K0 (a := (t + 4)) t_R0_8 dX9_dropOldest_44 ?_
  refine j_iload_n (i := 1) rfl dX9_dropOldest_47 ?_
  refine j_iald (t_lt4) t_K4 (by rw [show jL (jG0 sc) (t + 4) = 8 from t_L4]; exact o1) dX9_dropOldest_48 ?_
  refine j_iast (t_lt4) t_K4 (by rw [show jL (jG0 sc) (t + 4) = 8 from t_L4]; exact o2) dX9_dropOldest_49 ?_
  refine j_iinc (i := 1) (n := 1) rfl dX9_dropOldest_50 (Nat.le_of_ble_eq_true rfl) ?_
  refine j_eqlv [some (.ref t), some (.int (l1 + 1))] rfl ?_
  refine j_goto (off := -51) 2 dX9_dropOldest_53 (by decide) ?_
  exact j_le [some (.ref t), some (.int (l1 + 1))] (And.intro rfl (And.intro rfl True.intro)) v1
set_option maxRecDepth 100000 in
theorem bX9_dropOldest_56 {sc : Nat × (Nat → Int32)} {h : jH} {Q : jQ} {t : Nat} {l1 : Int32} (t_h : jI9 t)
    (v1 : Q (.inl none) (jG0 sc) (jput h t 9 ((h t 9) - 1))) :
    WP mX9_dropOldest Q 56 [some (.ref t), some (.int l1)] [] (jG0 sc) h (0, 0) := by
  obtain ⟨t_lt4, t_K0, t_R0_0, t_K1, t_L1, t_R0_6, t_K2, t_L2, t_R0_7, t_K3, t_L3, t_R0_8, t_K4, t_L4⟩ := t_h
  have t_lt3 : t + 3 < jN (jG0 sc) := Nat.lt_of_succ_lt t_lt4
  have t_lt2 : t + 2 < jN (jG0 sc) := Nat.lt_of_succ_lt t_lt3
  have t_lt1 : t + 1 < jN (jG0 sc) := Nat.lt_of_succ_lt t_lt2
  have t_lt0 : t + 0 < jN (jG0 sc) := Nat.lt_of_succ_lt t_lt1
  refine j_aload_n (i := 0) rfl dX9_dropOldest_56 ?_
  refine j_dup rfl dX9_dropOldest_57 ?_
  refine j_getI (idx := 40) (ci := 9) (k := 9) (nest := false) (show (9, 40, 9, 9, false) ∈ jFT by decide) rfl (t_lt0) t_K0 dX9_dropOldest_58 ?_
  refine j_iconst (n := 1) 1 (by decide) dX9_dropOldest_61 ?_
  refine j_isub dX9_dropOldest_62 ?_
  refine j_putI (idx := 40) (ci := 9) (k := 9) (nest := false) (show (9, 40, 9, 9, false) ∈ jFT by decide) rfl rfl rfl rfl (t_lt0) t_K0 dX9_dropOldest_63 ?_
  exact j_vret rfl (Nat.zero_le _) (Nat.zero_le _) dX9_dropOldest_66 v1
set_option maxRecDepth 100000 in
theorem rX9_dropOldest_0 {sc : Nat × (Nat → Int32)} {h : jH} {Q : jQ} {t : Nat} (t_h : jI9 t)
    (v1 : WP mX9_dropOldest Q 2 [some (.ref t), some (.int 1)] [] (jG0 sc) h (0, 0)) :
    WP mX9_dropOldest Q 0 [some (.ref t), none] [] (jG0 sc) h (0, 0) := by
  exact (bX9_dropOldest_0 t_h v1)
set_option maxRecDepth 100000 in
theorem rX9_dropOldest_2 {sc : Nat × (Nat → Int32)} {h : jH} {Q : jQ} {t : Nat} {l1 : Int32} (t_h : jI9 t)
    (v1 : 8 ≤ l1 → Q (.inl none) (jG0 sc) (jput h t 9 ((h t 9) - 1)))
    (o1 : ¬ 8 ≤ l1 → vp_in l1 8)
    (o2 : ¬ 8 ≤ l1 → vp_in (l1 - 1) 8)
    (v2 : ¬ 8 ≤ l1 → WP mX9_dropOldest Q 2 [some (.ref t), some (.int (l1 + 1))] [] (jG0 sc) (jput (jput (jput h (t + 2) ((l1 - 1).toNatClampNeg) (h (t + 2) l1.toNatClampNeg)) (t + 3) ((l1 - 1).toNatClampNeg) ((jput h (t + 2) ((l1 - 1).toNatClampNeg) (h (t + 2) l1.toNatClampNeg)) (t + 3) l1.toNatClampNeg)) (t + 4) ((l1 - 1).toNatClampNeg) ((jput (jput h (t + 2) ((l1 - 1).toNatClampNeg) (h (t + 2) l1.toNatClampNeg)) (t + 3) ((l1 - 1).toNatClampNeg) ((jput h (t + 2) ((l1 - 1).toNatClampNeg) (h (t + 2) l1.toNatClampNeg)) (t + 3) l1.toNatClampNeg)) (t + 4) l1.toNatClampNeg)) (0, 0)) :
    WP mX9_dropOldest Q 2 [some (.ref t), some (.int l1)] [] (jG0 sc) h (0, 0) := by
  exact (bX9_dropOldest_2 t_h (fun c1 => (bX9_dropOldest_56 t_h (v1 c1))) (fun c1 => (bX9_dropOldest_8 t_h (o1 c1) (o2 c1) (o1 c1) (o2 c1) (bX9_dropOldest_41 t_h (o1 c1) (o2 c1) (v2 c1)))))
theorem dX9_copyOf_0 : decode (mC mX9_copyOf) 0 = .ok (.iconst 0, 1) := by decide +kernel
theorem dX9_copyOf_1 : decode (mC mX9_copyOf) 1 = .ok (.istore_n 2, 1) := by decide +kernel
theorem dX9_copyOf_2 : decode (mC mX9_copyOf) 2 = .ok (.iload_n 2, 1) := by decide +kernel
theorem dX9_copyOf_3 : decode (mC mX9_copyOf) 3 = .ok (.bipush 30, 2) := by decide +kernel
theorem dX9_copyOf_5 : decode (mC mX9_copyOf) 5 = .ok (.if_icmp .ge 21, 3) := by decide +kernel
theorem dX9_copyOf_8 : decode (mC mX9_copyOf) 8 = .ok (.aload_n 0, 1) := by decide +kernel
theorem dX9_copyOf_9 : decode (mC mX9_copyOf) 9 = .ok (.getfield 9, 3) := by decide +kernel
theorem dX9_copyOf_12 : decode (mC mX9_copyOf) 12 = .ok (.iload_n 2, 1) := by decide +kernel
theorem dX9_copyOf_13 : decode (mC mX9_copyOf) 13 = .ok (.aload_n 1, 1) := by decide +kernel
theorem dX9_copyOf_14 : decode (mC mX9_copyOf) 14 = .ok (.getfield 9, 3) := by decide +kernel
theorem dX9_copyOf_17 : decode (mC mX9_copyOf) 17 = .ok (.iload_n 2, 1) := by decide +kernel
theorem dX9_copyOf_18 : decode (mC mX9_copyOf) 18 = .ok (.iaload, 1) := by decide +kernel
theorem dX9_copyOf_19 : decode (mC mX9_copyOf) 19 = .ok (.iastore, 1) := by decide +kernel
theorem dX9_copyOf_20 : decode (mC mX9_copyOf) 20 = .ok (.iinc 2 1, 3) := by decide +kernel
theorem dX9_copyOf_23 : decode (mC mX9_copyOf) 23 = .ok (.goto (-21), 3) := by decide +kernel
theorem dX9_copyOf_26 : decode (mC mX9_copyOf) 26 = .ok (.iconst 0, 1) := by decide +kernel
theorem dX9_copyOf_27 : decode (mC mX9_copyOf) 27 = .ok (.istore_n 2, 1) := by decide +kernel
theorem dX9_copyOf_28 : decode (mC mX9_copyOf) 28 = .ok (.iload_n 2, 1) := by decide +kernel
theorem dX9_copyOf_29 : decode (mC mX9_copyOf) 29 = .ok (.bipush 8, 2) := by decide +kernel
theorem dX9_copyOf_31 : decode (mC mX9_copyOf) 31 = .ok (.if_icmp .ge 45, 3) := by decide +kernel
theorem dX9_copyOf_34 : decode (mC mX9_copyOf) 34 = .ok (.aload_n 0, 1) := by decide +kernel
theorem dX9_copyOf_35 : decode (mC mX9_copyOf) 35 = .ok (.getfield 15, 3) := by decide +kernel
theorem dX9_copyOf_38 : decode (mC mX9_copyOf) 38 = .ok (.iload_n 2, 1) := by decide +kernel
theorem dX9_copyOf_39 : decode (mC mX9_copyOf) 39 = .ok (.aload_n 1, 1) := by decide +kernel
theorem dX9_copyOf_40 : decode (mC mX9_copyOf) 40 = .ok (.getfield 15, 3) := by decide +kernel
theorem dX9_copyOf_43 : decode (mC mX9_copyOf) 43 = .ok (.iload_n 2, 1) := by decide +kernel
theorem dX9_copyOf_44 : decode (mC mX9_copyOf) 44 = .ok (.iaload, 1) := by decide +kernel
theorem dX9_copyOf_45 : decode (mC mX9_copyOf) 45 = .ok (.iastore, 1) := by decide +kernel
theorem dX9_copyOf_46 : decode (mC mX9_copyOf) 46 = .ok (.aload_n 0, 1) := by decide +kernel
theorem dX9_copyOf_47 : decode (mC mX9_copyOf) 47 = .ok (.getfield 18, 3) := by decide +kernel
theorem dX9_copyOf_50 : decode (mC mX9_copyOf) 50 = .ok (.iload_n 2, 1) := by decide +kernel
theorem dX9_copyOf_51 : decode (mC mX9_copyOf) 51 = .ok (.aload_n 1, 1) := by decide +kernel
theorem dX9_copyOf_52 : decode (mC mX9_copyOf) 52 = .ok (.getfield 18, 3) := by decide +kernel
theorem dX9_copyOf_55 : decode (mC mX9_copyOf) 55 = .ok (.iload_n 2, 1) := by decide +kernel
theorem dX9_copyOf_56 : decode (mC mX9_copyOf) 56 = .ok (.iaload, 1) := by decide +kernel
theorem dX9_copyOf_57 : decode (mC mX9_copyOf) 57 = .ok (.iastore, 1) := by decide +kernel
theorem dX9_copyOf_58 : decode (mC mX9_copyOf) 58 = .ok (.aload_n 0, 1) := by decide +kernel
theorem dX9_copyOf_59 : decode (mC mX9_copyOf) 59 = .ok (.getfield 21, 3) := by decide +kernel
theorem dX9_copyOf_62 : decode (mC mX9_copyOf) 62 = .ok (.iload_n 2, 1) := by decide +kernel
theorem dX9_copyOf_63 : decode (mC mX9_copyOf) 63 = .ok (.aload_n 1, 1) := by decide +kernel
theorem dX9_copyOf_64 : decode (mC mX9_copyOf) 64 = .ok (.getfield 21, 3) := by decide +kernel
theorem dX9_copyOf_67 : decode (mC mX9_copyOf) 67 = .ok (.iload_n 2, 1) := by decide +kernel
theorem dX9_copyOf_68 : decode (mC mX9_copyOf) 68 = .ok (.iaload, 1) := by decide +kernel
theorem dX9_copyOf_69 : decode (mC mX9_copyOf) 69 = .ok (.iastore, 1) := by decide +kernel
theorem dX9_copyOf_70 : decode (mC mX9_copyOf) 70 = .ok (.iinc 2 1, 3) := by decide +kernel
theorem dX9_copyOf_73 : decode (mC mX9_copyOf) 73 = .ok (.goto (-45), 3) := by decide +kernel
theorem dX9_copyOf_76 : decode (mC mX9_copyOf) 76 = .ok (.aload_n 0, 1) := by decide +kernel
theorem dX9_copyOf_77 : decode (mC mX9_copyOf) 77 = .ok (.aload_n 1, 1) := by decide +kernel
theorem dX9_copyOf_78 : decode (mC mX9_copyOf) 78 = .ok (.getfield 24, 3) := by decide +kernel
theorem dX9_copyOf_81 : decode (mC mX9_copyOf) 81 = .ok (.putfield 24, 3) := by decide +kernel
theorem dX9_copyOf_84 : decode (mC mX9_copyOf) 84 = .ok (.aload_n 0, 1) := by decide +kernel
theorem dX9_copyOf_85 : decode (mC mX9_copyOf) 85 = .ok (.aload_n 1, 1) := by decide +kernel
theorem dX9_copyOf_86 : decode (mC mX9_copyOf) 86 = .ok (.getfield 28, 3) := by decide +kernel
theorem dX9_copyOf_89 : decode (mC mX9_copyOf) 89 = .ok (.putfield 28, 3) := by decide +kernel
theorem dX9_copyOf_92 : decode (mC mX9_copyOf) 92 = .ok (.aload_n 0, 1) := by decide +kernel
theorem dX9_copyOf_93 : decode (mC mX9_copyOf) 93 = .ok (.aload_n 1, 1) := by decide +kernel
theorem dX9_copyOf_94 : decode (mC mX9_copyOf) 94 = .ok (.getfield 31, 3) := by decide +kernel
theorem dX9_copyOf_97 : decode (mC mX9_copyOf) 97 = .ok (.putfield 31, 3) := by decide +kernel
theorem dX9_copyOf_100 : decode (mC mX9_copyOf) 100 = .ok (.aload_n 0, 1) := by decide +kernel
theorem dX9_copyOf_101 : decode (mC mX9_copyOf) 101 = .ok (.aload_n 1, 1) := by decide +kernel
theorem dX9_copyOf_102 : decode (mC mX9_copyOf) 102 = .ok (.getfield 34, 3) := by decide +kernel
theorem dX9_copyOf_105 : decode (mC mX9_copyOf) 105 = .ok (.putfield 34, 3) := by decide +kernel
theorem dX9_copyOf_108 : decode (mC mX9_copyOf) 108 = .ok (.aload_n 0, 1) := by decide +kernel
theorem dX9_copyOf_109 : decode (mC mX9_copyOf) 109 = .ok (.aload_n 1, 1) := by decide +kernel
theorem dX9_copyOf_110 : decode (mC mX9_copyOf) 110 = .ok (.getfield 37, 3) := by decide +kernel
theorem dX9_copyOf_113 : decode (mC mX9_copyOf) 113 = .ok (.putfield 37, 3) := by decide +kernel
theorem dX9_copyOf_116 : decode (mC mX9_copyOf) 116 = .ok (.aload_n 0, 1) := by decide +kernel
theorem dX9_copyOf_117 : decode (mC mX9_copyOf) 117 = .ok (.aload_n 1, 1) := by decide +kernel
theorem dX9_copyOf_118 : decode (mC mX9_copyOf) 118 = .ok (.getfield 40, 3) := by decide +kernel
theorem dX9_copyOf_121 : decode (mC mX9_copyOf) 121 = .ok (.putfield 40, 3) := by decide +kernel
theorem dX9_copyOf_124 : decode (mC mX9_copyOf) 124 = .ok (.return_, 1) := by decide +kernel
set_option maxRecDepth 100000 in
theorem bX9_copyOf_0 {sc : Nat × (Nat → Int32)} {h : jH} {Q : jQ} {a : Nat} {t : Nat} (a_h : jI9 a) (t_h : jI9 t)
    (v1 : WP mX9_copyOf Q 2 [some (.ref t), some (.ref a), some (.int 0)] [] (jG0 sc) h (0, 0)) :
    WP mX9_copyOf Q 0 [some (.ref t), some (.ref a), none] [] (jG0 sc) h (0, 0) := by
  obtain ⟨a_lt4, a_K0, a_R0_0, a_K1, a_L1, a_R0_6, a_K2, a_L2, a_R0_7, a_K3, a_L3, a_R0_8, a_K4, a_L4⟩ := a_h
  have a_lt3 : a + 3 < jN (jG0 sc) := Nat.lt_of_succ_lt a_lt4
  have a_lt2 : a + 2 < jN (jG0 sc) := Nat.lt_of_succ_lt a_lt3
  have a_lt1 : a + 1 < jN (jG0 sc) := Nat.lt_of_succ_lt a_lt2
  have a_lt0 : a + 0 < jN (jG0 sc) := Nat.lt_of_succ_lt a_lt1
  obtain ⟨t_lt4, t_K0, t_R0_0, t_K1, t_L1, t_R0_6, t_K2, t_L2, t_R0_7, t_K3, t_L3, t_R0_8, t_K4, t_L4⟩ := t_h
  have t_lt3 : t + 3 < jN (jG0 sc) := Nat.lt_of_succ_lt t_lt4
  have t_lt2 : t + 2 < jN (jG0 sc) := Nat.lt_of_succ_lt t_lt3
  have t_lt1 : t + 1 < jN (jG0 sc) := Nat.lt_of_succ_lt t_lt2
  have t_lt0 : t + 0 < jN (jG0 sc) := Nat.lt_of_succ_lt t_lt1
  refine j_iconst (n := 0) 0 (by decide) dX9_copyOf_0 ?_
  refine j_istore_n (i := 2) dX9_copyOf_1 (Nat.le_of_ble_eq_true rfl) ?_
  exact j_le [some (.ref t), some (.ref a), some (.int 0)] (And.intro rfl (And.intro rfl (And.intro rfl True.intro))) v1
set_option maxRecDepth 100000 in
theorem bX9_copyOf_2 {sc : Nat × (Nat → Int32)} {h : jH} {Q : jQ} {a : Nat} {t : Nat} {l2 : Int32} (a_h : jI9 a) (t_h : jI9 t)
    (v1 : 30 ≤ l2 → WP mX9_copyOf Q 26 [some (.ref t), some (.ref a), some (.int l2)] [] (jG0 sc) h (0, 0))
    (v2 : ¬ 30 ≤ l2 → WP mX9_copyOf Q 8 [some (.ref t), some (.ref a), some (.int l2)] [] (jG0 sc) h (0, 0)) :
    WP mX9_copyOf Q 2 [some (.ref t), some (.ref a), some (.int l2)] [] (jG0 sc) h (0, 0) := by
  obtain ⟨a_lt4, a_K0, a_R0_0, a_K1, a_L1, a_R0_6, a_K2, a_L2, a_R0_7, a_K3, a_L3, a_R0_8, a_K4, a_L4⟩ := a_h
  have a_lt3 : a + 3 < jN (jG0 sc) := Nat.lt_of_succ_lt a_lt4
  have a_lt2 : a + 2 < jN (jG0 sc) := Nat.lt_of_succ_lt a_lt3
  have a_lt1 : a + 1 < jN (jG0 sc) := Nat.lt_of_succ_lt a_lt2
  have a_lt0 : a + 0 < jN (jG0 sc) := Nat.lt_of_succ_lt a_lt1
  obtain ⟨t_lt4, t_K0, t_R0_0, t_K1, t_L1, t_R0_6, t_K2, t_L2, t_R0_7, t_K3, t_L3, t_R0_8, t_K4, t_L4⟩ := t_h
  have t_lt3 : t + 3 < jN (jG0 sc) := Nat.lt_of_succ_lt t_lt4
  have t_lt2 : t + 2 < jN (jG0 sc) := Nat.lt_of_succ_lt t_lt3
  have t_lt1 : t + 1 < jN (jG0 sc) := Nat.lt_of_succ_lt t_lt2
  have t_lt0 : t + 0 < jN (jG0 sc) := Nat.lt_of_succ_lt t_lt1
  refine j_iload_n (i := 2) rfl dX9_copyOf_2 ?_
  refine j_bipush (n := 30) 30 (by decide) dX9_copyOf_3 ?_
  refine j_icmp_ge (off := 21) 26 dX9_copyOf_5 (by decide) (fun c1 => ?_) (fun c1 => ?_)
  · exact j_le [some (.ref t), some (.ref a), some (.int l2)] (And.intro rfl (And.intro rfl (And.intro rfl True.intro))) (v1 c1)
  · exact j_le [some (.ref t), some (.ref a), some (.int l2)] (And.intro rfl (And.intro rfl (And.intro rfl True.intro))) (v2 c1)
set_option maxRecDepth 100000 in
theorem bX9_copyOf_8 {sc : Nat × (Nat → Int32)} {h : jH} {Q : jQ} {a : Nat} {t : Nat} {l2 : Int32} (a_h : jI9 a) (t_h : jI9 t)
    (o1 : vp_in l2 30)
    (o2 : vp_in l2 30)
    (v1 : WP mX9_copyOf Q 2 [some (.ref t), some (.ref a), some (.int (l2 + 1))] [] (jG0 sc) (jput h (t + 1) l2.toNatClampNeg (h (a + 1) l2.toNatClampNeg)) (0, 0)) :
    WP mX9_copyOf Q 8 [some (.ref t), some (.ref a), some (.int l2)] [] (jG0 sc) h (0, 0) := by
  obtain ⟨a_lt4, a_K0, a_R0_0, a_K1, a_L1, a_R0_6, a_K2, a_L2, a_R0_7, a_K3, a_L3, a_R0_8, a_K4, a_L4⟩ := a_h
  have a_lt3 : a + 3 < jN (jG0 sc) := Nat.lt_of_succ_lt a_lt4
  have a_lt2 : a + 2 < jN (jG0 sc) := Nat.lt_of_succ_lt a_lt3
  have a_lt1 : a + 1 < jN (jG0 sc) := Nat.lt_of_succ_lt a_lt2
  have a_lt0 : a + 0 < jN (jG0 sc) := Nat.lt_of_succ_lt a_lt1
  obtain ⟨t_lt4, t_K0, t_R0_0, t_K1, t_L1, t_R0_6, t_K2, t_L2, t_R0_7, t_K3, t_L3, t_R0_8, t_K4, t_L4⟩ := t_h
  have t_lt3 : t + 3 < jN (jG0 sc) := Nat.lt_of_succ_lt t_lt4
  have t_lt2 : t + 2 < jN (jG0 sc) := Nat.lt_of_succ_lt t_lt3
  have t_lt1 : t + 1 < jN (jG0 sc) := Nat.lt_of_succ_lt t_lt2
  have t_lt0 : t + 0 < jN (jG0 sc) := Nat.lt_of_succ_lt t_lt1
  refine j_aload_n (i := 0) rfl dX9_copyOf_8 ?_
  refine j_getR (idx := 9) (ci := 9) (k := 0) (nest := false) (show (9, 9, 9, 0, false) ∈ jFT by decide) rfl (t_lt0) t_K0 (a := (t + 1)) t_R0_0 dX9_copyOf_9 ?_
  refine j_iload_n (i := 2) rfl dX9_copyOf_12 ?_
  refine j_aload_n (i := 1) rfl dX9_copyOf_13 ?_
  refine j_getR (idx := 9) (ci := 9) (k := 0) (nest := false) (show (9, 9, 9, 0, false) ∈ jFT by decide) rfl (a_lt0) a_K0 (a := (a + 1)) a_R0_0 dX9_copyOf_14 ?_
  refine j_iload_n (i := 2) rfl dX9_copyOf_17 ?_
  refine j_iald (a_lt1) a_K1 (by rw [show jL (jG0 sc) (a + 1) = 30 from a_L1]; exact o1) dX9_copyOf_18 ?_
  refine j_iast (t_lt1) t_K1 (by rw [show jL (jG0 sc) (t + 1) = 30 from t_L1]; exact o2) dX9_copyOf_19 ?_
  refine j_iinc (i := 2) (n := 1) rfl dX9_copyOf_20 (Nat.le_of_ble_eq_true rfl) ?_
  refine j_eqlv [some (.ref t), some (.ref a), some (.int (l2 + 1))] rfl ?_
  refine j_goto (off := -21) 2 dX9_copyOf_23 (by decide) ?_
  exact j_le [some (.ref t), some (.ref a), some (.int (l2 + 1))] (And.intro rfl (And.intro rfl (And.intro rfl True.intro))) v1
set_option maxRecDepth 100000 in
theorem bX9_copyOf_26 {sc : Nat × (Nat → Int32)} {h : jH} {Q : jQ} {a : Nat} {t : Nat} {l2 : Int32} (a_h : jI9 a) (t_h : jI9 t)
    (v1 : WP mX9_copyOf Q 28 [some (.ref t), some (.ref a), some (.int 0)] [] (jG0 sc) h (0, 0)) :
    WP mX9_copyOf Q 26 [some (.ref t), some (.ref a), some (.int l2)] [] (jG0 sc) h (0, 0) := by
  obtain ⟨a_lt4, a_K0, a_R0_0, a_K1, a_L1, a_R0_6, a_K2, a_L2, a_R0_7, a_K3, a_L3, a_R0_8, a_K4, a_L4⟩ := a_h
  have a_lt3 : a + 3 < jN (jG0 sc) := Nat.lt_of_succ_lt a_lt4
  have a_lt2 : a + 2 < jN (jG0 sc) := Nat.lt_of_succ_lt a_lt3
  have a_lt1 : a + 1 < jN (jG0 sc) := Nat.lt_of_succ_lt a_lt2
  have a_lt0 : a + 0 < jN (jG0 sc) := Nat.lt_of_succ_lt a_lt1
  obtain ⟨t_lt4, t_K0, t_R0_0, t_K1, t_L1, t_R0_6, t_K2, t_L2, t_R0_7, t_K3, t_L3, t_R0_8, t_K4, t_L4⟩ := t_h
  have t_lt3 : t + 3 < jN (jG0 sc) := Nat.lt_of_succ_lt t_lt4
  have t_lt2 : t + 2 < jN (jG0 sc) := Nat.lt_of_succ_lt t_lt3
  have t_lt1 : t + 1 < jN (jG0 sc) := Nat.lt_of_succ_lt t_lt2
  have t_lt0 : t + 0 < jN (jG0 sc) := Nat.lt_of_succ_lt t_lt1
  refine j_iconst (n := 0) 0 (by decide) dX9_copyOf_26 ?_
  refine j_istore_n (i := 2) dX9_copyOf_27 (Nat.le_of_ble_eq_true rfl) ?_
  exact j_le [some (.ref t), some (.ref a), some (.int 0)] (And.intro rfl (And.intro rfl (And.intro rfl True.intro))) v1
set_option maxRecDepth 100000 in
theorem bX9_copyOf_28 {sc : Nat × (Nat → Int32)} {h : jH} {Q : jQ} {a : Nat} {t : Nat} {l2 : Int32} (a_h : jI9 a) (t_h : jI9 t)
    (v1 : 8 ≤ l2 → WP mX9_copyOf Q 76 [some (.ref t), some (.ref a), some (.int l2)] [] (jG0 sc) h (0, 0))
    (v2 : ¬ 8 ≤ l2 → WP mX9_copyOf Q 34 [some (.ref t), some (.ref a), some (.int l2)] [] (jG0 sc) h (0, 0)) :
    WP mX9_copyOf Q 28 [some (.ref t), some (.ref a), some (.int l2)] [] (jG0 sc) h (0, 0) := by
  obtain ⟨a_lt4, a_K0, a_R0_0, a_K1, a_L1, a_R0_6, a_K2, a_L2, a_R0_7, a_K3, a_L3, a_R0_8, a_K4, a_L4⟩ := a_h
  have a_lt3 : a + 3 < jN (jG0 sc) := Nat.lt_of_succ_lt a_lt4
  have a_lt2 : a + 2 < jN (jG0 sc) := Nat.lt_of_succ_lt a_lt3
  have a_lt1 : a + 1 < jN (jG0 sc) := Nat.lt_of_succ_lt a_lt2
  have a_lt0 : a + 0 < jN (jG0 sc) := Nat.lt_of_succ_lt a_lt1
  obtain ⟨t_lt4, t_K0, t_R0_0, t_K1, t_L1, t_R0_6, t_K2, t_L2, t_R0_7, t_K3, t_L3, t_R0_8, t_K4, t_L4⟩ := t_h
  have t_lt3 : t + 3 < jN (jG0 sc) := Nat.lt_of_succ_lt t_lt4
  have t_lt2 : t + 2 < jN (jG0 sc) := Nat.lt_of_succ_lt t_lt3
  have t_lt1 : t + 1 < jN (jG0 sc) := Nat.lt_of_succ_lt t_lt2
  have t_lt0 : t + 0 < jN (jG0 sc) := Nat.lt_of_succ_lt t_lt1
  refine j_iload_n (i := 2) rfl dX9_copyOf_28 ?_
  refine j_bipush (n := 8) 8 (by decide) dX9_copyOf_29 ?_
  refine j_icmp_ge (off := 45) 76 dX9_copyOf_31 (by decide) (fun c1 => ?_) (fun c1 => ?_)
  · exact j_le [some (.ref t), some (.ref a), some (.int l2)] (And.intro rfl (And.intro rfl (And.intro rfl True.intro))) (v1 c1)
  · exact j_le [some (.ref t), some (.ref a), some (.int l2)] (And.intro rfl (And.intro rfl (And.intro rfl True.intro))) (v2 c1)
set_option maxRecDepth 100000 in
theorem bX9_copyOf_34 {sc : Nat × (Nat → Int32)} {h : jH} {Q : jQ} {a : Nat} {t : Nat} {l2 : Int32} (a_h : jI9 a) (t_h : jI9 t)
    (o1 : vp_in l2 8)
    (o2 : vp_in l2 8)
    (o3 : vp_in l2 8)
    (o4 : vp_in l2 8)
    (o5 : vp_in l2 8)
    (v1 : WP mX9_copyOf Q 69 [some (.ref t), some (.ref a), some (.int l2)] [.int ((jput (jput h (t + 2) l2.toNatClampNeg (h (a + 2) l2.toNatClampNeg)) (t + 3) l2.toNatClampNeg ((jput h (t + 2) l2.toNatClampNeg (h (a + 2) l2.toNatClampNeg)) (a + 3) l2.toNatClampNeg)) (a + 4) l2.toNatClampNeg), .int l2, .ref (t + 4)] (jG0 sc) (jput (jput h (t + 2) l2.toNatClampNeg (h (a + 2) l2.toNatClampNeg)) (t + 3) l2.toNatClampNeg ((jput h (t + 2) l2.toNatClampNeg (h (a + 2) l2.toNatClampNeg)) (a + 3) l2.toNatClampNeg)) (0, 0)) :
    WP mX9_copyOf Q 34 [some (.ref t), some (.ref a), some (.int l2)] [] (jG0 sc) h (0, 0) := by
  obtain ⟨a_lt4, a_K0, a_R0_0, a_K1, a_L1, a_R0_6, a_K2, a_L2, a_R0_7, a_K3, a_L3, a_R0_8, a_K4, a_L4⟩ := a_h
  have a_lt3 : a + 3 < jN (jG0 sc) := Nat.lt_of_succ_lt a_lt4
  have a_lt2 : a + 2 < jN (jG0 sc) := Nat.lt_of_succ_lt a_lt3
  have a_lt1 : a + 1 < jN (jG0 sc) := Nat.lt_of_succ_lt a_lt2
  have a_lt0 : a + 0 < jN (jG0 sc) := Nat.lt_of_succ_lt a_lt1
  obtain ⟨t_lt4, t_K0, t_R0_0, t_K1, t_L1, t_R0_6, t_K2, t_L2, t_R0_7, t_K3, t_L3, t_R0_8, t_K4, t_L4⟩ := t_h
  have t_lt3 : t + 3 < jN (jG0 sc) := Nat.lt_of_succ_lt t_lt4
  have t_lt2 : t + 2 < jN (jG0 sc) := Nat.lt_of_succ_lt t_lt3
  have t_lt1 : t + 1 < jN (jG0 sc) := Nat.lt_of_succ_lt t_lt2
  have t_lt0 : t + 0 < jN (jG0 sc) := Nat.lt_of_succ_lt t_lt1
  refine j_aload_n (i := 0) rfl dX9_copyOf_34 ?_
  refine j_getR (idx := 15) (ci := 9) (k := 6) (nest := false) (show (9, 15, 9, 6, false) ∈ jFT by decide) rfl (t_lt0) t_K0 (a := (t + 2)) t_R0_6 dX9_copyOf_35 ?_
  refine j_iload_n (i := 2) rfl dX9_copyOf_38 ?_
  refine j_aload_n (i := 1) rfl dX9_copyOf_39 ?_
  refine j_getR (idx := 15) (ci := 9) (k := 6) (nest := false) (show (9, 15, 9, 6, false) ∈ jFT by decide) rfl (a_lt0) a_K0 (a := (a + 2)) a_R0_6 dX9_copyOf_40 ?_
  refine j_iload_n (i := 2) rfl dX9_copyOf_43 ?_
  refine j_iald (a_lt2) a_K2 (by rw [show jL (jG0 sc) (a + 2) = 8 from a_L2]; exact o1) dX9_copyOf_44 ?_
  refine j_iast (t_lt2) t_K2 (by rw [show jL (jG0 sc) (t + 2) = 8 from t_L2]; exact o2) dX9_copyOf_45 ?_
  refine j_aload_n (i := 0) rfl dX9_copyOf_46 ?_
  refine j_getR (idx := 18) (ci := 9) (k := 7) (nest := false) (show (9, 18, 9, 7, false) ∈ jFT by decide) rfl (t_lt0) t_K0 (a := (t + 3)) t_R0_7 dX9_copyOf_47 ?_
  refine j_iload_n (i := 2) rfl dX9_copyOf_50 ?_
  refine j_aload_n (i := 1) rfl dX9_copyOf_51 ?_
  refine j_getR (idx := 18) (ci := 9) (k := 7) (nest := false) (show (9, 18, 9, 7, false) ∈ jFT by decide) rfl (a_lt0) a_K0 (a := (a + 3)) a_R0_7 dX9_copyOf_52 ?_
  refine j_iload_n (i := 2) rfl dX9_copyOf_55 ?_
  refine j_iald (a_lt3) a_K3 (by rw [show jL (jG0 sc) (a + 3) = 8 from a_L3]; exact o3) dX9_copyOf_56 ?_
  refine j_iast (t_lt3) t_K3 (by rw [show jL (jG0 sc) (t + 3) = 8 from t_L3]; exact o4) dX9_copyOf_57 ?_
  refine j_aload_n (i := 0) rfl dX9_copyOf_58 ?_
  refine j_getR (idx := 21) (ci := 9) (k := 8) (nest := false) (show (9, 21, 9, 8, false) ∈ jFT by decide) rfl (t_lt0) t_K0 (a := (t + 4)) t_R0_8 dX9_copyOf_59 ?_
  refine j_iload_n (i := 2) rfl dX9_copyOf_62 ?_
  refine j_aload_n (i := 1) rfl dX9_copyOf_63 ?_
  refine j_getR (idx := 21) (ci := 9) (k := 8) (nest := false) (show (9, 21, 9, 8, false) ∈ jFT by decide) rfl (a_lt0) a_K0 (a := (a + 4)) a_R0_8 dX9_copyOf_64 ?_
  refine j_iload_n (i := 2) rfl dX9_copyOf_67 ?_
  refine j_iald (a_lt4) a_K4 (by rw [show jL (jG0 sc) (a + 4) = 8 from a_L4]; exact o5) dX9_copyOf_68 ?_
  exact j_le [some (.ref t), some (.ref a), some (.int l2)] (And.intro rfl (And.intro rfl (And.intro rfl True.intro))) v1
set_option maxRecDepth 100000 in
theorem bX9_copyOf_69 {sc : Nat × (Nat → Int32)} {h : jH} {Q : jQ} {a : Nat} {t : Nat} {l2 s0 s1 : Int32} (a_h : jI9 a) (t_h : jI9 t)
    (o1 : vp_in s1 8)
    (v1 : WP mX9_copyOf Q 28 [some (.ref t), some (.ref a), some (.int (l2 + 1))] [] (jG0 sc) (jput h (t + 4) s1.toNatClampNeg s0) (0, 0)) :
    WP mX9_copyOf Q 69 [some (.ref t), some (.ref a), some (.int l2)] [.int s0, .int s1, .ref (t + 4)] (jG0 sc) h (0, 0) := by
  obtain ⟨a_lt4, a_K0, a_R0_0, a_K1, a_L1, a_R0_6, a_K2, a_L2, a_R0_7, a_K3, a_L3, a_R0_8, a_K4, a_L4⟩ := a_h
  have a_lt3 : a + 3 < jN (jG0 sc) := Nat.lt_of_succ_lt a_lt4
  have a_lt2 : a + 2 < jN (jG0 sc) := Nat.lt_of_succ_lt a_lt3
  have a_lt1 : a + 1 < jN (jG0 sc) := Nat.lt_of_succ_lt a_lt2
  have a_lt0 : a + 0 < jN (jG0 sc) := Nat.lt_of_succ_lt a_lt1
  obtain ⟨t_lt4, t_K0, t_R0_0, t_K1, t_L1, t_R0_6, t_K2, t_L2, t_R0_7, t_K3, t_L3, t_R0_8, t_K4, t_L4⟩ := t_h
  have t_lt3 : t + 3 < jN (jG0 sc) := Nat.lt_of_succ_lt t_lt4
  have t_lt2 : t + 2 < jN (jG0 sc) := Nat.lt_of_succ_lt t_lt3
  have t_lt1 : t + 1 < jN (jG0 sc) := Nat.lt_of_succ_lt t_lt2
  have t_lt0 : t + 0 < jN (jG0 sc) := Nat.lt_of_succ_lt t_lt1
  refine j_iast (t_lt4) t_K4 (by rw [show jL (jG0 sc) (t + 4) = 8 from t_L4]; exact o1) dX9_copyOf_69 ?_
  refine j_iinc (i := 2) (n := 1) rfl dX9_copyOf_70 (Nat.le_of_ble_eq_true rfl) ?_
  refine j_eqlv [some (.ref t), some (.ref a), some (.int (l2 + 1))] rfl ?_
  refine j_goto (off := -45) 28 dX9_copyOf_73 (by decide) ?_
  exact j_le [some (.ref t), some (.ref a), some (.int (l2 + 1))] (And.intro rfl (And.intro rfl (And.intro rfl True.intro))) v1
set_option maxRecDepth 100000 in
theorem bX9_copyOf_76 {sc : Nat × (Nat → Int32)} {h : jH} {Q : jQ} {a : Nat} {t : Nat} {l2 : Int32} (a_h : jI9 a) (t_h : jI9 t)
    (v1 : WP mX9_copyOf Q 121 [some (.ref t), some (.ref a), some (.int l2)] [.int ((jput (jput (jput (jput (jput h t 1 (h a 1)) t 2 ((jput h t 1 (h a 1)) a 2)) t 3 ((jput (jput h t 1 (h a 1)) t 2 ((jput h t 1 (h a 1)) a 2)) a 3)) t 4 ((jput (jput (jput h t 1 (h a 1)) t 2 ((jput h t 1 (h a 1)) a 2)) t 3 ((jput (jput h t 1 (h a 1)) t 2 ((jput h t 1 (h a 1)) a 2)) a 3)) a 4)) t 5 ((jput (jput (jput (jput h t 1 (h a 1)) t 2 ((jput h t 1 (h a 1)) a 2)) t 3 ((jput (jput h t 1 (h a 1)) t 2 ((jput h t 1 (h a 1)) a 2)) a 3)) t 4 ((jput (jput (jput h t 1 (h a 1)) t 2 ((jput h t 1 (h a 1)) a 2)) t 3 ((jput (jput h t 1 (h a 1)) t 2 ((jput h t 1 (h a 1)) a 2)) a 3)) a 4)) a 5)) a 9), .ref t] (jG0 sc) (jput (jput (jput (jput (jput h t 1 (h a 1)) t 2 ((jput h t 1 (h a 1)) a 2)) t 3 ((jput (jput h t 1 (h a 1)) t 2 ((jput h t 1 (h a 1)) a 2)) a 3)) t 4 ((jput (jput (jput h t 1 (h a 1)) t 2 ((jput h t 1 (h a 1)) a 2)) t 3 ((jput (jput h t 1 (h a 1)) t 2 ((jput h t 1 (h a 1)) a 2)) a 3)) a 4)) t 5 ((jput (jput (jput (jput h t 1 (h a 1)) t 2 ((jput h t 1 (h a 1)) a 2)) t 3 ((jput (jput h t 1 (h a 1)) t 2 ((jput h t 1 (h a 1)) a 2)) a 3)) t 4 ((jput (jput (jput h t 1 (h a 1)) t 2 ((jput h t 1 (h a 1)) a 2)) t 3 ((jput (jput h t 1 (h a 1)) t 2 ((jput h t 1 (h a 1)) a 2)) a 3)) a 4)) a 5)) (0, 0)) :
    WP mX9_copyOf Q 76 [some (.ref t), some (.ref a), some (.int l2)] [] (jG0 sc) h (0, 0) := by
  obtain ⟨a_lt4, a_K0, a_R0_0, a_K1, a_L1, a_R0_6, a_K2, a_L2, a_R0_7, a_K3, a_L3, a_R0_8, a_K4, a_L4⟩ := a_h
  have a_lt3 : a + 3 < jN (jG0 sc) := Nat.lt_of_succ_lt a_lt4
  have a_lt2 : a + 2 < jN (jG0 sc) := Nat.lt_of_succ_lt a_lt3
  have a_lt1 : a + 1 < jN (jG0 sc) := Nat.lt_of_succ_lt a_lt2
  have a_lt0 : a + 0 < jN (jG0 sc) := Nat.lt_of_succ_lt a_lt1
  obtain ⟨t_lt4, t_K0, t_R0_0, t_K1, t_L1, t_R0_6, t_K2, t_L2, t_R0_7, t_K3, t_L3, t_R0_8, t_K4, t_L4⟩ := t_h
  have t_lt3 : t + 3 < jN (jG0 sc) := Nat.lt_of_succ_lt t_lt4
  have t_lt2 : t + 2 < jN (jG0 sc) := Nat.lt_of_succ_lt t_lt3
  have t_lt1 : t + 1 < jN (jG0 sc) := Nat.lt_of_succ_lt t_lt2
  have t_lt0 : t + 0 < jN (jG0 sc) := Nat.lt_of_succ_lt t_lt1
  refine j_aload_n (i := 0) rfl dX9_copyOf_76 ?_
  refine j_aload_n (i := 1) rfl dX9_copyOf_77 ?_
  refine j_getI (idx := 24) (ci := 9) (k := 1) (nest := false) (show (9, 24, 9, 1, false) ∈ jFT by decide) rfl (a_lt0) a_K0 dX9_copyOf_78 ?_
  refine j_putI (idx := 24) (ci := 9) (k := 1) (nest := false) (show (9, 24, 9, 1, false) ∈ jFT by decide) rfl rfl rfl rfl (t_lt0) t_K0 dX9_copyOf_81 ?_
  refine j_aload_n (i := 0) rfl dX9_copyOf_84 ?_
  refine j_aload_n (i := 1) rfl dX9_copyOf_85 ?_
  refine j_getI (idx := 28) (ci := 9) (k := 2) (nest := false) (show (9, 28, 9, 2, false) ∈ jFT by decide) rfl (a_lt0) a_K0 dX9_copyOf_86 ?_
  refine j_putI (idx := 28) (ci := 9) (k := 2) (nest := false) (show (9, 28, 9, 2, false) ∈ jFT by decide) rfl rfl rfl rfl (t_lt0) t_K0 dX9_copyOf_89 ?_
  refine j_aload_n (i := 0) rfl dX9_copyOf_92 ?_
  refine j_aload_n (i := 1) rfl dX9_copyOf_93 ?_
  refine j_getI (idx := 31) (ci := 9) (k := 3) (nest := false) (show (9, 31, 9, 3, false) ∈ jFT by decide) rfl (a_lt0) a_K0 dX9_copyOf_94 ?_
  refine j_putI (idx := 31) (ci := 9) (k := 3) (nest := false) (show (9, 31, 9, 3, false) ∈ jFT by decide) rfl rfl rfl rfl (t_lt0) t_K0 dX9_copyOf_97 ?_
  refine j_aload_n (i := 0) rfl dX9_copyOf_100 ?_
  refine j_aload_n (i := 1) rfl dX9_copyOf_101 ?_
  refine j_getI (idx := 34) (ci := 9) (k := 4) (nest := false) (show (9, 34, 9, 4, false) ∈ jFT by decide) rfl (a_lt0) a_K0 dX9_copyOf_102 ?_
  refine j_putI (idx := 34) (ci := 9) (k := 4) (nest := false) (show (9, 34, 9, 4, false) ∈ jFT by decide) rfl rfl rfl rfl (t_lt0) t_K0 dX9_copyOf_105 ?_
  refine j_aload_n (i := 0) rfl dX9_copyOf_108 ?_
  refine j_aload_n (i := 1) rfl dX9_copyOf_109 ?_
  refine j_getI (idx := 37) (ci := 9) (k := 5) (nest := false) (show (9, 37, 9, 5, false) ∈ jFT by decide) rfl (a_lt0) a_K0 dX9_copyOf_110 ?_
  refine j_putI (idx := 37) (ci := 9) (k := 5) (nest := false) (show (9, 37, 9, 5, false) ∈ jFT by decide) rfl rfl rfl rfl (t_lt0) t_K0 dX9_copyOf_113 ?_
  refine j_aload_n (i := 0) rfl dX9_copyOf_116 ?_
  refine j_aload_n (i := 1) rfl dX9_copyOf_117 ?_
  refine j_getI (idx := 40) (ci := 9) (k := 9) (nest := false) (show (9, 40, 9, 9, false) ∈ jFT by decide) rfl (a_lt0) a_K0 dX9_copyOf_118 ?_
  exact j_le [some (.ref t), some (.ref a), some (.int l2)] (And.intro rfl (And.intro rfl (And.intro rfl True.intro))) v1
set_option maxRecDepth 100000 in
theorem bX9_copyOf_121 {sc : Nat × (Nat → Int32)} {h : jH} {Q : jQ} {a : Nat} {t : Nat} {l2 s0 : Int32} (a_h : jI9 a) (t_h : jI9 t)
    (v1 : Q (.inl none) (jG0 sc) (jput h t 9 s0)) :
    WP mX9_copyOf Q 121 [some (.ref t), some (.ref a), some (.int l2)] [.int s0, .ref t] (jG0 sc) h (0, 0) := by
  obtain ⟨a_lt4, a_K0, a_R0_0, a_K1, a_L1, a_R0_6, a_K2, a_L2, a_R0_7, a_K3, a_L3, a_R0_8, a_K4, a_L4⟩ := a_h
  have a_lt3 : a + 3 < jN (jG0 sc) := Nat.lt_of_succ_lt a_lt4
  have a_lt2 : a + 2 < jN (jG0 sc) := Nat.lt_of_succ_lt a_lt3
  have a_lt1 : a + 1 < jN (jG0 sc) := Nat.lt_of_succ_lt a_lt2
  have a_lt0 : a + 0 < jN (jG0 sc) := Nat.lt_of_succ_lt a_lt1
  obtain ⟨t_lt4, t_K0, t_R0_0, t_K1, t_L1, t_R0_6, t_K2, t_L2, t_R0_7, t_K3, t_L3, t_R0_8, t_K4, t_L4⟩ := t_h
  have t_lt3 : t + 3 < jN (jG0 sc) := Nat.lt_of_succ_lt t_lt4
  have t_lt2 : t + 2 < jN (jG0 sc) := Nat.lt_of_succ_lt t_lt3
  have t_lt1 : t + 1 < jN (jG0 sc) := Nat.lt_of_succ_lt t_lt2
  have t_lt0 : t + 0 < jN (jG0 sc) := Nat.lt_of_succ_lt t_lt1
  refine j_putI (idx := 40) (ci := 9) (k := 9) (nest := false) (show (9, 40, 9, 9, false) ∈ jFT by decide) rfl rfl rfl rfl (t_lt0) t_K0 dX9_copyOf_121 ?_
  exact j_vret rfl (Nat.zero_le _) (Nat.zero_le _) dX9_copyOf_124 v1
set_option maxRecDepth 100000 in
theorem rX9_copyOf_0 {sc : Nat × (Nat → Int32)} {h : jH} {Q : jQ} {a : Nat} {t : Nat} (a_h : jI9 a) (t_h : jI9 t)
    (v1 : WP mX9_copyOf Q 2 [some (.ref t), some (.ref a), some (.int 0)] [] (jG0 sc) h (0, 0)) :
    WP mX9_copyOf Q 0 [some (.ref t), some (.ref a), none] [] (jG0 sc) h (0, 0) := by
  exact (bX9_copyOf_0 a_h t_h v1)
set_option maxRecDepth 100000 in
theorem rX9_copyOf_2 {sc : Nat × (Nat → Int32)} {h : jH} {Q : jQ} {a : Nat} {t : Nat} {l2 : Int32} (a_h : jI9 a) (t_h : jI9 t)
    (v1 : 30 ≤ l2 → WP mX9_copyOf Q 28 [some (.ref t), some (.ref a), some (.int 0)] [] (jG0 sc) h (0, 0))
    (o1 : ¬ 30 ≤ l2 → vp_in l2 30)
    (v2 : ¬ 30 ≤ l2 → WP mX9_copyOf Q 2 [some (.ref t), some (.ref a), some (.int (l2 + 1))] [] (jG0 sc) (jput h (t + 1) l2.toNatClampNeg (h (a + 1) l2.toNatClampNeg)) (0, 0)) :
    WP mX9_copyOf Q 2 [some (.ref t), some (.ref a), some (.int l2)] [] (jG0 sc) h (0, 0) := by
  exact (bX9_copyOf_2 a_h t_h (fun c1 => (bX9_copyOf_26 a_h t_h (v1 c1))) (fun c1 => (bX9_copyOf_8 a_h t_h (o1 c1) (o1 c1) (v2 c1))))
set_option maxRecDepth 100000 in
theorem rX9_copyOf_28 {sc : Nat × (Nat → Int32)} {h : jH} {Q : jQ} {a : Nat} {t : Nat} {l2 : Int32} (a_h : jI9 a) (t_h : jI9 t)
    (v1 : 8 ≤ l2 → Q (.inl none) (jG0 sc) (jput (jput (jput (jput (jput (jput h t 1 (h a 1)) t 2 ((jput h t 1 (h a 1)) a 2)) t 3 ((jput (jput h t 1 (h a 1)) t 2 ((jput h t 1 (h a 1)) a 2)) a 3)) t 4 ((jput (jput (jput h t 1 (h a 1)) t 2 ((jput h t 1 (h a 1)) a 2)) t 3 ((jput (jput h t 1 (h a 1)) t 2 ((jput h t 1 (h a 1)) a 2)) a 3)) a 4)) t 5 ((jput (jput (jput (jput h t 1 (h a 1)) t 2 ((jput h t 1 (h a 1)) a 2)) t 3 ((jput (jput h t 1 (h a 1)) t 2 ((jput h t 1 (h a 1)) a 2)) a 3)) t 4 ((jput (jput (jput h t 1 (h a 1)) t 2 ((jput h t 1 (h a 1)) a 2)) t 3 ((jput (jput h t 1 (h a 1)) t 2 ((jput h t 1 (h a 1)) a 2)) a 3)) a 4)) a 5)) t 9 ((jput (jput (jput (jput (jput h t 1 (h a 1)) t 2 ((jput h t 1 (h a 1)) a 2)) t 3 ((jput (jput h t 1 (h a 1)) t 2 ((jput h t 1 (h a 1)) a 2)) a 3)) t 4 ((jput (jput (jput h t 1 (h a 1)) t 2 ((jput h t 1 (h a 1)) a 2)) t 3 ((jput (jput h t 1 (h a 1)) t 2 ((jput h t 1 (h a 1)) a 2)) a 3)) a 4)) t 5 ((jput (jput (jput (jput h t 1 (h a 1)) t 2 ((jput h t 1 (h a 1)) a 2)) t 3 ((jput (jput h t 1 (h a 1)) t 2 ((jput h t 1 (h a 1)) a 2)) a 3)) t 4 ((jput (jput (jput h t 1 (h a 1)) t 2 ((jput h t 1 (h a 1)) a 2)) t 3 ((jput (jput h t 1 (h a 1)) t 2 ((jput h t 1 (h a 1)) a 2)) a 3)) a 4)) a 5)) a 9)))
    (o1 : ¬ 8 ≤ l2 → vp_in l2 8)
    (v2 : ¬ 8 ≤ l2 → WP mX9_copyOf Q 28 [some (.ref t), some (.ref a), some (.int (l2 + 1))] [] (jG0 sc) (jput (jput (jput h (t + 2) l2.toNatClampNeg (h (a + 2) l2.toNatClampNeg)) (t + 3) l2.toNatClampNeg ((jput h (t + 2) l2.toNatClampNeg (h (a + 2) l2.toNatClampNeg)) (a + 3) l2.toNatClampNeg)) (t + 4) l2.toNatClampNeg ((jput (jput h (t + 2) l2.toNatClampNeg (h (a + 2) l2.toNatClampNeg)) (t + 3) l2.toNatClampNeg ((jput h (t + 2) l2.toNatClampNeg (h (a + 2) l2.toNatClampNeg)) (a + 3) l2.toNatClampNeg)) (a + 4) l2.toNatClampNeg)) (0, 0)) :
    WP mX9_copyOf Q 28 [some (.ref t), some (.ref a), some (.int l2)] [] (jG0 sc) h (0, 0) := by
  exact (bX9_copyOf_28 a_h t_h (fun c1 => (bX9_copyOf_76 a_h t_h (bX9_copyOf_121 a_h t_h (v1 c1)))) (fun c1 => (bX9_copyOf_34 a_h t_h (o1 c1) (o1 c1) (o1 c1) (o1 c1) (o1 c1) (bX9_copyOf_69 a_h t_h (o1 c1) (v2 c1)))))
