theorem dX12_notes_0 : decode (mC mX12_notes) 0 = .ok (.aload_n 0, 1) := by decide +kernel
theorem dX12_notes_1 : decode (mC mX12_notes) 1 = .ok (.getfield 13, 3) := by decide +kernel
theorem dX12_notes_4 : decode (mC mX12_notes) 4 = .ok (.sipush 254, 3) := by decide +kernel
theorem dX12_notes_7 : decode (mC mX12_notes) 7 = .ok (.iaload, 1) := by decide +kernel
theorem dX12_notes_8 : decode (mC mX12_notes) 8 = .ok (.bipush 8, 2) := by decide +kernel
theorem dX12_notes_10 : decode (mC mX12_notes) 10 = .ok (.if_icmp .ne 51, 3) := by decide +kernel
theorem dX12_notes_13 : decode (mC mX12_notes) 13 = .ok (.iconst 3, 1) := by decide +kernel
theorem dX12_notes_14 : decode (mC mX12_notes) 14 = .ok (.istore_n 3, 1) := by decide +kernel
theorem dX12_notes_15 : decode (mC mX12_notes) 15 = .ok (.iload_n 3, 1) := by decide +kernel
theorem dX12_notes_16 : decode (mC mX12_notes) 16 = .ok (.bipush 24, 2) := by decide +kernel
theorem dX12_notes_18 : decode (mC mX12_notes) 18 = .ok (.if_icmp .ge 31, 3) := by decide +kernel
theorem dX12_notes_21 : decode (mC mX12_notes) 21 = .ok (.aload_n 0, 1) := by decide +kernel
theorem dX12_notes_22 : decode (mC mX12_notes) 22 = .ok (.getfield 13, 3) := by decide +kernel
theorem dX12_notes_25 : decode (mC mX12_notes) 25 = .ok (.sipush 255, 3) := by decide +kernel
theorem dX12_notes_28 : decode (mC mX12_notes) 28 = .ok (.iload_n 3, 1) := by decide +kernel
theorem dX12_notes_29 : decode (mC mX12_notes) 29 = .ok (.iadd, 1) := by decide +kernel
theorem dX12_notes_30 : decode (mC mX12_notes) 30 = .ok (.iconst 3, 1) := by decide +kernel
theorem dX12_notes_31 : decode (mC mX12_notes) 31 = .ok (.isub, 1) := by decide +kernel
theorem dX12_notes_32 : decode (mC mX12_notes) 32 = .ok (.aload_n 0, 1) := by decide +kernel
theorem dX12_notes_33 : decode (mC mX12_notes) 33 = .ok (.getfield 13, 3) := by decide +kernel
theorem dX12_notes_36 : decode (mC mX12_notes) 36 = .ok (.sipush 255, 3) := by decide +kernel
theorem dX12_notes_39 : decode (mC mX12_notes) 39 = .ok (.iload_n 3, 1) := by decide +kernel
theorem dX12_notes_40 : decode (mC mX12_notes) 40 = .ok (.iadd, 1) := by decide +kernel
theorem dX12_notes_41 : decode (mC mX12_notes) 41 = .ok (.iaload, 1) := by decide +kernel
theorem dX12_notes_42 : decode (mC mX12_notes) 42 = .ok (.iastore, 1) := by decide +kernel
theorem dX12_notes_43 : decode (mC mX12_notes) 43 = .ok (.iinc 3 1, 3) := by decide +kernel
theorem dX12_notes_46 : decode (mC mX12_notes) 46 = .ok (.goto (-31), 3) := by decide +kernel
theorem dX12_notes_49 : decode (mC mX12_notes) 49 = .ok (.aload_n 0, 1) := by decide +kernel
theorem dX12_notes_50 : decode (mC mX12_notes) 50 = .ok (.getfield 13, 3) := by decide +kernel
theorem dX12_notes_53 : decode (mC mX12_notes) 53 = .ok (.sipush 254, 3) := by decide +kernel
theorem dX12_notes_56 : decode (mC mX12_notes) 56 = .ok (.dup2, 1) := by decide +kernel
theorem dX12_notes_57 : decode (mC mX12_notes) 57 = .ok (.iaload, 1) := by decide +kernel
theorem dX12_notes_58 : decode (mC mX12_notes) 58 = .ok (.iconst 1, 1) := by decide +kernel
theorem dX12_notes_59 : decode (mC mX12_notes) 59 = .ok (.isub, 1) := by decide +kernel
theorem dX12_notes_60 : decode (mC mX12_notes) 60 = .ok (.iastore, 1) := by decide +kernel
theorem dX12_notes_61 : decode (mC mX12_notes) 61 = .ok (.sipush 255, 3) := by decide +kernel
theorem dX12_notes_64 : decode (mC mX12_notes) 64 = .ok (.iconst 3, 1) := by decide +kernel
theorem dX12_notes_65 : decode (mC mX12_notes) 65 = .ok (.aload_n 0, 1) := by decide +kernel
theorem dX12_notes_66 : decode (mC mX12_notes) 66 = .ok (.getfield 13, 3) := by decide +kernel
theorem dX12_notes_69 : decode (mC mX12_notes) 69 = .ok (.sipush 254, 3) := by decide +kernel
theorem dX12_notes_72 : decode (mC mX12_notes) 72 = .ok (.iaload, 1) := by decide +kernel
theorem dX12_notes_73 : decode (mC mX12_notes) 73 = .ok (.imul, 1) := by decide +kernel
theorem dX12_notes_74 : decode (mC mX12_notes) 74 = .ok (.iadd, 1) := by decide +kernel
theorem dX12_notes_75 : decode (mC mX12_notes) 75 = .ok (.istore_n 3, 1) := by decide +kernel
theorem dX12_notes_76 : decode (mC mX12_notes) 76 = .ok (.aload_n 0, 1) := by decide +kernel
theorem dX12_notes_77 : decode (mC mX12_notes) 77 = .ok (.getfield 13, 3) := by decide +kernel
theorem dX12_notes_80 : decode (mC mX12_notes) 80 = .ok (.iload_n 3, 1) := by decide +kernel
theorem dX12_notes_81 : decode (mC mX12_notes) 81 = .ok (.iload_n 1, 1) := by decide +kernel
theorem dX12_notes_82 : decode (mC mX12_notes) 82 = .ok (.iastore, 1) := by decide +kernel
theorem dX12_notes_83 : decode (mC mX12_notes) 83 = .ok (.aload_n 0, 1) := by decide +kernel
theorem dX12_notes_84 : decode (mC mX12_notes) 84 = .ok (.getfield 13, 3) := by decide +kernel
theorem dX12_notes_87 : decode (mC mX12_notes) 87 = .ok (.iload_n 3, 1) := by decide +kernel
theorem dX12_notes_88 : decode (mC mX12_notes) 88 = .ok (.iconst 1, 1) := by decide +kernel
theorem dX12_notes_89 : decode (mC mX12_notes) 89 = .ok (.iadd, 1) := by decide +kernel
theorem dX12_notes_90 : decode (mC mX12_notes) 90 = .ok (.iload_n 2, 1) := by decide +kernel
theorem dX12_notes_91 : decode (mC mX12_notes) 91 = .ok (.iastore, 1) := by decide +kernel
theorem dX12_notes_92 : decode (mC mX12_notes) 92 = .ok (.aload_n 0, 1) := by decide +kernel
theorem dX12_notes_93 : decode (mC mX12_notes) 93 = .ok (.getfield 13, 3) := by decide +kernel
theorem dX12_notes_96 : decode (mC mX12_notes) 96 = .ok (.iload_n 3, 1) := by decide +kernel
theorem dX12_notes_97 : decode (mC mX12_notes) 97 = .ok (.iconst 2, 1) := by decide +kernel
theorem dX12_notes_98 : decode (mC mX12_notes) 98 = .ok (.iadd, 1) := by decide +kernel
theorem dX12_notes_99 : decode (mC mX12_notes) 99 = .ok (.iload_n 2, 1) := by decide +kernel
theorem dX12_notes_100 : decode (mC mX12_notes) 100 = .ok (.iastore, 1) := by decide +kernel
theorem dX12_notes_101 : decode (mC mX12_notes) 101 = .ok (.aload_n 0, 1) := by decide +kernel
theorem dX12_notes_102 : decode (mC mX12_notes) 102 = .ok (.getfield 13, 3) := by decide +kernel
theorem dX12_notes_105 : decode (mC mX12_notes) 105 = .ok (.sipush 254, 3) := by decide +kernel
theorem dX12_notes_108 : decode (mC mX12_notes) 108 = .ok (.dup2, 1) := by decide +kernel
theorem dX12_notes_109 : decode (mC mX12_notes) 109 = .ok (.iaload, 1) := by decide +kernel
theorem dX12_notes_110 : decode (mC mX12_notes) 110 = .ok (.iconst 1, 1) := by decide +kernel
theorem dX12_notes_111 : decode (mC mX12_notes) 111 = .ok (.iadd, 1) := by decide +kernel
theorem dX12_notes_112 : decode (mC mX12_notes) 112 = .ok (.iastore, 1) := by decide +kernel
theorem dX12_notes_113 : decode (mC mX12_notes) 113 = .ok (.return_, 1) := by decide +kernel
set_option maxRecDepth 100000 in
theorem bX12_notes_0 {sc : Nat × (Nat → Int32)} {h : jH} {Q : jQ} {l1 l2 : Int32}
    (v1 : ¬ (h 160 254) = 8 → WP mX12_notes Q 61 [some (.ref 159), some (.int l1), some (.int l2), none] [] (jG0 sc) h (0, 0))
    (v2 : (h 160 254) = 8 → WP mX12_notes Q 13 [some (.ref 159), some (.int l1), some (.int l2), none] [] (jG0 sc) h (0, 0)) :
    WP mX12_notes Q 0 [some (.ref 159), some (.int l1), some (.int l2), none] [] (jG0 sc) h (0, 0) := by
  refine j_aload_n (i := 0) rfl dX12_notes_0 ?_
  refine j_getR (idx := 13) (ci := 12) (k := 1) (nest := false) (show (12, 13, 12, 1, false) ∈ jFT by decide) rfl (Nat.le_of_ble_eq_true rfl) rfl (a := 160) rfl dX12_notes_1 ?_
  refine j_sipush (n := 254) 254 (by decide) dX12_notes_4 ?_
  refine j_iald (Nat.le_of_ble_eq_true rfl) rfl (jinl (n := 1454) (by decide)) dX12_notes_7 ?_
  refine j_eqst [.int (h 160 254)] (by rfl) ?_
  refine j_bipush (n := 8) 8 (by decide) dX12_notes_8 ?_
  refine j_icmp_ne (off := 51) 61 dX12_notes_10 (by decide) (fun c1 => ?_) (fun c1 => ?_)
  · exact j_le [some (.ref 159), some (.int l1), some (.int l2), none] (And.intro rfl (And.intro rfl (And.intro rfl True.intro))) (v1 c1)
  · exact j_le [some (.ref 159), some (.int l1), some (.int l2), none] (And.intro rfl (And.intro rfl (And.intro rfl True.intro))) (v2 c1)
set_option maxRecDepth 100000 in
theorem bX12_notes_13 {sc : Nat × (Nat → Int32)} {h : jH} {Q : jQ} {l1 l2 : Int32}
    (v1 : WP mX12_notes Q 15 [some (.ref 159), some (.int l1), some (.int l2), some (.int 3)] [] (jG0 sc) h (0, 0)) :
    WP mX12_notes Q 13 [some (.ref 159), some (.int l1), some (.int l2), none] [] (jG0 sc) h (0, 0) := by
  refine j_iconst (n := 3) 3 (by decide) dX12_notes_13 ?_
  refine j_istore_n (i := 3) dX12_notes_14 (Nat.le_of_ble_eq_true rfl) ?_
  exact j_le [some (.ref 159), some (.int l1), some (.int l2), some (.int 3)] (And.intro rfl (And.intro rfl (And.intro rfl (And.intro rfl True.intro)))) v1
set_option maxRecDepth 100000 in
theorem bX12_notes_15 {sc : Nat × (Nat → Int32)} {h : jH} {Q : jQ} {l1 l2 l3 : Int32}
    (v1 : 24 ≤ l3 → WP mX12_notes Q 49 [some (.ref 159), some (.int l1), some (.int l2), some (.int l3)] [] (jG0 sc) h (0, 0))
    (v2 : ¬ 24 ≤ l3 → WP mX12_notes Q 21 [some (.ref 159), some (.int l1), some (.int l2), some (.int l3)] [] (jG0 sc) h (0, 0)) :
    WP mX12_notes Q 15 [some (.ref 159), some (.int l1), some (.int l2), some (.int l3)] [] (jG0 sc) h (0, 0) := by
  refine j_iload_n (i := 3) rfl dX12_notes_15 ?_
  refine j_bipush (n := 24) 24 (by decide) dX12_notes_16 ?_
  refine j_icmp_ge (off := 31) 49 dX12_notes_18 (by decide) (fun c1 => ?_) (fun c1 => ?_)
  · exact j_le [some (.ref 159), some (.int l1), some (.int l2), some (.int l3)] (And.intro rfl (And.intro rfl (And.intro rfl (And.intro rfl True.intro)))) (v1 c1)
  · exact j_le [some (.ref 159), some (.int l1), some (.int l2), some (.int l3)] (And.intro rfl (And.intro rfl (And.intro rfl (And.intro rfl True.intro)))) (v2 c1)
set_option maxRecDepth 100000 in
theorem bX12_notes_21 {sc : Nat × (Nat → Int32)} {h : jH} {Q : jQ} {l1 l2 l3 : Int32}
    (o1 : vp_in (255 + l3) 1454)
    (o2 : vp_in ((255 + l3) - 3) 1454)
    (v1 : WP mX12_notes Q 15 [some (.ref 159), some (.int l1), some (.int l2), some (.int (l3 + 1))] [] (jG0 sc) (jput h 160 (((255 + l3) - 3).toNatClampNeg) (h 160 ((255 + l3).toNatClampNeg))) (0, 0)) :
    WP mX12_notes Q 21 [some (.ref 159), some (.int l1), some (.int l2), some (.int l3)] [] (jG0 sc) h (0, 0) := by
  refine j_aload_n (i := 0) rfl dX12_notes_21 ?_
  refine j_getR (idx := 13) (ci := 12) (k := 1) (nest := false) (show (12, 13, 12, 1, false) ∈ jFT by decide) rfl (Nat.le_of_ble_eq_true rfl) rfl (a := 160) rfl dX12_notes_22 ?_
  refine j_sipush (n := 255) 255 (by decide) dX12_notes_25 ?_
  refine j_iload_n (i := 3) rfl dX12_notes_28 ?_
  refine j_iadd dX12_notes_29 ?_
  refine j_iconst (n := 3) 3 (by decide) dX12_notes_30 ?_
  refine j_isub dX12_notes_31 ?_
  refine j_aload_n (i := 0) rfl dX12_notes_32 ?_
  refine j_getR (idx := 13) (ci := 12) (k := 1) (nest := false) (show (12, 13, 12, 1, false) ∈ jFT by decide) rfl (Nat.le_of_ble_eq_true rfl) rfl (a := 160) rfl dX12_notes_33 ?_
  refine j_sipush (n := 255) 255 (by decide) dX12_notes_36 ?_
  refine j_iload_n (i := 3) rfl dX12_notes_39 ?_
  refine j_iadd dX12_notes_40 ?_
  refine j_iald (Nat.le_of_ble_eq_true rfl) rfl o1 dX12_notes_41 ?_
  refine j_iast (Nat.le_of_ble_eq_true rfl) rfl o2 dX12_notes_42 ?_
  refine j_iinc (i := 3) (n := 1) rfl dX12_notes_43 (Nat.le_of_ble_eq_true rfl) ?_
  refine j_eqlv [some (.ref 159), some (.int l1), some (.int l2), some (.int (l3 + 1))] rfl ?_
  refine j_goto (off := -31) 15 dX12_notes_46 (by decide) ?_
  exact j_le [some (.ref 159), some (.int l1), some (.int l2), some (.int (l3 + 1))] (And.intro rfl (And.intro rfl (And.intro rfl (And.intro rfl True.intro)))) v1
set_option maxRecDepth 100000 in
theorem bX12_notes_49 {sc : Nat × (Nat → Int32)} {h : jH} {Q : jQ} {l1 l2 l3 : Int32}
    (v1 : WP mX12_notes Q 61 [some (.ref 159), some (.int l1), some (.int l2), none] [] (jG0 sc) (jput h 160 254 ((h 160 254) - 1)) (0, 0)) :
    WP mX12_notes Q 49 [some (.ref 159), some (.int l1), some (.int l2), some (.int l3)] [] (jG0 sc) h (0, 0) := by
  refine j_aload_n (i := 0) rfl dX12_notes_49 ?_
  refine j_getR (idx := 13) (ci := 12) (k := 1) (nest := false) (show (12, 13, 12, 1, false) ∈ jFT by decide) rfl (Nat.le_of_ble_eq_true rfl) rfl (a := 160) rfl dX12_notes_50 ?_
  refine j_sipush (n := 254) 254 (by decide) dX12_notes_53 ?_
  refine j_dup2 rfl rfl dX12_notes_56 ?_
  refine j_iald (Nat.le_of_ble_eq_true rfl) rfl (jinl (n := 1454) (by decide)) dX12_notes_57 ?_
  refine j_eqst [.int (h 160 254), .int 254, .ref 160] (by rfl) ?_
  refine j_iconst (n := 1) 1 (by decide) dX12_notes_58 ?_
  refine j_isub dX12_notes_59 ?_
  refine j_iast (Nat.le_of_ble_eq_true rfl) rfl (jinl (n := 1454) (by decide)) dX12_notes_60 ?_
  exact j_le [some (.ref 159), some (.int l1), some (.int l2), none] (And.intro rfl (And.intro rfl (And.intro rfl True.intro))) v1
set_option maxRecDepth 100000 in
theorem bX12_notes_61 {sc : Nat × (Nat → Int32)} {h : jH} {Q : jQ} {l1 l2 : Int32}
    (o1 : vp_in (255 + (3 * (h 160 254))) 1454)
    (o2 : vp_in ((255 + (3 * (h 160 254))) + 1) 1454)
    (v1 : WP mX12_notes Q 96 [some (.ref 159), some (.int l1), some (.int l2), some (.int (255 + (3 * (h 160 254))))] [.ref 160] (jG0 sc) (jput (jput h 160 ((255 + (3 * (h 160 254))).toNatClampNeg) l1) 160 (((255 + (3 * (h 160 254))) + 1).toNatClampNeg) l2) (0, 0)) :
    WP mX12_notes Q 61 [some (.ref 159), some (.int l1), some (.int l2), none] [] (jG0 sc) h (0, 0) := by
  refine j_sipush (n := 255) 255 (by decide) dX12_notes_61 ?_
  refine j_iconst (n := 3) 3 (by decide) dX12_notes_64 ?_
  refine j_aload_n (i := 0) rfl dX12_notes_65 ?_
  refine j_getR (idx := 13) (ci := 12) (k := 1) (nest := false) (show (12, 13, 12, 1, false) ∈ jFT by decide) rfl (Nat.le_of_ble_eq_true rfl) rfl (a := 160) rfl dX12_notes_66 ?_
  refine j_sipush (n := 254) 254 (by decide) dX12_notes_69 ?_
  refine j_iald (Nat.le_of_ble_eq_true rfl) rfl (jinl (n := 1454) (by decide)) dX12_notes_72 ?_
  refine j_eqst [.int (h 160 254), .int 3, .int 255] (by rfl) ?_
  refine j_imul dX12_notes_73 ?_
  refine j_iadd dX12_notes_74 ?_
  refine j_istore_n (i := 3) dX12_notes_75 (Nat.le_of_ble_eq_true rfl) ?_
  refine j_aload_n (i := 0) rfl dX12_notes_76 ?_
  refine j_getR (idx := 13) (ci := 12) (k := 1) (nest := false) (show (12, 13, 12, 1, false) ∈ jFT by decide) rfl (Nat.le_of_ble_eq_true rfl) rfl (a := 160) rfl dX12_notes_77 ?_
  refine j_iload_n (i := 3) rfl dX12_notes_80 ?_
  refine j_iload_n (i := 1) rfl dX12_notes_81 ?_
  refine j_iast (Nat.le_of_ble_eq_true rfl) rfl o1 dX12_notes_82 ?_
  refine j_aload_n (i := 0) rfl dX12_notes_83 ?_
  refine j_getR (idx := 13) (ci := 12) (k := 1) (nest := false) (show (12, 13, 12, 1, false) ∈ jFT by decide) rfl (Nat.le_of_ble_eq_true rfl) rfl (a := 160) rfl dX12_notes_84 ?_
  refine j_iload_n (i := 3) rfl dX12_notes_87 ?_
  refine j_iconst (n := 1) 1 (by decide) dX12_notes_88 ?_
  refine j_iadd dX12_notes_89 ?_
  refine j_iload_n (i := 2) rfl dX12_notes_90 ?_
  refine j_iast (Nat.le_of_ble_eq_true rfl) rfl o2 dX12_notes_91 ?_
  refine j_aload_n (i := 0) rfl dX12_notes_92 ?_
  refine j_getR (idx := 13) (ci := 12) (k := 1) (nest := false) (show (12, 13, 12, 1, false) ∈ jFT by decide) rfl (Nat.le_of_ble_eq_true rfl) rfl (a := 160) rfl dX12_notes_93 ?_
  exact j_le [some (.ref 159), some (.int l1), some (.int l2), some (.int (255 + (3 * (h 160 254))))] (And.intro rfl (And.intro rfl (And.intro rfl (And.intro rfl True.intro)))) v1
set_option maxRecDepth 100000 in
theorem bX12_notes_96 {sc : Nat × (Nat → Int32)} {h : jH} {Q : jQ} {l1 l2 l3 : Int32}
    (o1 : vp_in (l3 + 2) 1454)
    (v1 : Q (.inl none) (jG0 sc) (jput (jput h 160 ((l3 + 2).toNatClampNeg) l2) 160 254 (((jput h 160 ((l3 + 2).toNatClampNeg) l2) 160 254) + 1))) :
    WP mX12_notes Q 96 [some (.ref 159), some (.int l1), some (.int l2), some (.int l3)] [.ref 160] (jG0 sc) h (0, 0) := by
  refine j_iload_n (i := 3) rfl dX12_notes_96 ?_
  refine j_iconst (n := 2) 2 (by decide) dX12_notes_97 ?_
  refine j_iadd dX12_notes_98 ?_
  refine j_iload_n (i := 2) rfl dX12_notes_99 ?_
  refine j_iast (Nat.le_of_ble_eq_true rfl) rfl o1 dX12_notes_100 ?_
  refine j_aload_n (i := 0) rfl dX12_notes_101 ?_
  refine j_getR (idx := 13) (ci := 12) (k := 1) (nest := false) (show (12, 13, 12, 1, false) ∈ jFT by decide) rfl (Nat.le_of_ble_eq_true rfl) rfl (a := 160) rfl dX12_notes_102 ?_
  refine j_sipush (n := 254) 254 (by decide) dX12_notes_105 ?_
  refine j_dup2 rfl rfl dX12_notes_108 ?_
  refine j_iald (Nat.le_of_ble_eq_true rfl) rfl (jinl (n := 1454) (by decide)) dX12_notes_109 ?_
  refine j_eqst [.int ((jput h 160 ((l3 + 2).toNatClampNeg) l2) 160 254), .int 254, .ref 160] (by rfl) ?_
  refine j_iconst (n := 1) 1 (by decide) dX12_notes_110 ?_
  refine j_iadd dX12_notes_111 ?_
  refine j_iast (Nat.le_of_ble_eq_true rfl) rfl (jinl (n := 1454) (by decide)) dX12_notes_112 ?_
  exact j_vret rfl (Nat.zero_le _) (Nat.zero_le _) dX12_notes_113 v1
set_option maxRecDepth 100000 in
theorem rX12_notes_0 {sc : Nat × (Nat → Int32)} {h : jH} {Q : jQ} {l1 l2 : Int32}
    (o1 : ¬ (h 160 254) = 8 → vp_in (255 + (3 * (h 160 254))) 1454)
    (o2 : ¬ (h 160 254) = 8 → vp_in ((255 + (3 * (h 160 254))) + 1) 1454)
    (o3 : ¬ (h 160 254) = 8 → vp_in ((255 + (3 * (h 160 254))) + 2) 1454)
    (v1 : ¬ (h 160 254) = 8 → Q (.inl none) (jG0 sc) (jput (jput (jput (jput h 160 ((255 + (3 * (h 160 254))).toNatClampNeg) l1) 160 (((255 + (3 * (h 160 254))) + 1).toNatClampNeg) l2) 160 (((255 + (3 * (h 160 254))) + 2).toNatClampNeg) l2) 160 254 (((jput (jput (jput h 160 ((255 + (3 * (h 160 254))).toNatClampNeg) l1) 160 (((255 + (3 * (h 160 254))) + 1).toNatClampNeg) l2) 160 (((255 + (3 * (h 160 254))) + 2).toNatClampNeg) l2) 160 254) + 1)))
    (v2 : (h 160 254) = 8 → WP mX12_notes Q 15 [some (.ref 159), some (.int l1), some (.int l2), some (.int 3)] [] (jG0 sc) h (0, 0)) :
    WP mX12_notes Q 0 [some (.ref 159), some (.int l1), some (.int l2), none] [] (jG0 sc) h (0, 0) := by
  exact (bX12_notes_0 (fun c1 => (bX12_notes_61 (o1 c1) (o2 c1) (bX12_notes_96 (o3 c1) (v1 c1)))) (fun c1 => (bX12_notes_13 (v2 c1))))
set_option maxRecDepth 100000 in
theorem rX12_notes_15 {sc : Nat × (Nat → Int32)} {h : jH} {Q : jQ} {l1 l2 l3 : Int32}
    (o1 : 24 ≤ l3 → vp_in (255 + (3 * ((jput h 160 254 ((h 160 254) - 1)) 160 254))) 1454)
    (o2 : 24 ≤ l3 → vp_in ((255 + (3 * ((jput h 160 254 ((h 160 254) - 1)) 160 254))) + 1) 1454)
    (o3 : 24 ≤ l3 → vp_in ((255 + (3 * ((jput h 160 254 ((h 160 254) - 1)) 160 254))) + 2) 1454)
    (v1 : 24 ≤ l3 → Q (.inl none) (jG0 sc) (jput (jput (jput (jput (jput h 160 254 ((h 160 254) - 1)) 160 ((255 + (3 * ((jput h 160 254 ((h 160 254) - 1)) 160 254))).toNatClampNeg) l1) 160 (((255 + (3 * ((jput h 160 254 ((h 160 254) - 1)) 160 254))) + 1).toNatClampNeg) l2) 160 (((255 + (3 * ((jput h 160 254 ((h 160 254) - 1)) 160 254))) + 2).toNatClampNeg) l2) 160 254 (((jput (jput (jput (jput h 160 254 ((h 160 254) - 1)) 160 ((255 + (3 * ((jput h 160 254 ((h 160 254) - 1)) 160 254))).toNatClampNeg) l1) 160 (((255 + (3 * ((jput h 160 254 ((h 160 254) - 1)) 160 254))) + 1).toNatClampNeg) l2) 160 (((255 + (3 * ((jput h 160 254 ((h 160 254) - 1)) 160 254))) + 2).toNatClampNeg) l2) 160 254) + 1)))
    (o4 : ¬ 24 ≤ l3 → vp_in (255 + l3) 1454)
    (o5 : ¬ 24 ≤ l3 → vp_in ((255 + l3) - 3) 1454)
    (v2 : ¬ 24 ≤ l3 → WP mX12_notes Q 15 [some (.ref 159), some (.int l1), some (.int l2), some (.int (l3 + 1))] [] (jG0 sc) (jput h 160 (((255 + l3) - 3).toNatClampNeg) (h 160 ((255 + l3).toNatClampNeg))) (0, 0)) :
    WP mX12_notes Q 15 [some (.ref 159), some (.int l1), some (.int l2), some (.int l3)] [] (jG0 sc) h (0, 0) := by
  exact (bX12_notes_15 (fun c1 => (bX12_notes_49 (bX12_notes_61 (o1 c1) (o2 c1) (bX12_notes_96 (o3 c1) (v1 c1))))) (fun c1 => (bX12_notes_21 (o4 c1) (o5 c1) (v2 c1))))
theorem dX12_attempt_0 : decode (mC mX12_attempt) 0 = .ok (.aload_n 0, 1) := by decide +kernel
theorem dX12_attempt_1 : decode (mC mX12_attempt) 1 = .ok (.iload_n 2, 1) := by decide +kernel
theorem dX12_attempt_2 : decode (mC mX12_attempt) 2 = .ok (.iload_n 3, 1) := by decide +kernel
theorem dX12_attempt_3 : decode (mC mX12_attempt) 3 = .ok (.invokevirtual 316, 3) := by decide +kernel
theorem dX12_attempt_6 : decode (mC mX12_attempt) 6 = .ok (.aload_n 0, 1) := by decide +kernel
theorem dX12_attempt_7 : decode (mC mX12_attempt) 7 = .ok (.invokevirtual 336, 3) := by decide +kernel
theorem dX12_attempt_10 : decode (mC mX12_attempt) 10 = .ok (.istore 4, 2) := by decide +kernel
theorem dX12_attempt_12 : decode (mC mX12_attempt) 12 = .ok (.aload_n 0, 1) := by decide +kernel
theorem dX12_attempt_13 : decode (mC mX12_attempt) 13 = .ok (.iload_n 1, 1) := by decide +kernel
theorem dX12_attempt_14 : decode (mC mX12_attempt) 14 = .ok (.iload 4, 2) := by decide +kernel
theorem dX12_attempt_16 : decode (mC mX12_attempt) 16 = .ok (.invokevirtual 339, 3) := by decide +kernel
theorem dX12_attempt_19 : decode (mC mX12_attempt) 19 = .ok (.aload_n 0, 1) := by decide +kernel
theorem dX12_attempt_20 : decode (mC mX12_attempt) 20 = .ok (.getfield 13, 3) := by decide +kernel
theorem dX12_attempt_23 : decode (mC mX12_attempt) 23 = .ok (.sipush 159, 3) := by decide +kernel
theorem dX12_attempt_26 : decode (mC mX12_attempt) 26 = .ok (.dup2, 1) := by decide +kernel
theorem dX12_attempt_27 : decode (mC mX12_attempt) 27 = .ok (.iaload, 1) := by decide +kernel
theorem dX12_attempt_28 : decode (mC mX12_attempt) 28 = .ok (.iconst 1, 1) := by decide +kernel
theorem dX12_attempt_29 : decode (mC mX12_attempt) 29 = .ok (.iadd, 1) := by decide +kernel
theorem dX12_attempt_30 : decode (mC mX12_attempt) 30 = .ok (.iastore, 1) := by decide +kernel
theorem dX12_attempt_31 : decode (mC mX12_attempt) 31 = .ok (.iload 4, 2) := by decide +kernel
theorem dX12_attempt_33 : decode (mC mX12_attempt) 33 = .ok (.ifCond .lt 4, 3) := by decide +kernel
theorem dX12_attempt_36 : decode (mC mX12_attempt) 36 = .ok (.return_, 1) := by decide +kernel
theorem dX12_attempt_37 : decode (mC mX12_attempt) 37 = .ok (.aload_n 0, 1) := by decide +kernel
theorem dX12_attempt_38 : decode (mC mX12_attempt) 38 = .ok (.getfield 13, 3) := by decide +kernel
theorem dX12_attempt_41 : decode (mC mX12_attempt) 41 = .ok (.sipush 160, 3) := by decide +kernel
theorem dX12_attempt_44 : decode (mC mX12_attempt) 44 = .ok (.dup2, 1) := by decide +kernel
theorem dX12_attempt_45 : decode (mC mX12_attempt) 45 = .ok (.iaload, 1) := by decide +kernel
theorem dX12_attempt_46 : decode (mC mX12_attempt) 46 = .ok (.iconst 1, 1) := by decide +kernel
theorem dX12_attempt_47 : decode (mC mX12_attempt) 47 = .ok (.iadd, 1) := by decide +kernel
theorem dX12_attempt_48 : decode (mC mX12_attempt) 48 = .ok (.iastore, 1) := by decide +kernel
theorem dX12_attempt_49 : decode (mC mX12_attempt) 49 = .ok (.aload_n 0, 1) := by decide +kernel
theorem dX12_attempt_50 : decode (mC mX12_attempt) 50 = .ok (.getfield 13, 3) := by decide +kernel
theorem dX12_attempt_53 : decode (mC mX12_attempt) 53 = .ok (.sipush 163, 3) := by decide +kernel
theorem dX12_attempt_56 : decode (mC mX12_attempt) 56 = .ok (.iaload, 1) := by decide +kernel
theorem dX12_attempt_57 : decode (mC mX12_attempt) 57 = .ok (.bipush 30, 2) := by decide +kernel
theorem dX12_attempt_59 : decode (mC mX12_attempt) 59 = .ok (.if_icmp .ne 4, 3) := by decide +kernel
theorem dX12_attempt_62 : decode (mC mX12_attempt) 62 = .ok (.return_, 1) := by decide +kernel
theorem dX12_attempt_63 : decode (mC mX12_attempt) 63 = .ok (.sipush 164, 3) := by decide +kernel
theorem dX12_attempt_66 : decode (mC mX12_attempt) 66 = .ok (.iconst 3, 1) := by decide +kernel
theorem dX12_attempt_67 : decode (mC mX12_attempt) 67 = .ok (.aload_n 0, 1) := by decide +kernel
theorem dX12_attempt_68 : decode (mC mX12_attempt) 68 = .ok (.getfield 13, 3) := by decide +kernel
theorem dX12_attempt_71 : decode (mC mX12_attempt) 71 = .ok (.sipush 163, 3) := by decide +kernel
theorem dX12_attempt_74 : decode (mC mX12_attempt) 74 = .ok (.iaload, 1) := by decide +kernel
theorem dX12_attempt_75 : decode (mC mX12_attempt) 75 = .ok (.imul, 1) := by decide +kernel
theorem dX12_attempt_76 : decode (mC mX12_attempt) 76 = .ok (.iadd, 1) := by decide +kernel
theorem dX12_attempt_77 : decode (mC mX12_attempt) 77 = .ok (.istore 5, 2) := by decide +kernel
theorem dX12_attempt_79 : decode (mC mX12_attempt) 79 = .ok (.aload_n 0, 1) := by decide +kernel
theorem dX12_attempt_80 : decode (mC mX12_attempt) 80 = .ok (.getfield 13, 3) := by decide +kernel
theorem dX12_attempt_83 : decode (mC mX12_attempt) 83 = .ok (.iload 5, 2) := by decide +kernel
theorem dX12_attempt_85 : decode (mC mX12_attempt) 85 = .ok (.iload_n 1, 1) := by decide +kernel
theorem dX12_attempt_86 : decode (mC mX12_attempt) 86 = .ok (.iastore, 1) := by decide +kernel
theorem dX12_attempt_87 : decode (mC mX12_attempt) 87 = .ok (.aload_n 0, 1) := by decide +kernel
theorem dX12_attempt_88 : decode (mC mX12_attempt) 88 = .ok (.getfield 13, 3) := by decide +kernel
theorem dX12_attempt_91 : decode (mC mX12_attempt) 91 = .ok (.iload 5, 2) := by decide +kernel
theorem dX12_attempt_93 : decode (mC mX12_attempt) 93 = .ok (.iconst 1, 1) := by decide +kernel
theorem dX12_attempt_94 : decode (mC mX12_attempt) 94 = .ok (.iadd, 1) := by decide +kernel
theorem dX12_attempt_95 : decode (mC mX12_attempt) 95 = .ok (.iload_n 2, 1) := by decide +kernel
theorem dX12_attempt_96 : decode (mC mX12_attempt) 96 = .ok (.iastore, 1) := by decide +kernel
theorem dX12_attempt_97 : decode (mC mX12_attempt) 97 = .ok (.aload_n 0, 1) := by decide +kernel
theorem dX12_attempt_98 : decode (mC mX12_attempt) 98 = .ok (.getfield 13, 3) := by decide +kernel
theorem dX12_attempt_101 : decode (mC mX12_attempt) 101 = .ok (.iload 5, 2) := by decide +kernel
theorem dX12_attempt_103 : decode (mC mX12_attempt) 103 = .ok (.iconst 2, 1) := by decide +kernel
theorem dX12_attempt_104 : decode (mC mX12_attempt) 104 = .ok (.iadd, 1) := by decide +kernel
theorem dX12_attempt_105 : decode (mC mX12_attempt) 105 = .ok (.iload_n 3, 1) := by decide +kernel
theorem dX12_attempt_106 : decode (mC mX12_attempt) 106 = .ok (.iastore, 1) := by decide +kernel
theorem dX12_attempt_107 : decode (mC mX12_attempt) 107 = .ok (.aload_n 0, 1) := by decide +kernel
theorem dX12_attempt_108 : decode (mC mX12_attempt) 108 = .ok (.getfield 13, 3) := by decide +kernel
theorem dX12_attempt_111 : decode (mC mX12_attempt) 111 = .ok (.sipush 163, 3) := by decide +kernel
theorem dX12_attempt_114 : decode (mC mX12_attempt) 114 = .ok (.dup2, 1) := by decide +kernel
theorem dX12_attempt_115 : decode (mC mX12_attempt) 115 = .ok (.iaload, 1) := by decide +kernel
theorem dX12_attempt_116 : decode (mC mX12_attempt) 116 = .ok (.iconst 1, 1) := by decide +kernel
theorem dX12_attempt_117 : decode (mC mX12_attempt) 117 = .ok (.iadd, 1) := by decide +kernel
theorem dX12_attempt_118 : decode (mC mX12_attempt) 118 = .ok (.iastore, 1) := by decide +kernel
theorem dX12_attempt_119 : decode (mC mX12_attempt) 119 = .ok (.return_, 1) := by decide +kernel
set_option maxRecDepth 100000 in
theorem bX12_attempt_0 {sc : Nat × (Nat → Int32)} {h : jH} {Q : jQ} {l1 l2 l3 : Int32} {P1 : jH → Prop} {P2 : Int32 → jH → Prop} {P3 : jH → Prop}
    (k1 : JM mX12_laysBy [.ref 159, .int l2, .int l3] (jG0 sc) h (jvoid sc P1))
    (k2 : ∀ h1 : jH, P1 h1 → JM mX12_allRight [.ref 159] (jG0 sc) h1 (jint sc P2))
    (k3 : ∀ h1 : jH, P1 h1 → ∀ (x2 : Int32) (h2 : jH), P2 x2 h2 → JM mX12_notes [.ref 159, .int l1, .int x2] (jG0 sc) h2 (jvoid sc P3))
    (v1 : ∀ h1 : jH, P1 h1 → ∀ (x2 : Int32) (h2 : jH), P2 x2 h2 → ∀ h3 : jH, P3 h3 → WP mX12_attempt Q 26 [some (.ref 159), some (.int l1), some (.int l2), some (.int l3), some (.int x2), none] [.int 159, .ref 160] (jG0 sc) h3 (0, 0)) :
    WP mX12_attempt Q 0 [some (.ref 159), some (.int l1), some (.int l2), some (.int l3), none, none] [] (jG0 sc) h (0, 0) := by
  refine j_aload_n (i := 0) rfl dX12_attempt_0 ?_
  refine j_iload_n (i := 2) rfl dX12_attempt_1 ?_
  refine j_iload_n (i := 3) rfl dX12_attempt_2 ?_
  refine j_callV (idx := 316) (As := [.int l2, .int l3]) (ci := 12) (n := 2) k1 jvoid_nt (jlkT (jtb7 196 rfl) rfl) sX12_laysBy kX12_laysBy rfl ⟨rfl, by decide +kernel, by decide +kernel, by decide +kernel⟩ rfl ⟨by decide, by decide⟩ (Nat.le_of_ble_eq_true rfl) rfl (Nat.le_of_ble_eq_true rfl) (Nat.le_of_ble_eq_true rfl) ⟨Nat.zero_le _, Nat.zero_le _⟩ dX12_attempt_3 (fun r Γ' h1 q => ?_)
  obtain ⟨q0, rfl, p1⟩ := q; cases q0
  refine j_eqst [] (by rfl) ?_
  refine j_aload_n (i := 0) rfl dX12_attempt_6 ?_
  refine j_callV (idx := 336) (As := []) (ci := 12) (n := 0) (k2 h1 p1) jint_nt (jlkT (jtb7 217 rfl) rfl) sX12_allRight kX12_allRight rfl ⟨rfl, by decide +kernel, by decide +kernel, by decide +kernel⟩ rfl ⟨by decide, by decide⟩ (Nat.le_of_ble_eq_true rfl) rfl (Nat.le_of_ble_eq_true rfl) (Nat.le_of_ble_eq_true rfl) ⟨Nat.zero_le _, Nat.zero_le _⟩ dX12_attempt_7 (fun r Γ' h2 q => ?_)
  obtain ⟨x2, q0, rfl, p2⟩ := q; cases q0
  refine j_eqst [.int x2] (by rfl) ?_
  refine j_istore (i := 4) dX12_attempt_10 (Nat.le_of_ble_eq_true rfl) ?_
  refine j_aload_n (i := 0) rfl dX12_attempt_12 ?_
  refine j_iload_n (i := 1) rfl dX12_attempt_13 ?_
  refine j_iload (i := 4) rfl dX12_attempt_14 ?_
  refine j_callV (idx := 339) (As := [.int l1, .int x2]) (ci := 12) (n := 2) (k3 h1 p1 x2 h2 p2) jvoid_nt (jlkT (jtb7 221 rfl) rfl) sX12_notes kX12_notes rfl ⟨rfl, by decide +kernel, by decide +kernel, by decide +kernel⟩ rfl ⟨by decide, by decide⟩ (Nat.le_of_ble_eq_true rfl) rfl (Nat.le_of_ble_eq_true rfl) (Nat.le_of_ble_eq_true rfl) ⟨Nat.zero_le _, Nat.zero_le _⟩ dX12_attempt_16 (fun r Γ' h3 q => ?_)
  obtain ⟨q0, rfl, p3⟩ := q; cases q0
  refine j_eqst [] (by rfl) ?_
  refine j_aload_n (i := 0) rfl dX12_attempt_19 ?_
  refine j_getR (idx := 13) (ci := 12) (k := 1) (nest := false) (show (12, 13, 12, 1, false) ∈ jFT by decide) rfl (Nat.le_of_ble_eq_true rfl) rfl (a := 160) rfl dX12_attempt_20 ?_
  refine j_sipush (n := 159) 159 (by decide) dX12_attempt_23 ?_
  exact j_le [some (.ref 159), some (.int l1), some (.int l2), some (.int l3), some (.int x2), none] (And.intro rfl (And.intro rfl (And.intro rfl (And.intro rfl (And.intro rfl True.intro))))) (v1 h1 p1 x2 h2 p2 h3 p3)
set_option maxRecDepth 100000 in
theorem bX12_attempt_26 {sc : Nat × (Nat → Int32)} {h : jH} {Q : jQ} {l1 l2 l3 l4 s0 : Int32}
    (o1 : vp_in s0 1454)
    (o2 : vp_in s0 1454)
    (v1 : l4 < 0 → WP mX12_attempt Q 37 [some (.ref 159), some (.int l1), some (.int l2), some (.int l3), some (.int l4), none] [] (jG0 sc) (jput h 160 s0.toNatClampNeg ((h 160 s0.toNatClampNeg) + 1)) (0, 0))
    (v2 : ¬ l4 < 0 → WP mX12_attempt Q 36 [some (.ref 159), some (.int l1), some (.int l2), some (.int l3), some (.int l4), none] [] (jG0 sc) (jput h 160 s0.toNatClampNeg ((h 160 s0.toNatClampNeg) + 1)) (0, 0)) :
    WP mX12_attempt Q 26 [some (.ref 159), some (.int l1), some (.int l2), some (.int l3), some (.int l4), none] [.int s0, .ref 160] (jG0 sc) h (0, 0) := by
  refine j_dup2 rfl rfl dX12_attempt_26 ?_
  refine j_iald (Nat.le_of_ble_eq_true rfl) rfl o1 dX12_attempt_27 ?_
  refine j_iconst (n := 1) 1 (by decide) dX12_attempt_28 ?_
  refine j_iadd dX12_attempt_29 ?_
  refine j_iast (Nat.le_of_ble_eq_true rfl) rfl o2 dX12_attempt_30 ?_
  refine j_iload (i := 4) rfl dX12_attempt_31 ?_
  refine j_if_lt (off := 4) 37 dX12_attempt_33 (by decide) (fun c1 => ?_) (fun c1 => ?_)
  · exact j_le [some (.ref 159), some (.int l1), some (.int l2), some (.int l3), some (.int l4), none] (And.intro rfl (And.intro rfl (And.intro rfl (And.intro rfl (And.intro rfl True.intro))))) (v1 c1)
  · exact j_le [some (.ref 159), some (.int l1), some (.int l2), some (.int l3), some (.int l4), none] (And.intro rfl (And.intro rfl (And.intro rfl (And.intro rfl (And.intro rfl True.intro))))) (v2 c1)
set_option maxRecDepth 100000 in
theorem bX12_attempt_36 {sc : Nat × (Nat → Int32)} {h : jH} {Q : jQ} {l1 l2 l3 l4 : Int32}
    (v1 : Q (.inl none) (jG0 sc) h) :
    WP mX12_attempt Q 36 [some (.ref 159), some (.int l1), some (.int l2), some (.int l3), some (.int l4), none] [] (jG0 sc) h (0, 0) := by
  exact j_vret rfl (Nat.zero_le _) (Nat.zero_le _) dX12_attempt_36 v1
set_option maxRecDepth 100000 in
theorem bX12_attempt_37 {sc : Nat × (Nat → Int32)} {h : jH} {Q : jQ} {l1 l2 l3 l4 : Int32}
    (v1 : ¬ ((jput h 160 160 ((h 160 160) + 1)) 160 163) = 30 → WP mX12_attempt Q 63 [some (.ref 159), some (.int l1), some (.int l2), some (.int l3), some (.int l4), none] [] (jG0 sc) (jput h 160 160 ((h 160 160) + 1)) (0, 0))
    (v2 : ((jput h 160 160 ((h 160 160) + 1)) 160 163) = 30 → WP mX12_attempt Q 62 [some (.ref 159), some (.int l1), some (.int l2), some (.int l3), some (.int l4), none] [] (jG0 sc) (jput h 160 160 ((h 160 160) + 1)) (0, 0)) :
    WP mX12_attempt Q 37 [some (.ref 159), some (.int l1), some (.int l2), some (.int l3), some (.int l4), none] [] (jG0 sc) h (0, 0) := by
  refine j_aload_n (i := 0) rfl dX12_attempt_37 ?_
  refine j_getR (idx := 13) (ci := 12) (k := 1) (nest := false) (show (12, 13, 12, 1, false) ∈ jFT by decide) rfl (Nat.le_of_ble_eq_true rfl) rfl (a := 160) rfl dX12_attempt_38 ?_
  refine j_sipush (n := 160) 160 (by decide) dX12_attempt_41 ?_
  refine j_dup2 rfl rfl dX12_attempt_44 ?_
  refine j_iald (Nat.le_of_ble_eq_true rfl) rfl (jinl (n := 1454) (by decide)) dX12_attempt_45 ?_
  refine j_eqst [.int (h 160 160), .int 160, .ref 160] (by rfl) ?_
  refine j_iconst (n := 1) 1 (by decide) dX12_attempt_46 ?_
  refine j_iadd dX12_attempt_47 ?_
  refine j_iast (Nat.le_of_ble_eq_true rfl) rfl (jinl (n := 1454) (by decide)) dX12_attempt_48 ?_
  refine j_aload_n (i := 0) rfl dX12_attempt_49 ?_
  refine j_getR (idx := 13) (ci := 12) (k := 1) (nest := false) (show (12, 13, 12, 1, false) ∈ jFT by decide) rfl (Nat.le_of_ble_eq_true rfl) rfl (a := 160) rfl dX12_attempt_50 ?_
  refine j_sipush (n := 163) 163 (by decide) dX12_attempt_53 ?_
  refine j_iald (Nat.le_of_ble_eq_true rfl) rfl (jinl (n := 1454) (by decide)) dX12_attempt_56 ?_
  refine j_eqst [.int ((jput h 160 160 ((h 160 160) + 1)) 160 163)] (by rfl) ?_
  refine j_bipush (n := 30) 30 (by decide) dX12_attempt_57 ?_
  refine j_icmp_ne (off := 4) 63 dX12_attempt_59 (by decide) (fun c1 => ?_) (fun c1 => ?_)
  · exact j_le [some (.ref 159), some (.int l1), some (.int l2), some (.int l3), some (.int l4), none] (And.intro rfl (And.intro rfl (And.intro rfl (And.intro rfl (And.intro rfl True.intro))))) (v1 c1)
  · exact j_le [some (.ref 159), some (.int l1), some (.int l2), some (.int l3), some (.int l4), none] (And.intro rfl (And.intro rfl (And.intro rfl (And.intro rfl (And.intro rfl True.intro))))) (v2 c1)
set_option maxRecDepth 100000 in
theorem bX12_attempt_62 {sc : Nat × (Nat → Int32)} {h : jH} {Q : jQ} {l1 l2 l3 l4 : Int32}
    (v1 : Q (.inl none) (jG0 sc) h) :
    WP mX12_attempt Q 62 [some (.ref 159), some (.int l1), some (.int l2), some (.int l3), some (.int l4), none] [] (jG0 sc) h (0, 0) := by
  exact j_vret rfl (Nat.zero_le _) (Nat.zero_le _) dX12_attempt_62 v1
set_option maxRecDepth 100000 in
theorem bX12_attempt_63 {sc : Nat × (Nat → Int32)} {h : jH} {Q : jQ} {l1 l2 l3 l4 : Int32}
    (o1 : vp_in (164 + (3 * (h 160 163))) 1454)
    (o2 : vp_in ((164 + (3 * (h 160 163))) + 1) 1454)
    (v1 : WP mX12_attempt Q 101 [some (.ref 159), some (.int l1), some (.int l2), some (.int l3), some (.int l4), some (.int (164 + (3 * (h 160 163))))] [.ref 160] (jG0 sc) (jput (jput h 160 ((164 + (3 * (h 160 163))).toNatClampNeg) l1) 160 (((164 + (3 * (h 160 163))) + 1).toNatClampNeg) l2) (0, 0)) :
    WP mX12_attempt Q 63 [some (.ref 159), some (.int l1), some (.int l2), some (.int l3), some (.int l4), none] [] (jG0 sc) h (0, 0) := by
  refine j_sipush (n := 164) 164 (by decide) dX12_attempt_63 ?_
  refine j_iconst (n := 3) 3 (by decide) dX12_attempt_66 ?_
  refine j_aload_n (i := 0) rfl dX12_attempt_67 ?_
  refine j_getR (idx := 13) (ci := 12) (k := 1) (nest := false) (show (12, 13, 12, 1, false) ∈ jFT by decide) rfl (Nat.le_of_ble_eq_true rfl) rfl (a := 160) rfl dX12_attempt_68 ?_
  refine j_sipush (n := 163) 163 (by decide) dX12_attempt_71 ?_
  refine j_iald (Nat.le_of_ble_eq_true rfl) rfl (jinl (n := 1454) (by decide)) dX12_attempt_74 ?_
  refine j_eqst [.int (h 160 163), .int 3, .int 164] (by rfl) ?_
  refine j_imul dX12_attempt_75 ?_
  refine j_iadd dX12_attempt_76 ?_
  refine j_istore (i := 5) dX12_attempt_77 (Nat.le_of_ble_eq_true rfl) ?_
  refine j_aload_n (i := 0) rfl dX12_attempt_79 ?_
  refine j_getR (idx := 13) (ci := 12) (k := 1) (nest := false) (show (12, 13, 12, 1, false) ∈ jFT by decide) rfl (Nat.le_of_ble_eq_true rfl) rfl (a := 160) rfl dX12_attempt_80 ?_
  refine j_iload (i := 5) rfl dX12_attempt_83 ?_
  refine j_iload_n (i := 1) rfl dX12_attempt_85 ?_
  refine j_iast (Nat.le_of_ble_eq_true rfl) rfl o1 dX12_attempt_86 ?_
  refine j_aload_n (i := 0) rfl dX12_attempt_87 ?_
  refine j_getR (idx := 13) (ci := 12) (k := 1) (nest := false) (show (12, 13, 12, 1, false) ∈ jFT by decide) rfl (Nat.le_of_ble_eq_true rfl) rfl (a := 160) rfl dX12_attempt_88 ?_
  refine j_iload (i := 5) rfl dX12_attempt_91 ?_
  refine j_iconst (n := 1) 1 (by decide) dX12_attempt_93 ?_
  refine j_iadd dX12_attempt_94 ?_
  refine j_iload_n (i := 2) rfl dX12_attempt_95 ?_
  refine j_iast (Nat.le_of_ble_eq_true rfl) rfl o2 dX12_attempt_96 ?_
  refine j_aload_n (i := 0) rfl dX12_attempt_97 ?_
  refine j_getR (idx := 13) (ci := 12) (k := 1) (nest := false) (show (12, 13, 12, 1, false) ∈ jFT by decide) rfl (Nat.le_of_ble_eq_true rfl) rfl (a := 160) rfl dX12_attempt_98 ?_
  exact j_le [some (.ref 159), some (.int l1), some (.int l2), some (.int l3), some (.int l4), some (.int (164 + (3 * (h 160 163))))] (And.intro rfl (And.intro rfl (And.intro rfl (And.intro rfl (And.intro rfl (And.intro rfl True.intro)))))) v1
set_option maxRecDepth 100000 in
theorem bX12_attempt_101 {sc : Nat × (Nat → Int32)} {h : jH} {Q : jQ} {l1 l2 l3 l4 l5 : Int32}
    (o1 : vp_in (l5 + 2) 1454)
    (v1 : Q (.inl none) (jG0 sc) (jput (jput h 160 ((l5 + 2).toNatClampNeg) l3) 160 163 (((jput h 160 ((l5 + 2).toNatClampNeg) l3) 160 163) + 1))) :
    WP mX12_attempt Q 101 [some (.ref 159), some (.int l1), some (.int l2), some (.int l3), some (.int l4), some (.int l5)] [.ref 160] (jG0 sc) h (0, 0) := by
  refine j_iload (i := 5) rfl dX12_attempt_101 ?_
  refine j_iconst (n := 2) 2 (by decide) dX12_attempt_103 ?_
  refine j_iadd dX12_attempt_104 ?_
  refine j_iload_n (i := 3) rfl dX12_attempt_105 ?_
  refine j_iast (Nat.le_of_ble_eq_true rfl) rfl o1 dX12_attempt_106 ?_
  refine j_aload_n (i := 0) rfl dX12_attempt_107 ?_
  refine j_getR (idx := 13) (ci := 12) (k := 1) (nest := false) (show (12, 13, 12, 1, false) ∈ jFT by decide) rfl (Nat.le_of_ble_eq_true rfl) rfl (a := 160) rfl dX12_attempt_108 ?_
  refine j_sipush (n := 163) 163 (by decide) dX12_attempt_111 ?_
  refine j_dup2 rfl rfl dX12_attempt_114 ?_
  refine j_iald (Nat.le_of_ble_eq_true rfl) rfl (jinl (n := 1454) (by decide)) dX12_attempt_115 ?_
  refine j_eqst [.int ((jput h 160 ((l5 + 2).toNatClampNeg) l3) 160 163), .int 163, .ref 160] (by rfl) ?_
  refine j_iconst (n := 1) 1 (by decide) dX12_attempt_116 ?_
  refine j_iadd dX12_attempt_117 ?_
  refine j_iast (Nat.le_of_ble_eq_true rfl) rfl (jinl (n := 1454) (by decide)) dX12_attempt_118 ?_
  exact j_vret rfl (Nat.zero_le _) (Nat.zero_le _) dX12_attempt_119 v1
set_option maxRecDepth 100000 in
theorem rX12_attempt_0 {sc : Nat × (Nat → Int32)} {h : jH} {Q : jQ} {l1 l2 l3 : Int32} {P1 : jH → Prop} {P2 : Int32 → jH → Prop} {P3 : jH → Prop}
    (k1 : JM mX12_laysBy [.ref 159, .int l2, .int l3] (jG0 sc) h (jvoid sc P1))
    (k2 : ∀ h1 : jH, P1 h1 → JM mX12_allRight [.ref 159] (jG0 sc) h1 (jint sc P2))
    (k3 : ∀ h1 : jH, P1 h1 → ∀ (x2 : Int32) (h2 : jH), P2 x2 h2 → JM mX12_notes [.ref 159, .int l1, .int x2] (jG0 sc) h2 (jvoid sc P3))
    (o1 : ∀ h1 : jH, P1 h1 → ∀ (x2 : Int32) (h2 : jH), P2 x2 h2 → ∀ h3 : jH, P3 h3 → x2 < 0 → ¬ ((jput (jput h3 160 ((159 : Int32).toNatClampNeg) ((h3 160 ((159 : Int32).toNatClampNeg)) + 1)) 160 160 (((jput h3 160 ((159 : Int32).toNatClampNeg) ((h3 160 ((159 : Int32).toNatClampNeg)) + 1)) 160 160) + 1)) 160 163) = 30 → vp_in (164 + (3 * ((jput (jput h3 160 ((159 : Int32).toNatClampNeg) ((h3 160 ((159 : Int32).toNatClampNeg)) + 1)) 160 160 (((jput h3 160 ((159 : Int32).toNatClampNeg) ((h3 160 ((159 : Int32).toNatClampNeg)) + 1)) 160 160) + 1)) 160 163))) 1454)
    (o2 : ∀ h1 : jH, P1 h1 → ∀ (x2 : Int32) (h2 : jH), P2 x2 h2 → ∀ h3 : jH, P3 h3 → x2 < 0 → ¬ ((jput (jput h3 160 ((159 : Int32).toNatClampNeg) ((h3 160 ((159 : Int32).toNatClampNeg)) + 1)) 160 160 (((jput h3 160 ((159 : Int32).toNatClampNeg) ((h3 160 ((159 : Int32).toNatClampNeg)) + 1)) 160 160) + 1)) 160 163) = 30 → vp_in ((164 + (3 * ((jput (jput h3 160 ((159 : Int32).toNatClampNeg) ((h3 160 ((159 : Int32).toNatClampNeg)) + 1)) 160 160 (((jput h3 160 ((159 : Int32).toNatClampNeg) ((h3 160 ((159 : Int32).toNatClampNeg)) + 1)) 160 160) + 1)) 160 163))) + 1) 1454)
    (o3 : ∀ h1 : jH, P1 h1 → ∀ (x2 : Int32) (h2 : jH), P2 x2 h2 → ∀ h3 : jH, P3 h3 → x2 < 0 → ¬ ((jput (jput h3 160 ((159 : Int32).toNatClampNeg) ((h3 160 ((159 : Int32).toNatClampNeg)) + 1)) 160 160 (((jput h3 160 ((159 : Int32).toNatClampNeg) ((h3 160 ((159 : Int32).toNatClampNeg)) + 1)) 160 160) + 1)) 160 163) = 30 → vp_in ((164 + (3 * ((jput (jput h3 160 ((159 : Int32).toNatClampNeg) ((h3 160 ((159 : Int32).toNatClampNeg)) + 1)) 160 160 (((jput h3 160 ((159 : Int32).toNatClampNeg) ((h3 160 ((159 : Int32).toNatClampNeg)) + 1)) 160 160) + 1)) 160 163))) + 2) 1454)
    (v1 : ∀ h1 : jH, P1 h1 → ∀ (x2 : Int32) (h2 : jH), P2 x2 h2 → ∀ h3 : jH, P3 h3 → x2 < 0 → ¬ ((jput (jput h3 160 ((159 : Int32).toNatClampNeg) ((h3 160 ((159 : Int32).toNatClampNeg)) + 1)) 160 160 (((jput h3 160 ((159 : Int32).toNatClampNeg) ((h3 160 ((159 : Int32).toNatClampNeg)) + 1)) 160 160) + 1)) 160 163) = 30 → Q (.inl none) (jG0 sc) (jput (jput (jput (jput (jput (jput h3 160 ((159 : Int32).toNatClampNeg) ((h3 160 ((159 : Int32).toNatClampNeg)) + 1)) 160 160 (((jput h3 160 ((159 : Int32).toNatClampNeg) ((h3 160 ((159 : Int32).toNatClampNeg)) + 1)) 160 160) + 1)) 160 ((164 + (3 * ((jput (jput h3 160 ((159 : Int32).toNatClampNeg) ((h3 160 ((159 : Int32).toNatClampNeg)) + 1)) 160 160 (((jput h3 160 ((159 : Int32).toNatClampNeg) ((h3 160 ((159 : Int32).toNatClampNeg)) + 1)) 160 160) + 1)) 160 163))).toNatClampNeg) l1) 160 (((164 + (3 * ((jput (jput h3 160 ((159 : Int32).toNatClampNeg) ((h3 160 ((159 : Int32).toNatClampNeg)) + 1)) 160 160 (((jput h3 160 ((159 : Int32).toNatClampNeg) ((h3 160 ((159 : Int32).toNatClampNeg)) + 1)) 160 160) + 1)) 160 163))) + 1).toNatClampNeg) l2) 160 (((164 + (3 * ((jput (jput h3 160 ((159 : Int32).toNatClampNeg) ((h3 160 ((159 : Int32).toNatClampNeg)) + 1)) 160 160 (((jput h3 160 ((159 : Int32).toNatClampNeg) ((h3 160 ((159 : Int32).toNatClampNeg)) + 1)) 160 160) + 1)) 160 163))) + 2).toNatClampNeg) l3) 160 163 (((jput (jput (jput (jput (jput h3 160 ((159 : Int32).toNatClampNeg) ((h3 160 ((159 : Int32).toNatClampNeg)) + 1)) 160 160 (((jput h3 160 ((159 : Int32).toNatClampNeg) ((h3 160 ((159 : Int32).toNatClampNeg)) + 1)) 160 160) + 1)) 160 ((164 + (3 * ((jput (jput h3 160 ((159 : Int32).toNatClampNeg) ((h3 160 ((159 : Int32).toNatClampNeg)) + 1)) 160 160 (((jput h3 160 ((159 : Int32).toNatClampNeg) ((h3 160 ((159 : Int32).toNatClampNeg)) + 1)) 160 160) + 1)) 160 163))).toNatClampNeg) l1) 160 (((164 + (3 * ((jput (jput h3 160 ((159 : Int32).toNatClampNeg) ((h3 160 ((159 : Int32).toNatClampNeg)) + 1)) 160 160 (((jput h3 160 ((159 : Int32).toNatClampNeg) ((h3 160 ((159 : Int32).toNatClampNeg)) + 1)) 160 160) + 1)) 160 163))) + 1).toNatClampNeg) l2) 160 (((164 + (3 * ((jput (jput h3 160 ((159 : Int32).toNatClampNeg) ((h3 160 ((159 : Int32).toNatClampNeg)) + 1)) 160 160 (((jput h3 160 ((159 : Int32).toNatClampNeg) ((h3 160 ((159 : Int32).toNatClampNeg)) + 1)) 160 160) + 1)) 160 163))) + 2).toNatClampNeg) l3) 160 163) + 1)))
    (v2 : ∀ h1 : jH, P1 h1 → ∀ (x2 : Int32) (h2 : jH), P2 x2 h2 → ∀ h3 : jH, P3 h3 → x2 < 0 → ((jput (jput h3 160 ((159 : Int32).toNatClampNeg) ((h3 160 ((159 : Int32).toNatClampNeg)) + 1)) 160 160 (((jput h3 160 ((159 : Int32).toNatClampNeg) ((h3 160 ((159 : Int32).toNatClampNeg)) + 1)) 160 160) + 1)) 160 163) = 30 → Q (.inl none) (jG0 sc) (jput (jput h3 160 ((159 : Int32).toNatClampNeg) ((h3 160 ((159 : Int32).toNatClampNeg)) + 1)) 160 160 (((jput h3 160 ((159 : Int32).toNatClampNeg) ((h3 160 ((159 : Int32).toNatClampNeg)) + 1)) 160 160) + 1)))
    (v3 : ∀ h1 : jH, P1 h1 → ∀ (x2 : Int32) (h2 : jH), P2 x2 h2 → ∀ h3 : jH, P3 h3 → ¬ x2 < 0 → Q (.inl none) (jG0 sc) (jput h3 160 ((159 : Int32).toNatClampNeg) ((h3 160 ((159 : Int32).toNatClampNeg)) + 1))) :
    WP mX12_attempt Q 0 [some (.ref 159), some (.int l1), some (.int l2), some (.int l3), none, none] [] (jG0 sc) h (0, 0) := by
  exact (bX12_attempt_0 k1 (fun h1 p1 => (k2 h1 p1)) (fun h1 p1 x2 h2 p2 => (k3 h1 p1 x2 h2 p2)) (fun h1 p1 x2 h2 p2 h3 p3 => (bX12_attempt_26 (jinl (n := 1454) (by decide)) (jinl (n := 1454) (by decide)) (fun c1 => (bX12_attempt_37 (fun c2 => (bX12_attempt_63 (o1 h1 p1 x2 h2 p2 h3 p3 c1 c2) (o2 h1 p1 x2 h2 p2 h3 p3 c1 c2) (bX12_attempt_101 (o3 h1 p1 x2 h2 p2 h3 p3 c1 c2) (v1 h1 p1 x2 h2 p2 h3 p3 c1 c2)))) (fun c2 => (bX12_attempt_62 (v2 h1 p1 x2 h2 p2 h3 p3 c1 c2))))) (fun c1 => (bX12_attempt_36 (v3 h1 p1 x2 h2 p2 h3 p3 c1))))))
theorem dX12_tries_0 : decode (mC mX12_tries) 0 = .ok (.aload_n 0, 1) := by decide +kernel
theorem dX12_tries_1 : decode (mC mX12_tries) 1 = .ok (.iconst 0, 1) := by decide +kernel
theorem dX12_tries_2 : decode (mC mX12_tries) 2 = .ok (.putfield 3, 3) := by decide +kernel
theorem dX12_tries_5 : decode (mC mX12_tries) 5 = .ok (.aload_n 0, 1) := by decide +kernel
theorem dX12_tries_6 : decode (mC mX12_tries) 6 = .ok (.iload_n 1, 1) := by decide +kernel
theorem dX12_tries_7 : decode (mC mX12_tries) 7 = .ok (.iconst 0, 1) := by decide +kernel
theorem dX12_tries_8 : decode (mC mX12_tries) 8 = .ok (.sipush 400, 3) := by decide +kernel
theorem dX12_tries_11 : decode (mC mX12_tries) 11 = .ok (.invokestatic 206, 3) := by decide +kernel
theorem dX12_tries_14 : decode (mC mX12_tries) 14 = .ok (.ifCond .ne 7, 3) := by decide +kernel
theorem dX12_tries_17 : decode (mC mX12_tries) 17 = .ok (.iconst 1, 1) := by decide +kernel
theorem dX12_tries_18 : decode (mC mX12_tries) 18 = .ok (.goto 4, 3) := by decide +kernel
theorem dX12_tries_21 : decode (mC mX12_tries) 21 = .ok (.iconst 0, 1) := by decide +kernel
theorem dX12_tries_22 : decode (mC mX12_tries) 22 = .ok (.iconst 1, 1) := by decide +kernel
theorem dX12_tries_23 : decode (mC mX12_tries) 23 = .ok (.invokevirtual 157, 3) := by decide +kernel
theorem dX12_tries_26 : decode (mC mX12_tries) 26 = .ok (.ifCond .ne 23, 3) := by decide +kernel
theorem dX12_tries_29 : decode (mC mX12_tries) 29 = .ok (.aload_n 0, 1) := by decide +kernel
theorem dX12_tries_30 : decode (mC mX12_tries) 30 = .ok (.aload_n 0, 1) := by decide +kernel
theorem dX12_tries_31 : decode (mC mX12_tries) 31 = .ok (.invokevirtual 265, 3) := by decide +kernel
theorem dX12_tries_34 : decode (mC mX12_tries) 34 = .ok (.ifCond .ne 7, 3) := by decide +kernel
theorem dX12_tries_37 : decode (mC mX12_tries) 37 = .ok (.iconst 1, 1) := by decide +kernel
theorem dX12_tries_38 : decode (mC mX12_tries) 38 = .ok (.goto 4, 3) := by decide +kernel
theorem dX12_tries_41 : decode (mC mX12_tries) 41 = .ok (.iconst 0, 1) := by decide +kernel
theorem dX12_tries_42 : decode (mC mX12_tries) 42 = .ok (.iconst 2, 1) := by decide +kernel
theorem dX12_tries_43 : decode (mC mX12_tries) 43 = .ok (.invokevirtual 157, 3) := by decide +kernel
theorem dX12_tries_46 : decode (mC mX12_tries) 46 = .ok (.ifCond .eq 5, 3) := by decide +kernel
theorem dX12_tries_49 : decode (mC mX12_tries) 49 = .ok (.iconst 0, 1) := by decide +kernel
theorem dX12_tries_50 : decode (mC mX12_tries) 50 = .ok (.ireturn, 1) := by decide +kernel
theorem dX12_tries_51 : decode (mC mX12_tries) 51 = .ok (.aload_n 0, 1) := by decide +kernel
theorem dX12_tries_52 : decode (mC mX12_tries) 52 = .ok (.invokevirtual 319, 3) := by decide +kernel
theorem dX12_tries_55 : decode (mC mX12_tries) 55 = .ok (.aload_n 0, 1) := by decide +kernel
theorem dX12_tries_56 : decode (mC mX12_tries) 56 = .ok (.getfield 13, 3) := by decide +kernel
theorem dX12_tries_59 : decode (mC mX12_tries) 59 = .ok (.sipush 159, 3) := by decide +kernel
theorem dX12_tries_62 : decode (mC mX12_tries) 62 = .ok (.iaload, 1) := by decide +kernel
theorem dX12_tries_63 : decode (mC mX12_tries) 63 = .ok (.istore_n 2, 1) := by decide +kernel
theorem dX12_tries_64 : decode (mC mX12_tries) 64 = .ok (.iload_n 2, 1) := by decide +kernel
theorem dX12_tries_65 : decode (mC mX12_tries) 65 = .ok (.iload_n 1, 1) := by decide +kernel
theorem dX12_tries_66 : decode (mC mX12_tries) 66 = .ok (.iadd, 1) := by decide +kernel
theorem dX12_tries_67 : decode (mC mX12_tries) 67 = .ok (.istore_n 3, 1) := by decide +kernel
theorem dX12_tries_68 : decode (mC mX12_tries) 68 = .ok (.iconst 0, 1) := by decide +kernel
theorem dX12_tries_69 : decode (mC mX12_tries) 69 = .ok (.istore 4, 2) := by decide +kernel
theorem dX12_tries_71 : decode (mC mX12_tries) 71 = .ok (.iconst 0, 1) := by decide +kernel
theorem dX12_tries_72 : decode (mC mX12_tries) 72 = .ok (.istore 5, 2) := by decide +kernel
theorem dX12_tries_74 : decode (mC mX12_tries) 74 = .ok (.iload 5, 2) := by decide +kernel
theorem dX12_tries_76 : decode (mC mX12_tries) 76 = .ok (.aload_n 0, 1) := by decide +kernel
theorem dX12_tries_77 : decode (mC mX12_tries) 77 = .ok (.getfield 290, 3) := by decide +kernel
theorem dX12_tries_80 : decode (mC mX12_tries) 80 = .ok (.if_icmp .ge 33, 3) := by decide +kernel
theorem dX12_tries_83 : decode (mC mX12_tries) 83 = .ok (.iload 4, 2) := by decide +kernel
theorem dX12_tries_85 : decode (mC mX12_tries) 85 = .ok (.iload_n 2, 1) := by decide +kernel
theorem dX12_tries_86 : decode (mC mX12_tries) 86 = .ok (.iload_n 3, 1) := by decide +kernel
theorem dX12_tries_87 : decode (mC mX12_tries) 87 = .ok (.iconst 1, 1) := by decide +kernel
theorem dX12_tries_88 : decode (mC mX12_tries) 88 = .ok (.isub, 1) := by decide +kernel
theorem dX12_tries_89 : decode (mC mX12_tries) 89 = .ok (.invokestatic 206, 3) := by decide +kernel
theorem dX12_tries_92 : decode (mC mX12_tries) 92 = .ok (.ifCond .eq 12, 3) := by decide +kernel
theorem dX12_tries_95 : decode (mC mX12_tries) 95 = .ok (.aload_n 0, 1) := by decide +kernel
theorem dX12_tries_96 : decode (mC mX12_tries) 96 = .ok (.iload 4, 2) := by decide +kernel
theorem dX12_tries_98 : decode (mC mX12_tries) 98 = .ok (.iload 5, 2) := by decide +kernel
theorem dX12_tries_100 : decode (mC mX12_tries) 100 = .ok (.iconst (-1), 1) := by decide +kernel
theorem dX12_tries_101 : decode (mC mX12_tries) 101 = .ok (.invokevirtual 342, 3) := by decide +kernel
theorem dX12_tries_104 : decode (mC mX12_tries) 104 = .ok (.iinc 4 1, 3) := by decide +kernel
theorem dX12_tries_107 : decode (mC mX12_tries) 107 = .ok (.iinc 5 1, 3) := by decide +kernel
theorem dX12_tries_110 : decode (mC mX12_tries) 110 = .ok (.goto (-36), 3) := by decide +kernel
theorem dX12_tries_113 : decode (mC mX12_tries) 113 = .ok (.iconst 0, 1) := by decide +kernel
theorem dX12_tries_114 : decode (mC mX12_tries) 114 = .ok (.istore 5, 2) := by decide +kernel
theorem dX12_tries_116 : decode (mC mX12_tries) 116 = .ok (.iload 5, 2) := by decide +kernel
theorem dX12_tries_118 : decode (mC mX12_tries) 118 = .ok (.aload_n 0, 1) := by decide +kernel
theorem dX12_tries_119 : decode (mC mX12_tries) 119 = .ok (.getfield 290, 3) := by decide +kernel
theorem dX12_tries_122 : decode (mC mX12_tries) 122 = .ok (.if_icmp .ge 75, 3) := by decide +kernel
theorem dX12_tries_125 : decode (mC mX12_tries) 125 = .ok (.iload 4, 2) := by decide +kernel
theorem dX12_tries_127 : decode (mC mX12_tries) 127 = .ok (.iload_n 3, 1) := by decide +kernel
theorem dX12_tries_128 : decode (mC mX12_tries) 128 = .ok (.if_icmp .ge 69, 3) := by decide +kernel
theorem dX12_tries_131 : decode (mC mX12_tries) 131 = .ok (.iload 5, 2) := by decide +kernel
theorem dX12_tries_133 : decode (mC mX12_tries) 133 = .ok (.iconst 1, 1) := by decide +kernel
theorem dX12_tries_134 : decode (mC mX12_tries) 134 = .ok (.iadd, 1) := by decide +kernel
theorem dX12_tries_135 : decode (mC mX12_tries) 135 = .ok (.istore 6, 2) := by decide +kernel
theorem dX12_tries_137 : decode (mC mX12_tries) 137 = .ok (.iload 6, 2) := by decide +kernel
theorem dX12_tries_139 : decode (mC mX12_tries) 139 = .ok (.aload_n 0, 1) := by decide +kernel
theorem dX12_tries_140 : decode (mC mX12_tries) 140 = .ok (.getfield 290, 3) := by decide +kernel
theorem dX12_tries_143 : decode (mC mX12_tries) 143 = .ok (.if_icmp .ge 48, 3) := by decide +kernel
theorem dX12_tries_146 : decode (mC mX12_tries) 146 = .ok (.iload 4, 2) := by decide +kernel
theorem dX12_tries_148 : decode (mC mX12_tries) 148 = .ok (.iload_n 3, 1) := by decide +kernel
theorem dX12_tries_149 : decode (mC mX12_tries) 149 = .ok (.if_icmp .ge 42, 3) := by decide +kernel
theorem dX12_tries_152 : decode (mC mX12_tries) 152 = .ok (.aload_n 0, 1) := by decide +kernel
theorem dX12_tries_153 : decode (mC mX12_tries) 153 = .ok (.iload 5, 2) := by decide +kernel
theorem dX12_tries_155 : decode (mC mX12_tries) 155 = .ok (.iload 6, 2) := by decide +kernel
theorem dX12_tries_157 : decode (mC mX12_tries) 157 = .ok (.invokevirtual 333, 3) := by decide +kernel
theorem dX12_tries_160 : decode (mC mX12_tries) 160 = .ok (.ifCond .ne 6, 3) := by decide +kernel
theorem dX12_tries_163 : decode (mC mX12_tries) 163 = .ok (.goto 22, 3) := by decide +kernel
theorem dX12_tries_166 : decode (mC mX12_tries) 166 = .ok (.iload 4, 2) := by decide +kernel
theorem dX12_tries_168 : decode (mC mX12_tries) 168 = .ok (.iload_n 2, 1) := by decide +kernel
theorem dX12_tries_169 : decode (mC mX12_tries) 169 = .ok (.if_icmp .lt 13, 3) := by decide +kernel
theorem dX12_tries_172 : decode (mC mX12_tries) 172 = .ok (.aload_n 0, 1) := by decide +kernel
theorem dX12_tries_173 : decode (mC mX12_tries) 173 = .ok (.iload 4, 2) := by decide +kernel
theorem dX12_tries_175 : decode (mC mX12_tries) 175 = .ok (.iload 5, 2) := by decide +kernel
theorem dX12_tries_177 : decode (mC mX12_tries) 177 = .ok (.iload 6, 2) := by decide +kernel
theorem dX12_tries_179 : decode (mC mX12_tries) 179 = .ok (.invokevirtual 342, 3) := by decide +kernel
theorem dX12_tries_182 : decode (mC mX12_tries) 182 = .ok (.iinc 4 1, 3) := by decide +kernel
theorem dX12_tries_185 : decode (mC mX12_tries) 185 = .ok (.iinc 6 1, 3) := by decide +kernel
theorem dX12_tries_188 : decode (mC mX12_tries) 188 = .ok (.goto (-51), 3) := by decide +kernel
theorem dX12_tries_191 : decode (mC mX12_tries) 191 = .ok (.iinc 5 1, 3) := by decide +kernel
theorem dX12_tries_194 : decode (mC mX12_tries) 194 = .ok (.goto (-78), 3) := by decide +kernel
theorem dX12_tries_197 : decode (mC mX12_tries) 197 = .ok (.aload_n 0, 1) := by decide +kernel
theorem dX12_tries_198 : decode (mC mX12_tries) 198 = .ok (.getfield 13, 3) := by decide +kernel
theorem dX12_tries_201 : decode (mC mX12_tries) 201 = .ok (.sipush 159, 3) := by decide +kernel
theorem dX12_tries_204 : decode (mC mX12_tries) 204 = .ok (.iaload, 1) := by decide +kernel
theorem dX12_tries_205 : decode (mC mX12_tries) 205 = .ok (.iload_n 2, 1) := by decide +kernel
theorem dX12_tries_206 : decode (mC mX12_tries) 206 = .ok (.isub, 1) := by decide +kernel
theorem dX12_tries_207 : decode (mC mX12_tries) 207 = .ok (.ireturn, 1) := by decide +kernel
set_option maxRecDepth 100000 in
theorem bX12_tries_0 {sc : Nat × (Nat → Int32)} {h : jH} {Q : jQ} {l1 : Int32} {P1 : Int32 → jH → Prop}
    (k1 : JM mX12_in [.int l1, .int 0, .int 400] (jG0 sc) (jput h 159 0 0) (jint sc P1))
    (v1 : ∀ (x1 : Int32) (h1 : jH), P1 x1 h1 → ¬ x1 = 0 → WP mX12_tries Q 21 [some (.ref 159), some (.int l1), none, none, none, none, none] [.ref 159] (jG0 sc) h1 (0, 0))
    (v2 : ∀ (x1 : Int32) (h1 : jH), P1 x1 h1 → x1 = 0 → WP mX12_tries Q 17 [some (.ref 159), some (.int l1), none, none, none, none, none] [.ref 159] (jG0 sc) h1 (0, 0)) :
    WP mX12_tries Q 0 [some (.ref 159), some (.int l1), none, none, none, none, none] [] (jG0 sc) h (0, 0) := by
  refine j_aload_n (i := 0) rfl dX12_tries_0 ?_
  refine j_iconst (n := 0) 0 (by decide) dX12_tries_1 ?_
  refine j_putI (idx := 3) (ci := 12) (k := 0) (nest := false) (show (12, 3, 12, 0, false) ∈ jFT by decide) rfl rfl rfl rfl (Nat.le_of_ble_eq_true rfl) rfl dX12_tries_2 ?_
  refine j_aload_n (i := 0) rfl dX12_tries_5 ?_
  refine j_iload_n (i := 1) rfl dX12_tries_6 ?_
  refine j_iconst (n := 0) 0 (by decide) dX12_tries_7 ?_
  refine j_sipush (n := 400) 400 (by decide) dX12_tries_8 ?_
  refine j_callS (idx := 206) (As := [.int l1, .int 0, .int 400]) (n := 3) k1 jint_nt (jlkT (jtb7 84 rfl) rfl) sX12_in kX12_in rfl ⟨by decide +kernel, by decide +kernel, by decide +kernel⟩ rfl ⟨by decide, by decide⟩ (Nat.le_of_ble_eq_true rfl) ⟨Nat.zero_le _, Nat.zero_le _⟩ dX12_tries_11 (fun r Γ' h1 q => ?_)
  obtain ⟨x1, q0, rfl, p1⟩ := q; cases q0
  refine j_eqst [.int x1, .ref 159] (by rfl) ?_
  refine j_if_ne (off := 7) 21 dX12_tries_14 (by decide) (fun c1 => ?_) (fun c1 => ?_)
  · exact j_le [some (.ref 159), some (.int l1), none, none, none, none, none] (And.intro rfl (And.intro rfl True.intro)) (v1 x1 h1 p1 c1)
  · exact j_le [some (.ref 159), some (.int l1), none, none, none, none, none] (And.intro rfl (And.intro rfl True.intro)) (v2 x1 h1 p1 c1)
set_option maxRecDepth 100000 in
theorem bX12_tries_17 {sc : Nat × (Nat → Int32)} {h : jH} {Q : jQ} {l1 : Int32}
    (v1 : WP mX12_tries Q 22 [some (.ref 159), some (.int l1), none, none, none, none, none] [.int 1, .ref 159] (jG0 sc) h (0, 0)) :
    WP mX12_tries Q 17 [some (.ref 159), some (.int l1), none, none, none, none, none] [.ref 159] (jG0 sc) h (0, 0) := by
  refine j_iconst (n := 1) 1 (by decide) dX12_tries_17 ?_
  refine j_goto (off := 4) 22 dX12_tries_18 (by decide) ?_
  exact j_le [some (.ref 159), some (.int l1), none, none, none, none, none] (And.intro rfl (And.intro rfl True.intro)) v1
set_option maxRecDepth 100000 in
theorem bX12_tries_21 {sc : Nat × (Nat → Int32)} {h : jH} {Q : jQ} {l1 : Int32}
    (v1 : WP mX12_tries Q 22 [some (.ref 159), some (.int l1), none, none, none, none, none] [.int 0, .ref 159] (jG0 sc) h (0, 0)) :
    WP mX12_tries Q 21 [some (.ref 159), some (.int l1), none, none, none, none, none] [.ref 159] (jG0 sc) h (0, 0) := by
  refine j_iconst (n := 0) 0 (by decide) dX12_tries_21 ?_
  exact j_le [some (.ref 159), some (.int l1), none, none, none, none, none] (And.intro rfl (And.intro rfl True.intro)) v1
set_option maxRecDepth 100000 in
theorem bX12_tries_22 {sc : Nat × (Nat → Int32)} {h : jH} {Q : jQ} {l1 s0 : Int32} {P1 : Int32 → jH → Prop}
    (k1 : JM mX12_throwsIf [.ref 159, .int s0, .int 1] (jG0 sc) h (jint sc P1))
    (v1 : ∀ (x1 : Int32) (h1 : jH), P1 x1 h1 → ¬ x1 = 0 → WP mX12_tries Q 49 [some (.ref 159), some (.int l1), none, none, none, none, none] [] (jG0 sc) h1 (0, 0))
    (v2 : ∀ (x1 : Int32) (h1 : jH), P1 x1 h1 → x1 = 0 → WP mX12_tries Q 29 [some (.ref 159), some (.int l1), none, none, none, none, none] [] (jG0 sc) h1 (0, 0)) :
    WP mX12_tries Q 22 [some (.ref 159), some (.int l1), none, none, none, none, none] [.int s0, .ref 159] (jG0 sc) h (0, 0) := by
  refine j_iconst (n := 1) 1 (by decide) dX12_tries_22 ?_
  refine j_callV (idx := 157) (As := [.int s0, .int 1]) (ci := 12) (n := 2) k1 jint_nt (jlkT (jtb7 17 rfl) rfl) sX12_throwsIf kX12_throwsIf rfl ⟨rfl, by decide +kernel, by decide +kernel, by decide +kernel⟩ rfl ⟨by decide, by decide⟩ (Nat.le_of_ble_eq_true rfl) rfl (Nat.le_of_ble_eq_true rfl) (Nat.le_of_ble_eq_true rfl) ⟨Nat.zero_le _, Nat.zero_le _⟩ dX12_tries_23 (fun r Γ' h1 q => ?_)
  obtain ⟨x1, q0, rfl, p1⟩ := q; cases q0
  refine j_eqst [.int x1] (by rfl) ?_
  refine j_if_ne (off := 23) 49 dX12_tries_26 (by decide) (fun c1 => ?_) (fun c1 => ?_)
  · exact j_le [some (.ref 159), some (.int l1), none, none, none, none, none] (And.intro rfl (And.intro rfl True.intro)) (v1 x1 h1 p1 c1)
  · exact j_le [some (.ref 159), some (.int l1), none, none, none, none, none] (And.intro rfl (And.intro rfl True.intro)) (v2 x1 h1 p1 c1)
set_option maxRecDepth 100000 in
theorem bX12_tries_29 {sc : Nat × (Nat → Int32)} {h : jH} {Q : jQ} {l1 : Int32} {P1 : Int32 → jH → Prop}
    (k1 : JM mX12_lines [.ref 159] (jG0 sc) h (jint sc P1))
    (v1 : ∀ (x1 : Int32) (h1 : jH), P1 x1 h1 → ¬ x1 = 0 → WP mX12_tries Q 41 [some (.ref 159), some (.int l1), none, none, none, none, none] [.ref 159] (jG0 sc) h1 (0, 0))
    (v2 : ∀ (x1 : Int32) (h1 : jH), P1 x1 h1 → x1 = 0 → WP mX12_tries Q 37 [some (.ref 159), some (.int l1), none, none, none, none, none] [.ref 159] (jG0 sc) h1 (0, 0)) :
    WP mX12_tries Q 29 [some (.ref 159), some (.int l1), none, none, none, none, none] [] (jG0 sc) h (0, 0) := by
  refine j_aload_n (i := 0) rfl dX12_tries_29 ?_
  refine j_aload_n (i := 0) rfl dX12_tries_30 ?_
  refine j_callV (idx := 265) (As := []) (ci := 12) (n := 0) k1 jint_nt (jlkT (jtb7 112 rfl) rfl) sX12_lines kX12_lines rfl ⟨rfl, by decide +kernel, by decide +kernel, by decide +kernel⟩ rfl ⟨by decide, by decide⟩ (Nat.le_of_ble_eq_true rfl) rfl (Nat.le_of_ble_eq_true rfl) (Nat.le_of_ble_eq_true rfl) ⟨Nat.zero_le _, Nat.zero_le _⟩ dX12_tries_31 (fun r Γ' h1 q => ?_)
  obtain ⟨x1, q0, rfl, p1⟩ := q; cases q0
  refine j_eqst [.int x1, .ref 159] (by rfl) ?_
  refine j_if_ne (off := 7) 41 dX12_tries_34 (by decide) (fun c1 => ?_) (fun c1 => ?_)
  · exact j_le [some (.ref 159), some (.int l1), none, none, none, none, none] (And.intro rfl (And.intro rfl True.intro)) (v1 x1 h1 p1 c1)
  · exact j_le [some (.ref 159), some (.int l1), none, none, none, none, none] (And.intro rfl (And.intro rfl True.intro)) (v2 x1 h1 p1 c1)
set_option maxRecDepth 100000 in
theorem bX12_tries_37 {sc : Nat × (Nat → Int32)} {h : jH} {Q : jQ} {l1 : Int32}
    (v1 : WP mX12_tries Q 42 [some (.ref 159), some (.int l1), none, none, none, none, none] [.int 1, .ref 159] (jG0 sc) h (0, 0)) :
    WP mX12_tries Q 37 [some (.ref 159), some (.int l1), none, none, none, none, none] [.ref 159] (jG0 sc) h (0, 0) := by
  refine j_iconst (n := 1) 1 (by decide) dX12_tries_37 ?_
  refine j_goto (off := 4) 42 dX12_tries_38 (by decide) ?_
  exact j_le [some (.ref 159), some (.int l1), none, none, none, none, none] (And.intro rfl (And.intro rfl True.intro)) v1
set_option maxRecDepth 100000 in
theorem bX12_tries_41 {sc : Nat × (Nat → Int32)} {h : jH} {Q : jQ} {l1 : Int32}
    (v1 : WP mX12_tries Q 42 [some (.ref 159), some (.int l1), none, none, none, none, none] [.int 0, .ref 159] (jG0 sc) h (0, 0)) :
    WP mX12_tries Q 41 [some (.ref 159), some (.int l1), none, none, none, none, none] [.ref 159] (jG0 sc) h (0, 0) := by
  refine j_iconst (n := 0) 0 (by decide) dX12_tries_41 ?_
  exact j_le [some (.ref 159), some (.int l1), none, none, none, none, none] (And.intro rfl (And.intro rfl True.intro)) v1
set_option maxRecDepth 100000 in
theorem bX12_tries_42 {sc : Nat × (Nat → Int32)} {h : jH} {Q : jQ} {l1 s0 : Int32} {P1 : Int32 → jH → Prop}
    (k1 : JM mX12_throwsIf [.ref 159, .int s0, .int 2] (jG0 sc) h (jint sc P1))
    (v1 : ∀ (x1 : Int32) (h1 : jH), P1 x1 h1 → x1 = 0 → WP mX12_tries Q 51 [some (.ref 159), some (.int l1), none, none, none, none, none] [] (jG0 sc) h1 (0, 0))
    (v2 : ∀ (x1 : Int32) (h1 : jH), P1 x1 h1 → ¬ x1 = 0 → WP mX12_tries Q 49 [some (.ref 159), some (.int l1), none, none, none, none, none] [] (jG0 sc) h1 (0, 0)) :
    WP mX12_tries Q 42 [some (.ref 159), some (.int l1), none, none, none, none, none] [.int s0, .ref 159] (jG0 sc) h (0, 0) := by
  refine j_iconst (n := 2) 2 (by decide) dX12_tries_42 ?_
  refine j_callV (idx := 157) (As := [.int s0, .int 2]) (ci := 12) (n := 2) k1 jint_nt (jlkT (jtb7 17 rfl) rfl) sX12_throwsIf kX12_throwsIf rfl ⟨rfl, by decide +kernel, by decide +kernel, by decide +kernel⟩ rfl ⟨by decide, by decide⟩ (Nat.le_of_ble_eq_true rfl) rfl (Nat.le_of_ble_eq_true rfl) (Nat.le_of_ble_eq_true rfl) ⟨Nat.zero_le _, Nat.zero_le _⟩ dX12_tries_43 (fun r Γ' h1 q => ?_)
  obtain ⟨x1, q0, rfl, p1⟩ := q; cases q0
  refine j_eqst [.int x1] (by rfl) ?_
  refine j_if_eq (off := 5) 51 dX12_tries_46 (by decide) (fun c1 => ?_) (fun c1 => ?_)
  · exact j_le [some (.ref 159), some (.int l1), none, none, none, none, none] (And.intro rfl (And.intro rfl True.intro)) (v1 x1 h1 p1 c1)
  · exact j_le [some (.ref 159), some (.int l1), none, none, none, none, none] (And.intro rfl (And.intro rfl True.intro)) (v2 x1 h1 p1 c1)
set_option maxRecDepth 100000 in
theorem bX12_tries_49 {sc : Nat × (Nat → Int32)} {h : jH} {Q : jQ} {l1 : Int32}
    (v1 : Q (.inl (some (.int 0))) (jG0 sc) h) :
    WP mX12_tries Q 49 [some (.ref 159), some (.int l1), none, none, none, none, none] [] (jG0 sc) h (0, 0) := by
  refine j_iconst (n := 0) 0 (by decide) dX12_tries_49 ?_
  exact j_iret rfl rfl (Nat.zero_le _) (Nat.zero_le _) dX12_tries_50 v1
set_option maxRecDepth 100000 in
theorem bX12_tries_51 {sc : Nat × (Nat → Int32)} {h : jH} {Q : jQ} {l1 : Int32} {P1 : jH → Prop}
    (k1 : JM mX12_listsBody [.ref 159] (jG0 sc) h (jvoid sc P1))
    (v1 : ∀ h1 : jH, P1 h1 → WP mX12_tries Q 74 [some (.ref 159), some (.int l1), some (.int (h1 160 159)), some (.int ((h1 160 159) + l1)), some (.int 0), some (.int 0), none] [] (jG0 sc) h1 (0, 0)) :
    WP mX12_tries Q 51 [some (.ref 159), some (.int l1), none, none, none, none, none] [] (jG0 sc) h (0, 0) := by
  refine j_aload_n (i := 0) rfl dX12_tries_51 ?_
  refine j_callV (idx := 319) (As := []) (ci := 12) (n := 0) k1 jvoid_nt (jlkT (jtb7 160 rfl) rfl) sX12_listsBody kX12_listsBody rfl ⟨rfl, by decide +kernel, by decide +kernel, by decide +kernel⟩ rfl ⟨by decide, by decide⟩ (Nat.le_of_ble_eq_true rfl) rfl (Nat.le_of_ble_eq_true rfl) (Nat.le_of_ble_eq_true rfl) ⟨Nat.zero_le _, Nat.zero_le _⟩ dX12_tries_52 (fun r Γ' h1 q => ?_)
  obtain ⟨q0, rfl, p1⟩ := q; cases q0
  refine j_eqst [] (by rfl) ?_
  refine j_aload_n (i := 0) rfl dX12_tries_55 ?_
  refine j_getR (idx := 13) (ci := 12) (k := 1) (nest := false) (show (12, 13, 12, 1, false) ∈ jFT by decide) rfl (Nat.le_of_ble_eq_true rfl) rfl (a := 160) rfl dX12_tries_56 ?_
  refine j_sipush (n := 159) 159 (by decide) dX12_tries_59 ?_
  refine j_iald (Nat.le_of_ble_eq_true rfl) rfl (jinl (n := 1454) (by decide)) dX12_tries_62 ?_
  refine j_eqst [.int (h1 160 159)] (by rfl) ?_
  refine j_istore_n (i := 2) dX12_tries_63 (Nat.le_of_ble_eq_true rfl) ?_
  refine j_iload_n (i := 2) rfl dX12_tries_64 ?_
  refine j_iload_n (i := 1) rfl dX12_tries_65 ?_
  refine j_iadd dX12_tries_66 ?_
  refine j_istore_n (i := 3) dX12_tries_67 (Nat.le_of_ble_eq_true rfl) ?_
  refine j_iconst (n := 0) 0 (by decide) dX12_tries_68 ?_
  refine j_istore (i := 4) dX12_tries_69 (Nat.le_of_ble_eq_true rfl) ?_
  refine j_iconst (n := 0) 0 (by decide) dX12_tries_71 ?_
  refine j_istore (i := 5) dX12_tries_72 (Nat.le_of_ble_eq_true rfl) ?_
  exact j_le [some (.ref 159), some (.int l1), some (.int (h1 160 159)), some (.int ((h1 160 159) + l1)), some (.int 0), some (.int 0), none] (And.intro rfl (And.intro rfl (And.intro rfl (And.intro rfl (And.intro rfl (And.intro rfl True.intro)))))) (v1 h1 p1)
set_option maxRecDepth 100000 in
theorem bX12_tries_74 {sc : Nat × (Nat → Int32)} {h : jH} {Q : jQ} {l1 l2 l3 l4 l5 : Int32}
    (v1 : (h 159 26) ≤ l5 → WP mX12_tries Q 113 [some (.ref 159), some (.int l1), some (.int l2), some (.int l3), some (.int l4), some (.int l5), none] [] (jG0 sc) h (0, 0))
    (v2 : ¬ (h 159 26) ≤ l5 → WP mX12_tries Q 83 [some (.ref 159), some (.int l1), some (.int l2), some (.int l3), some (.int l4), some (.int l5), none] [] (jG0 sc) h (0, 0)) :
    WP mX12_tries Q 74 [some (.ref 159), some (.int l1), some (.int l2), some (.int l3), some (.int l4), some (.int l5), none] [] (jG0 sc) h (0, 0) := by
  refine j_iload (i := 5) rfl dX12_tries_74 ?_
  refine j_aload_n (i := 0) rfl dX12_tries_76 ?_
  refine j_getI (idx := 290) (ci := 12) (k := 26) (nest := false) (show (12, 290, 12, 26, false) ∈ jFT by decide) rfl (Nat.le_of_ble_eq_true rfl) rfl dX12_tries_77 ?_
  refine j_icmp_ge (off := 33) 113 dX12_tries_80 (by decide) (fun c1 => ?_) (fun c1 => ?_)
  · exact j_le [some (.ref 159), some (.int l1), some (.int l2), some (.int l3), some (.int l4), some (.int l5), none] (And.intro rfl (And.intro rfl (And.intro rfl (And.intro rfl (And.intro rfl (And.intro rfl True.intro)))))) (v1 c1)
  · exact j_le [some (.ref 159), some (.int l1), some (.int l2), some (.int l3), some (.int l4), some (.int l5), none] (And.intro rfl (And.intro rfl (And.intro rfl (And.intro rfl (And.intro rfl (And.intro rfl True.intro)))))) (v2 c1)
set_option maxRecDepth 100000 in
theorem bX12_tries_83 {sc : Nat × (Nat → Int32)} {h : jH} {Q : jQ} {l1 l2 l3 l4 l5 : Int32} {P1 : Int32 → jH → Prop}
    (k1 : JM mX12_in [.int l4, .int l2, .int (l3 - 1)] (jG0 sc) h (jint sc P1))
    (v1 : ∀ (x1 : Int32) (h1 : jH), P1 x1 h1 → x1 = 0 → WP mX12_tries Q 104 [some (.ref 159), some (.int l1), some (.int l2), some (.int l3), some (.int l4), some (.int l5), none] [] (jG0 sc) h1 (0, 0))
    (v2 : ∀ (x1 : Int32) (h1 : jH), P1 x1 h1 → ¬ x1 = 0 → WP mX12_tries Q 95 [some (.ref 159), some (.int l1), some (.int l2), some (.int l3), some (.int l4), some (.int l5), none] [] (jG0 sc) h1 (0, 0)) :
    WP mX12_tries Q 83 [some (.ref 159), some (.int l1), some (.int l2), some (.int l3), some (.int l4), some (.int l5), none] [] (jG0 sc) h (0, 0) := by
  refine j_iload (i := 4) rfl dX12_tries_83 ?_
  refine j_iload_n (i := 2) rfl dX12_tries_85 ?_
  refine j_iload_n (i := 3) rfl dX12_tries_86 ?_
  refine j_iconst (n := 1) 1 (by decide) dX12_tries_87 ?_
  refine j_isub dX12_tries_88 ?_
  refine j_callS (idx := 206) (As := [.int l4, .int l2, .int (l3 - 1)]) (n := 3) k1 jint_nt (jlkT (jtb7 84 rfl) rfl) sX12_in kX12_in rfl ⟨by decide +kernel, by decide +kernel, by decide +kernel⟩ rfl ⟨by decide, by decide⟩ (Nat.le_of_ble_eq_true rfl) ⟨Nat.zero_le _, Nat.zero_le _⟩ dX12_tries_89 (fun r Γ' h1 q => ?_)
  obtain ⟨x1, q0, rfl, p1⟩ := q; cases q0
  refine j_eqst [.int x1] (by rfl) ?_
  refine j_if_eq (off := 12) 104 dX12_tries_92 (by decide) (fun c1 => ?_) (fun c1 => ?_)
  · exact j_le [some (.ref 159), some (.int l1), some (.int l2), some (.int l3), some (.int l4), some (.int l5), none] (And.intro rfl (And.intro rfl (And.intro rfl (And.intro rfl (And.intro rfl (And.intro rfl True.intro)))))) (v1 x1 h1 p1 c1)
  · exact j_le [some (.ref 159), some (.int l1), some (.int l2), some (.int l3), some (.int l4), some (.int l5), none] (And.intro rfl (And.intro rfl (And.intro rfl (And.intro rfl (And.intro rfl (And.intro rfl True.intro)))))) (v2 x1 h1 p1 c1)
set_option maxRecDepth 100000 in
theorem bX12_tries_95 {sc : Nat × (Nat → Int32)} {h : jH} {Q : jQ} {l1 l2 l3 l4 l5 : Int32} {P1 : jH → Prop}
    (k1 : JM mX12_attempt [.ref 159, .int l4, .int l5, .int (-1)] (jG0 sc) h (jvoid sc P1))
    (v1 : ∀ h1 : jH, P1 h1 → WP mX12_tries Q 104 [some (.ref 159), some (.int l1), some (.int l2), some (.int l3), some (.int l4), some (.int l5), none] [] (jG0 sc) h1 (0, 0)) :
    WP mX12_tries Q 95 [some (.ref 159), some (.int l1), some (.int l2), some (.int l3), some (.int l4), some (.int l5), none] [] (jG0 sc) h (0, 0) := by
  refine j_aload_n (i := 0) rfl dX12_tries_95 ?_
  refine j_iload (i := 4) rfl dX12_tries_96 ?_
  refine j_iload (i := 5) rfl dX12_tries_98 ?_
  refine j_iconst (n := (-1)) (-1) (by decide) dX12_tries_100 ?_
  refine j_callV (idx := 342) (As := [.int l4, .int l5, .int (-1)]) (ci := 12) (n := 3) k1 jvoid_nt (jlkT (jtb7 213 rfl) rfl) sX12_attempt kX12_attempt rfl ⟨rfl, by decide +kernel, by decide +kernel, by decide +kernel⟩ rfl ⟨by decide, by decide⟩ (Nat.le_of_ble_eq_true rfl) rfl (Nat.le_of_ble_eq_true rfl) (Nat.le_of_ble_eq_true rfl) ⟨Nat.zero_le _, Nat.zero_le _⟩ dX12_tries_101 (fun r Γ' h1 q => ?_)
  obtain ⟨q0, rfl, p1⟩ := q; cases q0
  refine j_eqst [] (by rfl) ?_
  exact j_le [some (.ref 159), some (.int l1), some (.int l2), some (.int l3), some (.int l4), some (.int l5), none] (And.intro rfl (And.intro rfl (And.intro rfl (And.intro rfl (And.intro rfl (And.intro rfl True.intro)))))) (v1 h1 p1)
set_option maxRecDepth 100000 in
theorem bX12_tries_104 {sc : Nat × (Nat → Int32)} {h : jH} {Q : jQ} {l1 l2 l3 l4 l5 : Int32}
    (v1 : WP mX12_tries Q 74 [some (.ref 159), some (.int l1), some (.int l2), some (.int l3), some (.int (l4 + 1)), some (.int (l5 + 1)), none] [] (jG0 sc) h (0, 0)) :
    WP mX12_tries Q 104 [some (.ref 159), some (.int l1), some (.int l2), some (.int l3), some (.int l4), some (.int l5), none] [] (jG0 sc) h (0, 0) := by
  refine j_iinc (i := 4) (n := 1) rfl dX12_tries_104 (Nat.le_of_ble_eq_true rfl) ?_
  refine j_eqlv [some (.ref 159), some (.int l1), some (.int l2), some (.int l3), some (.int (l4 + 1)), some (.int l5), none] rfl ?_
  refine j_iinc (i := 5) (n := 1) rfl dX12_tries_107 (Nat.le_of_ble_eq_true rfl) ?_
  refine j_eqlv [some (.ref 159), some (.int l1), some (.int l2), some (.int l3), some (.int (l4 + 1)), some (.int (l5 + 1)), none] rfl ?_
  refine j_goto (off := -36) 74 dX12_tries_110 (by decide) ?_
  exact j_le [some (.ref 159), some (.int l1), some (.int l2), some (.int l3), some (.int (l4 + 1)), some (.int (l5 + 1)), none] (And.intro rfl (And.intro rfl (And.intro rfl (And.intro rfl (And.intro rfl (And.intro rfl True.intro)))))) v1
set_option maxRecDepth 100000 in
theorem bX12_tries_113 {sc : Nat × (Nat → Int32)} {h : jH} {Q : jQ} {l1 l2 l3 l4 l5 : Int32}
    (v1 : WP mX12_tries Q 116 [some (.ref 159), some (.int l1), some (.int l2), some (.int l3), some (.int l4), some (.int 0), none] [] (jG0 sc) h (0, 0)) :
    WP mX12_tries Q 113 [some (.ref 159), some (.int l1), some (.int l2), some (.int l3), some (.int l4), some (.int l5), none] [] (jG0 sc) h (0, 0) := by
  refine j_iconst (n := 0) 0 (by decide) dX12_tries_113 ?_
  refine j_istore (i := 5) dX12_tries_114 (Nat.le_of_ble_eq_true rfl) ?_
  exact j_le [some (.ref 159), some (.int l1), some (.int l2), some (.int l3), some (.int l4), some (.int 0), none] (And.intro rfl (And.intro rfl (And.intro rfl (And.intro rfl (And.intro rfl (And.intro rfl True.intro)))))) v1
set_option maxRecDepth 100000 in
theorem bX12_tries_116 {sc : Nat × (Nat → Int32)} {h : jH} {Q : jQ} {l1 l2 l3 l4 l5 : Int32}
    (v1 : (h 159 26) ≤ l5 → WP mX12_tries Q 197 [some (.ref 159), some (.int l1), some (.int l2), some (.int l3), some (.int l4), some (.int l5), none] [] (jG0 sc) h (0, 0))
    (v2 : ¬ (h 159 26) ≤ l5 → WP mX12_tries Q 125 [some (.ref 159), some (.int l1), some (.int l2), some (.int l3), some (.int l4), some (.int l5), none] [] (jG0 sc) h (0, 0)) :
    WP mX12_tries Q 116 [some (.ref 159), some (.int l1), some (.int l2), some (.int l3), some (.int l4), some (.int l5), none] [] (jG0 sc) h (0, 0) := by
  refine j_iload (i := 5) rfl dX12_tries_116 ?_
  refine j_aload_n (i := 0) rfl dX12_tries_118 ?_
  refine j_getI (idx := 290) (ci := 12) (k := 26) (nest := false) (show (12, 290, 12, 26, false) ∈ jFT by decide) rfl (Nat.le_of_ble_eq_true rfl) rfl dX12_tries_119 ?_
  refine j_icmp_ge (off := 75) 197 dX12_tries_122 (by decide) (fun c1 => ?_) (fun c1 => ?_)
  · exact j_le [some (.ref 159), some (.int l1), some (.int l2), some (.int l3), some (.int l4), some (.int l5), none] (And.intro rfl (And.intro rfl (And.intro rfl (And.intro rfl (And.intro rfl (And.intro rfl True.intro)))))) (v1 c1)
  · exact j_le [some (.ref 159), some (.int l1), some (.int l2), some (.int l3), some (.int l4), some (.int l5), none] (And.intro rfl (And.intro rfl (And.intro rfl (And.intro rfl (And.intro rfl (And.intro rfl True.intro)))))) (v2 c1)
set_option maxRecDepth 100000 in
theorem bX12_tries_125 {sc : Nat × (Nat → Int32)} {h : jH} {Q : jQ} {l1 l2 l3 l4 l5 : Int32}
    (v1 : l3 ≤ l4 → WP mX12_tries Q 197 [some (.ref 159), some (.int l1), some (.int l2), some (.int l3), some (.int l4), some (.int l5), none] [] (jG0 sc) h (0, 0))
    (v2 : ¬ l3 ≤ l4 → WP mX12_tries Q 131 [some (.ref 159), some (.int l1), some (.int l2), some (.int l3), some (.int l4), some (.int l5), none] [] (jG0 sc) h (0, 0)) :
    WP mX12_tries Q 125 [some (.ref 159), some (.int l1), some (.int l2), some (.int l3), some (.int l4), some (.int l5), none] [] (jG0 sc) h (0, 0) := by
  refine j_iload (i := 4) rfl dX12_tries_125 ?_
  refine j_iload_n (i := 3) rfl dX12_tries_127 ?_
  refine j_icmp_ge (off := 69) 197 dX12_tries_128 (by decide) (fun c1 => ?_) (fun c1 => ?_)
  · exact j_le [some (.ref 159), some (.int l1), some (.int l2), some (.int l3), some (.int l4), some (.int l5), none] (And.intro rfl (And.intro rfl (And.intro rfl (And.intro rfl (And.intro rfl (And.intro rfl True.intro)))))) (v1 c1)
  · exact j_le [some (.ref 159), some (.int l1), some (.int l2), some (.int l3), some (.int l4), some (.int l5), none] (And.intro rfl (And.intro rfl (And.intro rfl (And.intro rfl (And.intro rfl (And.intro rfl True.intro)))))) (v2 c1)
set_option maxRecDepth 100000 in
theorem bX12_tries_131 {sc : Nat × (Nat → Int32)} {h : jH} {Q : jQ} {l1 l2 l3 l4 l5 : Int32}
    (v1 : WP mX12_tries Q 137 [some (.ref 159), some (.int l1), some (.int l2), some (.int l3), some (.int l4), some (.int l5), some (.int (l5 + 1))] [] (jG0 sc) h (0, 0)) :
    WP mX12_tries Q 131 [some (.ref 159), some (.int l1), some (.int l2), some (.int l3), some (.int l4), some (.int l5), none] [] (jG0 sc) h (0, 0) := by
  refine j_iload (i := 5) rfl dX12_tries_131 ?_
  refine j_iconst (n := 1) 1 (by decide) dX12_tries_133 ?_
  refine j_iadd dX12_tries_134 ?_
  refine j_istore (i := 6) dX12_tries_135 (Nat.le_of_ble_eq_true rfl) ?_
  exact j_le [some (.ref 159), some (.int l1), some (.int l2), some (.int l3), some (.int l4), some (.int l5), some (.int (l5 + 1))] (And.intro rfl (And.intro rfl (And.intro rfl (And.intro rfl (And.intro rfl (And.intro rfl (And.intro rfl True.intro))))))) v1
set_option maxRecDepth 100000 in
theorem bX12_tries_137 {sc : Nat × (Nat → Int32)} {h : jH} {Q : jQ} {l1 l2 l3 l4 l5 l6 : Int32}
    (v1 : (h 159 26) ≤ l6 → WP mX12_tries Q 191 [some (.ref 159), some (.int l1), some (.int l2), some (.int l3), some (.int l4), some (.int l5), some (.int l6)] [] (jG0 sc) h (0, 0))
    (v2 : ¬ (h 159 26) ≤ l6 → WP mX12_tries Q 146 [some (.ref 159), some (.int l1), some (.int l2), some (.int l3), some (.int l4), some (.int l5), some (.int l6)] [] (jG0 sc) h (0, 0)) :
    WP mX12_tries Q 137 [some (.ref 159), some (.int l1), some (.int l2), some (.int l3), some (.int l4), some (.int l5), some (.int l6)] [] (jG0 sc) h (0, 0) := by
  refine j_iload (i := 6) rfl dX12_tries_137 ?_
  refine j_aload_n (i := 0) rfl dX12_tries_139 ?_
  refine j_getI (idx := 290) (ci := 12) (k := 26) (nest := false) (show (12, 290, 12, 26, false) ∈ jFT by decide) rfl (Nat.le_of_ble_eq_true rfl) rfl dX12_tries_140 ?_
  refine j_icmp_ge (off := 48) 191 dX12_tries_143 (by decide) (fun c1 => ?_) (fun c1 => ?_)
  · exact j_le [some (.ref 159), some (.int l1), some (.int l2), some (.int l3), some (.int l4), some (.int l5), some (.int l6)] (And.intro rfl (And.intro rfl (And.intro rfl (And.intro rfl (And.intro rfl (And.intro rfl (And.intro rfl True.intro))))))) (v1 c1)
  · exact j_le [some (.ref 159), some (.int l1), some (.int l2), some (.int l3), some (.int l4), some (.int l5), some (.int l6)] (And.intro rfl (And.intro rfl (And.intro rfl (And.intro rfl (And.intro rfl (And.intro rfl (And.intro rfl True.intro))))))) (v2 c1)
set_option maxRecDepth 100000 in
theorem bX12_tries_146 {sc : Nat × (Nat → Int32)} {h : jH} {Q : jQ} {l1 l2 l3 l4 l5 l6 : Int32}
    (v1 : l3 ≤ l4 → WP mX12_tries Q 191 [some (.ref 159), some (.int l1), some (.int l2), some (.int l3), some (.int l4), some (.int l5), some (.int l6)] [] (jG0 sc) h (0, 0))
    (v2 : ¬ l3 ≤ l4 → WP mX12_tries Q 152 [some (.ref 159), some (.int l1), some (.int l2), some (.int l3), some (.int l4), some (.int l5), some (.int l6)] [] (jG0 sc) h (0, 0)) :
    WP mX12_tries Q 146 [some (.ref 159), some (.int l1), some (.int l2), some (.int l3), some (.int l4), some (.int l5), some (.int l6)] [] (jG0 sc) h (0, 0) := by
  refine j_iload (i := 4) rfl dX12_tries_146 ?_
  refine j_iload_n (i := 3) rfl dX12_tries_148 ?_
  refine j_icmp_ge (off := 42) 191 dX12_tries_149 (by decide) (fun c1 => ?_) (fun c1 => ?_)
  · exact j_le [some (.ref 159), some (.int l1), some (.int l2), some (.int l3), some (.int l4), some (.int l5), some (.int l6)] (And.intro rfl (And.intro rfl (And.intro rfl (And.intro rfl (And.intro rfl (And.intro rfl (And.intro rfl True.intro))))))) (v1 c1)
  · exact j_le [some (.ref 159), some (.int l1), some (.int l2), some (.int l3), some (.int l4), some (.int l5), some (.int l6)] (And.intro rfl (And.intro rfl (And.intro rfl (And.intro rfl (And.intro rfl (And.intro rfl (And.intro rfl True.intro))))))) (v2 c1)
set_option maxRecDepth 100000 in
theorem bX12_tries_152 {sc : Nat × (Nat → Int32)} {h : jH} {Q : jQ} {l1 l2 l3 l4 l5 l6 : Int32} {P1 : Int32 → jH → Prop}
    (k1 : JM mX12_canPair [.ref 159, .int l5, .int l6] (jG0 sc) h (jint sc P1))
    (v1 : ∀ (x1 : Int32) (h1 : jH), P1 x1 h1 → ¬ x1 = 0 → WP mX12_tries Q 166 [some (.ref 159), some (.int l1), some (.int l2), some (.int l3), some (.int l4), some (.int l5), some (.int l6)] [] (jG0 sc) h1 (0, 0))
    (v2 : ∀ (x1 : Int32) (h1 : jH), P1 x1 h1 → x1 = 0 → WP mX12_tries Q 163 [some (.ref 159), some (.int l1), some (.int l2), some (.int l3), some (.int l4), some (.int l5), some (.int l6)] [] (jG0 sc) h1 (0, 0)) :
    WP mX12_tries Q 152 [some (.ref 159), some (.int l1), some (.int l2), some (.int l3), some (.int l4), some (.int l5), some (.int l6)] [] (jG0 sc) h (0, 0) := by
  refine j_aload_n (i := 0) rfl dX12_tries_152 ?_
  refine j_iload (i := 5) rfl dX12_tries_153 ?_
  refine j_iload (i := 6) rfl dX12_tries_155 ?_
  refine j_callV (idx := 333) (As := [.int l5, .int l6]) (ci := 12) (n := 2) k1 jint_nt (jlkT (jtb7 225 rfl) rfl) sX12_canPair kX12_canPair rfl ⟨rfl, by decide +kernel, by decide +kernel, by decide +kernel⟩ rfl ⟨by decide, by decide⟩ (Nat.le_of_ble_eq_true rfl) rfl (Nat.le_of_ble_eq_true rfl) (Nat.le_of_ble_eq_true rfl) ⟨Nat.zero_le _, Nat.zero_le _⟩ dX12_tries_157 (fun r Γ' h1 q => ?_)
  obtain ⟨x1, q0, rfl, p1⟩ := q; cases q0
  refine j_eqst [.int x1] (by rfl) ?_
  refine j_if_ne (off := 6) 166 dX12_tries_160 (by decide) (fun c1 => ?_) (fun c1 => ?_)
  · exact j_le [some (.ref 159), some (.int l1), some (.int l2), some (.int l3), some (.int l4), some (.int l5), some (.int l6)] (And.intro rfl (And.intro rfl (And.intro rfl (And.intro rfl (And.intro rfl (And.intro rfl (And.intro rfl True.intro))))))) (v1 x1 h1 p1 c1)
  · exact j_le [some (.ref 159), some (.int l1), some (.int l2), some (.int l3), some (.int l4), some (.int l5), some (.int l6)] (And.intro rfl (And.intro rfl (And.intro rfl (And.intro rfl (And.intro rfl (And.intro rfl (And.intro rfl True.intro))))))) (v2 x1 h1 p1 c1)
set_option maxRecDepth 100000 in
theorem bX12_tries_163 {sc : Nat × (Nat → Int32)} {h : jH} {Q : jQ} {l1 l2 l3 l4 l5 l6 : Int32}
    (v1 : WP mX12_tries Q 185 [some (.ref 159), some (.int l1), some (.int l2), some (.int l3), some (.int l4), some (.int l5), some (.int l6)] [] (jG0 sc) h (0, 0)) :
    WP mX12_tries Q 163 [some (.ref 159), some (.int l1), some (.int l2), some (.int l3), some (.int l4), some (.int l5), some (.int l6)] [] (jG0 sc) h (0, 0) := by
  refine j_goto (off := 22) 185 dX12_tries_163 (by decide) ?_
  exact j_le [some (.ref 159), some (.int l1), some (.int l2), some (.int l3), some (.int l4), some (.int l5), some (.int l6)] (And.intro rfl (And.intro rfl (And.intro rfl (And.intro rfl (And.intro rfl (And.intro rfl (And.intro rfl True.intro))))))) v1
set_option maxRecDepth 100000 in
theorem bX12_tries_166 {sc : Nat × (Nat → Int32)} {h : jH} {Q : jQ} {l1 l2 l3 l4 l5 l6 : Int32}
    (v1 : l4 < l2 → WP mX12_tries Q 182 [some (.ref 159), some (.int l1), some (.int l2), some (.int l3), some (.int l4), some (.int l5), some (.int l6)] [] (jG0 sc) h (0, 0))
    (v2 : ¬ l4 < l2 → WP mX12_tries Q 172 [some (.ref 159), some (.int l1), some (.int l2), some (.int l3), some (.int l4), some (.int l5), some (.int l6)] [] (jG0 sc) h (0, 0)) :
    WP mX12_tries Q 166 [some (.ref 159), some (.int l1), some (.int l2), some (.int l3), some (.int l4), some (.int l5), some (.int l6)] [] (jG0 sc) h (0, 0) := by
  refine j_iload (i := 4) rfl dX12_tries_166 ?_
  refine j_iload_n (i := 2) rfl dX12_tries_168 ?_
  refine j_icmp_lt (off := 13) 182 dX12_tries_169 (by decide) (fun c1 => ?_) (fun c1 => ?_)
  · exact j_le [some (.ref 159), some (.int l1), some (.int l2), some (.int l3), some (.int l4), some (.int l5), some (.int l6)] (And.intro rfl (And.intro rfl (And.intro rfl (And.intro rfl (And.intro rfl (And.intro rfl (And.intro rfl True.intro))))))) (v1 c1)
  · exact j_le [some (.ref 159), some (.int l1), some (.int l2), some (.int l3), some (.int l4), some (.int l5), some (.int l6)] (And.intro rfl (And.intro rfl (And.intro rfl (And.intro rfl (And.intro rfl (And.intro rfl (And.intro rfl True.intro))))))) (v2 c1)
set_option maxRecDepth 100000 in
theorem bX12_tries_172 {sc : Nat × (Nat → Int32)} {h : jH} {Q : jQ} {l1 l2 l3 l4 l5 l6 : Int32} {P1 : jH → Prop}
    (k1 : JM mX12_attempt [.ref 159, .int l4, .int l5, .int l6] (jG0 sc) h (jvoid sc P1))
    (v1 : ∀ h1 : jH, P1 h1 → WP mX12_tries Q 182 [some (.ref 159), some (.int l1), some (.int l2), some (.int l3), some (.int l4), some (.int l5), some (.int l6)] [] (jG0 sc) h1 (0, 0)) :
    WP mX12_tries Q 172 [some (.ref 159), some (.int l1), some (.int l2), some (.int l3), some (.int l4), some (.int l5), some (.int l6)] [] (jG0 sc) h (0, 0) := by
  refine j_aload_n (i := 0) rfl dX12_tries_172 ?_
  refine j_iload (i := 4) rfl dX12_tries_173 ?_
  refine j_iload (i := 5) rfl dX12_tries_175 ?_
  refine j_iload (i := 6) rfl dX12_tries_177 ?_
  refine j_callV (idx := 342) (As := [.int l4, .int l5, .int l6]) (ci := 12) (n := 3) k1 jvoid_nt (jlkT (jtb7 213 rfl) rfl) sX12_attempt kX12_attempt rfl ⟨rfl, by decide +kernel, by decide +kernel, by decide +kernel⟩ rfl ⟨by decide, by decide⟩ (Nat.le_of_ble_eq_true rfl) rfl (Nat.le_of_ble_eq_true rfl) (Nat.le_of_ble_eq_true rfl) ⟨Nat.zero_le _, Nat.zero_le _⟩ dX12_tries_179 (fun r Γ' h1 q => ?_)
  obtain ⟨q0, rfl, p1⟩ := q; cases q0
  refine j_eqst [] (by rfl) ?_
  exact j_le [some (.ref 159), some (.int l1), some (.int l2), some (.int l3), some (.int l4), some (.int l5), some (.int l6)] (And.intro rfl (And.intro rfl (And.intro rfl (And.intro rfl (And.intro rfl (And.intro rfl (And.intro rfl True.intro))))))) (v1 h1 p1)
set_option maxRecDepth 100000 in
theorem bX12_tries_182 {sc : Nat × (Nat → Int32)} {h : jH} {Q : jQ} {l1 l2 l3 l4 l5 l6 : Int32}
    (v1 : WP mX12_tries Q 185 [some (.ref 159), some (.int l1), some (.int l2), some (.int l3), some (.int (l4 + 1)), some (.int l5), some (.int l6)] [] (jG0 sc) h (0, 0)) :
    WP mX12_tries Q 182 [some (.ref 159), some (.int l1), some (.int l2), some (.int l3), some (.int l4), some (.int l5), some (.int l6)] [] (jG0 sc) h (0, 0) := by
  refine j_iinc (i := 4) (n := 1) rfl dX12_tries_182 (Nat.le_of_ble_eq_true rfl) ?_
  refine j_eqlv [some (.ref 159), some (.int l1), some (.int l2), some (.int l3), some (.int (l4 + 1)), some (.int l5), some (.int l6)] rfl ?_
  exact j_le [some (.ref 159), some (.int l1), some (.int l2), some (.int l3), some (.int (l4 + 1)), some (.int l5), some (.int l6)] (And.intro rfl (And.intro rfl (And.intro rfl (And.intro rfl (And.intro rfl (And.intro rfl (And.intro rfl True.intro))))))) v1
set_option maxRecDepth 100000 in
theorem bX12_tries_185 {sc : Nat × (Nat → Int32)} {h : jH} {Q : jQ} {l1 l2 l3 l4 l5 l6 : Int32}
    (v1 : WP mX12_tries Q 137 [some (.ref 159), some (.int l1), some (.int l2), some (.int l3), some (.int l4), some (.int l5), some (.int (l6 + 1))] [] (jG0 sc) h (0, 0)) :
    WP mX12_tries Q 185 [some (.ref 159), some (.int l1), some (.int l2), some (.int l3), some (.int l4), some (.int l5), some (.int l6)] [] (jG0 sc) h (0, 0) := by
  refine j_iinc (i := 6) (n := 1) rfl dX12_tries_185 (Nat.le_of_ble_eq_true rfl) ?_
  refine j_eqlv [some (.ref 159), some (.int l1), some (.int l2), some (.int l3), some (.int l4), some (.int l5), some (.int (l6 + 1))] rfl ?_
  refine j_goto (off := -51) 137 dX12_tries_188 (by decide) ?_
  exact j_le [some (.ref 159), some (.int l1), some (.int l2), some (.int l3), some (.int l4), some (.int l5), some (.int (l6 + 1))] (And.intro rfl (And.intro rfl (And.intro rfl (And.intro rfl (And.intro rfl (And.intro rfl (And.intro rfl True.intro))))))) v1
set_option maxRecDepth 100000 in
theorem bX12_tries_191 {sc : Nat × (Nat → Int32)} {h : jH} {Q : jQ} {l1 l2 l3 l4 l5 l6 : Int32}
    (v1 : WP mX12_tries Q 116 [some (.ref 159), some (.int l1), some (.int l2), some (.int l3), some (.int l4), some (.int (l5 + 1)), none] [] (jG0 sc) h (0, 0)) :
    WP mX12_tries Q 191 [some (.ref 159), some (.int l1), some (.int l2), some (.int l3), some (.int l4), some (.int l5), some (.int l6)] [] (jG0 sc) h (0, 0) := by
  refine j_iinc (i := 5) (n := 1) rfl dX12_tries_191 (Nat.le_of_ble_eq_true rfl) ?_
  refine j_eqlv [some (.ref 159), some (.int l1), some (.int l2), some (.int l3), some (.int l4), some (.int (l5 + 1)), some (.int l6)] rfl ?_
  refine j_goto (off := -78) 116 dX12_tries_194 (by decide) ?_
  exact j_le [some (.ref 159), some (.int l1), some (.int l2), some (.int l3), some (.int l4), some (.int (l5 + 1)), none] (And.intro rfl (And.intro rfl (And.intro rfl (And.intro rfl (And.intro rfl (And.intro rfl True.intro)))))) v1
set_option maxRecDepth 100000 in
theorem bX12_tries_197 {sc : Nat × (Nat → Int32)} {h : jH} {Q : jQ} {l1 l2 l3 l4 l5 : Int32}
    (v1 : Q (.inl (some (.int ((h 160 159) - l2)))) (jG0 sc) h) :
    WP mX12_tries Q 197 [some (.ref 159), some (.int l1), some (.int l2), some (.int l3), some (.int l4), some (.int l5), none] [] (jG0 sc) h (0, 0) := by
  refine j_aload_n (i := 0) rfl dX12_tries_197 ?_
  refine j_getR (idx := 13) (ci := 12) (k := 1) (nest := false) (show (12, 13, 12, 1, false) ∈ jFT by decide) rfl (Nat.le_of_ble_eq_true rfl) rfl (a := 160) rfl dX12_tries_198 ?_
  refine j_sipush (n := 159) 159 (by decide) dX12_tries_201 ?_
  refine j_iald (Nat.le_of_ble_eq_true rfl) rfl (jinl (n := 1454) (by decide)) dX12_tries_204 ?_
  refine j_eqst [.int (h 160 159)] (by rfl) ?_
  refine j_iload_n (i := 2) rfl dX12_tries_205 ?_
  refine j_isub dX12_tries_206 ?_
  exact j_iret rfl rfl (Nat.zero_le _) (Nat.zero_le _) dX12_tries_207 v1
set_option maxRecDepth 100000 in
theorem rX12_tries_0 {sc : Nat × (Nat → Int32)} {h : jH} {Q : jQ} {l1 : Int32} {P1 : Int32 → jH → Prop} {P2 : Int32 → jH → Prop} {P3 : Int32 → jH → Prop} {P4 : Int32 → jH → Prop} {P5 : jH → Prop} {P6 : Int32 → jH → Prop} {P7 : jH → Prop} {P8 : Int32 → jH → Prop} {P9 : Int32 → jH → Prop} {P10 : Int32 → jH → Prop} {P11 : jH → Prop} {P12 : Int32 → jH → Prop} {P13 : jH → Prop}
    (k1 : JM mX12_in [.int l1, .int 0, .int 400] (jG0 sc) (jput h 159 0 0) (jint sc P1))
    (k2 : ∀ (x1 : Int32) (h1 : jH), P1 x1 h1 → ¬ x1 = 0 → JM mX12_throwsIf [.ref 159, .int 0, .int 1] (jG0 sc) h1 (jint sc P2))
    (v1 : ∀ (x1 : Int32) (h1 : jH), P1 x1 h1 → ¬ x1 = 0 → ∀ (x2 : Int32) (h2 : jH), P2 x2 h2 → ¬ x2 = 0 → Q (.inl (some (.int 0))) (jG0 sc) h2)
    (k3 : ∀ (x1 : Int32) (h1 : jH), P1 x1 h1 → ¬ x1 = 0 → ∀ (x2 : Int32) (h2 : jH), P2 x2 h2 → x2 = 0 → JM mX12_lines [.ref 159] (jG0 sc) h2 (jint sc P3))
    (k4 : ∀ (x1 : Int32) (h1 : jH), P1 x1 h1 → ¬ x1 = 0 → ∀ (x2 : Int32) (h2 : jH), P2 x2 h2 → x2 = 0 → ∀ (x3 : Int32) (h3 : jH), P3 x3 h3 → ¬ x3 = 0 → JM mX12_throwsIf [.ref 159, .int 0, .int 2] (jG0 sc) h3 (jint sc P4))
    (k5 : ∀ (x1 : Int32) (h1 : jH), P1 x1 h1 → ¬ x1 = 0 → ∀ (x2 : Int32) (h2 : jH), P2 x2 h2 → x2 = 0 → ∀ (x3 : Int32) (h3 : jH), P3 x3 h3 → ¬ x3 = 0 → ∀ (x4 : Int32) (h4 : jH), P4 x4 h4 → x4 = 0 → JM mX12_listsBody [.ref 159] (jG0 sc) h4 (jvoid sc P5))
    (v2 : ∀ (x1 : Int32) (h1 : jH), P1 x1 h1 → ¬ x1 = 0 → ∀ (x2 : Int32) (h2 : jH), P2 x2 h2 → x2 = 0 → ∀ (x3 : Int32) (h3 : jH), P3 x3 h3 → ¬ x3 = 0 → ∀ (x4 : Int32) (h4 : jH), P4 x4 h4 → x4 = 0 → ∀ h5 : jH, P5 h5 → WP mX12_tries Q 74 [some (.ref 159), some (.int l1), some (.int (h5 160 159)), some (.int ((h5 160 159) + l1)), some (.int 0), some (.int 0), none] [] (jG0 sc) h5 (0, 0))
    (v3 : ∀ (x1 : Int32) (h1 : jH), P1 x1 h1 → ¬ x1 = 0 → ∀ (x2 : Int32) (h2 : jH), P2 x2 h2 → x2 = 0 → ∀ (x3 : Int32) (h3 : jH), P3 x3 h3 → ¬ x3 = 0 → ∀ (x4 : Int32) (h4 : jH), P4 x4 h4 → ¬ x4 = 0 → Q (.inl (some (.int 0))) (jG0 sc) h4)
    (k6 : ∀ (x1 : Int32) (h1 : jH), P1 x1 h1 → ¬ x1 = 0 → ∀ (x2 : Int32) (h2 : jH), P2 x2 h2 → x2 = 0 → ∀ (x3 : Int32) (h3 : jH), P3 x3 h3 → x3 = 0 → JM mX12_throwsIf [.ref 159, .int 1, .int 2] (jG0 sc) h3 (jint sc P6))
    (k7 : ∀ (x1 : Int32) (h1 : jH), P1 x1 h1 → ¬ x1 = 0 → ∀ (x2 : Int32) (h2 : jH), P2 x2 h2 → x2 = 0 → ∀ (x3 : Int32) (h3 : jH), P3 x3 h3 → x3 = 0 → ∀ (x6 : Int32) (h6 : jH), P6 x6 h6 → x6 = 0 → JM mX12_listsBody [.ref 159] (jG0 sc) h6 (jvoid sc P7))
    (v4 : ∀ (x1 : Int32) (h1 : jH), P1 x1 h1 → ¬ x1 = 0 → ∀ (x2 : Int32) (h2 : jH), P2 x2 h2 → x2 = 0 → ∀ (x3 : Int32) (h3 : jH), P3 x3 h3 → x3 = 0 → ∀ (x6 : Int32) (h6 : jH), P6 x6 h6 → x6 = 0 → ∀ h7 : jH, P7 h7 → WP mX12_tries Q 74 [some (.ref 159), some (.int l1), some (.int (h7 160 159)), some (.int ((h7 160 159) + l1)), some (.int 0), some (.int 0), none] [] (jG0 sc) h7 (0, 0))
    (v5 : ∀ (x1 : Int32) (h1 : jH), P1 x1 h1 → ¬ x1 = 0 → ∀ (x2 : Int32) (h2 : jH), P2 x2 h2 → x2 = 0 → ∀ (x3 : Int32) (h3 : jH), P3 x3 h3 → x3 = 0 → ∀ (x6 : Int32) (h6 : jH), P6 x6 h6 → ¬ x6 = 0 → Q (.inl (some (.int 0))) (jG0 sc) h6)
    (k8 : ∀ (x1 : Int32) (h1 : jH), P1 x1 h1 → x1 = 0 → JM mX12_throwsIf [.ref 159, .int 1, .int 1] (jG0 sc) h1 (jint sc P8))
    (v6 : ∀ (x1 : Int32) (h1 : jH), P1 x1 h1 → x1 = 0 → ∀ (x8 : Int32) (h8 : jH), P8 x8 h8 → ¬ x8 = 0 → Q (.inl (some (.int 0))) (jG0 sc) h8)
    (k9 : ∀ (x1 : Int32) (h1 : jH), P1 x1 h1 → x1 = 0 → ∀ (x8 : Int32) (h8 : jH), P8 x8 h8 → x8 = 0 → JM mX12_lines [.ref 159] (jG0 sc) h8 (jint sc P9))
    (k10 : ∀ (x1 : Int32) (h1 : jH), P1 x1 h1 → x1 = 0 → ∀ (x8 : Int32) (h8 : jH), P8 x8 h8 → x8 = 0 → ∀ (x9 : Int32) (h9 : jH), P9 x9 h9 → ¬ x9 = 0 → JM mX12_throwsIf [.ref 159, .int 0, .int 2] (jG0 sc) h9 (jint sc P10))
    (k11 : ∀ (x1 : Int32) (h1 : jH), P1 x1 h1 → x1 = 0 → ∀ (x8 : Int32) (h8 : jH), P8 x8 h8 → x8 = 0 → ∀ (x9 : Int32) (h9 : jH), P9 x9 h9 → ¬ x9 = 0 → ∀ (x10 : Int32) (h10 : jH), P10 x10 h10 → x10 = 0 → JM mX12_listsBody [.ref 159] (jG0 sc) h10 (jvoid sc P11))
    (v7 : ∀ (x1 : Int32) (h1 : jH), P1 x1 h1 → x1 = 0 → ∀ (x8 : Int32) (h8 : jH), P8 x8 h8 → x8 = 0 → ∀ (x9 : Int32) (h9 : jH), P9 x9 h9 → ¬ x9 = 0 → ∀ (x10 : Int32) (h10 : jH), P10 x10 h10 → x10 = 0 → ∀ h11 : jH, P11 h11 → WP mX12_tries Q 74 [some (.ref 159), some (.int l1), some (.int (h11 160 159)), some (.int ((h11 160 159) + l1)), some (.int 0), some (.int 0), none] [] (jG0 sc) h11 (0, 0))
    (v8 : ∀ (x1 : Int32) (h1 : jH), P1 x1 h1 → x1 = 0 → ∀ (x8 : Int32) (h8 : jH), P8 x8 h8 → x8 = 0 → ∀ (x9 : Int32) (h9 : jH), P9 x9 h9 → ¬ x9 = 0 → ∀ (x10 : Int32) (h10 : jH), P10 x10 h10 → ¬ x10 = 0 → Q (.inl (some (.int 0))) (jG0 sc) h10)
    (k12 : ∀ (x1 : Int32) (h1 : jH), P1 x1 h1 → x1 = 0 → ∀ (x8 : Int32) (h8 : jH), P8 x8 h8 → x8 = 0 → ∀ (x9 : Int32) (h9 : jH), P9 x9 h9 → x9 = 0 → JM mX12_throwsIf [.ref 159, .int 1, .int 2] (jG0 sc) h9 (jint sc P12))
    (k13 : ∀ (x1 : Int32) (h1 : jH), P1 x1 h1 → x1 = 0 → ∀ (x8 : Int32) (h8 : jH), P8 x8 h8 → x8 = 0 → ∀ (x9 : Int32) (h9 : jH), P9 x9 h9 → x9 = 0 → ∀ (x12 : Int32) (h12 : jH), P12 x12 h12 → x12 = 0 → JM mX12_listsBody [.ref 159] (jG0 sc) h12 (jvoid sc P13))
    (v9 : ∀ (x1 : Int32) (h1 : jH), P1 x1 h1 → x1 = 0 → ∀ (x8 : Int32) (h8 : jH), P8 x8 h8 → x8 = 0 → ∀ (x9 : Int32) (h9 : jH), P9 x9 h9 → x9 = 0 → ∀ (x12 : Int32) (h12 : jH), P12 x12 h12 → x12 = 0 → ∀ h13 : jH, P13 h13 → WP mX12_tries Q 74 [some (.ref 159), some (.int l1), some (.int (h13 160 159)), some (.int ((h13 160 159) + l1)), some (.int 0), some (.int 0), none] [] (jG0 sc) h13 (0, 0))
    (v10 : ∀ (x1 : Int32) (h1 : jH), P1 x1 h1 → x1 = 0 → ∀ (x8 : Int32) (h8 : jH), P8 x8 h8 → x8 = 0 → ∀ (x9 : Int32) (h9 : jH), P9 x9 h9 → x9 = 0 → ∀ (x12 : Int32) (h12 : jH), P12 x12 h12 → ¬ x12 = 0 → Q (.inl (some (.int 0))) (jG0 sc) h12) :
    WP mX12_tries Q 0 [some (.ref 159), some (.int l1), none, none, none, none, none] [] (jG0 sc) h (0, 0) := by
  exact (bX12_tries_0 k1 (fun x1 h1 p1 c1 => (bX12_tries_21 (bX12_tries_22 (k2 x1 h1 p1 c1) (fun x2 h2 p2 c2 => (bX12_tries_49 (v1 x1 h1 p1 c1 x2 h2 p2 c2))) (fun x2 h2 p2 c2 => (bX12_tries_29 (k3 x1 h1 p1 c1 x2 h2 p2 c2) (fun x3 h3 p3 c3 => (bX12_tries_41 (bX12_tries_42 (k4 x1 h1 p1 c1 x2 h2 p2 c2 x3 h3 p3 c3) (fun x4 h4 p4 c4 => (bX12_tries_51 (k5 x1 h1 p1 c1 x2 h2 p2 c2 x3 h3 p3 c3 x4 h4 p4 c4) (fun h5 p5 => (v2 x1 h1 p1 c1 x2 h2 p2 c2 x3 h3 p3 c3 x4 h4 p4 c4 h5 p5)))) (fun x4 h4 p4 c4 => (bX12_tries_49 (v3 x1 h1 p1 c1 x2 h2 p2 c2 x3 h3 p3 c3 x4 h4 p4 c4)))))) (fun x3 h3 p3 c3 => (bX12_tries_37 (bX12_tries_42 (k6 x1 h1 p1 c1 x2 h2 p2 c2 x3 h3 p3 c3) (fun x6 h6 p6 c5 => (bX12_tries_51 (k7 x1 h1 p1 c1 x2 h2 p2 c2 x3 h3 p3 c3 x6 h6 p6 c5) (fun h7 p7 => (v4 x1 h1 p1 c1 x2 h2 p2 c2 x3 h3 p3 c3 x6 h6 p6 c5 h7 p7)))) (fun x6 h6 p6 c5 => (bX12_tries_49 (v5 x1 h1 p1 c1 x2 h2 p2 c2 x3 h3 p3 c3 x6 h6 p6 c5))))))))))) (fun x1 h1 p1 c1 => (bX12_tries_17 (bX12_tries_22 (k8 x1 h1 p1 c1) (fun x8 h8 p8 c6 => (bX12_tries_49 (v6 x1 h1 p1 c1 x8 h8 p8 c6))) (fun x8 h8 p8 c6 => (bX12_tries_29 (k9 x1 h1 p1 c1 x8 h8 p8 c6) (fun x9 h9 p9 c7 => (bX12_tries_41 (bX12_tries_42 (k10 x1 h1 p1 c1 x8 h8 p8 c6 x9 h9 p9 c7) (fun x10 h10 p10 c8 => (bX12_tries_51 (k11 x1 h1 p1 c1 x8 h8 p8 c6 x9 h9 p9 c7 x10 h10 p10 c8) (fun h11 p11 => (v7 x1 h1 p1 c1 x8 h8 p8 c6 x9 h9 p9 c7 x10 h10 p10 c8 h11 p11)))) (fun x10 h10 p10 c8 => (bX12_tries_49 (v8 x1 h1 p1 c1 x8 h8 p8 c6 x9 h9 p9 c7 x10 h10 p10 c8)))))) (fun x9 h9 p9 c7 => (bX12_tries_37 (bX12_tries_42 (k12 x1 h1 p1 c1 x8 h8 p8 c6 x9 h9 p9 c7) (fun x12 h12 p12 c9 => (bX12_tries_51 (k13 x1 h1 p1 c1 x8 h8 p8 c6 x9 h9 p9 c7 x12 h12 p12 c9) (fun h13 p13 => (v9 x1 h1 p1 c1 x8 h8 p8 c6 x9 h9 p9 c7 x12 h12 p12 c9 h13 p13)))) (fun x12 h12 p12 c9 => (bX12_tries_49 (v10 x1 h1 p1 c1 x8 h8 p8 c6 x9 h9 p9 c7 x12 h12 p12 c9))))))))))))
set_option maxRecDepth 100000 in
theorem rX12_tries_74 {sc : Nat × (Nat → Int32)} {h : jH} {Q : jQ} {l1 l2 l3 l4 l5 : Int32} {P1 : Int32 → jH → Prop} {P2 : jH → Prop}
    (v1 : (h 159 26) ≤ l5 → WP mX12_tries Q 116 [some (.ref 159), some (.int l1), some (.int l2), some (.int l3), some (.int l4), some (.int 0), none] [] (jG0 sc) h (0, 0))
    (k1 : ¬ (h 159 26) ≤ l5 → JM mX12_in [.int l4, .int l2, .int (l3 - 1)] (jG0 sc) h (jint sc P1))
    (v2 : ¬ (h 159 26) ≤ l5 → ∀ (x1 : Int32) (h1 : jH), P1 x1 h1 → x1 = 0 → WP mX12_tries Q 74 [some (.ref 159), some (.int l1), some (.int l2), some (.int l3), some (.int (l4 + 1)), some (.int (l5 + 1)), none] [] (jG0 sc) h1 (0, 0))
    (k2 : ¬ (h 159 26) ≤ l5 → ∀ (x1 : Int32) (h1 : jH), P1 x1 h1 → ¬ x1 = 0 → JM mX12_attempt [.ref 159, .int l4, .int l5, .int (-1)] (jG0 sc) h1 (jvoid sc P2))
    (v3 : ¬ (h 159 26) ≤ l5 → ∀ (x1 : Int32) (h1 : jH), P1 x1 h1 → ¬ x1 = 0 → ∀ h2 : jH, P2 h2 → WP mX12_tries Q 74 [some (.ref 159), some (.int l1), some (.int l2), some (.int l3), some (.int (l4 + 1)), some (.int (l5 + 1)), none] [] (jG0 sc) h2 (0, 0)) :
    WP mX12_tries Q 74 [some (.ref 159), some (.int l1), some (.int l2), some (.int l3), some (.int l4), some (.int l5), none] [] (jG0 sc) h (0, 0) := by
  exact (bX12_tries_74 (fun c1 => (bX12_tries_113 (v1 c1))) (fun c1 => (bX12_tries_83 (k1 c1) (fun x1 h1 p1 c2 => (bX12_tries_104 (v2 c1 x1 h1 p1 c2))) (fun x1 h1 p1 c2 => (bX12_tries_95 (k2 c1 x1 h1 p1 c2) (fun h2 p2 => (bX12_tries_104 (v3 c1 x1 h1 p1 c2 h2 p2))))))))
set_option maxRecDepth 100000 in
theorem rX12_tries_116 {sc : Nat × (Nat → Int32)} {h : jH} {Q : jQ} {l1 l2 l3 l4 l5 : Int32}
    (v1 : (h 159 26) ≤ l5 → Q (.inl (some (.int ((h 160 159) - l2)))) (jG0 sc) h)
    (v2 : ¬ (h 159 26) ≤ l5 → l3 ≤ l4 → Q (.inl (some (.int ((h 160 159) - l2)))) (jG0 sc) h)
    (v3 : ¬ (h 159 26) ≤ l5 → ¬ l3 ≤ l4 → WP mX12_tries Q 137 [some (.ref 159), some (.int l1), some (.int l2), some (.int l3), some (.int l4), some (.int l5), some (.int (l5 + 1))] [] (jG0 sc) h (0, 0)) :
    WP mX12_tries Q 116 [some (.ref 159), some (.int l1), some (.int l2), some (.int l3), some (.int l4), some (.int l5), none] [] (jG0 sc) h (0, 0) := by
  exact (bX12_tries_116 (fun c1 => (bX12_tries_197 (v1 c1))) (fun c1 => (bX12_tries_125 (fun c2 => (bX12_tries_197 (v2 c1 c2))) (fun c2 => (bX12_tries_131 (v3 c1 c2))))))
set_option maxRecDepth 100000 in
theorem rX12_tries_137 {sc : Nat × (Nat → Int32)} {h : jH} {Q : jQ} {l1 l2 l3 l4 l5 l6 : Int32} {P1 : Int32 → jH → Prop} {P2 : jH → Prop}
    (v1 : (h 159 26) ≤ l6 → WP mX12_tries Q 116 [some (.ref 159), some (.int l1), some (.int l2), some (.int l3), some (.int l4), some (.int (l5 + 1)), none] [] (jG0 sc) h (0, 0))
    (v2 : ¬ (h 159 26) ≤ l6 → l3 ≤ l4 → WP mX12_tries Q 116 [some (.ref 159), some (.int l1), some (.int l2), some (.int l3), some (.int l4), some (.int (l5 + 1)), none] [] (jG0 sc) h (0, 0))
    (k1 : ¬ (h 159 26) ≤ l6 → ¬ l3 ≤ l4 → JM mX12_canPair [.ref 159, .int l5, .int l6] (jG0 sc) h (jint sc P1))
    (v3 : ¬ (h 159 26) ≤ l6 → ¬ l3 ≤ l4 → ∀ (x1 : Int32) (h1 : jH), P1 x1 h1 → ¬ x1 = 0 → l4 < l2 → WP mX12_tries Q 137 [some (.ref 159), some (.int l1), some (.int l2), some (.int l3), some (.int (l4 + 1)), some (.int l5), some (.int (l6 + 1))] [] (jG0 sc) h1 (0, 0))
    (k2 : ¬ (h 159 26) ≤ l6 → ¬ l3 ≤ l4 → ∀ (x1 : Int32) (h1 : jH), P1 x1 h1 → ¬ x1 = 0 → ¬ l4 < l2 → JM mX12_attempt [.ref 159, .int l4, .int l5, .int l6] (jG0 sc) h1 (jvoid sc P2))
    (v4 : ¬ (h 159 26) ≤ l6 → ¬ l3 ≤ l4 → ∀ (x1 : Int32) (h1 : jH), P1 x1 h1 → ¬ x1 = 0 → ¬ l4 < l2 → ∀ h2 : jH, P2 h2 → WP mX12_tries Q 137 [some (.ref 159), some (.int l1), some (.int l2), some (.int l3), some (.int (l4 + 1)), some (.int l5), some (.int (l6 + 1))] [] (jG0 sc) h2 (0, 0))
    (v5 : ¬ (h 159 26) ≤ l6 → ¬ l3 ≤ l4 → ∀ (x1 : Int32) (h1 : jH), P1 x1 h1 → x1 = 0 → WP mX12_tries Q 137 [some (.ref 159), some (.int l1), some (.int l2), some (.int l3), some (.int l4), some (.int l5), some (.int (l6 + 1))] [] (jG0 sc) h1 (0, 0)) :
    WP mX12_tries Q 137 [some (.ref 159), some (.int l1), some (.int l2), some (.int l3), some (.int l4), some (.int l5), some (.int l6)] [] (jG0 sc) h (0, 0) := by
  exact (bX12_tries_137 (fun c1 => (bX12_tries_191 (v1 c1))) (fun c1 => (bX12_tries_146 (fun c2 => (bX12_tries_191 (v2 c1 c2))) (fun c2 => (bX12_tries_152 (k1 c1 c2) (fun x1 h1 p1 c3 => (bX12_tries_166 (fun c4 => (bX12_tries_182 (bX12_tries_185 (v3 c1 c2 x1 h1 p1 c3 c4)))) (fun c4 => (bX12_tries_172 (k2 c1 c2 x1 h1 p1 c3 c4) (fun h2 p2 => (bX12_tries_182 (bX12_tries_185 (v4 c1 c2 x1 h1 p1 c3 c4 h2 p2)))))))) (fun x1 h1 p1 c3 => (bX12_tries_163 (bX12_tries_185 (v5 c1 c2 x1 h1 p1 c3)))))))))
theorem dX12_laysAlive_0 : decode (mC mX12_laysAlive) 0 = .ok (.aload_n 0, 1) := by decide +kernel
theorem dX12_laysAlive_1 : decode (mC mX12_laysAlive) 1 = .ok (.aload_n 0, 1) := by decide +kernel
theorem dX12_laysAlive_2 : decode (mC mX12_laysAlive) 2 = .ok (.getfield 13, 3) := by decide +kernel
theorem dX12_laysAlive_5 : decode (mC mX12_laysAlive) 5 = .ok (.sipush 164, 3) := by decide +kernel
theorem dX12_laysAlive_8 : decode (mC mX12_laysAlive) 8 = .ok (.iconst 3, 1) := by decide +kernel
theorem dX12_laysAlive_9 : decode (mC mX12_laysAlive) 9 = .ok (.iload_n 1, 1) := by decide +kernel
theorem dX12_laysAlive_10 : decode (mC mX12_laysAlive) 10 = .ok (.imul, 1) := by decide +kernel
theorem dX12_laysAlive_11 : decode (mC mX12_laysAlive) 11 = .ok (.iadd, 1) := by decide +kernel
theorem dX12_laysAlive_12 : decode (mC mX12_laysAlive) 12 = .ok (.iconst 1, 1) := by decide +kernel
theorem dX12_laysAlive_13 : decode (mC mX12_laysAlive) 13 = .ok (.iadd, 1) := by decide +kernel
theorem dX12_laysAlive_14 : decode (mC mX12_laysAlive) 14 = .ok (.iaload, 1) := by decide +kernel
theorem dX12_laysAlive_15 : decode (mC mX12_laysAlive) 15 = .ok (.aload_n 0, 1) := by decide +kernel
theorem dX12_laysAlive_16 : decode (mC mX12_laysAlive) 16 = .ok (.getfield 13, 3) := by decide +kernel
theorem dX12_laysAlive_19 : decode (mC mX12_laysAlive) 19 = .ok (.sipush 164, 3) := by decide +kernel
theorem dX12_laysAlive_22 : decode (mC mX12_laysAlive) 22 = .ok (.iconst 3, 1) := by decide +kernel
theorem dX12_laysAlive_23 : decode (mC mX12_laysAlive) 23 = .ok (.iload_n 1, 1) := by decide +kernel
theorem dX12_laysAlive_24 : decode (mC mX12_laysAlive) 24 = .ok (.imul, 1) := by decide +kernel
theorem dX12_laysAlive_25 : decode (mC mX12_laysAlive) 25 = .ok (.iadd, 1) := by decide +kernel
theorem dX12_laysAlive_26 : decode (mC mX12_laysAlive) 26 = .ok (.iconst 2, 1) := by decide +kernel
theorem dX12_laysAlive_27 : decode (mC mX12_laysAlive) 27 = .ok (.iadd, 1) := by decide +kernel
theorem dX12_laysAlive_28 : decode (mC mX12_laysAlive) 28 = .ok (.iaload, 1) := by decide +kernel
theorem dX12_laysAlive_29 : decode (mC mX12_laysAlive) 29 = .ok (.invokevirtual 316, 3) := by decide +kernel
theorem dX12_laysAlive_32 : decode (mC mX12_laysAlive) 32 = .ok (.return_, 1) := by decide +kernel
set_option maxRecDepth 100000 in
theorem bX12_laysAlive_0 {sc : Nat × (Nat → Int32)} {h : jH} {Q : jQ} {l1 : Int32}
    (o1 : vp_in ((164 + (3 * l1)) + 1) 1454)
    (o2 : vp_in ((164 + (3 * l1)) + 2) 1454)
    (v1 : WP mX12_laysAlive Q 29 [some (.ref 159), some (.int l1)] [.int (h 160 (((164 + (3 * l1)) + 2).toNatClampNeg)), .int (h 160 (((164 + (3 * l1)) + 1).toNatClampNeg)), .ref 159] (jG0 sc) h (0, 0)) :
    WP mX12_laysAlive Q 0 [some (.ref 159), some (.int l1)] [] (jG0 sc) h (0, 0) := by
  refine j_aload_n (i := 0) rfl dX12_laysAlive_0 ?_
  refine j_aload_n (i := 0) rfl dX12_laysAlive_1 ?_
  refine j_getR (idx := 13) (ci := 12) (k := 1) (nest := false) (show (12, 13, 12, 1, false) ∈ jFT by decide) rfl (Nat.le_of_ble_eq_true rfl) rfl (a := 160) rfl dX12_laysAlive_2 ?_
  refine j_sipush (n := 164) 164 (by decide) dX12_laysAlive_5 ?_
  refine j_iconst (n := 3) 3 (by decide) dX12_laysAlive_8 ?_
  refine j_iload_n (i := 1) rfl dX12_laysAlive_9 ?_
  refine j_imul dX12_laysAlive_10 ?_
  refine j_iadd dX12_laysAlive_11 ?_
  refine j_iconst (n := 1) 1 (by decide) dX12_laysAlive_12 ?_
  refine j_iadd dX12_laysAlive_13 ?_
  refine j_iald (Nat.le_of_ble_eq_true rfl) rfl o1 dX12_laysAlive_14 ?_
  refine j_aload_n (i := 0) rfl dX12_laysAlive_15 ?_
  refine j_getR (idx := 13) (ci := 12) (k := 1) (nest := false) (show (12, 13, 12, 1, false) ∈ jFT by decide) rfl (Nat.le_of_ble_eq_true rfl) rfl (a := 160) rfl dX12_laysAlive_16 ?_
  refine j_sipush (n := 164) 164 (by decide) dX12_laysAlive_19 ?_
  refine j_iconst (n := 3) 3 (by decide) dX12_laysAlive_22 ?_
  refine j_iload_n (i := 1) rfl dX12_laysAlive_23 ?_
  refine j_imul dX12_laysAlive_24 ?_
  refine j_iadd dX12_laysAlive_25 ?_
  refine j_iconst (n := 2) 2 (by decide) dX12_laysAlive_26 ?_
  refine j_iadd dX12_laysAlive_27 ?_
  refine j_iald (Nat.le_of_ble_eq_true rfl) rfl o2 dX12_laysAlive_28 ?_
  exact j_le [some (.ref 159), some (.int l1)] (And.intro rfl (And.intro rfl True.intro)) v1
set_option maxRecDepth 100000 in
theorem bX12_laysAlive_29 {sc : Nat × (Nat → Int32)} {h : jH} {Q : jQ} {l1 s0 s1 : Int32} {P1 : jH → Prop}
    (k1 : JM mX12_laysBy [.ref 159, .int s1, .int s0] (jG0 sc) h (jvoid sc P1))
    (v1 : ∀ h1 : jH, P1 h1 → Q (.inl none) (jG0 sc) h1) :
    WP mX12_laysAlive Q 29 [some (.ref 159), some (.int l1)] [.int s0, .int s1, .ref 159] (jG0 sc) h (0, 0) := by
  refine j_callV (idx := 316) (As := [.int s1, .int s0]) (ci := 12) (n := 2) k1 jvoid_nt (jlkT (jtb7 196 rfl) rfl) sX12_laysBy kX12_laysBy rfl ⟨rfl, by decide +kernel, by decide +kernel, by decide +kernel⟩ rfl ⟨by decide, by decide⟩ (Nat.le_of_ble_eq_true rfl) rfl (Nat.le_of_ble_eq_true rfl) (Nat.le_of_ble_eq_true rfl) ⟨Nat.zero_le _, Nat.zero_le _⟩ dX12_laysAlive_29 (fun r Γ' h1 q => ?_)
  obtain ⟨q0, rfl, p1⟩ := q; cases q0
  refine j_eqst [] (by rfl) ?_
  exact j_vret rfl (Nat.zero_le _) (Nat.zero_le _) dX12_laysAlive_32 (v1 h1 p1)
set_option maxRecDepth 100000 in
theorem rX12_laysAlive_0 {sc : Nat × (Nat → Int32)} {h : jH} {Q : jQ} {l1 : Int32} {P1 : jH → Prop}
    (o1 : vp_in ((164 + (3 * l1)) + 1) 1454)
    (o2 : vp_in ((164 + (3 * l1)) + 2) 1454)
    (k1 : JM mX12_laysBy [.ref 159, .int (h 160 (((164 + (3 * l1)) + 1).toNatClampNeg)), .int (h 160 (((164 + (3 * l1)) + 2).toNatClampNeg))] (jG0 sc) h (jvoid sc P1))
    (v1 : ∀ h1 : jH, P1 h1 → Q (.inl none) (jG0 sc) h1) :
    WP mX12_laysAlive Q 0 [some (.ref 159), some (.int l1)] [] (jG0 sc) h (0, 0) := by
  exact (bX12_laysAlive_0 o1 o2 (bX12_laysAlive_29 k1 (fun h1 p1 => (v1 h1 p1))))
theorem dX12_noAlive_0 : decode (mC mX12_noAlive) 0 = .ok (.iload_n 1, 1) := by decide +kernel
theorem dX12_noAlive_1 : decode (mC mX12_noAlive) 1 = .ok (.iconst 0, 1) := by decide +kernel
theorem dX12_noAlive_2 : decode (mC mX12_noAlive) 2 = .ok (.aload_n 0, 1) := by decide +kernel
theorem dX12_noAlive_3 : decode (mC mX12_noAlive) 3 = .ok (.getfield 13, 3) := by decide +kernel
theorem dX12_noAlive_6 : decode (mC mX12_noAlive) 6 = .ok (.sipush 163, 3) := by decide +kernel
theorem dX12_noAlive_9 : decode (mC mX12_noAlive) 9 = .ok (.iaload, 1) := by decide +kernel
theorem dX12_noAlive_10 : decode (mC mX12_noAlive) 10 = .ok (.iconst 1, 1) := by decide +kernel
theorem dX12_noAlive_11 : decode (mC mX12_noAlive) 11 = .ok (.isub, 1) := by decide +kernel
theorem dX12_noAlive_12 : decode (mC mX12_noAlive) 12 = .ok (.invokestatic 206, 3) := by decide +kernel
theorem dX12_noAlive_15 : decode (mC mX12_noAlive) 15 = .ok (.ifCond .ne 7, 3) := by decide +kernel
theorem dX12_noAlive_18 : decode (mC mX12_noAlive) 18 = .ok (.iconst 1, 1) := by decide +kernel
theorem dX12_noAlive_19 : decode (mC mX12_noAlive) 19 = .ok (.goto 4, 3) := by decide +kernel
theorem dX12_noAlive_22 : decode (mC mX12_noAlive) 22 = .ok (.iconst 0, 1) := by decide +kernel
theorem dX12_noAlive_23 : decode (mC mX12_noAlive) 23 = .ok (.ireturn, 1) := by decide +kernel
set_option maxRecDepth 100000 in
theorem bX12_noAlive_0 {sc : Nat × (Nat → Int32)} {h : jH} {Q : jQ} {l1 : Int32} {P1 : Int32 → jH → Prop}
    (k1 : JM mX12_in [.int l1, .int 0, .int ((h 160 163) - 1)] (jG0 sc) h (jint sc P1))
    (v1 : ∀ (x1 : Int32) (h1 : jH), P1 x1 h1 → ¬ x1 = 0 → WP mX12_noAlive Q 22 [some (.ref 159), some (.int l1)] [] (jG0 sc) h1 (0, 0))
    (v2 : ∀ (x1 : Int32) (h1 : jH), P1 x1 h1 → x1 = 0 → WP mX12_noAlive Q 18 [some (.ref 159), some (.int l1)] [] (jG0 sc) h1 (0, 0)) :
    WP mX12_noAlive Q 0 [some (.ref 159), some (.int l1)] [] (jG0 sc) h (0, 0) := by
  refine j_iload_n (i := 1) rfl dX12_noAlive_0 ?_
  refine j_iconst (n := 0) 0 (by decide) dX12_noAlive_1 ?_
  refine j_aload_n (i := 0) rfl dX12_noAlive_2 ?_
  refine j_getR (idx := 13) (ci := 12) (k := 1) (nest := false) (show (12, 13, 12, 1, false) ∈ jFT by decide) rfl (Nat.le_of_ble_eq_true rfl) rfl (a := 160) rfl dX12_noAlive_3 ?_
  refine j_sipush (n := 163) 163 (by decide) dX12_noAlive_6 ?_
  refine j_iald (Nat.le_of_ble_eq_true rfl) rfl (jinl (n := 1454) (by decide)) dX12_noAlive_9 ?_
  refine j_eqst [.int (h 160 163), .int 0, .int l1] (by rfl) ?_
  refine j_iconst (n := 1) 1 (by decide) dX12_noAlive_10 ?_
  refine j_isub dX12_noAlive_11 ?_
  refine j_callS (idx := 206) (As := [.int l1, .int 0, .int ((h 160 163) - 1)]) (n := 3) k1 jint_nt (jlkT (jtb7 84 rfl) rfl) sX12_in kX12_in rfl ⟨by decide +kernel, by decide +kernel, by decide +kernel⟩ rfl ⟨by decide, by decide⟩ (Nat.le_of_ble_eq_true rfl) ⟨Nat.zero_le _, Nat.zero_le _⟩ dX12_noAlive_12 (fun r Γ' h1 q => ?_)
  obtain ⟨x1, q0, rfl, p1⟩ := q; cases q0
  refine j_eqst [.int x1] (by rfl) ?_
  refine j_if_ne (off := 7) 22 dX12_noAlive_15 (by decide) (fun c1 => ?_) (fun c1 => ?_)
  · exact j_le [some (.ref 159), some (.int l1)] (And.intro rfl (And.intro rfl True.intro)) (v1 x1 h1 p1 c1)
  · exact j_le [some (.ref 159), some (.int l1)] (And.intro rfl (And.intro rfl True.intro)) (v2 x1 h1 p1 c1)
set_option maxRecDepth 100000 in
theorem bX12_noAlive_18 {sc : Nat × (Nat → Int32)} {h : jH} {Q : jQ} {l1 : Int32}
    (v1 : WP mX12_noAlive Q 23 [some (.ref 159), some (.int l1)] [.int 1] (jG0 sc) h (0, 0)) :
    WP mX12_noAlive Q 18 [some (.ref 159), some (.int l1)] [] (jG0 sc) h (0, 0) := by
  refine j_iconst (n := 1) 1 (by decide) dX12_noAlive_18 ?_
  refine j_goto (off := 4) 23 dX12_noAlive_19 (by decide) ?_
  exact j_le [some (.ref 159), some (.int l1)] (And.intro rfl (And.intro rfl True.intro)) v1
set_option maxRecDepth 100000 in
theorem bX12_noAlive_22 {sc : Nat × (Nat → Int32)} {h : jH} {Q : jQ} {l1 : Int32}
    (v1 : WP mX12_noAlive Q 23 [some (.ref 159), some (.int l1)] [.int 0] (jG0 sc) h (0, 0)) :
    WP mX12_noAlive Q 22 [some (.ref 159), some (.int l1)] [] (jG0 sc) h (0, 0) := by
  refine j_iconst (n := 0) 0 (by decide) dX12_noAlive_22 ?_
  exact j_le [some (.ref 159), some (.int l1)] (And.intro rfl (And.intro rfl True.intro)) v1
set_option maxRecDepth 100000 in
theorem bX12_noAlive_23 {sc : Nat × (Nat → Int32)} {h : jH} {Q : jQ} {l1 s0 : Int32}
    (o1 : s0 = 0 ∨ s0 = 1)
    (v1 : Q (.inl (some (.int s0))) (jG0 sc) h) :
    WP mX12_noAlive Q 23 [some (.ref 159), some (.int l1)] [.int s0] (jG0 sc) h (0, 0) := by
  exact j_iret rfl (jbn o1) (Nat.zero_le _) (Nat.zero_le _) dX12_noAlive_23 v1
set_option maxRecDepth 100000 in
theorem rX12_noAlive_0 {sc : Nat × (Nat → Int32)} {h : jH} {Q : jQ} {l1 : Int32} {P1 : Int32 → jH → Prop}
    (k1 : JM mX12_in [.int l1, .int 0, .int ((h 160 163) - 1)] (jG0 sc) h (jint sc P1))
    (v1 : ∀ (x1 : Int32) (h1 : jH), P1 x1 h1 → ¬ x1 = 0 → Q (.inl (some (.int 0))) (jG0 sc) h1)
    (v2 : ∀ (x1 : Int32) (h1 : jH), P1 x1 h1 → x1 = 0 → Q (.inl (some (.int 1))) (jG0 sc) h1) :
    WP mX12_noAlive Q 0 [some (.ref 159), some (.int l1)] [] (jG0 sc) h (0, 0) := by
  exact (bX12_noAlive_0 k1 (fun x1 h1 p1 c1 => (bX12_noAlive_22 (bX12_noAlive_23 (by decide) (v1 x1 h1 p1 c1)))) (fun x1 h1 p1 c1 => (bX12_noAlive_18 (bX12_noAlive_23 (by decide) (v2 x1 h1 p1 c1)))))
theorem dX12_putsOut_0 : decode (mC mX12_putsOut) 0 = .ok (.iconst 3, 1) := by decide +kernel
theorem dX12_putsOut_1 : decode (mC mX12_putsOut) 1 = .ok (.iload_n 1, 1) := by decide +kernel
theorem dX12_putsOut_2 : decode (mC mX12_putsOut) 2 = .ok (.iconst 1, 1) := by decide +kernel
theorem dX12_putsOut_3 : decode (mC mX12_putsOut) 3 = .ok (.iadd, 1) := by decide +kernel
theorem dX12_putsOut_4 : decode (mC mX12_putsOut) 4 = .ok (.imul, 1) := by decide +kernel
theorem dX12_putsOut_5 : decode (mC mX12_putsOut) 5 = .ok (.istore_n 2, 1) := by decide +kernel
theorem dX12_putsOut_6 : decode (mC mX12_putsOut) 6 = .ok (.iload_n 2, 1) := by decide +kernel
theorem dX12_putsOut_7 : decode (mC mX12_putsOut) 7 = .ok (.iconst 3, 1) := by decide +kernel
theorem dX12_putsOut_8 : decode (mC mX12_putsOut) 8 = .ok (.aload_n 0, 1) := by decide +kernel
theorem dX12_putsOut_9 : decode (mC mX12_putsOut) 9 = .ok (.getfield 13, 3) := by decide +kernel
theorem dX12_putsOut_12 : decode (mC mX12_putsOut) 12 = .ok (.sipush 163, 3) := by decide +kernel
theorem dX12_putsOut_15 : decode (mC mX12_putsOut) 15 = .ok (.iaload, 1) := by decide +kernel
theorem dX12_putsOut_16 : decode (mC mX12_putsOut) 16 = .ok (.imul, 1) := by decide +kernel
theorem dX12_putsOut_17 : decode (mC mX12_putsOut) 17 = .ok (.if_icmp .ge 31, 3) := by decide +kernel
theorem dX12_putsOut_20 : decode (mC mX12_putsOut) 20 = .ok (.aload_n 0, 1) := by decide +kernel
theorem dX12_putsOut_21 : decode (mC mX12_putsOut) 21 = .ok (.getfield 13, 3) := by decide +kernel
theorem dX12_putsOut_24 : decode (mC mX12_putsOut) 24 = .ok (.sipush 164, 3) := by decide +kernel
theorem dX12_putsOut_27 : decode (mC mX12_putsOut) 27 = .ok (.iload_n 2, 1) := by decide +kernel
theorem dX12_putsOut_28 : decode (mC mX12_putsOut) 28 = .ok (.iadd, 1) := by decide +kernel
theorem dX12_putsOut_29 : decode (mC mX12_putsOut) 29 = .ok (.iconst 3, 1) := by decide +kernel
theorem dX12_putsOut_30 : decode (mC mX12_putsOut) 30 = .ok (.isub, 1) := by decide +kernel
theorem dX12_putsOut_31 : decode (mC mX12_putsOut) 31 = .ok (.aload_n 0, 1) := by decide +kernel
theorem dX12_putsOut_32 : decode (mC mX12_putsOut) 32 = .ok (.getfield 13, 3) := by decide +kernel
theorem dX12_putsOut_35 : decode (mC mX12_putsOut) 35 = .ok (.sipush 164, 3) := by decide +kernel
theorem dX12_putsOut_38 : decode (mC mX12_putsOut) 38 = .ok (.iload_n 2, 1) := by decide +kernel
theorem dX12_putsOut_39 : decode (mC mX12_putsOut) 39 = .ok (.iadd, 1) := by decide +kernel
theorem dX12_putsOut_40 : decode (mC mX12_putsOut) 40 = .ok (.iaload, 1) := by decide +kernel
theorem dX12_putsOut_41 : decode (mC mX12_putsOut) 41 = .ok (.iastore, 1) := by decide +kernel
theorem dX12_putsOut_42 : decode (mC mX12_putsOut) 42 = .ok (.iinc 2 1, 3) := by decide +kernel
theorem dX12_putsOut_45 : decode (mC mX12_putsOut) 45 = .ok (.goto (-39), 3) := by decide +kernel
theorem dX12_putsOut_48 : decode (mC mX12_putsOut) 48 = .ok (.aload_n 0, 1) := by decide +kernel
theorem dX12_putsOut_49 : decode (mC mX12_putsOut) 49 = .ok (.getfield 13, 3) := by decide +kernel
theorem dX12_putsOut_52 : decode (mC mX12_putsOut) 52 = .ok (.sipush 163, 3) := by decide +kernel
theorem dX12_putsOut_55 : decode (mC mX12_putsOut) 55 = .ok (.dup2, 1) := by decide +kernel
theorem dX12_putsOut_56 : decode (mC mX12_putsOut) 56 = .ok (.iaload, 1) := by decide +kernel
theorem dX12_putsOut_57 : decode (mC mX12_putsOut) 57 = .ok (.iconst 1, 1) := by decide +kernel
theorem dX12_putsOut_58 : decode (mC mX12_putsOut) 58 = .ok (.isub, 1) := by decide +kernel
theorem dX12_putsOut_59 : decode (mC mX12_putsOut) 59 = .ok (.iastore, 1) := by decide +kernel
theorem dX12_putsOut_60 : decode (mC mX12_putsOut) 60 = .ok (.return_, 1) := by decide +kernel
set_option maxRecDepth 100000 in
theorem bX12_putsOut_0 {sc : Nat × (Nat → Int32)} {h : jH} {Q : jQ} {l1 : Int32}
    (v1 : WP mX12_putsOut Q 6 [some (.ref 159), some (.int l1), some (.int (3 * (l1 + 1)))] [] (jG0 sc) h (0, 0)) :
    WP mX12_putsOut Q 0 [some (.ref 159), some (.int l1), none] [] (jG0 sc) h (0, 0) := by
  refine j_iconst (n := 3) 3 (by decide) dX12_putsOut_0 ?_
  refine j_iload_n (i := 1) rfl dX12_putsOut_1 ?_
  refine j_iconst (n := 1) 1 (by decide) dX12_putsOut_2 ?_
  refine j_iadd dX12_putsOut_3 ?_
  refine j_imul dX12_putsOut_4 ?_
  refine j_istore_n (i := 2) dX12_putsOut_5 (Nat.le_of_ble_eq_true rfl) ?_
  exact j_le [some (.ref 159), some (.int l1), some (.int (3 * (l1 + 1)))] (And.intro rfl (And.intro rfl (And.intro rfl True.intro))) v1
set_option maxRecDepth 100000 in
theorem bX12_putsOut_6 {sc : Nat × (Nat → Int32)} {h : jH} {Q : jQ} {l1 l2 : Int32}
    (v1 : (3 * (h 160 163)) ≤ l2 → WP mX12_putsOut Q 48 [some (.ref 159), some (.int l1), some (.int l2)] [] (jG0 sc) h (0, 0))
    (v2 : ¬ (3 * (h 160 163)) ≤ l2 → WP mX12_putsOut Q 20 [some (.ref 159), some (.int l1), some (.int l2)] [] (jG0 sc) h (0, 0)) :
    WP mX12_putsOut Q 6 [some (.ref 159), some (.int l1), some (.int l2)] [] (jG0 sc) h (0, 0) := by
  refine j_iload_n (i := 2) rfl dX12_putsOut_6 ?_
  refine j_iconst (n := 3) 3 (by decide) dX12_putsOut_7 ?_
  refine j_aload_n (i := 0) rfl dX12_putsOut_8 ?_
  refine j_getR (idx := 13) (ci := 12) (k := 1) (nest := false) (show (12, 13, 12, 1, false) ∈ jFT by decide) rfl (Nat.le_of_ble_eq_true rfl) rfl (a := 160) rfl dX12_putsOut_9 ?_
  refine j_sipush (n := 163) 163 (by decide) dX12_putsOut_12 ?_
  refine j_iald (Nat.le_of_ble_eq_true rfl) rfl (jinl (n := 1454) (by decide)) dX12_putsOut_15 ?_
  refine j_eqst [.int (h 160 163), .int 3, .int l2] (by rfl) ?_
  refine j_imul dX12_putsOut_16 ?_
  refine j_icmp_ge (off := 31) 48 dX12_putsOut_17 (by decide) (fun c1 => ?_) (fun c1 => ?_)
  · exact j_le [some (.ref 159), some (.int l1), some (.int l2)] (And.intro rfl (And.intro rfl (And.intro rfl True.intro))) (v1 c1)
  · exact j_le [some (.ref 159), some (.int l1), some (.int l2)] (And.intro rfl (And.intro rfl (And.intro rfl True.intro))) (v2 c1)
set_option maxRecDepth 100000 in
theorem bX12_putsOut_20 {sc : Nat × (Nat → Int32)} {h : jH} {Q : jQ} {l1 l2 : Int32}
    (o1 : vp_in (164 + l2) 1454)
    (o2 : vp_in ((164 + l2) - 3) 1454)
    (v1 : WP mX12_putsOut Q 6 [some (.ref 159), some (.int l1), some (.int (l2 + 1))] [] (jG0 sc) (jput h 160 (((164 + l2) - 3).toNatClampNeg) (h 160 ((164 + l2).toNatClampNeg))) (0, 0)) :
    WP mX12_putsOut Q 20 [some (.ref 159), some (.int l1), some (.int l2)] [] (jG0 sc) h (0, 0) := by
  refine j_aload_n (i := 0) rfl dX12_putsOut_20 ?_
  refine j_getR (idx := 13) (ci := 12) (k := 1) (nest := false) (show (12, 13, 12, 1, false) ∈ jFT by decide) rfl (Nat.le_of_ble_eq_true rfl) rfl (a := 160) rfl dX12_putsOut_21 ?_
  refine j_sipush (n := 164) 164 (by decide) dX12_putsOut_24 ?_
  refine j_iload_n (i := 2) rfl dX12_putsOut_27 ?_
  refine j_iadd dX12_putsOut_28 ?_
  refine j_iconst (n := 3) 3 (by decide) dX12_putsOut_29 ?_
  refine j_isub dX12_putsOut_30 ?_
  refine j_aload_n (i := 0) rfl dX12_putsOut_31 ?_
  refine j_getR (idx := 13) (ci := 12) (k := 1) (nest := false) (show (12, 13, 12, 1, false) ∈ jFT by decide) rfl (Nat.le_of_ble_eq_true rfl) rfl (a := 160) rfl dX12_putsOut_32 ?_
  refine j_sipush (n := 164) 164 (by decide) dX12_putsOut_35 ?_
  refine j_iload_n (i := 2) rfl dX12_putsOut_38 ?_
  refine j_iadd dX12_putsOut_39 ?_
  refine j_iald (Nat.le_of_ble_eq_true rfl) rfl o1 dX12_putsOut_40 ?_
  refine j_iast (Nat.le_of_ble_eq_true rfl) rfl o2 dX12_putsOut_41 ?_
  refine j_iinc (i := 2) (n := 1) rfl dX12_putsOut_42 (Nat.le_of_ble_eq_true rfl) ?_
  refine j_eqlv [some (.ref 159), some (.int l1), some (.int (l2 + 1))] rfl ?_
  refine j_goto (off := -39) 6 dX12_putsOut_45 (by decide) ?_
  exact j_le [some (.ref 159), some (.int l1), some (.int (l2 + 1))] (And.intro rfl (And.intro rfl (And.intro rfl True.intro))) v1
set_option maxRecDepth 100000 in
theorem bX12_putsOut_48 {sc : Nat × (Nat → Int32)} {h : jH} {Q : jQ} {l1 l2 : Int32}
    (v1 : Q (.inl none) (jG0 sc) (jput h 160 163 ((h 160 163) - 1))) :
    WP mX12_putsOut Q 48 [some (.ref 159), some (.int l1), some (.int l2)] [] (jG0 sc) h (0, 0) := by
  refine j_aload_n (i := 0) rfl dX12_putsOut_48 ?_
  refine j_getR (idx := 13) (ci := 12) (k := 1) (nest := false) (show (12, 13, 12, 1, false) ∈ jFT by decide) rfl (Nat.le_of_ble_eq_true rfl) rfl (a := 160) rfl dX12_putsOut_49 ?_
  refine j_sipush (n := 163) 163 (by decide) dX12_putsOut_52 ?_
  refine j_dup2 rfl rfl dX12_putsOut_55 ?_
  refine j_iald (Nat.le_of_ble_eq_true rfl) rfl (jinl (n := 1454) (by decide)) dX12_putsOut_56 ?_
  refine j_eqst [.int (h 160 163), .int 163, .ref 160] (by rfl) ?_
  refine j_iconst (n := 1) 1 (by decide) dX12_putsOut_57 ?_
  refine j_isub dX12_putsOut_58 ?_
  refine j_iast (Nat.le_of_ble_eq_true rfl) rfl (jinl (n := 1454) (by decide)) dX12_putsOut_59 ?_
  exact j_vret rfl (Nat.zero_le _) (Nat.zero_le _) dX12_putsOut_60 v1
set_option maxRecDepth 100000 in
theorem rX12_putsOut_0 {sc : Nat × (Nat → Int32)} {h : jH} {Q : jQ} {l1 : Int32}
    (v1 : WP mX12_putsOut Q 6 [some (.ref 159), some (.int l1), some (.int (3 * (l1 + 1)))] [] (jG0 sc) h (0, 0)) :
    WP mX12_putsOut Q 0 [some (.ref 159), some (.int l1), none] [] (jG0 sc) h (0, 0) := by
  exact (bX12_putsOut_0 v1)
set_option maxRecDepth 100000 in
theorem rX12_putsOut_6 {sc : Nat × (Nat → Int32)} {h : jH} {Q : jQ} {l1 l2 : Int32}
    (v1 : (3 * (h 160 163)) ≤ l2 → Q (.inl none) (jG0 sc) (jput h 160 163 ((h 160 163) - 1)))
    (o1 : ¬ (3 * (h 160 163)) ≤ l2 → vp_in (164 + l2) 1454)
    (o2 : ¬ (3 * (h 160 163)) ≤ l2 → vp_in ((164 + l2) - 3) 1454)
    (v2 : ¬ (3 * (h 160 163)) ≤ l2 → WP mX12_putsOut Q 6 [some (.ref 159), some (.int l1), some (.int (l2 + 1))] [] (jG0 sc) (jput h 160 (((164 + l2) - 3).toNatClampNeg) (h 160 ((164 + l2).toNatClampNeg))) (0, 0)) :
    WP mX12_putsOut Q 6 [some (.ref 159), some (.int l1), some (.int l2)] [] (jG0 sc) h (0, 0) := by
  exact (bX12_putsOut_6 (fun c1 => (bX12_putsOut_48 (v1 c1))) (fun c1 => (bX12_putsOut_20 (o1 c1) (o2 c1) (v2 c1))))
theorem dX12_run_0 : decode (mC mX12_run) 0 = .ok (.aload_n 0, 1) := by decide +kernel
theorem dX12_run_1 : decode (mC mX12_run) 1 = .ok (.iconst 0, 1) := by decide +kernel
theorem dX12_run_2 : decode (mC mX12_run) 2 = .ok (.putfield 3, 3) := by decide +kernel
theorem dX12_run_5 : decode (mC mX12_run) 5 = .ok (.aload_n 0, 1) := by decide +kernel
theorem dX12_run_6 : decode (mC mX12_run) 6 = .ok (.iload_n 1, 1) := by decide +kernel
theorem dX12_run_7 : decode (mC mX12_run) 7 = .ok (.iconst 0, 1) := by decide +kernel
theorem dX12_run_8 : decode (mC mX12_run) 8 = .ok (.bipush 15, 2) := by decide +kernel
theorem dX12_run_10 : decode (mC mX12_run) 10 = .ok (.invokestatic 206, 3) := by decide +kernel
theorem dX12_run_13 : decode (mC mX12_run) 13 = .ok (.ifCond .eq 25, 3) := by decide +kernel
theorem dX12_run_16 : decode (mC mX12_run) 16 = .ok (.iload_n 2, 1) := by decide +kernel
theorem dX12_run_17 : decode (mC mX12_run) 17 = .ok (.iconst 0, 1) := by decide +kernel
theorem dX12_run_18 : decode (mC mX12_run) 18 = .ok (.bipush 15, 2) := by decide +kernel
theorem dX12_run_20 : decode (mC mX12_run) 20 = .ok (.invokestatic 206, 3) := by decide +kernel
theorem dX12_run_23 : decode (mC mX12_run) 23 = .ok (.ifCond .eq 15, 3) := by decide +kernel
theorem dX12_run_26 : decode (mC mX12_run) 26 = .ok (.iload_n 3, 1) := by decide +kernel
theorem dX12_run_27 : decode (mC mX12_run) 27 = .ok (.ldc_w 346, 3) := by decide +kernel
theorem dX12_run_30 : decode (mC mX12_run) 30 = .ok (.ldc 205, 2) := by decide +kernel
theorem dX12_run_32 : decode (mC mX12_run) 32 = .ok (.invokestatic 206, 3) := by decide +kernel
theorem dX12_run_35 : decode (mC mX12_run) 35 = .ok (.ifCond .ne 7, 3) := by decide +kernel
theorem dX12_run_38 : decode (mC mX12_run) 38 = .ok (.iconst 1, 1) := by decide +kernel
theorem dX12_run_39 : decode (mC mX12_run) 39 = .ok (.goto 4, 3) := by decide +kernel
theorem dX12_run_42 : decode (mC mX12_run) 42 = .ok (.iconst 0, 1) := by decide +kernel
theorem dX12_run_43 : decode (mC mX12_run) 43 = .ok (.iconst 1, 1) := by decide +kernel
theorem dX12_run_44 : decode (mC mX12_run) 44 = .ok (.invokevirtual 157, 3) := by decide +kernel
theorem dX12_run_47 : decode (mC mX12_run) 47 = .ok (.ifCond .ne 28, 3) := by decide +kernel
theorem dX12_run_50 : decode (mC mX12_run) 50 = .ok (.aload_n 0, 1) := by decide +kernel
theorem dX12_run_51 : decode (mC mX12_run) 51 = .ok (.aload_n 0, 1) := by decide +kernel
theorem dX12_run_52 : decode (mC mX12_run) 52 = .ok (.getfield 13, 3) := by decide +kernel
theorem dX12_run_55 : decode (mC mX12_run) 55 = .ok (.bipush 122, 2) := by decide +kernel
theorem dX12_run_57 : decode (mC mX12_run) 57 = .ok (.iaload, 1) := by decide +kernel
theorem dX12_run_58 : decode (mC mX12_run) 58 = .ok (.bipush 12, 2) := by decide +kernel
theorem dX12_run_60 : decode (mC mX12_run) 60 = .ok (.if_icmp .ne 7, 3) := by decide +kernel
theorem dX12_run_63 : decode (mC mX12_run) 63 = .ok (.iconst 1, 1) := by decide +kernel
theorem dX12_run_64 : decode (mC mX12_run) 64 = .ok (.goto 4, 3) := by decide +kernel
theorem dX12_run_67 : decode (mC mX12_run) 67 = .ok (.iconst 0, 1) := by decide +kernel
theorem dX12_run_68 : decode (mC mX12_run) 68 = .ok (.iconst 2, 1) := by decide +kernel
theorem dX12_run_69 : decode (mC mX12_run) 69 = .ok (.invokevirtual 157, 3) := by decide +kernel
theorem dX12_run_72 : decode (mC mX12_run) 72 = .ok (.ifCond .eq 5, 3) := by decide +kernel
theorem dX12_run_75 : decode (mC mX12_run) 75 = .ok (.iconst 0, 1) := by decide +kernel
theorem dX12_run_76 : decode (mC mX12_run) 76 = .ok (.ireturn, 1) := by decide +kernel
theorem dX12_run_77 : decode (mC mX12_run) 77 = .ok (.aload_n 0, 1) := by decide +kernel
theorem dX12_run_78 : decode (mC mX12_run) 78 = .ok (.getfield 13, 3) := by decide +kernel
theorem dX12_run_81 : decode (mC mX12_run) 81 = .ok (.bipush 122, 2) := by decide +kernel
theorem dX12_run_83 : decode (mC mX12_run) 83 = .ok (.iaload, 1) := by decide +kernel
theorem dX12_run_84 : decode (mC mX12_run) 84 = .ok (.istore 4, 2) := by decide +kernel
theorem dX12_run_86 : decode (mC mX12_run) 86 = .ok (.aload_n 0, 1) := by decide +kernel
theorem dX12_run_87 : decode (mC mX12_run) 87 = .ok (.getfield 13, 3) := by decide +kernel
theorem dX12_run_90 : decode (mC mX12_run) 90 = .ok (.bipush 123, 2) := by decide +kernel
theorem dX12_run_92 : decode (mC mX12_run) 92 = .ok (.iconst 3, 1) := by decide +kernel
theorem dX12_run_93 : decode (mC mX12_run) 93 = .ok (.iload 4, 2) := by decide +kernel
theorem dX12_run_95 : decode (mC mX12_run) 95 = .ok (.imul, 1) := by decide +kernel
theorem dX12_run_96 : decode (mC mX12_run) 96 = .ok (.iadd, 1) := by decide +kernel
theorem dX12_run_97 : decode (mC mX12_run) 97 = .ok (.iload_n 1, 1) := by decide +kernel
theorem dX12_run_98 : decode (mC mX12_run) 98 = .ok (.iastore, 1) := by decide +kernel
theorem dX12_run_99 : decode (mC mX12_run) 99 = .ok (.aload_n 0, 1) := by decide +kernel
theorem dX12_run_100 : decode (mC mX12_run) 100 = .ok (.getfield 13, 3) := by decide +kernel
theorem dX12_run_103 : decode (mC mX12_run) 103 = .ok (.bipush 123, 2) := by decide +kernel
theorem dX12_run_105 : decode (mC mX12_run) 105 = .ok (.iconst 3, 1) := by decide +kernel
theorem dX12_run_106 : decode (mC mX12_run) 106 = .ok (.iload 4, 2) := by decide +kernel
theorem dX12_run_108 : decode (mC mX12_run) 108 = .ok (.imul, 1) := by decide +kernel
theorem dX12_run_109 : decode (mC mX12_run) 109 = .ok (.iadd, 1) := by decide +kernel
theorem dX12_run_110 : decode (mC mX12_run) 110 = .ok (.iconst 1, 1) := by decide +kernel
theorem dX12_run_111 : decode (mC mX12_run) 111 = .ok (.iadd, 1) := by decide +kernel
theorem dX12_run_112 : decode (mC mX12_run) 112 = .ok (.iload_n 2, 1) := by decide +kernel
theorem dX12_run_113 : decode (mC mX12_run) 113 = .ok (.iastore, 1) := by decide +kernel
theorem dX12_run_114 : decode (mC mX12_run) 114 = .ok (.aload_n 0, 1) := by decide +kernel
theorem dX12_run_115 : decode (mC mX12_run) 115 = .ok (.getfield 13, 3) := by decide +kernel
theorem dX12_run_118 : decode (mC mX12_run) 118 = .ok (.bipush 123, 2) := by decide +kernel
theorem dX12_run_120 : decode (mC mX12_run) 120 = .ok (.iconst 3, 1) := by decide +kernel
theorem dX12_run_121 : decode (mC mX12_run) 121 = .ok (.iload 4, 2) := by decide +kernel
theorem dX12_run_123 : decode (mC mX12_run) 123 = .ok (.imul, 1) := by decide +kernel
theorem dX12_run_124 : decode (mC mX12_run) 124 = .ok (.iadd, 1) := by decide +kernel
theorem dX12_run_125 : decode (mC mX12_run) 125 = .ok (.iconst 2, 1) := by decide +kernel
theorem dX12_run_126 : decode (mC mX12_run) 126 = .ok (.iadd, 1) := by decide +kernel
theorem dX12_run_127 : decode (mC mX12_run) 127 = .ok (.iload_n 3, 1) := by decide +kernel
theorem dX12_run_128 : decode (mC mX12_run) 128 = .ok (.iastore, 1) := by decide +kernel
theorem dX12_run_129 : decode (mC mX12_run) 129 = .ok (.aload_n 0, 1) := by decide +kernel
theorem dX12_run_130 : decode (mC mX12_run) 130 = .ok (.getfield 13, 3) := by decide +kernel
theorem dX12_run_133 : decode (mC mX12_run) 133 = .ok (.bipush 122, 2) := by decide +kernel
theorem dX12_run_135 : decode (mC mX12_run) 135 = .ok (.dup2, 1) := by decide +kernel
theorem dX12_run_136 : decode (mC mX12_run) 136 = .ok (.iaload, 1) := by decide +kernel
theorem dX12_run_137 : decode (mC mX12_run) 137 = .ok (.iconst 1, 1) := by decide +kernel
theorem dX12_run_138 : decode (mC mX12_run) 138 = .ok (.iadd, 1) := by decide +kernel
theorem dX12_run_139 : decode (mC mX12_run) 139 = .ok (.iastore, 1) := by decide +kernel
theorem dX12_run_140 : decode (mC mX12_run) 140 = .ok (.aload_n 0, 1) := by decide +kernel
theorem dX12_run_141 : decode (mC mX12_run) 141 = .ok (.invokevirtual 319, 3) := by decide +kernel
theorem dX12_run_144 : decode (mC mX12_run) 144 = .ok (.aload_n 0, 1) := by decide +kernel
theorem dX12_run_145 : decode (mC mX12_run) 145 = .ok (.getfield 13, 3) := by decide +kernel
theorem dX12_run_148 : decode (mC mX12_run) 148 = .ok (.sipush 163, 3) := by decide +kernel
theorem dX12_run_151 : decode (mC mX12_run) 151 = .ok (.iaload, 1) := by decide +kernel
theorem dX12_run_152 : decode (mC mX12_run) 152 = .ok (.iconst 1, 1) := by decide +kernel
theorem dX12_run_153 : decode (mC mX12_run) 153 = .ok (.isub, 1) := by decide +kernel
theorem dX12_run_154 : decode (mC mX12_run) 154 = .ok (.istore 5, 2) := by decide +kernel
theorem dX12_run_156 : decode (mC mX12_run) 156 = .ok (.iload 5, 2) := by decide +kernel
theorem dX12_run_158 : decode (mC mX12_run) 158 = .ok (.ifCond .lt 45, 3) := by decide +kernel
theorem dX12_run_161 : decode (mC mX12_run) 161 = .ok (.aload_n 0, 1) := by decide +kernel
theorem dX12_run_162 : decode (mC mX12_run) 162 = .ok (.iload 5, 2) := by decide +kernel
theorem dX12_run_164 : decode (mC mX12_run) 164 = .ok (.invokevirtual 347, 3) := by decide +kernel
theorem dX12_run_167 : decode (mC mX12_run) 167 = .ok (.aload_n 0, 1) := by decide +kernel
theorem dX12_run_168 : decode (mC mX12_run) 168 = .ok (.iload 4, 2) := by decide +kernel
theorem dX12_run_170 : decode (mC mX12_run) 170 = .ok (.invokevirtual 268, 3) := by decide +kernel
theorem dX12_run_173 : decode (mC mX12_run) 173 = .ok (.ifCond .eq 6, 3) := by decide +kernel
theorem dX12_run_176 : decode (mC mX12_run) 176 = .ok (.goto 21, 3) := by decide +kernel
theorem dX12_run_179 : decode (mC mX12_run) 179 = .ok (.aload_n 0, 1) := by decide +kernel
theorem dX12_run_180 : decode (mC mX12_run) 180 = .ok (.iload 5, 2) := by decide +kernel
theorem dX12_run_182 : decode (mC mX12_run) 182 = .ok (.invokevirtual 350, 3) := by decide +kernel
theorem dX12_run_185 : decode (mC mX12_run) 185 = .ok (.aload_n 0, 1) := by decide +kernel
theorem dX12_run_186 : decode (mC mX12_run) 186 = .ok (.getfield 13, 3) := by decide +kernel
theorem dX12_run_189 : decode (mC mX12_run) 189 = .ok (.sipush 161, 3) := by decide +kernel
theorem dX12_run_192 : decode (mC mX12_run) 192 = .ok (.dup2, 1) := by decide +kernel
theorem dX12_run_193 : decode (mC mX12_run) 193 = .ok (.iaload, 1) := by decide +kernel
theorem dX12_run_194 : decode (mC mX12_run) 194 = .ok (.iconst 1, 1) := by decide +kernel
theorem dX12_run_195 : decode (mC mX12_run) 195 = .ok (.iadd, 1) := by decide +kernel
theorem dX12_run_196 : decode (mC mX12_run) 196 = .ok (.iastore, 1) := by decide +kernel
theorem dX12_run_197 : decode (mC mX12_run) 197 = .ok (.iinc 5 (-1), 3) := by decide +kernel
theorem dX12_run_200 : decode (mC mX12_run) 200 = .ok (.goto (-44), 3) := by decide +kernel
theorem dX12_run_203 : decode (mC mX12_run) 203 = .ok (.iload 4, 2) := by decide +kernel
theorem dX12_run_205 : decode (mC mX12_run) 205 = .ok (.ireturn, 1) := by decide +kernel
set_option maxRecDepth 100000 in
theorem bX12_run_0 {sc : Nat × (Nat → Int32)} {h : jH} {Q : jQ} {l1 l2 l3 : Int32} {P1 : Int32 → jH → Prop}
    (k1 : JM mX12_in [.int l1, .int 0, .int 15] (jG0 sc) (jput h 159 0 0) (jint sc P1))
    (v1 : ∀ (x1 : Int32) (h1 : jH), P1 x1 h1 → x1 = 0 → WP mX12_run Q 38 [some (.ref 159), some (.int l1), some (.int l2), some (.int l3), none, none] [.ref 159] (jG0 sc) h1 (0, 0))
    (v2 : ∀ (x1 : Int32) (h1 : jH), P1 x1 h1 → ¬ x1 = 0 → WP mX12_run Q 16 [some (.ref 159), some (.int l1), some (.int l2), some (.int l3), none, none] [.ref 159] (jG0 sc) h1 (0, 0)) :
    WP mX12_run Q 0 [some (.ref 159), some (.int l1), some (.int l2), some (.int l3), none, none] [] (jG0 sc) h (0, 0) := by
  refine j_aload_n (i := 0) rfl dX12_run_0 ?_
  refine j_iconst (n := 0) 0 (by decide) dX12_run_1 ?_
  refine j_putI (idx := 3) (ci := 12) (k := 0) (nest := false) (show (12, 3, 12, 0, false) ∈ jFT by decide) rfl rfl rfl rfl (Nat.le_of_ble_eq_true rfl) rfl dX12_run_2 ?_
  refine j_aload_n (i := 0) rfl dX12_run_5 ?_
  refine j_iload_n (i := 1) rfl dX12_run_6 ?_
  refine j_iconst (n := 0) 0 (by decide) dX12_run_7 ?_
  refine j_bipush (n := 15) 15 (by decide) dX12_run_8 ?_
  refine j_callS (idx := 206) (As := [.int l1, .int 0, .int 15]) (n := 3) k1 jint_nt (jlkT (jtb7 84 rfl) rfl) sX12_in kX12_in rfl ⟨by decide +kernel, by decide +kernel, by decide +kernel⟩ rfl ⟨by decide, by decide⟩ (Nat.le_of_ble_eq_true rfl) ⟨Nat.zero_le _, Nat.zero_le _⟩ dX12_run_10 (fun r Γ' h1 q => ?_)
  obtain ⟨x1, q0, rfl, p1⟩ := q; cases q0
  refine j_eqst [.int x1, .ref 159] (by rfl) ?_
  refine j_if_eq (off := 25) 38 dX12_run_13 (by decide) (fun c1 => ?_) (fun c1 => ?_)
  · exact j_le [some (.ref 159), some (.int l1), some (.int l2), some (.int l3), none, none] (And.intro rfl (And.intro rfl (And.intro rfl (And.intro rfl True.intro)))) (v1 x1 h1 p1 c1)
  · exact j_le [some (.ref 159), some (.int l1), some (.int l2), some (.int l3), none, none] (And.intro rfl (And.intro rfl (And.intro rfl (And.intro rfl True.intro)))) (v2 x1 h1 p1 c1)
set_option maxRecDepth 100000 in
theorem bX12_run_16 {sc : Nat × (Nat → Int32)} {h : jH} {Q : jQ} {l1 l2 l3 : Int32} {P1 : Int32 → jH → Prop}
    (k1 : JM mX12_in [.int l2, .int 0, .int 15] (jG0 sc) h (jint sc P1))
    (v1 : ∀ (x1 : Int32) (h1 : jH), P1 x1 h1 → x1 = 0 → WP mX12_run Q 38 [some (.ref 159), some (.int l1), some (.int l2), some (.int l3), none, none] [.ref 159] (jG0 sc) h1 (0, 0))
    (v2 : ∀ (x1 : Int32) (h1 : jH), P1 x1 h1 → ¬ x1 = 0 → WP mX12_run Q 26 [some (.ref 159), some (.int l1), some (.int l2), some (.int l3), none, none] [.ref 159] (jG0 sc) h1 (0, 0)) :
    WP mX12_run Q 16 [some (.ref 159), some (.int l1), some (.int l2), some (.int l3), none, none] [.ref 159] (jG0 sc) h (0, 0) := by
  refine j_iload_n (i := 2) rfl dX12_run_16 ?_
  refine j_iconst (n := 0) 0 (by decide) dX12_run_17 ?_
  refine j_bipush (n := 15) 15 (by decide) dX12_run_18 ?_
  refine j_callS (idx := 206) (As := [.int l2, .int 0, .int 15]) (n := 3) k1 jint_nt (jlkT (jtb7 84 rfl) rfl) sX12_in kX12_in rfl ⟨by decide +kernel, by decide +kernel, by decide +kernel⟩ rfl ⟨by decide, by decide⟩ (Nat.le_of_ble_eq_true rfl) ⟨Nat.zero_le _, Nat.zero_le _⟩ dX12_run_20 (fun r Γ' h1 q => ?_)
  obtain ⟨x1, q0, rfl, p1⟩ := q; cases q0
  refine j_eqst [.int x1, .ref 159] (by rfl) ?_
  refine j_if_eq (off := 15) 38 dX12_run_23 (by decide) (fun c1 => ?_) (fun c1 => ?_)
  · exact j_le [some (.ref 159), some (.int l1), some (.int l2), some (.int l3), none, none] (And.intro rfl (And.intro rfl (And.intro rfl (And.intro rfl True.intro)))) (v1 x1 h1 p1 c1)
  · exact j_le [some (.ref 159), some (.int l1), some (.int l2), some (.int l3), none, none] (And.intro rfl (And.intro rfl (And.intro rfl (And.intro rfl True.intro)))) (v2 x1 h1 p1 c1)
set_option maxRecDepth 100000 in
theorem bX12_run_26 {sc : Nat × (Nat → Int32)} {h : jH} {Q : jQ} {l1 l2 l3 : Int32} {P1 : Int32 → jH → Prop}
    (k1 : JM mX12_in [.int l3, .int (-999999), .int 999999] (jG0 sc) h (jint sc P1))
    (v1 : ∀ (x1 : Int32) (h1 : jH), P1 x1 h1 → ¬ x1 = 0 → WP mX12_run Q 42 [some (.ref 159), some (.int l1), some (.int l2), some (.int l3), none, none] [.ref 159] (jG0 sc) h1 (0, 0))
    (v2 : ∀ (x1 : Int32) (h1 : jH), P1 x1 h1 → x1 = 0 → WP mX12_run Q 38 [some (.ref 159), some (.int l1), some (.int l2), some (.int l3), none, none] [.ref 159] (jG0 sc) h1 (0, 0)) :
    WP mX12_run Q 26 [some (.ref 159), some (.int l1), some (.int l2), some (.int l3), none, none] [.ref 159] (jG0 sc) h (0, 0) := by
  refine j_iload_n (i := 3) rfl dX12_run_26 ?_
  refine j_ldcw (idx := 346) (-999999) (show (jCn 12, 346, (-999999)) ∈ jCT by decide) dX12_run_27 ?_
  refine j_ldc (idx := 205) 999999 (show (jCn 12, 205, 999999) ∈ jCT by decide) dX12_run_30 ?_
  refine j_callS (idx := 206) (As := [.int l3, .int (-999999), .int 999999]) (n := 3) k1 jint_nt (jlkT (jtb7 84 rfl) rfl) sX12_in kX12_in rfl ⟨by decide +kernel, by decide +kernel, by decide +kernel⟩ rfl ⟨by decide, by decide⟩ (Nat.le_of_ble_eq_true rfl) ⟨Nat.zero_le _, Nat.zero_le _⟩ dX12_run_32 (fun r Γ' h1 q => ?_)
  obtain ⟨x1, q0, rfl, p1⟩ := q; cases q0
  refine j_eqst [.int x1, .ref 159] (by rfl) ?_
  refine j_if_ne (off := 7) 42 dX12_run_35 (by decide) (fun c1 => ?_) (fun c1 => ?_)
  · exact j_le [some (.ref 159), some (.int l1), some (.int l2), some (.int l3), none, none] (And.intro rfl (And.intro rfl (And.intro rfl (And.intro rfl True.intro)))) (v1 x1 h1 p1 c1)
  · exact j_le [some (.ref 159), some (.int l1), some (.int l2), some (.int l3), none, none] (And.intro rfl (And.intro rfl (And.intro rfl (And.intro rfl True.intro)))) (v2 x1 h1 p1 c1)
set_option maxRecDepth 100000 in
theorem bX12_run_38 {sc : Nat × (Nat → Int32)} {h : jH} {Q : jQ} {l1 l2 l3 : Int32}
    (v1 : WP mX12_run Q 43 [some (.ref 159), some (.int l1), some (.int l2), some (.int l3), none, none] [.int 1, .ref 159] (jG0 sc) h (0, 0)) :
    WP mX12_run Q 38 [some (.ref 159), some (.int l1), some (.int l2), some (.int l3), none, none] [.ref 159] (jG0 sc) h (0, 0) := by
  refine j_iconst (n := 1) 1 (by decide) dX12_run_38 ?_
  refine j_goto (off := 4) 43 dX12_run_39 (by decide) ?_
  exact j_le [some (.ref 159), some (.int l1), some (.int l2), some (.int l3), none, none] (And.intro rfl (And.intro rfl (And.intro rfl (And.intro rfl True.intro)))) v1
set_option maxRecDepth 100000 in
theorem bX12_run_42 {sc : Nat × (Nat → Int32)} {h : jH} {Q : jQ} {l1 l2 l3 : Int32}
    (v1 : WP mX12_run Q 43 [some (.ref 159), some (.int l1), some (.int l2), some (.int l3), none, none] [.int 0, .ref 159] (jG0 sc) h (0, 0)) :
    WP mX12_run Q 42 [some (.ref 159), some (.int l1), some (.int l2), some (.int l3), none, none] [.ref 159] (jG0 sc) h (0, 0) := by
  refine j_iconst (n := 0) 0 (by decide) dX12_run_42 ?_
  exact j_le [some (.ref 159), some (.int l1), some (.int l2), some (.int l3), none, none] (And.intro rfl (And.intro rfl (And.intro rfl (And.intro rfl True.intro)))) v1
set_option maxRecDepth 100000 in
theorem bX12_run_43 {sc : Nat × (Nat → Int32)} {h : jH} {Q : jQ} {l1 l2 l3 s0 : Int32} {P1 : Int32 → jH → Prop}
    (k1 : JM mX12_throwsIf [.ref 159, .int s0, .int 1] (jG0 sc) h (jint sc P1))
    (v1 : ∀ (x1 : Int32) (h1 : jH), P1 x1 h1 → ¬ x1 = 0 → WP mX12_run Q 75 [some (.ref 159), some (.int l1), some (.int l2), some (.int l3), none, none] [] (jG0 sc) h1 (0, 0))
    (v2 : ∀ (x1 : Int32) (h1 : jH), P1 x1 h1 → x1 = 0 → WP mX12_run Q 50 [some (.ref 159), some (.int l1), some (.int l2), some (.int l3), none, none] [] (jG0 sc) h1 (0, 0)) :
    WP mX12_run Q 43 [some (.ref 159), some (.int l1), some (.int l2), some (.int l3), none, none] [.int s0, .ref 159] (jG0 sc) h (0, 0) := by
  refine j_iconst (n := 1) 1 (by decide) dX12_run_43 ?_
  refine j_callV (idx := 157) (As := [.int s0, .int 1]) (ci := 12) (n := 2) k1 jint_nt (jlkT (jtb7 17 rfl) rfl) sX12_throwsIf kX12_throwsIf rfl ⟨rfl, by decide +kernel, by decide +kernel, by decide +kernel⟩ rfl ⟨by decide, by decide⟩ (Nat.le_of_ble_eq_true rfl) rfl (Nat.le_of_ble_eq_true rfl) (Nat.le_of_ble_eq_true rfl) ⟨Nat.zero_le _, Nat.zero_le _⟩ dX12_run_44 (fun r Γ' h1 q => ?_)
  obtain ⟨x1, q0, rfl, p1⟩ := q; cases q0
  refine j_eqst [.int x1] (by rfl) ?_
  refine j_if_ne (off := 28) 75 dX12_run_47 (by decide) (fun c1 => ?_) (fun c1 => ?_)
  · exact j_le [some (.ref 159), some (.int l1), some (.int l2), some (.int l3), none, none] (And.intro rfl (And.intro rfl (And.intro rfl (And.intro rfl True.intro)))) (v1 x1 h1 p1 c1)
  · exact j_le [some (.ref 159), some (.int l1), some (.int l2), some (.int l3), none, none] (And.intro rfl (And.intro rfl (And.intro rfl (And.intro rfl True.intro)))) (v2 x1 h1 p1 c1)
set_option maxRecDepth 100000 in
theorem bX12_run_50 {sc : Nat × (Nat → Int32)} {h : jH} {Q : jQ} {l1 l2 l3 : Int32}
    (v1 : ¬ (h 160 122) = 12 → WP mX12_run Q 67 [some (.ref 159), some (.int l1), some (.int l2), some (.int l3), none, none] [.ref 159] (jG0 sc) h (0, 0))
    (v2 : (h 160 122) = 12 → WP mX12_run Q 63 [some (.ref 159), some (.int l1), some (.int l2), some (.int l3), none, none] [.ref 159] (jG0 sc) h (0, 0)) :
    WP mX12_run Q 50 [some (.ref 159), some (.int l1), some (.int l2), some (.int l3), none, none] [] (jG0 sc) h (0, 0) := by
  refine j_aload_n (i := 0) rfl dX12_run_50 ?_
  refine j_aload_n (i := 0) rfl dX12_run_51 ?_
  refine j_getR (idx := 13) (ci := 12) (k := 1) (nest := false) (show (12, 13, 12, 1, false) ∈ jFT by decide) rfl (Nat.le_of_ble_eq_true rfl) rfl (a := 160) rfl dX12_run_52 ?_
  refine j_bipush (n := 122) 122 (by decide) dX12_run_55 ?_
  refine j_iald (Nat.le_of_ble_eq_true rfl) rfl (jinl (n := 1454) (by decide)) dX12_run_57 ?_
  refine j_eqst [.int (h 160 122), .ref 159] (by rfl) ?_
  refine j_bipush (n := 12) 12 (by decide) dX12_run_58 ?_
  refine j_icmp_ne (off := 7) 67 dX12_run_60 (by decide) (fun c1 => ?_) (fun c1 => ?_)
  · exact j_le [some (.ref 159), some (.int l1), some (.int l2), some (.int l3), none, none] (And.intro rfl (And.intro rfl (And.intro rfl (And.intro rfl True.intro)))) (v1 c1)
  · exact j_le [some (.ref 159), some (.int l1), some (.int l2), some (.int l3), none, none] (And.intro rfl (And.intro rfl (And.intro rfl (And.intro rfl True.intro)))) (v2 c1)
set_option maxRecDepth 100000 in
theorem bX12_run_63 {sc : Nat × (Nat → Int32)} {h : jH} {Q : jQ} {l1 l2 l3 : Int32}
    (v1 : WP mX12_run Q 68 [some (.ref 159), some (.int l1), some (.int l2), some (.int l3), none, none] [.int 1, .ref 159] (jG0 sc) h (0, 0)) :
    WP mX12_run Q 63 [some (.ref 159), some (.int l1), some (.int l2), some (.int l3), none, none] [.ref 159] (jG0 sc) h (0, 0) := by
  refine j_iconst (n := 1) 1 (by decide) dX12_run_63 ?_
  refine j_goto (off := 4) 68 dX12_run_64 (by decide) ?_
  exact j_le [some (.ref 159), some (.int l1), some (.int l2), some (.int l3), none, none] (And.intro rfl (And.intro rfl (And.intro rfl (And.intro rfl True.intro)))) v1
set_option maxRecDepth 100000 in
theorem bX12_run_67 {sc : Nat × (Nat → Int32)} {h : jH} {Q : jQ} {l1 l2 l3 : Int32}
    (v1 : WP mX12_run Q 68 [some (.ref 159), some (.int l1), some (.int l2), some (.int l3), none, none] [.int 0, .ref 159] (jG0 sc) h (0, 0)) :
    WP mX12_run Q 67 [some (.ref 159), some (.int l1), some (.int l2), some (.int l3), none, none] [.ref 159] (jG0 sc) h (0, 0) := by
  refine j_iconst (n := 0) 0 (by decide) dX12_run_67 ?_
  exact j_le [some (.ref 159), some (.int l1), some (.int l2), some (.int l3), none, none] (And.intro rfl (And.intro rfl (And.intro rfl (And.intro rfl True.intro)))) v1
set_option maxRecDepth 100000 in
theorem bX12_run_68 {sc : Nat × (Nat → Int32)} {h : jH} {Q : jQ} {l1 l2 l3 s0 : Int32} {P1 : Int32 → jH → Prop}
    (k1 : JM mX12_throwsIf [.ref 159, .int s0, .int 2] (jG0 sc) h (jint sc P1))
    (v1 : ∀ (x1 : Int32) (h1 : jH), P1 x1 h1 → x1 = 0 → WP mX12_run Q 77 [some (.ref 159), some (.int l1), some (.int l2), some (.int l3), none, none] [] (jG0 sc) h1 (0, 0))
    (v2 : ∀ (x1 : Int32) (h1 : jH), P1 x1 h1 → ¬ x1 = 0 → WP mX12_run Q 75 [some (.ref 159), some (.int l1), some (.int l2), some (.int l3), none, none] [] (jG0 sc) h1 (0, 0)) :
    WP mX12_run Q 68 [some (.ref 159), some (.int l1), some (.int l2), some (.int l3), none, none] [.int s0, .ref 159] (jG0 sc) h (0, 0) := by
  refine j_iconst (n := 2) 2 (by decide) dX12_run_68 ?_
  refine j_callV (idx := 157) (As := [.int s0, .int 2]) (ci := 12) (n := 2) k1 jint_nt (jlkT (jtb7 17 rfl) rfl) sX12_throwsIf kX12_throwsIf rfl ⟨rfl, by decide +kernel, by decide +kernel, by decide +kernel⟩ rfl ⟨by decide, by decide⟩ (Nat.le_of_ble_eq_true rfl) rfl (Nat.le_of_ble_eq_true rfl) (Nat.le_of_ble_eq_true rfl) ⟨Nat.zero_le _, Nat.zero_le _⟩ dX12_run_69 (fun r Γ' h1 q => ?_)
  obtain ⟨x1, q0, rfl, p1⟩ := q; cases q0
  refine j_eqst [.int x1] (by rfl) ?_
  refine j_if_eq (off := 5) 77 dX12_run_72 (by decide) (fun c1 => ?_) (fun c1 => ?_)
  · exact j_le [some (.ref 159), some (.int l1), some (.int l2), some (.int l3), none, none] (And.intro rfl (And.intro rfl (And.intro rfl (And.intro rfl True.intro)))) (v1 x1 h1 p1 c1)
  · exact j_le [some (.ref 159), some (.int l1), some (.int l2), some (.int l3), none, none] (And.intro rfl (And.intro rfl (And.intro rfl (And.intro rfl True.intro)))) (v2 x1 h1 p1 c1)
set_option maxRecDepth 100000 in
theorem bX12_run_75 {sc : Nat × (Nat → Int32)} {h : jH} {Q : jQ} {l1 l2 l3 : Int32}
    (v1 : Q (.inl (some (.int 0))) (jG0 sc) h) :
    WP mX12_run Q 75 [some (.ref 159), some (.int l1), some (.int l2), some (.int l3), none, none] [] (jG0 sc) h (0, 0) := by
  refine j_iconst (n := 0) 0 (by decide) dX12_run_75 ?_
  exact j_iret rfl rfl (Nat.zero_le _) (Nat.zero_le _) dX12_run_76 v1
set_option maxRecDepth 100000 in
theorem bX12_run_77 {sc : Nat × (Nat → Int32)} {h : jH} {Q : jQ} {l1 l2 l3 : Int32}
    (o1 : vp_in (123 + (3 * (h 160 122))) 1454)
    (v1 : WP mX12_run Q 112 [some (.ref 159), some (.int l1), some (.int l2), some (.int l3), some (.int (h 160 122)), none] [.int ((123 + (3 * (h 160 122))) + 1), .ref 160] (jG0 sc) (jput h 160 ((123 + (3 * (h 160 122))).toNatClampNeg) l1) (0, 0)) :
    WP mX12_run Q 77 [some (.ref 159), some (.int l1), some (.int l2), some (.int l3), none, none] [] (jG0 sc) h (0, 0) := by
  refine j_aload_n (i := 0) rfl dX12_run_77 ?_
  refine j_getR (idx := 13) (ci := 12) (k := 1) (nest := false) (show (12, 13, 12, 1, false) ∈ jFT by decide) rfl (Nat.le_of_ble_eq_true rfl) rfl (a := 160) rfl dX12_run_78 ?_
  refine j_bipush (n := 122) 122 (by decide) dX12_run_81 ?_
  refine j_iald (Nat.le_of_ble_eq_true rfl) rfl (jinl (n := 1454) (by decide)) dX12_run_83 ?_
  refine j_eqst [.int (h 160 122)] (by rfl) ?_
  refine j_istore (i := 4) dX12_run_84 (Nat.le_of_ble_eq_true rfl) ?_
  refine j_aload_n (i := 0) rfl dX12_run_86 ?_
  refine j_getR (idx := 13) (ci := 12) (k := 1) (nest := false) (show (12, 13, 12, 1, false) ∈ jFT by decide) rfl (Nat.le_of_ble_eq_true rfl) rfl (a := 160) rfl dX12_run_87 ?_
  refine j_bipush (n := 123) 123 (by decide) dX12_run_90 ?_
  refine j_iconst (n := 3) 3 (by decide) dX12_run_92 ?_
  refine j_iload (i := 4) rfl dX12_run_93 ?_
  refine j_imul dX12_run_95 ?_
  refine j_iadd dX12_run_96 ?_
  refine j_iload_n (i := 1) rfl dX12_run_97 ?_
  refine j_iast (Nat.le_of_ble_eq_true rfl) rfl o1 dX12_run_98 ?_
  refine j_aload_n (i := 0) rfl dX12_run_99 ?_
  refine j_getR (idx := 13) (ci := 12) (k := 1) (nest := false) (show (12, 13, 12, 1, false) ∈ jFT by decide) rfl (Nat.le_of_ble_eq_true rfl) rfl (a := 160) rfl dX12_run_100 ?_
  refine j_bipush (n := 123) 123 (by decide) dX12_run_103 ?_
  refine j_iconst (n := 3) 3 (by decide) dX12_run_105 ?_
  refine j_iload (i := 4) rfl dX12_run_106 ?_
  refine j_imul dX12_run_108 ?_
  refine j_iadd dX12_run_109 ?_
  refine j_iconst (n := 1) 1 (by decide) dX12_run_110 ?_
  refine j_iadd dX12_run_111 ?_
  exact j_le [some (.ref 159), some (.int l1), some (.int l2), some (.int l3), some (.int (h 160 122)), none] (And.intro rfl (And.intro rfl (And.intro rfl (And.intro rfl (And.intro rfl True.intro))))) v1
set_option maxRecDepth 100000 in
theorem bX12_run_112 {sc : Nat × (Nat → Int32)} {h : jH} {Q : jQ} {l1 l2 l3 l4 s0 : Int32}
    (o1 : vp_in s0 1454)
    (o2 : vp_in ((123 + (3 * l4)) + 2) 1454)
    (v1 : WP mX12_run Q 141 [some (.ref 159), some (.int l1), some (.int l2), some (.int l3), some (.int l4), none] [.ref 159] (jG0 sc) (jput (jput (jput h 160 s0.toNatClampNeg l2) 160 (((123 + (3 * l4)) + 2).toNatClampNeg) l3) 160 122 (((jput (jput h 160 s0.toNatClampNeg l2) 160 (((123 + (3 * l4)) + 2).toNatClampNeg) l3) 160 122) + 1)) (0, 0)) :
    WP mX12_run Q 112 [some (.ref 159), some (.int l1), some (.int l2), some (.int l3), some (.int l4), none] [.int s0, .ref 160] (jG0 sc) h (0, 0) := by
  refine j_iload_n (i := 2) rfl dX12_run_112 ?_
  refine j_iast (Nat.le_of_ble_eq_true rfl) rfl o1 dX12_run_113 ?_
  refine j_aload_n (i := 0) rfl dX12_run_114 ?_
  refine j_getR (idx := 13) (ci := 12) (k := 1) (nest := false) (show (12, 13, 12, 1, false) ∈ jFT by decide) rfl (Nat.le_of_ble_eq_true rfl) rfl (a := 160) rfl dX12_run_115 ?_
  refine j_bipush (n := 123) 123 (by decide) dX12_run_118 ?_
  refine j_iconst (n := 3) 3 (by decide) dX12_run_120 ?_
  refine j_iload (i := 4) rfl dX12_run_121 ?_
  refine j_imul dX12_run_123 ?_
  refine j_iadd dX12_run_124 ?_
  refine j_iconst (n := 2) 2 (by decide) dX12_run_125 ?_
  refine j_iadd dX12_run_126 ?_
  refine j_iload_n (i := 3) rfl dX12_run_127 ?_
  refine j_iast (Nat.le_of_ble_eq_true rfl) rfl o2 dX12_run_128 ?_
  refine j_aload_n (i := 0) rfl dX12_run_129 ?_
  refine j_getR (idx := 13) (ci := 12) (k := 1) (nest := false) (show (12, 13, 12, 1, false) ∈ jFT by decide) rfl (Nat.le_of_ble_eq_true rfl) rfl (a := 160) rfl dX12_run_130 ?_
  refine j_bipush (n := 122) 122 (by decide) dX12_run_133 ?_
  refine j_dup2 rfl rfl dX12_run_135 ?_
  refine j_iald (Nat.le_of_ble_eq_true rfl) rfl (jinl (n := 1454) (by decide)) dX12_run_136 ?_
  refine j_eqst [.int ((jput (jput h 160 s0.toNatClampNeg l2) 160 (((123 + (3 * l4)) + 2).toNatClampNeg) l3) 160 122), .int 122, .ref 160] (by rfl) ?_
  refine j_iconst (n := 1) 1 (by decide) dX12_run_137 ?_
  refine j_iadd dX12_run_138 ?_
  refine j_iast (Nat.le_of_ble_eq_true rfl) rfl (jinl (n := 1454) (by decide)) dX12_run_139 ?_
  refine j_aload_n (i := 0) rfl dX12_run_140 ?_
  exact j_le [some (.ref 159), some (.int l1), some (.int l2), some (.int l3), some (.int l4), none] (And.intro rfl (And.intro rfl (And.intro rfl (And.intro rfl (And.intro rfl True.intro))))) v1
set_option maxRecDepth 100000 in
theorem bX12_run_141 {sc : Nat × (Nat → Int32)} {h : jH} {Q : jQ} {l1 l2 l3 l4 : Int32} {P1 : jH → Prop}
    (k1 : JM mX12_listsBody [.ref 159] (jG0 sc) h (jvoid sc P1))
    (v1 : ∀ h1 : jH, P1 h1 → WP mX12_run Q 156 [some (.ref 159), some (.int l1), some (.int l2), some (.int l3), some (.int l4), some (.int ((h1 160 163) - 1))] [] (jG0 sc) h1 (0, 0)) :
    WP mX12_run Q 141 [some (.ref 159), some (.int l1), some (.int l2), some (.int l3), some (.int l4), none] [.ref 159] (jG0 sc) h (0, 0) := by
  refine j_callV (idx := 319) (As := []) (ci := 12) (n := 0) k1 jvoid_nt (jlkT (jtb7 160 rfl) rfl) sX12_listsBody kX12_listsBody rfl ⟨rfl, by decide +kernel, by decide +kernel, by decide +kernel⟩ rfl ⟨by decide, by decide⟩ (Nat.le_of_ble_eq_true rfl) rfl (Nat.le_of_ble_eq_true rfl) (Nat.le_of_ble_eq_true rfl) ⟨Nat.zero_le _, Nat.zero_le _⟩ dX12_run_141 (fun r Γ' h1 q => ?_)
  obtain ⟨q0, rfl, p1⟩ := q; cases q0
  refine j_eqst [] (by rfl) ?_
  refine j_aload_n (i := 0) rfl dX12_run_144 ?_
  refine j_getR (idx := 13) (ci := 12) (k := 1) (nest := false) (show (12, 13, 12, 1, false) ∈ jFT by decide) rfl (Nat.le_of_ble_eq_true rfl) rfl (a := 160) rfl dX12_run_145 ?_
  refine j_sipush (n := 163) 163 (by decide) dX12_run_148 ?_
  refine j_iald (Nat.le_of_ble_eq_true rfl) rfl (jinl (n := 1454) (by decide)) dX12_run_151 ?_
  refine j_eqst [.int (h1 160 163)] (by rfl) ?_
  refine j_iconst (n := 1) 1 (by decide) dX12_run_152 ?_
  refine j_isub dX12_run_153 ?_
  refine j_istore (i := 5) dX12_run_154 (Nat.le_of_ble_eq_true rfl) ?_
  exact j_le [some (.ref 159), some (.int l1), some (.int l2), some (.int l3), some (.int l4), some (.int ((h1 160 163) - 1))] (And.intro rfl (And.intro rfl (And.intro rfl (And.intro rfl (And.intro rfl (And.intro rfl True.intro)))))) (v1 h1 p1)
set_option maxRecDepth 100000 in
theorem bX12_run_156 {sc : Nat × (Nat → Int32)} {h : jH} {Q : jQ} {l1 l2 l3 l4 l5 : Int32}
    (v1 : l5 < 0 → WP mX12_run Q 203 [some (.ref 159), some (.int l1), some (.int l2), some (.int l3), some (.int l4), some (.int l5)] [] (jG0 sc) h (0, 0))
    (v2 : ¬ l5 < 0 → WP mX12_run Q 161 [some (.ref 159), some (.int l1), some (.int l2), some (.int l3), some (.int l4), some (.int l5)] [] (jG0 sc) h (0, 0)) :
    WP mX12_run Q 156 [some (.ref 159), some (.int l1), some (.int l2), some (.int l3), some (.int l4), some (.int l5)] [] (jG0 sc) h (0, 0) := by
  refine j_iload (i := 5) rfl dX12_run_156 ?_
  refine j_if_lt (off := 45) 203 dX12_run_158 (by decide) (fun c1 => ?_) (fun c1 => ?_)
  · exact j_le [some (.ref 159), some (.int l1), some (.int l2), some (.int l3), some (.int l4), some (.int l5)] (And.intro rfl (And.intro rfl (And.intro rfl (And.intro rfl (And.intro rfl (And.intro rfl True.intro)))))) (v1 c1)
  · exact j_le [some (.ref 159), some (.int l1), some (.int l2), some (.int l3), some (.int l4), some (.int l5)] (And.intro rfl (And.intro rfl (And.intro rfl (And.intro rfl (And.intro rfl (And.intro rfl True.intro)))))) (v2 c1)
set_option maxRecDepth 100000 in
theorem bX12_run_161 {sc : Nat × (Nat → Int32)} {h : jH} {Q : jQ} {l1 l2 l3 l4 l5 : Int32} {P1 : jH → Prop} {P2 : Int32 → jH → Prop}
    (k1 : JM mX12_laysAlive [.ref 159, .int l5] (jG0 sc) h (jvoid sc P1))
    (k2 : ∀ h1 : jH, P1 h1 → JM mX12_isRight [.ref 159, .int l4] (jG0 sc) h1 (jint sc P2))
    (v1 : ∀ h1 : jH, P1 h1 → ∀ (x2 : Int32) (h2 : jH), P2 x2 h2 → x2 = 0 → WP mX12_run Q 179 [some (.ref 159), some (.int l1), some (.int l2), some (.int l3), some (.int l4), some (.int l5)] [] (jG0 sc) h2 (0, 0))
    (v2 : ∀ h1 : jH, P1 h1 → ∀ (x2 : Int32) (h2 : jH), P2 x2 h2 → ¬ x2 = 0 → WP mX12_run Q 176 [some (.ref 159), some (.int l1), some (.int l2), some (.int l3), some (.int l4), some (.int l5)] [] (jG0 sc) h2 (0, 0)) :
    WP mX12_run Q 161 [some (.ref 159), some (.int l1), some (.int l2), some (.int l3), some (.int l4), some (.int l5)] [] (jG0 sc) h (0, 0) := by
  refine j_aload_n (i := 0) rfl dX12_run_161 ?_
  refine j_iload (i := 5) rfl dX12_run_162 ?_
  refine j_callV (idx := 347) (As := [.int l5]) (ci := 12) (n := 1) k1 jvoid_nt (jlkT (jtb7 235 rfl) rfl) sX12_laysAlive kX12_laysAlive rfl ⟨rfl, by decide +kernel, by decide +kernel, by decide +kernel⟩ rfl ⟨by decide, by decide⟩ (Nat.le_of_ble_eq_true rfl) rfl (Nat.le_of_ble_eq_true rfl) (Nat.le_of_ble_eq_true rfl) ⟨Nat.zero_le _, Nat.zero_le _⟩ dX12_run_164 (fun r Γ' h1 q => ?_)
  obtain ⟨q0, rfl, p1⟩ := q; cases q0
  refine j_eqst [] (by rfl) ?_
  refine j_aload_n (i := 0) rfl dX12_run_167 ?_
  refine j_iload (i := 4) rfl dX12_run_168 ?_
  refine j_callV (idx := 268) (As := [.int l4]) (ci := 12) (n := 1) (k2 h1 p1) jint_nt (jlkT (jtb7 128 rfl) rfl) sX12_isRight kX12_isRight rfl ⟨rfl, by decide +kernel, by decide +kernel, by decide +kernel⟩ rfl ⟨by decide, by decide⟩ (Nat.le_of_ble_eq_true rfl) rfl (Nat.le_of_ble_eq_true rfl) (Nat.le_of_ble_eq_true rfl) ⟨Nat.zero_le _, Nat.zero_le _⟩ dX12_run_170 (fun r Γ' h2 q => ?_)
  obtain ⟨x2, q0, rfl, p2⟩ := q; cases q0
  refine j_eqst [.int x2] (by rfl) ?_
  refine j_if_eq (off := 6) 179 dX12_run_173 (by decide) (fun c1 => ?_) (fun c1 => ?_)
  · exact j_le [some (.ref 159), some (.int l1), some (.int l2), some (.int l3), some (.int l4), some (.int l5)] (And.intro rfl (And.intro rfl (And.intro rfl (And.intro rfl (And.intro rfl (And.intro rfl True.intro)))))) (v1 h1 p1 x2 h2 p2 c1)
  · exact j_le [some (.ref 159), some (.int l1), some (.int l2), some (.int l3), some (.int l4), some (.int l5)] (And.intro rfl (And.intro rfl (And.intro rfl (And.intro rfl (And.intro rfl (And.intro rfl True.intro)))))) (v2 h1 p1 x2 h2 p2 c1)
set_option maxRecDepth 100000 in
theorem bX12_run_176 {sc : Nat × (Nat → Int32)} {h : jH} {Q : jQ} {l1 l2 l3 l4 l5 : Int32}
    (v1 : WP mX12_run Q 197 [some (.ref 159), some (.int l1), some (.int l2), some (.int l3), some (.int l4), some (.int l5)] [] (jG0 sc) h (0, 0)) :
    WP mX12_run Q 176 [some (.ref 159), some (.int l1), some (.int l2), some (.int l3), some (.int l4), some (.int l5)] [] (jG0 sc) h (0, 0) := by
  refine j_goto (off := 21) 197 dX12_run_176 (by decide) ?_
  exact j_le [some (.ref 159), some (.int l1), some (.int l2), some (.int l3), some (.int l4), some (.int l5)] (And.intro rfl (And.intro rfl (And.intro rfl (And.intro rfl (And.intro rfl (And.intro rfl True.intro)))))) v1
set_option maxRecDepth 100000 in
theorem bX12_run_179 {sc : Nat × (Nat → Int32)} {h : jH} {Q : jQ} {l1 l2 l3 l4 l5 : Int32} {P1 : jH → Prop}
    (k1 : JM mX12_putsOut [.ref 159, .int l5] (jG0 sc) h (jvoid sc P1))
    (v1 : ∀ h1 : jH, P1 h1 → WP mX12_run Q 197 [some (.ref 159), some (.int l1), some (.int l2), some (.int l3), some (.int l4), some (.int l5)] [] (jG0 sc) (jput h1 160 161 ((h1 160 161) + 1)) (0, 0)) :
    WP mX12_run Q 179 [some (.ref 159), some (.int l1), some (.int l2), some (.int l3), some (.int l4), some (.int l5)] [] (jG0 sc) h (0, 0) := by
  refine j_aload_n (i := 0) rfl dX12_run_179 ?_
  refine j_iload (i := 5) rfl dX12_run_180 ?_
  refine j_callV (idx := 350) (As := [.int l5]) (ci := 12) (n := 1) k1 jvoid_nt (jlkT (jtb7 239 rfl) rfl) sX12_putsOut kX12_putsOut rfl ⟨rfl, by decide +kernel, by decide +kernel, by decide +kernel⟩ rfl ⟨by decide, by decide⟩ (Nat.le_of_ble_eq_true rfl) rfl (Nat.le_of_ble_eq_true rfl) (Nat.le_of_ble_eq_true rfl) ⟨Nat.zero_le _, Nat.zero_le _⟩ dX12_run_182 (fun r Γ' h1 q => ?_)
  obtain ⟨q0, rfl, p1⟩ := q; cases q0
  refine j_eqst [] (by rfl) ?_
  refine j_aload_n (i := 0) rfl dX12_run_185 ?_
  refine j_getR (idx := 13) (ci := 12) (k := 1) (nest := false) (show (12, 13, 12, 1, false) ∈ jFT by decide) rfl (Nat.le_of_ble_eq_true rfl) rfl (a := 160) rfl dX12_run_186 ?_
  refine j_sipush (n := 161) 161 (by decide) dX12_run_189 ?_
  refine j_dup2 rfl rfl dX12_run_192 ?_
  refine j_iald (Nat.le_of_ble_eq_true rfl) rfl (jinl (n := 1454) (by decide)) dX12_run_193 ?_
  refine j_eqst [.int (h1 160 161), .int 161, .ref 160] (by rfl) ?_
  refine j_iconst (n := 1) 1 (by decide) dX12_run_194 ?_
  refine j_iadd dX12_run_195 ?_
  refine j_iast (Nat.le_of_ble_eq_true rfl) rfl (jinl (n := 1454) (by decide)) dX12_run_196 ?_
  exact j_le [some (.ref 159), some (.int l1), some (.int l2), some (.int l3), some (.int l4), some (.int l5)] (And.intro rfl (And.intro rfl (And.intro rfl (And.intro rfl (And.intro rfl (And.intro rfl True.intro)))))) (v1 h1 p1)
set_option maxRecDepth 100000 in
theorem bX12_run_197 {sc : Nat × (Nat → Int32)} {h : jH} {Q : jQ} {l1 l2 l3 l4 l5 : Int32}
    (v1 : WP mX12_run Q 156 [some (.ref 159), some (.int l1), some (.int l2), some (.int l3), some (.int l4), some (.int (l5 + (-1)))] [] (jG0 sc) h (0, 0)) :
    WP mX12_run Q 197 [some (.ref 159), some (.int l1), some (.int l2), some (.int l3), some (.int l4), some (.int l5)] [] (jG0 sc) h (0, 0) := by
  refine j_iinc (i := 5) (n := -1) rfl dX12_run_197 (Nat.le_of_ble_eq_true rfl) ?_
  refine j_eqlv [some (.ref 159), some (.int l1), some (.int l2), some (.int l3), some (.int l4), some (.int (l5 + (-1)))] rfl ?_
  refine j_goto (off := -44) 156 dX12_run_200 (by decide) ?_
  exact j_le [some (.ref 159), some (.int l1), some (.int l2), some (.int l3), some (.int l4), some (.int (l5 + (-1)))] (And.intro rfl (And.intro rfl (And.intro rfl (And.intro rfl (And.intro rfl (And.intro rfl True.intro)))))) v1
set_option maxRecDepth 100000 in
theorem bX12_run_203 {sc : Nat × (Nat → Int32)} {h : jH} {Q : jQ} {l1 l2 l3 l4 l5 : Int32}
    (v1 : Q (.inl (some (.int l4))) (jG0 sc) h) :
    WP mX12_run Q 203 [some (.ref 159), some (.int l1), some (.int l2), some (.int l3), some (.int l4), some (.int l5)] [] (jG0 sc) h (0, 0) := by
  refine j_iload (i := 4) rfl dX12_run_203 ?_
  exact j_iret rfl rfl (Nat.zero_le _) (Nat.zero_le _) dX12_run_205 v1
set_option maxRecDepth 100000 in
theorem rX12_run_0 {sc : Nat × (Nat → Int32)} {h : jH} {Q : jQ} {l1 l2 l3 : Int32} {P1 : Int32 → jH → Prop} {P2 : Int32 → jH → Prop} {P3 : Int32 → jH → Prop} {P4 : jH → Prop} {P5 : Int32 → jH → Prop} {P6 : jH → Prop} {P7 : Int32 → jH → Prop} {P8 : Int32 → jH → Prop} {P9 : Int32 → jH → Prop} {P10 : jH → Prop} {P11 : Int32 → jH → Prop} {P12 : jH → Prop} {P13 : Int32 → jH → Prop} {P14 : Int32 → jH → Prop} {P15 : Int32 → jH → Prop} {P16 : jH → Prop} {P17 : Int32 → jH → Prop} {P18 : jH → Prop} {P19 : Int32 → jH → Prop} {P20 : Int32 → jH → Prop} {P21 : jH → Prop} {P22 : Int32 → jH → Prop} {P23 : jH → Prop}
    (k1 : JM mX12_in [.int l1, .int 0, .int 15] (jG0 sc) (jput h 159 0 0) (jint sc P1))
    (k2 : ∀ (x1 : Int32) (h1 : jH), P1 x1 h1 → x1 = 0 → JM mX12_throwsIf [.ref 159, .int 1, .int 1] (jG0 sc) h1 (jint sc P2))
    (v1 : ∀ (x1 : Int32) (h1 : jH), P1 x1 h1 → x1 = 0 → ∀ (x2 : Int32) (h2 : jH), P2 x2 h2 → ¬ x2 = 0 → Q (.inl (some (.int 0))) (jG0 sc) h2)
    (k3 : ∀ (x1 : Int32) (h1 : jH), P1 x1 h1 → x1 = 0 → ∀ (x2 : Int32) (h2 : jH), P2 x2 h2 → x2 = 0 → ¬ (h2 160 122) = 12 → JM mX12_throwsIf [.ref 159, .int 0, .int 2] (jG0 sc) h2 (jint sc P3))
    (o1 : ∀ (x1 : Int32) (h1 : jH), P1 x1 h1 → x1 = 0 → ∀ (x2 : Int32) (h2 : jH), P2 x2 h2 → x2 = 0 → ¬ (h2 160 122) = 12 → ∀ (x3 : Int32) (h3 : jH), P3 x3 h3 → x3 = 0 → vp_in (123 + (3 * (h3 160 122))) 1454)
    (o2 : ∀ (x1 : Int32) (h1 : jH), P1 x1 h1 → x1 = 0 → ∀ (x2 : Int32) (h2 : jH), P2 x2 h2 → x2 = 0 → ¬ (h2 160 122) = 12 → ∀ (x3 : Int32) (h3 : jH), P3 x3 h3 → x3 = 0 → vp_in ((123 + (3 * (h3 160 122))) + 1) 1454)
    (o3 : ∀ (x1 : Int32) (h1 : jH), P1 x1 h1 → x1 = 0 → ∀ (x2 : Int32) (h2 : jH), P2 x2 h2 → x2 = 0 → ¬ (h2 160 122) = 12 → ∀ (x3 : Int32) (h3 : jH), P3 x3 h3 → x3 = 0 → vp_in ((123 + (3 * (h3 160 122))) + 2) 1454)
    (k4 : ∀ (x1 : Int32) (h1 : jH), P1 x1 h1 → x1 = 0 → ∀ (x2 : Int32) (h2 : jH), P2 x2 h2 → x2 = 0 → ¬ (h2 160 122) = 12 → ∀ (x3 : Int32) (h3 : jH), P3 x3 h3 → x3 = 0 → JM mX12_listsBody [.ref 159] (jG0 sc) (jput (jput (jput (jput h3 160 ((123 + (3 * (h3 160 122))).toNatClampNeg) l1) 160 (((123 + (3 * (h3 160 122))) + 1).toNatClampNeg) l2) 160 (((123 + (3 * (h3 160 122))) + 2).toNatClampNeg) l3) 160 122 (((jput (jput (jput h3 160 ((123 + (3 * (h3 160 122))).toNatClampNeg) l1) 160 (((123 + (3 * (h3 160 122))) + 1).toNatClampNeg) l2) 160 (((123 + (3 * (h3 160 122))) + 2).toNatClampNeg) l3) 160 122) + 1)) (jvoid sc P4))
    (v2 : ∀ (x1 : Int32) (h1 : jH), P1 x1 h1 → x1 = 0 → ∀ (x2 : Int32) (h2 : jH), P2 x2 h2 → x2 = 0 → ¬ (h2 160 122) = 12 → ∀ (x3 : Int32) (h3 : jH), P3 x3 h3 → x3 = 0 → ∀ h4 : jH, P4 h4 → WP mX12_run Q 156 [some (.ref 159), some (.int l1), some (.int l2), some (.int l3), some (.int (h3 160 122)), some (.int ((h4 160 163) - 1))] [] (jG0 sc) h4 (0, 0))
    (v3 : ∀ (x1 : Int32) (h1 : jH), P1 x1 h1 → x1 = 0 → ∀ (x2 : Int32) (h2 : jH), P2 x2 h2 → x2 = 0 → ¬ (h2 160 122) = 12 → ∀ (x3 : Int32) (h3 : jH), P3 x3 h3 → ¬ x3 = 0 → Q (.inl (some (.int 0))) (jG0 sc) h3)
    (k5 : ∀ (x1 : Int32) (h1 : jH), P1 x1 h1 → x1 = 0 → ∀ (x2 : Int32) (h2 : jH), P2 x2 h2 → x2 = 0 → (h2 160 122) = 12 → JM mX12_throwsIf [.ref 159, .int 1, .int 2] (jG0 sc) h2 (jint sc P5))
    (o4 : ∀ (x1 : Int32) (h1 : jH), P1 x1 h1 → x1 = 0 → ∀ (x2 : Int32) (h2 : jH), P2 x2 h2 → x2 = 0 → (h2 160 122) = 12 → ∀ (x5 : Int32) (h5 : jH), P5 x5 h5 → x5 = 0 → vp_in (123 + (3 * (h5 160 122))) 1454)
    (o5 : ∀ (x1 : Int32) (h1 : jH), P1 x1 h1 → x1 = 0 → ∀ (x2 : Int32) (h2 : jH), P2 x2 h2 → x2 = 0 → (h2 160 122) = 12 → ∀ (x5 : Int32) (h5 : jH), P5 x5 h5 → x5 = 0 → vp_in ((123 + (3 * (h5 160 122))) + 1) 1454)
    (o6 : ∀ (x1 : Int32) (h1 : jH), P1 x1 h1 → x1 = 0 → ∀ (x2 : Int32) (h2 : jH), P2 x2 h2 → x2 = 0 → (h2 160 122) = 12 → ∀ (x5 : Int32) (h5 : jH), P5 x5 h5 → x5 = 0 → vp_in ((123 + (3 * (h5 160 122))) + 2) 1454)
    (k6 : ∀ (x1 : Int32) (h1 : jH), P1 x1 h1 → x1 = 0 → ∀ (x2 : Int32) (h2 : jH), P2 x2 h2 → x2 = 0 → (h2 160 122) = 12 → ∀ (x5 : Int32) (h5 : jH), P5 x5 h5 → x5 = 0 → JM mX12_listsBody [.ref 159] (jG0 sc) (jput (jput (jput (jput h5 160 ((123 + (3 * (h5 160 122))).toNatClampNeg) l1) 160 (((123 + (3 * (h5 160 122))) + 1).toNatClampNeg) l2) 160 (((123 + (3 * (h5 160 122))) + 2).toNatClampNeg) l3) 160 122 (((jput (jput (jput h5 160 ((123 + (3 * (h5 160 122))).toNatClampNeg) l1) 160 (((123 + (3 * (h5 160 122))) + 1).toNatClampNeg) l2) 160 (((123 + (3 * (h5 160 122))) + 2).toNatClampNeg) l3) 160 122) + 1)) (jvoid sc P6))
    (v4 : ∀ (x1 : Int32) (h1 : jH), P1 x1 h1 → x1 = 0 → ∀ (x2 : Int32) (h2 : jH), P2 x2 h2 → x2 = 0 → (h2 160 122) = 12 → ∀ (x5 : Int32) (h5 : jH), P5 x5 h5 → x5 = 0 → ∀ h6 : jH, P6 h6 → WP mX12_run Q 156 [some (.ref 159), some (.int l1), some (.int l2), some (.int l3), some (.int (h5 160 122)), some (.int ((h6 160 163) - 1))] [] (jG0 sc) h6 (0, 0))
    (v5 : ∀ (x1 : Int32) (h1 : jH), P1 x1 h1 → x1 = 0 → ∀ (x2 : Int32) (h2 : jH), P2 x2 h2 → x2 = 0 → (h2 160 122) = 12 → ∀ (x5 : Int32) (h5 : jH), P5 x5 h5 → ¬ x5 = 0 → Q (.inl (some (.int 0))) (jG0 sc) h5)
    (k7 : ∀ (x1 : Int32) (h1 : jH), P1 x1 h1 → ¬ x1 = 0 → JM mX12_in [.int l2, .int 0, .int 15] (jG0 sc) h1 (jint sc P7))
    (k8 : ∀ (x1 : Int32) (h1 : jH), P1 x1 h1 → ¬ x1 = 0 → ∀ (x7 : Int32) (h7 : jH), P7 x7 h7 → x7 = 0 → JM mX12_throwsIf [.ref 159, .int 1, .int 1] (jG0 sc) h7 (jint sc P8))
    (v6 : ∀ (x1 : Int32) (h1 : jH), P1 x1 h1 → ¬ x1 = 0 → ∀ (x7 : Int32) (h7 : jH), P7 x7 h7 → x7 = 0 → ∀ (x8 : Int32) (h8 : jH), P8 x8 h8 → ¬ x8 = 0 → Q (.inl (some (.int 0))) (jG0 sc) h8)
    (k9 : ∀ (x1 : Int32) (h1 : jH), P1 x1 h1 → ¬ x1 = 0 → ∀ (x7 : Int32) (h7 : jH), P7 x7 h7 → x7 = 0 → ∀ (x8 : Int32) (h8 : jH), P8 x8 h8 → x8 = 0 → ¬ (h8 160 122) = 12 → JM mX12_throwsIf [.ref 159, .int 0, .int 2] (jG0 sc) h8 (jint sc P9))
    (o7 : ∀ (x1 : Int32) (h1 : jH), P1 x1 h1 → ¬ x1 = 0 → ∀ (x7 : Int32) (h7 : jH), P7 x7 h7 → x7 = 0 → ∀ (x8 : Int32) (h8 : jH), P8 x8 h8 → x8 = 0 → ¬ (h8 160 122) = 12 → ∀ (x9 : Int32) (h9 : jH), P9 x9 h9 → x9 = 0 → vp_in (123 + (3 * (h9 160 122))) 1454)
    (o8 : ∀ (x1 : Int32) (h1 : jH), P1 x1 h1 → ¬ x1 = 0 → ∀ (x7 : Int32) (h7 : jH), P7 x7 h7 → x7 = 0 → ∀ (x8 : Int32) (h8 : jH), P8 x8 h8 → x8 = 0 → ¬ (h8 160 122) = 12 → ∀ (x9 : Int32) (h9 : jH), P9 x9 h9 → x9 = 0 → vp_in ((123 + (3 * (h9 160 122))) + 1) 1454)
    (o9 : ∀ (x1 : Int32) (h1 : jH), P1 x1 h1 → ¬ x1 = 0 → ∀ (x7 : Int32) (h7 : jH), P7 x7 h7 → x7 = 0 → ∀ (x8 : Int32) (h8 : jH), P8 x8 h8 → x8 = 0 → ¬ (h8 160 122) = 12 → ∀ (x9 : Int32) (h9 : jH), P9 x9 h9 → x9 = 0 → vp_in ((123 + (3 * (h9 160 122))) + 2) 1454)
    (k10 : ∀ (x1 : Int32) (h1 : jH), P1 x1 h1 → ¬ x1 = 0 → ∀ (x7 : Int32) (h7 : jH), P7 x7 h7 → x7 = 0 → ∀ (x8 : Int32) (h8 : jH), P8 x8 h8 → x8 = 0 → ¬ (h8 160 122) = 12 → ∀ (x9 : Int32) (h9 : jH), P9 x9 h9 → x9 = 0 → JM mX12_listsBody [.ref 159] (jG0 sc) (jput (jput (jput (jput h9 160 ((123 + (3 * (h9 160 122))).toNatClampNeg) l1) 160 (((123 + (3 * (h9 160 122))) + 1).toNatClampNeg) l2) 160 (((123 + (3 * (h9 160 122))) + 2).toNatClampNeg) l3) 160 122 (((jput (jput (jput h9 160 ((123 + (3 * (h9 160 122))).toNatClampNeg) l1) 160 (((123 + (3 * (h9 160 122))) + 1).toNatClampNeg) l2) 160 (((123 + (3 * (h9 160 122))) + 2).toNatClampNeg) l3) 160 122) + 1)) (jvoid sc P10))
    (v7 : ∀ (x1 : Int32) (h1 : jH), P1 x1 h1 → ¬ x1 = 0 → ∀ (x7 : Int32) (h7 : jH), P7 x7 h7 → x7 = 0 → ∀ (x8 : Int32) (h8 : jH), P8 x8 h8 → x8 = 0 → ¬ (h8 160 122) = 12 → ∀ (x9 : Int32) (h9 : jH), P9 x9 h9 → x9 = 0 → ∀ h10 : jH, P10 h10 → WP mX12_run Q 156 [some (.ref 159), some (.int l1), some (.int l2), some (.int l3), some (.int (h9 160 122)), some (.int ((h10 160 163) - 1))] [] (jG0 sc) h10 (0, 0))
    (v8 : ∀ (x1 : Int32) (h1 : jH), P1 x1 h1 → ¬ x1 = 0 → ∀ (x7 : Int32) (h7 : jH), P7 x7 h7 → x7 = 0 → ∀ (x8 : Int32) (h8 : jH), P8 x8 h8 → x8 = 0 → ¬ (h8 160 122) = 12 → ∀ (x9 : Int32) (h9 : jH), P9 x9 h9 → ¬ x9 = 0 → Q (.inl (some (.int 0))) (jG0 sc) h9)
    (k11 : ∀ (x1 : Int32) (h1 : jH), P1 x1 h1 → ¬ x1 = 0 → ∀ (x7 : Int32) (h7 : jH), P7 x7 h7 → x7 = 0 → ∀ (x8 : Int32) (h8 : jH), P8 x8 h8 → x8 = 0 → (h8 160 122) = 12 → JM mX12_throwsIf [.ref 159, .int 1, .int 2] (jG0 sc) h8 (jint sc P11))
    (o10 : ∀ (x1 : Int32) (h1 : jH), P1 x1 h1 → ¬ x1 = 0 → ∀ (x7 : Int32) (h7 : jH), P7 x7 h7 → x7 = 0 → ∀ (x8 : Int32) (h8 : jH), P8 x8 h8 → x8 = 0 → (h8 160 122) = 12 → ∀ (x11 : Int32) (h11 : jH), P11 x11 h11 → x11 = 0 → vp_in (123 + (3 * (h11 160 122))) 1454)
    (o11 : ∀ (x1 : Int32) (h1 : jH), P1 x1 h1 → ¬ x1 = 0 → ∀ (x7 : Int32) (h7 : jH), P7 x7 h7 → x7 = 0 → ∀ (x8 : Int32) (h8 : jH), P8 x8 h8 → x8 = 0 → (h8 160 122) = 12 → ∀ (x11 : Int32) (h11 : jH), P11 x11 h11 → x11 = 0 → vp_in ((123 + (3 * (h11 160 122))) + 1) 1454)
    (o12 : ∀ (x1 : Int32) (h1 : jH), P1 x1 h1 → ¬ x1 = 0 → ∀ (x7 : Int32) (h7 : jH), P7 x7 h7 → x7 = 0 → ∀ (x8 : Int32) (h8 : jH), P8 x8 h8 → x8 = 0 → (h8 160 122) = 12 → ∀ (x11 : Int32) (h11 : jH), P11 x11 h11 → x11 = 0 → vp_in ((123 + (3 * (h11 160 122))) + 2) 1454)
    (k12 : ∀ (x1 : Int32) (h1 : jH), P1 x1 h1 → ¬ x1 = 0 → ∀ (x7 : Int32) (h7 : jH), P7 x7 h7 → x7 = 0 → ∀ (x8 : Int32) (h8 : jH), P8 x8 h8 → x8 = 0 → (h8 160 122) = 12 → ∀ (x11 : Int32) (h11 : jH), P11 x11 h11 → x11 = 0 → JM mX12_listsBody [.ref 159] (jG0 sc) (jput (jput (jput (jput h11 160 ((123 + (3 * (h11 160 122))).toNatClampNeg) l1) 160 (((123 + (3 * (h11 160 122))) + 1).toNatClampNeg) l2) 160 (((123 + (3 * (h11 160 122))) + 2).toNatClampNeg) l3) 160 122 (((jput (jput (jput h11 160 ((123 + (3 * (h11 160 122))).toNatClampNeg) l1) 160 (((123 + (3 * (h11 160 122))) + 1).toNatClampNeg) l2) 160 (((123 + (3 * (h11 160 122))) + 2).toNatClampNeg) l3) 160 122) + 1)) (jvoid sc P12))
    (v9 : ∀ (x1 : Int32) (h1 : jH), P1 x1 h1 → ¬ x1 = 0 → ∀ (x7 : Int32) (h7 : jH), P7 x7 h7 → x7 = 0 → ∀ (x8 : Int32) (h8 : jH), P8 x8 h8 → x8 = 0 → (h8 160 122) = 12 → ∀ (x11 : Int32) (h11 : jH), P11 x11 h11 → x11 = 0 → ∀ h12 : jH, P12 h12 → WP mX12_run Q 156 [some (.ref 159), some (.int l1), some (.int l2), some (.int l3), some (.int (h11 160 122)), some (.int ((h12 160 163) - 1))] [] (jG0 sc) h12 (0, 0))
    (v10 : ∀ (x1 : Int32) (h1 : jH), P1 x1 h1 → ¬ x1 = 0 → ∀ (x7 : Int32) (h7 : jH), P7 x7 h7 → x7 = 0 → ∀ (x8 : Int32) (h8 : jH), P8 x8 h8 → x8 = 0 → (h8 160 122) = 12 → ∀ (x11 : Int32) (h11 : jH), P11 x11 h11 → ¬ x11 = 0 → Q (.inl (some (.int 0))) (jG0 sc) h11)
    (k13 : ∀ (x1 : Int32) (h1 : jH), P1 x1 h1 → ¬ x1 = 0 → ∀ (x7 : Int32) (h7 : jH), P7 x7 h7 → ¬ x7 = 0 → JM mX12_in [.int l3, .int (-999999), .int 999999] (jG0 sc) h7 (jint sc P13))
    (k14 : ∀ (x1 : Int32) (h1 : jH), P1 x1 h1 → ¬ x1 = 0 → ∀ (x7 : Int32) (h7 : jH), P7 x7 h7 → ¬ x7 = 0 → ∀ (x13 : Int32) (h13 : jH), P13 x13 h13 → ¬ x13 = 0 → JM mX12_throwsIf [.ref 159, .int 0, .int 1] (jG0 sc) h13 (jint sc P14))
    (v11 : ∀ (x1 : Int32) (h1 : jH), P1 x1 h1 → ¬ x1 = 0 → ∀ (x7 : Int32) (h7 : jH), P7 x7 h7 → ¬ x7 = 0 → ∀ (x13 : Int32) (h13 : jH), P13 x13 h13 → ¬ x13 = 0 → ∀ (x14 : Int32) (h14 : jH), P14 x14 h14 → ¬ x14 = 0 → Q (.inl (some (.int 0))) (jG0 sc) h14)
    (k15 : ∀ (x1 : Int32) (h1 : jH), P1 x1 h1 → ¬ x1 = 0 → ∀ (x7 : Int32) (h7 : jH), P7 x7 h7 → ¬ x7 = 0 → ∀ (x13 : Int32) (h13 : jH), P13 x13 h13 → ¬ x13 = 0 → ∀ (x14 : Int32) (h14 : jH), P14 x14 h14 → x14 = 0 → ¬ (h14 160 122) = 12 → JM mX12_throwsIf [.ref 159, .int 0, .int 2] (jG0 sc) h14 (jint sc P15))
    (o13 : ∀ (x1 : Int32) (h1 : jH), P1 x1 h1 → ¬ x1 = 0 → ∀ (x7 : Int32) (h7 : jH), P7 x7 h7 → ¬ x7 = 0 → ∀ (x13 : Int32) (h13 : jH), P13 x13 h13 → ¬ x13 = 0 → ∀ (x14 : Int32) (h14 : jH), P14 x14 h14 → x14 = 0 → ¬ (h14 160 122) = 12 → ∀ (x15 : Int32) (h15 : jH), P15 x15 h15 → x15 = 0 → vp_in (123 + (3 * (h15 160 122))) 1454)
    (o14 : ∀ (x1 : Int32) (h1 : jH), P1 x1 h1 → ¬ x1 = 0 → ∀ (x7 : Int32) (h7 : jH), P7 x7 h7 → ¬ x7 = 0 → ∀ (x13 : Int32) (h13 : jH), P13 x13 h13 → ¬ x13 = 0 → ∀ (x14 : Int32) (h14 : jH), P14 x14 h14 → x14 = 0 → ¬ (h14 160 122) = 12 → ∀ (x15 : Int32) (h15 : jH), P15 x15 h15 → x15 = 0 → vp_in ((123 + (3 * (h15 160 122))) + 1) 1454)
    (o15 : ∀ (x1 : Int32) (h1 : jH), P1 x1 h1 → ¬ x1 = 0 → ∀ (x7 : Int32) (h7 : jH), P7 x7 h7 → ¬ x7 = 0 → ∀ (x13 : Int32) (h13 : jH), P13 x13 h13 → ¬ x13 = 0 → ∀ (x14 : Int32) (h14 : jH), P14 x14 h14 → x14 = 0 → ¬ (h14 160 122) = 12 → ∀ (x15 : Int32) (h15 : jH), P15 x15 h15 → x15 = 0 → vp_in ((123 + (3 * (h15 160 122))) + 2) 1454)
    (k16 : ∀ (x1 : Int32) (h1 : jH), P1 x1 h1 → ¬ x1 = 0 → ∀ (x7 : Int32) (h7 : jH), P7 x7 h7 → ¬ x7 = 0 → ∀ (x13 : Int32) (h13 : jH), P13 x13 h13 → ¬ x13 = 0 → ∀ (x14 : Int32) (h14 : jH), P14 x14 h14 → x14 = 0 → ¬ (h14 160 122) = 12 → ∀ (x15 : Int32) (h15 : jH), P15 x15 h15 → x15 = 0 → JM mX12_listsBody [.ref 159] (jG0 sc) (jput (jput (jput (jput h15 160 ((123 + (3 * (h15 160 122))).toNatClampNeg) l1) 160 (((123 + (3 * (h15 160 122))) + 1).toNatClampNeg) l2) 160 (((123 + (3 * (h15 160 122))) + 2).toNatClampNeg) l3) 160 122 (((jput (jput (jput h15 160 ((123 + (3 * (h15 160 122))).toNatClampNeg) l1) 160 (((123 + (3 * (h15 160 122))) + 1).toNatClampNeg) l2) 160 (((123 + (3 * (h15 160 122))) + 2).toNatClampNeg) l3) 160 122) + 1)) (jvoid sc P16))
    (v12 : ∀ (x1 : Int32) (h1 : jH), P1 x1 h1 → ¬ x1 = 0 → ∀ (x7 : Int32) (h7 : jH), P7 x7 h7 → ¬ x7 = 0 → ∀ (x13 : Int32) (h13 : jH), P13 x13 h13 → ¬ x13 = 0 → ∀ (x14 : Int32) (h14 : jH), P14 x14 h14 → x14 = 0 → ¬ (h14 160 122) = 12 → ∀ (x15 : Int32) (h15 : jH), P15 x15 h15 → x15 = 0 → ∀ h16 : jH, P16 h16 → WP mX12_run Q 156 [some (.ref 159), some (.int l1), some (.int l2), some (.int l3), some (.int (h15 160 122)), some (.int ((h16 160 163) - 1))] [] (jG0 sc) h16 (0, 0))
    (v13 : ∀ (x1 : Int32) (h1 : jH), P1 x1 h1 → ¬ x1 = 0 → ∀ (x7 : Int32) (h7 : jH), P7 x7 h7 → ¬ x7 = 0 → ∀ (x13 : Int32) (h13 : jH), P13 x13 h13 → ¬ x13 = 0 → ∀ (x14 : Int32) (h14 : jH), P14 x14 h14 → x14 = 0 → ¬ (h14 160 122) = 12 → ∀ (x15 : Int32) (h15 : jH), P15 x15 h15 → ¬ x15 = 0 → Q (.inl (some (.int 0))) (jG0 sc) h15)
    (k17 : ∀ (x1 : Int32) (h1 : jH), P1 x1 h1 → ¬ x1 = 0 → ∀ (x7 : Int32) (h7 : jH), P7 x7 h7 → ¬ x7 = 0 → ∀ (x13 : Int32) (h13 : jH), P13 x13 h13 → ¬ x13 = 0 → ∀ (x14 : Int32) (h14 : jH), P14 x14 h14 → x14 = 0 → (h14 160 122) = 12 → JM mX12_throwsIf [.ref 159, .int 1, .int 2] (jG0 sc) h14 (jint sc P17))
    (o16 : ∀ (x1 : Int32) (h1 : jH), P1 x1 h1 → ¬ x1 = 0 → ∀ (x7 : Int32) (h7 : jH), P7 x7 h7 → ¬ x7 = 0 → ∀ (x13 : Int32) (h13 : jH), P13 x13 h13 → ¬ x13 = 0 → ∀ (x14 : Int32) (h14 : jH), P14 x14 h14 → x14 = 0 → (h14 160 122) = 12 → ∀ (x17 : Int32) (h17 : jH), P17 x17 h17 → x17 = 0 → vp_in (123 + (3 * (h17 160 122))) 1454)
    (o17 : ∀ (x1 : Int32) (h1 : jH), P1 x1 h1 → ¬ x1 = 0 → ∀ (x7 : Int32) (h7 : jH), P7 x7 h7 → ¬ x7 = 0 → ∀ (x13 : Int32) (h13 : jH), P13 x13 h13 → ¬ x13 = 0 → ∀ (x14 : Int32) (h14 : jH), P14 x14 h14 → x14 = 0 → (h14 160 122) = 12 → ∀ (x17 : Int32) (h17 : jH), P17 x17 h17 → x17 = 0 → vp_in ((123 + (3 * (h17 160 122))) + 1) 1454)
    (o18 : ∀ (x1 : Int32) (h1 : jH), P1 x1 h1 → ¬ x1 = 0 → ∀ (x7 : Int32) (h7 : jH), P7 x7 h7 → ¬ x7 = 0 → ∀ (x13 : Int32) (h13 : jH), P13 x13 h13 → ¬ x13 = 0 → ∀ (x14 : Int32) (h14 : jH), P14 x14 h14 → x14 = 0 → (h14 160 122) = 12 → ∀ (x17 : Int32) (h17 : jH), P17 x17 h17 → x17 = 0 → vp_in ((123 + (3 * (h17 160 122))) + 2) 1454)
    (k18 : ∀ (x1 : Int32) (h1 : jH), P1 x1 h1 → ¬ x1 = 0 → ∀ (x7 : Int32) (h7 : jH), P7 x7 h7 → ¬ x7 = 0 → ∀ (x13 : Int32) (h13 : jH), P13 x13 h13 → ¬ x13 = 0 → ∀ (x14 : Int32) (h14 : jH), P14 x14 h14 → x14 = 0 → (h14 160 122) = 12 → ∀ (x17 : Int32) (h17 : jH), P17 x17 h17 → x17 = 0 → JM mX12_listsBody [.ref 159] (jG0 sc) (jput (jput (jput (jput h17 160 ((123 + (3 * (h17 160 122))).toNatClampNeg) l1) 160 (((123 + (3 * (h17 160 122))) + 1).toNatClampNeg) l2) 160 (((123 + (3 * (h17 160 122))) + 2).toNatClampNeg) l3) 160 122 (((jput (jput (jput h17 160 ((123 + (3 * (h17 160 122))).toNatClampNeg) l1) 160 (((123 + (3 * (h17 160 122))) + 1).toNatClampNeg) l2) 160 (((123 + (3 * (h17 160 122))) + 2).toNatClampNeg) l3) 160 122) + 1)) (jvoid sc P18))
    (v14 : ∀ (x1 : Int32) (h1 : jH), P1 x1 h1 → ¬ x1 = 0 → ∀ (x7 : Int32) (h7 : jH), P7 x7 h7 → ¬ x7 = 0 → ∀ (x13 : Int32) (h13 : jH), P13 x13 h13 → ¬ x13 = 0 → ∀ (x14 : Int32) (h14 : jH), P14 x14 h14 → x14 = 0 → (h14 160 122) = 12 → ∀ (x17 : Int32) (h17 : jH), P17 x17 h17 → x17 = 0 → ∀ h18 : jH, P18 h18 → WP mX12_run Q 156 [some (.ref 159), some (.int l1), some (.int l2), some (.int l3), some (.int (h17 160 122)), some (.int ((h18 160 163) - 1))] [] (jG0 sc) h18 (0, 0))
    (v15 : ∀ (x1 : Int32) (h1 : jH), P1 x1 h1 → ¬ x1 = 0 → ∀ (x7 : Int32) (h7 : jH), P7 x7 h7 → ¬ x7 = 0 → ∀ (x13 : Int32) (h13 : jH), P13 x13 h13 → ¬ x13 = 0 → ∀ (x14 : Int32) (h14 : jH), P14 x14 h14 → x14 = 0 → (h14 160 122) = 12 → ∀ (x17 : Int32) (h17 : jH), P17 x17 h17 → ¬ x17 = 0 → Q (.inl (some (.int 0))) (jG0 sc) h17)
    (k19 : ∀ (x1 : Int32) (h1 : jH), P1 x1 h1 → ¬ x1 = 0 → ∀ (x7 : Int32) (h7 : jH), P7 x7 h7 → ¬ x7 = 0 → ∀ (x13 : Int32) (h13 : jH), P13 x13 h13 → x13 = 0 → JM mX12_throwsIf [.ref 159, .int 1, .int 1] (jG0 sc) h13 (jint sc P19))
    (v16 : ∀ (x1 : Int32) (h1 : jH), P1 x1 h1 → ¬ x1 = 0 → ∀ (x7 : Int32) (h7 : jH), P7 x7 h7 → ¬ x7 = 0 → ∀ (x13 : Int32) (h13 : jH), P13 x13 h13 → x13 = 0 → ∀ (x19 : Int32) (h19 : jH), P19 x19 h19 → ¬ x19 = 0 → Q (.inl (some (.int 0))) (jG0 sc) h19)
    (k20 : ∀ (x1 : Int32) (h1 : jH), P1 x1 h1 → ¬ x1 = 0 → ∀ (x7 : Int32) (h7 : jH), P7 x7 h7 → ¬ x7 = 0 → ∀ (x13 : Int32) (h13 : jH), P13 x13 h13 → x13 = 0 → ∀ (x19 : Int32) (h19 : jH), P19 x19 h19 → x19 = 0 → ¬ (h19 160 122) = 12 → JM mX12_throwsIf [.ref 159, .int 0, .int 2] (jG0 sc) h19 (jint sc P20))
    (o19 : ∀ (x1 : Int32) (h1 : jH), P1 x1 h1 → ¬ x1 = 0 → ∀ (x7 : Int32) (h7 : jH), P7 x7 h7 → ¬ x7 = 0 → ∀ (x13 : Int32) (h13 : jH), P13 x13 h13 → x13 = 0 → ∀ (x19 : Int32) (h19 : jH), P19 x19 h19 → x19 = 0 → ¬ (h19 160 122) = 12 → ∀ (x20 : Int32) (h20 : jH), P20 x20 h20 → x20 = 0 → vp_in (123 + (3 * (h20 160 122))) 1454)
    (o20 : ∀ (x1 : Int32) (h1 : jH), P1 x1 h1 → ¬ x1 = 0 → ∀ (x7 : Int32) (h7 : jH), P7 x7 h7 → ¬ x7 = 0 → ∀ (x13 : Int32) (h13 : jH), P13 x13 h13 → x13 = 0 → ∀ (x19 : Int32) (h19 : jH), P19 x19 h19 → x19 = 0 → ¬ (h19 160 122) = 12 → ∀ (x20 : Int32) (h20 : jH), P20 x20 h20 → x20 = 0 → vp_in ((123 + (3 * (h20 160 122))) + 1) 1454)
    (o21 : ∀ (x1 : Int32) (h1 : jH), P1 x1 h1 → ¬ x1 = 0 → ∀ (x7 : Int32) (h7 : jH), P7 x7 h7 → ¬ x7 = 0 → ∀ (x13 : Int32) (h13 : jH), P13 x13 h13 → x13 = 0 → ∀ (x19 : Int32) (h19 : jH), P19 x19 h19 → x19 = 0 → ¬ (h19 160 122) = 12 → ∀ (x20 : Int32) (h20 : jH), P20 x20 h20 → x20 = 0 → vp_in ((123 + (3 * (h20 160 122))) + 2) 1454)
    (k21 : ∀ (x1 : Int32) (h1 : jH), P1 x1 h1 → ¬ x1 = 0 → ∀ (x7 : Int32) (h7 : jH), P7 x7 h7 → ¬ x7 = 0 → ∀ (x13 : Int32) (h13 : jH), P13 x13 h13 → x13 = 0 → ∀ (x19 : Int32) (h19 : jH), P19 x19 h19 → x19 = 0 → ¬ (h19 160 122) = 12 → ∀ (x20 : Int32) (h20 : jH), P20 x20 h20 → x20 = 0 → JM mX12_listsBody [.ref 159] (jG0 sc) (jput (jput (jput (jput h20 160 ((123 + (3 * (h20 160 122))).toNatClampNeg) l1) 160 (((123 + (3 * (h20 160 122))) + 1).toNatClampNeg) l2) 160 (((123 + (3 * (h20 160 122))) + 2).toNatClampNeg) l3) 160 122 (((jput (jput (jput h20 160 ((123 + (3 * (h20 160 122))).toNatClampNeg) l1) 160 (((123 + (3 * (h20 160 122))) + 1).toNatClampNeg) l2) 160 (((123 + (3 * (h20 160 122))) + 2).toNatClampNeg) l3) 160 122) + 1)) (jvoid sc P21))
    (v17 : ∀ (x1 : Int32) (h1 : jH), P1 x1 h1 → ¬ x1 = 0 → ∀ (x7 : Int32) (h7 : jH), P7 x7 h7 → ¬ x7 = 0 → ∀ (x13 : Int32) (h13 : jH), P13 x13 h13 → x13 = 0 → ∀ (x19 : Int32) (h19 : jH), P19 x19 h19 → x19 = 0 → ¬ (h19 160 122) = 12 → ∀ (x20 : Int32) (h20 : jH), P20 x20 h20 → x20 = 0 → ∀ h21 : jH, P21 h21 → WP mX12_run Q 156 [some (.ref 159), some (.int l1), some (.int l2), some (.int l3), some (.int (h20 160 122)), some (.int ((h21 160 163) - 1))] [] (jG0 sc) h21 (0, 0))
    (v18 : ∀ (x1 : Int32) (h1 : jH), P1 x1 h1 → ¬ x1 = 0 → ∀ (x7 : Int32) (h7 : jH), P7 x7 h7 → ¬ x7 = 0 → ∀ (x13 : Int32) (h13 : jH), P13 x13 h13 → x13 = 0 → ∀ (x19 : Int32) (h19 : jH), P19 x19 h19 → x19 = 0 → ¬ (h19 160 122) = 12 → ∀ (x20 : Int32) (h20 : jH), P20 x20 h20 → ¬ x20 = 0 → Q (.inl (some (.int 0))) (jG0 sc) h20)
    (k22 : ∀ (x1 : Int32) (h1 : jH), P1 x1 h1 → ¬ x1 = 0 → ∀ (x7 : Int32) (h7 : jH), P7 x7 h7 → ¬ x7 = 0 → ∀ (x13 : Int32) (h13 : jH), P13 x13 h13 → x13 = 0 → ∀ (x19 : Int32) (h19 : jH), P19 x19 h19 → x19 = 0 → (h19 160 122) = 12 → JM mX12_throwsIf [.ref 159, .int 1, .int 2] (jG0 sc) h19 (jint sc P22))
    (o22 : ∀ (x1 : Int32) (h1 : jH), P1 x1 h1 → ¬ x1 = 0 → ∀ (x7 : Int32) (h7 : jH), P7 x7 h7 → ¬ x7 = 0 → ∀ (x13 : Int32) (h13 : jH), P13 x13 h13 → x13 = 0 → ∀ (x19 : Int32) (h19 : jH), P19 x19 h19 → x19 = 0 → (h19 160 122) = 12 → ∀ (x22 : Int32) (h22 : jH), P22 x22 h22 → x22 = 0 → vp_in (123 + (3 * (h22 160 122))) 1454)
    (o23 : ∀ (x1 : Int32) (h1 : jH), P1 x1 h1 → ¬ x1 = 0 → ∀ (x7 : Int32) (h7 : jH), P7 x7 h7 → ¬ x7 = 0 → ∀ (x13 : Int32) (h13 : jH), P13 x13 h13 → x13 = 0 → ∀ (x19 : Int32) (h19 : jH), P19 x19 h19 → x19 = 0 → (h19 160 122) = 12 → ∀ (x22 : Int32) (h22 : jH), P22 x22 h22 → x22 = 0 → vp_in ((123 + (3 * (h22 160 122))) + 1) 1454)
    (o24 : ∀ (x1 : Int32) (h1 : jH), P1 x1 h1 → ¬ x1 = 0 → ∀ (x7 : Int32) (h7 : jH), P7 x7 h7 → ¬ x7 = 0 → ∀ (x13 : Int32) (h13 : jH), P13 x13 h13 → x13 = 0 → ∀ (x19 : Int32) (h19 : jH), P19 x19 h19 → x19 = 0 → (h19 160 122) = 12 → ∀ (x22 : Int32) (h22 : jH), P22 x22 h22 → x22 = 0 → vp_in ((123 + (3 * (h22 160 122))) + 2) 1454)
    (k23 : ∀ (x1 : Int32) (h1 : jH), P1 x1 h1 → ¬ x1 = 0 → ∀ (x7 : Int32) (h7 : jH), P7 x7 h7 → ¬ x7 = 0 → ∀ (x13 : Int32) (h13 : jH), P13 x13 h13 → x13 = 0 → ∀ (x19 : Int32) (h19 : jH), P19 x19 h19 → x19 = 0 → (h19 160 122) = 12 → ∀ (x22 : Int32) (h22 : jH), P22 x22 h22 → x22 = 0 → JM mX12_listsBody [.ref 159] (jG0 sc) (jput (jput (jput (jput h22 160 ((123 + (3 * (h22 160 122))).toNatClampNeg) l1) 160 (((123 + (3 * (h22 160 122))) + 1).toNatClampNeg) l2) 160 (((123 + (3 * (h22 160 122))) + 2).toNatClampNeg) l3) 160 122 (((jput (jput (jput h22 160 ((123 + (3 * (h22 160 122))).toNatClampNeg) l1) 160 (((123 + (3 * (h22 160 122))) + 1).toNatClampNeg) l2) 160 (((123 + (3 * (h22 160 122))) + 2).toNatClampNeg) l3) 160 122) + 1)) (jvoid sc P23))
    (v19 : ∀ (x1 : Int32) (h1 : jH), P1 x1 h1 → ¬ x1 = 0 → ∀ (x7 : Int32) (h7 : jH), P7 x7 h7 → ¬ x7 = 0 → ∀ (x13 : Int32) (h13 : jH), P13 x13 h13 → x13 = 0 → ∀ (x19 : Int32) (h19 : jH), P19 x19 h19 → x19 = 0 → (h19 160 122) = 12 → ∀ (x22 : Int32) (h22 : jH), P22 x22 h22 → x22 = 0 → ∀ h23 : jH, P23 h23 → WP mX12_run Q 156 [some (.ref 159), some (.int l1), some (.int l2), some (.int l3), some (.int (h22 160 122)), some (.int ((h23 160 163) - 1))] [] (jG0 sc) h23 (0, 0))
    (v20 : ∀ (x1 : Int32) (h1 : jH), P1 x1 h1 → ¬ x1 = 0 → ∀ (x7 : Int32) (h7 : jH), P7 x7 h7 → ¬ x7 = 0 → ∀ (x13 : Int32) (h13 : jH), P13 x13 h13 → x13 = 0 → ∀ (x19 : Int32) (h19 : jH), P19 x19 h19 → x19 = 0 → (h19 160 122) = 12 → ∀ (x22 : Int32) (h22 : jH), P22 x22 h22 → ¬ x22 = 0 → Q (.inl (some (.int 0))) (jG0 sc) h22) :
    WP mX12_run Q 0 [some (.ref 159), some (.int l1), some (.int l2), some (.int l3), none, none] [] (jG0 sc) h (0, 0) := by
  exact (bX12_run_0 k1 (fun x1 h1 p1 c1 => (bX12_run_38 (bX12_run_43 (k2 x1 h1 p1 c1) (fun x2 h2 p2 c2 => (bX12_run_75 (v1 x1 h1 p1 c1 x2 h2 p2 c2))) (fun x2 h2 p2 c2 => (bX12_run_50 (fun c3 => (bX12_run_67 (bX12_run_68 (k3 x1 h1 p1 c1 x2 h2 p2 c2 c3) (fun x3 h3 p3 c4 => (bX12_run_77 (o1 x1 h1 p1 c1 x2 h2 p2 c2 c3 x3 h3 p3 c4) (bX12_run_112 (o2 x1 h1 p1 c1 x2 h2 p2 c2 c3 x3 h3 p3 c4) (o3 x1 h1 p1 c1 x2 h2 p2 c2 c3 x3 h3 p3 c4) (bX12_run_141 (k4 x1 h1 p1 c1 x2 h2 p2 c2 c3 x3 h3 p3 c4) (fun h4 p4 => (v2 x1 h1 p1 c1 x2 h2 p2 c2 c3 x3 h3 p3 c4 h4 p4)))))) (fun x3 h3 p3 c4 => (bX12_run_75 (v3 x1 h1 p1 c1 x2 h2 p2 c2 c3 x3 h3 p3 c4)))))) (fun c3 => (bX12_run_63 (bX12_run_68 (k5 x1 h1 p1 c1 x2 h2 p2 c2 c3) (fun x5 h5 p5 c5 => (bX12_run_77 (o4 x1 h1 p1 c1 x2 h2 p2 c2 c3 x5 h5 p5 c5) (bX12_run_112 (o5 x1 h1 p1 c1 x2 h2 p2 c2 c3 x5 h5 p5 c5) (o6 x1 h1 p1 c1 x2 h2 p2 c2 c3 x5 h5 p5 c5) (bX12_run_141 (k6 x1 h1 p1 c1 x2 h2 p2 c2 c3 x5 h5 p5 c5) (fun h6 p6 => (v4 x1 h1 p1 c1 x2 h2 p2 c2 c3 x5 h5 p5 c5 h6 p6)))))) (fun x5 h5 p5 c5 => (bX12_run_75 (v5 x1 h1 p1 c1 x2 h2 p2 c2 c3 x5 h5 p5 c5))))))))))) (fun x1 h1 p1 c1 => (bX12_run_16 (k7 x1 h1 p1 c1) (fun x7 h7 p7 c6 => (bX12_run_38 (bX12_run_43 (k8 x1 h1 p1 c1 x7 h7 p7 c6) (fun x8 h8 p8 c7 => (bX12_run_75 (v6 x1 h1 p1 c1 x7 h7 p7 c6 x8 h8 p8 c7))) (fun x8 h8 p8 c7 => (bX12_run_50 (fun c8 => (bX12_run_67 (bX12_run_68 (k9 x1 h1 p1 c1 x7 h7 p7 c6 x8 h8 p8 c7 c8) (fun x9 h9 p9 c9 => (bX12_run_77 (o7 x1 h1 p1 c1 x7 h7 p7 c6 x8 h8 p8 c7 c8 x9 h9 p9 c9) (bX12_run_112 (o8 x1 h1 p1 c1 x7 h7 p7 c6 x8 h8 p8 c7 c8 x9 h9 p9 c9) (o9 x1 h1 p1 c1 x7 h7 p7 c6 x8 h8 p8 c7 c8 x9 h9 p9 c9) (bX12_run_141 (k10 x1 h1 p1 c1 x7 h7 p7 c6 x8 h8 p8 c7 c8 x9 h9 p9 c9) (fun h10 p10 => (v7 x1 h1 p1 c1 x7 h7 p7 c6 x8 h8 p8 c7 c8 x9 h9 p9 c9 h10 p10)))))) (fun x9 h9 p9 c9 => (bX12_run_75 (v8 x1 h1 p1 c1 x7 h7 p7 c6 x8 h8 p8 c7 c8 x9 h9 p9 c9)))))) (fun c8 => (bX12_run_63 (bX12_run_68 (k11 x1 h1 p1 c1 x7 h7 p7 c6 x8 h8 p8 c7 c8) (fun x11 h11 p11 c10 => (bX12_run_77 (o10 x1 h1 p1 c1 x7 h7 p7 c6 x8 h8 p8 c7 c8 x11 h11 p11 c10) (bX12_run_112 (o11 x1 h1 p1 c1 x7 h7 p7 c6 x8 h8 p8 c7 c8 x11 h11 p11 c10) (o12 x1 h1 p1 c1 x7 h7 p7 c6 x8 h8 p8 c7 c8 x11 h11 p11 c10) (bX12_run_141 (k12 x1 h1 p1 c1 x7 h7 p7 c6 x8 h8 p8 c7 c8 x11 h11 p11 c10) (fun h12 p12 => (v9 x1 h1 p1 c1 x7 h7 p7 c6 x8 h8 p8 c7 c8 x11 h11 p11 c10 h12 p12)))))) (fun x11 h11 p11 c10 => (bX12_run_75 (v10 x1 h1 p1 c1 x7 h7 p7 c6 x8 h8 p8 c7 c8 x11 h11 p11 c10))))))))))) (fun x7 h7 p7 c6 => (bX12_run_26 (k13 x1 h1 p1 c1 x7 h7 p7 c6) (fun x13 h13 p13 c11 => (bX12_run_42 (bX12_run_43 (k14 x1 h1 p1 c1 x7 h7 p7 c6 x13 h13 p13 c11) (fun x14 h14 p14 c12 => (bX12_run_75 (v11 x1 h1 p1 c1 x7 h7 p7 c6 x13 h13 p13 c11 x14 h14 p14 c12))) (fun x14 h14 p14 c12 => (bX12_run_50 (fun c13 => (bX12_run_67 (bX12_run_68 (k15 x1 h1 p1 c1 x7 h7 p7 c6 x13 h13 p13 c11 x14 h14 p14 c12 c13) (fun x15 h15 p15 c14 => (bX12_run_77 (o13 x1 h1 p1 c1 x7 h7 p7 c6 x13 h13 p13 c11 x14 h14 p14 c12 c13 x15 h15 p15 c14) (bX12_run_112 (o14 x1 h1 p1 c1 x7 h7 p7 c6 x13 h13 p13 c11 x14 h14 p14 c12 c13 x15 h15 p15 c14) (o15 x1 h1 p1 c1 x7 h7 p7 c6 x13 h13 p13 c11 x14 h14 p14 c12 c13 x15 h15 p15 c14) (bX12_run_141 (k16 x1 h1 p1 c1 x7 h7 p7 c6 x13 h13 p13 c11 x14 h14 p14 c12 c13 x15 h15 p15 c14) (fun h16 p16 => (v12 x1 h1 p1 c1 x7 h7 p7 c6 x13 h13 p13 c11 x14 h14 p14 c12 c13 x15 h15 p15 c14 h16 p16)))))) (fun x15 h15 p15 c14 => (bX12_run_75 (v13 x1 h1 p1 c1 x7 h7 p7 c6 x13 h13 p13 c11 x14 h14 p14 c12 c13 x15 h15 p15 c14)))))) (fun c13 => (bX12_run_63 (bX12_run_68 (k17 x1 h1 p1 c1 x7 h7 p7 c6 x13 h13 p13 c11 x14 h14 p14 c12 c13) (fun x17 h17 p17 c15 => (bX12_run_77 (o16 x1 h1 p1 c1 x7 h7 p7 c6 x13 h13 p13 c11 x14 h14 p14 c12 c13 x17 h17 p17 c15) (bX12_run_112 (o17 x1 h1 p1 c1 x7 h7 p7 c6 x13 h13 p13 c11 x14 h14 p14 c12 c13 x17 h17 p17 c15) (o18 x1 h1 p1 c1 x7 h7 p7 c6 x13 h13 p13 c11 x14 h14 p14 c12 c13 x17 h17 p17 c15) (bX12_run_141 (k18 x1 h1 p1 c1 x7 h7 p7 c6 x13 h13 p13 c11 x14 h14 p14 c12 c13 x17 h17 p17 c15) (fun h18 p18 => (v14 x1 h1 p1 c1 x7 h7 p7 c6 x13 h13 p13 c11 x14 h14 p14 c12 c13 x17 h17 p17 c15 h18 p18)))))) (fun x17 h17 p17 c15 => (bX12_run_75 (v15 x1 h1 p1 c1 x7 h7 p7 c6 x13 h13 p13 c11 x14 h14 p14 c12 c13 x17 h17 p17 c15))))))))))) (fun x13 h13 p13 c11 => (bX12_run_38 (bX12_run_43 (k19 x1 h1 p1 c1 x7 h7 p7 c6 x13 h13 p13 c11) (fun x19 h19 p19 c16 => (bX12_run_75 (v16 x1 h1 p1 c1 x7 h7 p7 c6 x13 h13 p13 c11 x19 h19 p19 c16))) (fun x19 h19 p19 c16 => (bX12_run_50 (fun c17 => (bX12_run_67 (bX12_run_68 (k20 x1 h1 p1 c1 x7 h7 p7 c6 x13 h13 p13 c11 x19 h19 p19 c16 c17) (fun x20 h20 p20 c18 => (bX12_run_77 (o19 x1 h1 p1 c1 x7 h7 p7 c6 x13 h13 p13 c11 x19 h19 p19 c16 c17 x20 h20 p20 c18) (bX12_run_112 (o20 x1 h1 p1 c1 x7 h7 p7 c6 x13 h13 p13 c11 x19 h19 p19 c16 c17 x20 h20 p20 c18) (o21 x1 h1 p1 c1 x7 h7 p7 c6 x13 h13 p13 c11 x19 h19 p19 c16 c17 x20 h20 p20 c18) (bX12_run_141 (k21 x1 h1 p1 c1 x7 h7 p7 c6 x13 h13 p13 c11 x19 h19 p19 c16 c17 x20 h20 p20 c18) (fun h21 p21 => (v17 x1 h1 p1 c1 x7 h7 p7 c6 x13 h13 p13 c11 x19 h19 p19 c16 c17 x20 h20 p20 c18 h21 p21)))))) (fun x20 h20 p20 c18 => (bX12_run_75 (v18 x1 h1 p1 c1 x7 h7 p7 c6 x13 h13 p13 c11 x19 h19 p19 c16 c17 x20 h20 p20 c18)))))) (fun c17 => (bX12_run_63 (bX12_run_68 (k22 x1 h1 p1 c1 x7 h7 p7 c6 x13 h13 p13 c11 x19 h19 p19 c16 c17) (fun x22 h22 p22 c19 => (bX12_run_77 (o22 x1 h1 p1 c1 x7 h7 p7 c6 x13 h13 p13 c11 x19 h19 p19 c16 c17 x22 h22 p22 c19) (bX12_run_112 (o23 x1 h1 p1 c1 x7 h7 p7 c6 x13 h13 p13 c11 x19 h19 p19 c16 c17 x22 h22 p22 c19) (o24 x1 h1 p1 c1 x7 h7 p7 c6 x13 h13 p13 c11 x19 h19 p19 c16 c17 x22 h22 p22 c19) (bX12_run_141 (k23 x1 h1 p1 c1 x7 h7 p7 c6 x13 h13 p13 c11 x19 h19 p19 c16 c17 x22 h22 p22 c19) (fun h23 p23 => (v19 x1 h1 p1 c1 x7 h7 p7 c6 x13 h13 p13 c11 x19 h19 p19 c16 c17 x22 h22 p22 c19 h23 p23)))))) (fun x22 h22 p22 c19 => (bX12_run_75 (v20 x1 h1 p1 c1 x7 h7 p7 c6 x13 h13 p13 c11 x19 h19 p19 c16 c17 x22 h22 p22 c19))))))))))))))))
set_option maxRecDepth 100000 in
theorem rX12_run_156 {sc : Nat × (Nat → Int32)} {h : jH} {Q : jQ} {l1 l2 l3 l4 l5 : Int32} {P1 : jH → Prop} {P2 : Int32 → jH → Prop} {P3 : jH → Prop}
    (v1 : l5 < 0 → Q (.inl (some (.int l4))) (jG0 sc) h)
    (k1 : ¬ l5 < 0 → JM mX12_laysAlive [.ref 159, .int l5] (jG0 sc) h (jvoid sc P1))
    (k2 : ¬ l5 < 0 → ∀ h1 : jH, P1 h1 → JM mX12_isRight [.ref 159, .int l4] (jG0 sc) h1 (jint sc P2))
    (k3 : ¬ l5 < 0 → ∀ h1 : jH, P1 h1 → ∀ (x2 : Int32) (h2 : jH), P2 x2 h2 → x2 = 0 → JM mX12_putsOut [.ref 159, .int l5] (jG0 sc) h2 (jvoid sc P3))
    (v2 : ¬ l5 < 0 → ∀ h1 : jH, P1 h1 → ∀ (x2 : Int32) (h2 : jH), P2 x2 h2 → x2 = 0 → ∀ h3 : jH, P3 h3 → WP mX12_run Q 156 [some (.ref 159), some (.int l1), some (.int l2), some (.int l3), some (.int l4), some (.int (l5 + (-1)))] [] (jG0 sc) (jput h3 160 161 ((h3 160 161) + 1)) (0, 0))
    (v3 : ¬ l5 < 0 → ∀ h1 : jH, P1 h1 → ∀ (x2 : Int32) (h2 : jH), P2 x2 h2 → ¬ x2 = 0 → WP mX12_run Q 156 [some (.ref 159), some (.int l1), some (.int l2), some (.int l3), some (.int l4), some (.int (l5 + (-1)))] [] (jG0 sc) h2 (0, 0)) :
    WP mX12_run Q 156 [some (.ref 159), some (.int l1), some (.int l2), some (.int l3), some (.int l4), some (.int l5)] [] (jG0 sc) h (0, 0) := by
  exact (bX12_run_156 (fun c1 => (bX12_run_203 (v1 c1))) (fun c1 => (bX12_run_161 (k1 c1) (fun h1 p1 => (k2 c1 h1 p1)) (fun h1 p1 x2 h2 p2 c2 => (bX12_run_179 (k3 c1 h1 p1 x2 h2 p2 c2) (fun h3 p3 => (bX12_run_197 (v2 c1 h1 p1 x2 h2 p2 c2 h3 p3))))) (fun h1 p1 x2 h2 p2 c2 => (bX12_run_176 (bX12_run_197 (v3 c1 h1 p1 x2 h2 p2 c2)))))))
theorem dX12_alive_0 : decode (mC mX12_alive) 0 = .ok (.aload_n 0, 1) := by decide +kernel
theorem dX12_alive_1 : decode (mC mX12_alive) 1 = .ok (.iconst 0, 1) := by decide +kernel
theorem dX12_alive_2 : decode (mC mX12_alive) 2 = .ok (.putfield 3, 3) := by decide +kernel
theorem dX12_alive_5 : decode (mC mX12_alive) 5 = .ok (.aload_n 0, 1) := by decide +kernel
theorem dX12_alive_6 : decode (mC mX12_alive) 6 = .ok (.aload_n 0, 1) := by decide +kernel
theorem dX12_alive_7 : decode (mC mX12_alive) 7 = .ok (.iload_n 1, 1) := by decide +kernel
theorem dX12_alive_8 : decode (mC mX12_alive) 8 = .ok (.invokevirtual 353, 3) := by decide +kernel
theorem dX12_alive_11 : decode (mC mX12_alive) 11 = .ok (.iconst 1, 1) := by decide +kernel
theorem dX12_alive_12 : decode (mC mX12_alive) 12 = .ok (.invokevirtual 157, 3) := by decide +kernel
theorem dX12_alive_15 : decode (mC mX12_alive) 15 = .ok (.ifCond .ne 25, 3) := by decide +kernel
theorem dX12_alive_18 : decode (mC mX12_alive) 18 = .ok (.aload_n 0, 1) := by decide +kernel
theorem dX12_alive_19 : decode (mC mX12_alive) 19 = .ok (.iload_n 2, 1) := by decide +kernel
theorem dX12_alive_20 : decode (mC mX12_alive) 20 = .ok (.iconst 0, 1) := by decide +kernel
theorem dX12_alive_21 : decode (mC mX12_alive) 21 = .ok (.iconst 2, 1) := by decide +kernel
theorem dX12_alive_22 : decode (mC mX12_alive) 22 = .ok (.invokestatic 206, 3) := by decide +kernel
theorem dX12_alive_25 : decode (mC mX12_alive) 25 = .ok (.ifCond .ne 7, 3) := by decide +kernel
theorem dX12_alive_28 : decode (mC mX12_alive) 28 = .ok (.iconst 1, 1) := by decide +kernel
theorem dX12_alive_29 : decode (mC mX12_alive) 29 = .ok (.goto 4, 3) := by decide +kernel
theorem dX12_alive_32 : decode (mC mX12_alive) 32 = .ok (.iconst 0, 1) := by decide +kernel
theorem dX12_alive_33 : decode (mC mX12_alive) 33 = .ok (.iconst 2, 1) := by decide +kernel
theorem dX12_alive_34 : decode (mC mX12_alive) 34 = .ok (.invokevirtual 157, 3) := by decide +kernel
theorem dX12_alive_37 : decode (mC mX12_alive) 37 = .ok (.ifCond .eq 7, 3) := by decide +kernel
theorem dX12_alive_40 : decode (mC mX12_alive) 40 = .ok (.iconst 0, 1) := by decide +kernel
theorem dX12_alive_41 : decode (mC mX12_alive) 41 = .ok (.goto 17, 3) := by decide +kernel
theorem dX12_alive_44 : decode (mC mX12_alive) 44 = .ok (.aload_n 0, 1) := by decide +kernel
theorem dX12_alive_45 : decode (mC mX12_alive) 45 = .ok (.getfield 13, 3) := by decide +kernel
theorem dX12_alive_48 : decode (mC mX12_alive) 48 = .ok (.sipush 164, 3) := by decide +kernel
theorem dX12_alive_51 : decode (mC mX12_alive) 51 = .ok (.iconst 3, 1) := by decide +kernel
theorem dX12_alive_52 : decode (mC mX12_alive) 52 = .ok (.iload_n 1, 1) := by decide +kernel
theorem dX12_alive_53 : decode (mC mX12_alive) 53 = .ok (.imul, 1) := by decide +kernel
theorem dX12_alive_54 : decode (mC mX12_alive) 54 = .ok (.iadd, 1) := by decide +kernel
theorem dX12_alive_55 : decode (mC mX12_alive) 55 = .ok (.iload_n 2, 1) := by decide +kernel
theorem dX12_alive_56 : decode (mC mX12_alive) 56 = .ok (.iadd, 1) := by decide +kernel
theorem dX12_alive_57 : decode (mC mX12_alive) 57 = .ok (.iaload, 1) := by decide +kernel
theorem dX12_alive_58 : decode (mC mX12_alive) 58 = .ok (.ireturn, 1) := by decide +kernel
set_option maxRecDepth 100000 in
theorem bX12_alive_0 {sc : Nat × (Nat → Int32)} {h : jH} {Q : jQ} {l1 l2 : Int32} {P1 : Int32 → jH → Prop} {P2 : Int32 → jH → Prop}
    (k1 : JM mX12_noAlive [.ref 159, .int l1] (jG0 sc) (jput h 159 0 0) (jint sc P1))
    (k2 : ∀ (x1 : Int32) (h1 : jH), P1 x1 h1 → JM mX12_throwsIf [.ref 159, .int x1, .int 1] (jG0 sc) h1 (jint sc P2))
    (v1 : ∀ (x1 : Int32) (h1 : jH), P1 x1 h1 → ∀ (x2 : Int32) (h2 : jH), P2 x2 h2 → ¬ x2 = 0 → WP mX12_alive Q 40 [some (.ref 159), some (.int l1), some (.int l2)] [] (jG0 sc) h2 (0, 0))
    (v2 : ∀ (x1 : Int32) (h1 : jH), P1 x1 h1 → ∀ (x2 : Int32) (h2 : jH), P2 x2 h2 → x2 = 0 → WP mX12_alive Q 18 [some (.ref 159), some (.int l1), some (.int l2)] [] (jG0 sc) h2 (0, 0)) :
    WP mX12_alive Q 0 [some (.ref 159), some (.int l1), some (.int l2)] [] (jG0 sc) h (0, 0) := by
  refine j_aload_n (i := 0) rfl dX12_alive_0 ?_
  refine j_iconst (n := 0) 0 (by decide) dX12_alive_1 ?_
  refine j_putI (idx := 3) (ci := 12) (k := 0) (nest := false) (show (12, 3, 12, 0, false) ∈ jFT by decide) rfl rfl rfl rfl (Nat.le_of_ble_eq_true rfl) rfl dX12_alive_2 ?_
  refine j_aload_n (i := 0) rfl dX12_alive_5 ?_
  refine j_aload_n (i := 0) rfl dX12_alive_6 ?_
  refine j_iload_n (i := 1) rfl dX12_alive_7 ?_
  refine j_callV (idx := 353) (As := [.int l1]) (ci := 12) (n := 1) k1 jint_nt (jlkT (jtb8 7 rfl) rfl) sX12_noAlive kX12_noAlive rfl ⟨rfl, by decide +kernel, by decide +kernel, by decide +kernel⟩ rfl ⟨by decide, by decide⟩ (Nat.le_of_ble_eq_true rfl) rfl (Nat.le_of_ble_eq_true rfl) (Nat.le_of_ble_eq_true rfl) ⟨Nat.zero_le _, Nat.zero_le _⟩ dX12_alive_8 (fun r Γ' h1 q => ?_)
  obtain ⟨x1, q0, rfl, p1⟩ := q; cases q0
  refine j_eqst [.int x1, .ref 159] (by rfl) ?_
  refine j_iconst (n := 1) 1 (by decide) dX12_alive_11 ?_
  refine j_callV (idx := 157) (As := [.int x1, .int 1]) (ci := 12) (n := 2) (k2 x1 h1 p1) jint_nt (jlkT (jtb7 17 rfl) rfl) sX12_throwsIf kX12_throwsIf rfl ⟨rfl, by decide +kernel, by decide +kernel, by decide +kernel⟩ rfl ⟨by decide, by decide⟩ (Nat.le_of_ble_eq_true rfl) rfl (Nat.le_of_ble_eq_true rfl) (Nat.le_of_ble_eq_true rfl) ⟨Nat.zero_le _, Nat.zero_le _⟩ dX12_alive_12 (fun r Γ' h2 q => ?_)
  obtain ⟨x2, q0, rfl, p2⟩ := q; cases q0
  refine j_eqst [.int x2] (by rfl) ?_
  refine j_if_ne (off := 25) 40 dX12_alive_15 (by decide) (fun c1 => ?_) (fun c1 => ?_)
  · exact j_le [some (.ref 159), some (.int l1), some (.int l2)] (And.intro rfl (And.intro rfl (And.intro rfl True.intro))) (v1 x1 h1 p1 x2 h2 p2 c1)
  · exact j_le [some (.ref 159), some (.int l1), some (.int l2)] (And.intro rfl (And.intro rfl (And.intro rfl True.intro))) (v2 x1 h1 p1 x2 h2 p2 c1)
set_option maxRecDepth 100000 in
theorem bX12_alive_18 {sc : Nat × (Nat → Int32)} {h : jH} {Q : jQ} {l1 l2 : Int32} {P1 : Int32 → jH → Prop}
    (k1 : JM mX12_in [.int l2, .int 0, .int 2] (jG0 sc) h (jint sc P1))
    (v1 : ∀ (x1 : Int32) (h1 : jH), P1 x1 h1 → ¬ x1 = 0 → WP mX12_alive Q 32 [some (.ref 159), some (.int l1), some (.int l2)] [.ref 159] (jG0 sc) h1 (0, 0))
    (v2 : ∀ (x1 : Int32) (h1 : jH), P1 x1 h1 → x1 = 0 → WP mX12_alive Q 28 [some (.ref 159), some (.int l1), some (.int l2)] [.ref 159] (jG0 sc) h1 (0, 0)) :
    WP mX12_alive Q 18 [some (.ref 159), some (.int l1), some (.int l2)] [] (jG0 sc) h (0, 0) := by
  refine j_aload_n (i := 0) rfl dX12_alive_18 ?_
  refine j_iload_n (i := 2) rfl dX12_alive_19 ?_
  refine j_iconst (n := 0) 0 (by decide) dX12_alive_20 ?_
  refine j_iconst (n := 2) 2 (by decide) dX12_alive_21 ?_
  refine j_callS (idx := 206) (As := [.int l2, .int 0, .int 2]) (n := 3) k1 jint_nt (jlkT (jtb7 84 rfl) rfl) sX12_in kX12_in rfl ⟨by decide +kernel, by decide +kernel, by decide +kernel⟩ rfl ⟨by decide, by decide⟩ (Nat.le_of_ble_eq_true rfl) ⟨Nat.zero_le _, Nat.zero_le _⟩ dX12_alive_22 (fun r Γ' h1 q => ?_)
  obtain ⟨x1, q0, rfl, p1⟩ := q; cases q0
  refine j_eqst [.int x1, .ref 159] (by rfl) ?_
  refine j_if_ne (off := 7) 32 dX12_alive_25 (by decide) (fun c1 => ?_) (fun c1 => ?_)
  · exact j_le [some (.ref 159), some (.int l1), some (.int l2)] (And.intro rfl (And.intro rfl (And.intro rfl True.intro))) (v1 x1 h1 p1 c1)
  · exact j_le [some (.ref 159), some (.int l1), some (.int l2)] (And.intro rfl (And.intro rfl (And.intro rfl True.intro))) (v2 x1 h1 p1 c1)
set_option maxRecDepth 100000 in
theorem bX12_alive_28 {sc : Nat × (Nat → Int32)} {h : jH} {Q : jQ} {l1 l2 : Int32}
    (v1 : WP mX12_alive Q 33 [some (.ref 159), some (.int l1), some (.int l2)] [.int 1, .ref 159] (jG0 sc) h (0, 0)) :
    WP mX12_alive Q 28 [some (.ref 159), some (.int l1), some (.int l2)] [.ref 159] (jG0 sc) h (0, 0) := by
  refine j_iconst (n := 1) 1 (by decide) dX12_alive_28 ?_
  refine j_goto (off := 4) 33 dX12_alive_29 (by decide) ?_
  exact j_le [some (.ref 159), some (.int l1), some (.int l2)] (And.intro rfl (And.intro rfl (And.intro rfl True.intro))) v1
set_option maxRecDepth 100000 in
theorem bX12_alive_32 {sc : Nat × (Nat → Int32)} {h : jH} {Q : jQ} {l1 l2 : Int32}
    (v1 : WP mX12_alive Q 33 [some (.ref 159), some (.int l1), some (.int l2)] [.int 0, .ref 159] (jG0 sc) h (0, 0)) :
    WP mX12_alive Q 32 [some (.ref 159), some (.int l1), some (.int l2)] [.ref 159] (jG0 sc) h (0, 0) := by
  refine j_iconst (n := 0) 0 (by decide) dX12_alive_32 ?_
  exact j_le [some (.ref 159), some (.int l1), some (.int l2)] (And.intro rfl (And.intro rfl (And.intro rfl True.intro))) v1
set_option maxRecDepth 100000 in
theorem bX12_alive_33 {sc : Nat × (Nat → Int32)} {h : jH} {Q : jQ} {l1 l2 s0 : Int32} {P1 : Int32 → jH → Prop}
    (k1 : JM mX12_throwsIf [.ref 159, .int s0, .int 2] (jG0 sc) h (jint sc P1))
    (v1 : ∀ (x1 : Int32) (h1 : jH), P1 x1 h1 → x1 = 0 → WP mX12_alive Q 44 [some (.ref 159), some (.int l1), some (.int l2)] [] (jG0 sc) h1 (0, 0))
    (v2 : ∀ (x1 : Int32) (h1 : jH), P1 x1 h1 → ¬ x1 = 0 → WP mX12_alive Q 40 [some (.ref 159), some (.int l1), some (.int l2)] [] (jG0 sc) h1 (0, 0)) :
    WP mX12_alive Q 33 [some (.ref 159), some (.int l1), some (.int l2)] [.int s0, .ref 159] (jG0 sc) h (0, 0) := by
  refine j_iconst (n := 2) 2 (by decide) dX12_alive_33 ?_
  refine j_callV (idx := 157) (As := [.int s0, .int 2]) (ci := 12) (n := 2) k1 jint_nt (jlkT (jtb7 17 rfl) rfl) sX12_throwsIf kX12_throwsIf rfl ⟨rfl, by decide +kernel, by decide +kernel, by decide +kernel⟩ rfl ⟨by decide, by decide⟩ (Nat.le_of_ble_eq_true rfl) rfl (Nat.le_of_ble_eq_true rfl) (Nat.le_of_ble_eq_true rfl) ⟨Nat.zero_le _, Nat.zero_le _⟩ dX12_alive_34 (fun r Γ' h1 q => ?_)
  obtain ⟨x1, q0, rfl, p1⟩ := q; cases q0
  refine j_eqst [.int x1] (by rfl) ?_
  refine j_if_eq (off := 7) 44 dX12_alive_37 (by decide) (fun c1 => ?_) (fun c1 => ?_)
  · exact j_le [some (.ref 159), some (.int l1), some (.int l2)] (And.intro rfl (And.intro rfl (And.intro rfl True.intro))) (v1 x1 h1 p1 c1)
  · exact j_le [some (.ref 159), some (.int l1), some (.int l2)] (And.intro rfl (And.intro rfl (And.intro rfl True.intro))) (v2 x1 h1 p1 c1)
set_option maxRecDepth 100000 in
theorem bX12_alive_40 {sc : Nat × (Nat → Int32)} {h : jH} {Q : jQ} {l1 l2 : Int32}
    (v1 : WP mX12_alive Q 58 [some (.ref 159), some (.int l1), some (.int l2)] [.int 0] (jG0 sc) h (0, 0)) :
    WP mX12_alive Q 40 [some (.ref 159), some (.int l1), some (.int l2)] [] (jG0 sc) h (0, 0) := by
  refine j_iconst (n := 0) 0 (by decide) dX12_alive_40 ?_
  refine j_goto (off := 17) 58 dX12_alive_41 (by decide) ?_
  exact j_le [some (.ref 159), some (.int l1), some (.int l2)] (And.intro rfl (And.intro rfl (And.intro rfl True.intro))) v1
set_option maxRecDepth 100000 in
theorem bX12_alive_44 {sc : Nat × (Nat → Int32)} {h : jH} {Q : jQ} {l1 l2 : Int32}
    (o1 : vp_in ((164 + (3 * l1)) + l2) 1454)
    (v1 : WP mX12_alive Q 58 [some (.ref 159), some (.int l1), some (.int l2)] [.int (h 160 (((164 + (3 * l1)) + l2).toNatClampNeg))] (jG0 sc) h (0, 0)) :
    WP mX12_alive Q 44 [some (.ref 159), some (.int l1), some (.int l2)] [] (jG0 sc) h (0, 0) := by
  refine j_aload_n (i := 0) rfl dX12_alive_44 ?_
  refine j_getR (idx := 13) (ci := 12) (k := 1) (nest := false) (show (12, 13, 12, 1, false) ∈ jFT by decide) rfl (Nat.le_of_ble_eq_true rfl) rfl (a := 160) rfl dX12_alive_45 ?_
  refine j_sipush (n := 164) 164 (by decide) dX12_alive_48 ?_
  refine j_iconst (n := 3) 3 (by decide) dX12_alive_51 ?_
  refine j_iload_n (i := 1) rfl dX12_alive_52 ?_
  refine j_imul dX12_alive_53 ?_
  refine j_iadd dX12_alive_54 ?_
  refine j_iload_n (i := 2) rfl dX12_alive_55 ?_
  refine j_iadd dX12_alive_56 ?_
  refine j_iald (Nat.le_of_ble_eq_true rfl) rfl o1 dX12_alive_57 ?_
  exact j_le [some (.ref 159), some (.int l1), some (.int l2)] (And.intro rfl (And.intro rfl (And.intro rfl True.intro))) v1
set_option maxRecDepth 100000 in
theorem bX12_alive_58 {sc : Nat × (Nat → Int32)} {h : jH} {Q : jQ} {l1 l2 s0 : Int32}
    (v1 : Q (.inl (some (.int s0))) (jG0 sc) h) :
    WP mX12_alive Q 58 [some (.ref 159), some (.int l1), some (.int l2)] [.int s0] (jG0 sc) h (0, 0) := by
  exact j_iret rfl rfl (Nat.zero_le _) (Nat.zero_le _) dX12_alive_58 v1
set_option maxRecDepth 100000 in
theorem rX12_alive_0 {sc : Nat × (Nat → Int32)} {h : jH} {Q : jQ} {l1 l2 : Int32} {P1 : Int32 → jH → Prop} {P2 : Int32 → jH → Prop} {P3 : Int32 → jH → Prop} {P4 : Int32 → jH → Prop} {P5 : Int32 → jH → Prop}
    (k1 : JM mX12_noAlive [.ref 159, .int l1] (jG0 sc) (jput h 159 0 0) (jint sc P1))
    (k2 : ∀ (x1 : Int32) (h1 : jH), P1 x1 h1 → JM mX12_throwsIf [.ref 159, .int x1, .int 1] (jG0 sc) h1 (jint sc P2))
    (v1 : ∀ (x1 : Int32) (h1 : jH), P1 x1 h1 → ∀ (x2 : Int32) (h2 : jH), P2 x2 h2 → ¬ x2 = 0 → Q (.inl (some (.int 0))) (jG0 sc) h2)
    (k3 : ∀ (x1 : Int32) (h1 : jH), P1 x1 h1 → ∀ (x2 : Int32) (h2 : jH), P2 x2 h2 → x2 = 0 → JM mX12_in [.int l2, .int 0, .int 2] (jG0 sc) h2 (jint sc P3))
    (k4 : ∀ (x1 : Int32) (h1 : jH), P1 x1 h1 → ∀ (x2 : Int32) (h2 : jH), P2 x2 h2 → x2 = 0 → ∀ (x3 : Int32) (h3 : jH), P3 x3 h3 → ¬ x3 = 0 → JM mX12_throwsIf [.ref 159, .int 0, .int 2] (jG0 sc) h3 (jint sc P4))
    (o1 : ∀ (x1 : Int32) (h1 : jH), P1 x1 h1 → ∀ (x2 : Int32) (h2 : jH), P2 x2 h2 → x2 = 0 → ∀ (x3 : Int32) (h3 : jH), P3 x3 h3 → ¬ x3 = 0 → ∀ (x4 : Int32) (h4 : jH), P4 x4 h4 → x4 = 0 → vp_in ((164 + (3 * l1)) + l2) 1454)
    (v2 : ∀ (x1 : Int32) (h1 : jH), P1 x1 h1 → ∀ (x2 : Int32) (h2 : jH), P2 x2 h2 → x2 = 0 → ∀ (x3 : Int32) (h3 : jH), P3 x3 h3 → ¬ x3 = 0 → ∀ (x4 : Int32) (h4 : jH), P4 x4 h4 → x4 = 0 → Q (.inl (some (.int (h4 160 (((164 + (3 * l1)) + l2).toNatClampNeg))))) (jG0 sc) h4)
    (v3 : ∀ (x1 : Int32) (h1 : jH), P1 x1 h1 → ∀ (x2 : Int32) (h2 : jH), P2 x2 h2 → x2 = 0 → ∀ (x3 : Int32) (h3 : jH), P3 x3 h3 → ¬ x3 = 0 → ∀ (x4 : Int32) (h4 : jH), P4 x4 h4 → ¬ x4 = 0 → Q (.inl (some (.int 0))) (jG0 sc) h4)
    (k5 : ∀ (x1 : Int32) (h1 : jH), P1 x1 h1 → ∀ (x2 : Int32) (h2 : jH), P2 x2 h2 → x2 = 0 → ∀ (x3 : Int32) (h3 : jH), P3 x3 h3 → x3 = 0 → JM mX12_throwsIf [.ref 159, .int 1, .int 2] (jG0 sc) h3 (jint sc P5))
    (o2 : ∀ (x1 : Int32) (h1 : jH), P1 x1 h1 → ∀ (x2 : Int32) (h2 : jH), P2 x2 h2 → x2 = 0 → ∀ (x3 : Int32) (h3 : jH), P3 x3 h3 → x3 = 0 → ∀ (x5 : Int32) (h5 : jH), P5 x5 h5 → x5 = 0 → vp_in ((164 + (3 * l1)) + l2) 1454)
    (v4 : ∀ (x1 : Int32) (h1 : jH), P1 x1 h1 → ∀ (x2 : Int32) (h2 : jH), P2 x2 h2 → x2 = 0 → ∀ (x3 : Int32) (h3 : jH), P3 x3 h3 → x3 = 0 → ∀ (x5 : Int32) (h5 : jH), P5 x5 h5 → x5 = 0 → Q (.inl (some (.int (h5 160 (((164 + (3 * l1)) + l2).toNatClampNeg))))) (jG0 sc) h5)
    (v5 : ∀ (x1 : Int32) (h1 : jH), P1 x1 h1 → ∀ (x2 : Int32) (h2 : jH), P2 x2 h2 → x2 = 0 → ∀ (x3 : Int32) (h3 : jH), P3 x3 h3 → x3 = 0 → ∀ (x5 : Int32) (h5 : jH), P5 x5 h5 → ¬ x5 = 0 → Q (.inl (some (.int 0))) (jG0 sc) h5) :
    WP mX12_alive Q 0 [some (.ref 159), some (.int l1), some (.int l2)] [] (jG0 sc) h (0, 0) := by
  exact (bX12_alive_0 k1 (fun x1 h1 p1 => (k2 x1 h1 p1)) (fun x1 h1 p1 x2 h2 p2 c1 => (bX12_alive_40 (bX12_alive_58 (v1 x1 h1 p1 x2 h2 p2 c1)))) (fun x1 h1 p1 x2 h2 p2 c1 => (bX12_alive_18 (k3 x1 h1 p1 x2 h2 p2 c1) (fun x3 h3 p3 c2 => (bX12_alive_32 (bX12_alive_33 (k4 x1 h1 p1 x2 h2 p2 c1 x3 h3 p3 c2) (fun x4 h4 p4 c3 => (bX12_alive_44 (o1 x1 h1 p1 x2 h2 p2 c1 x3 h3 p3 c2 x4 h4 p4 c3) (bX12_alive_58 (v2 x1 h1 p1 x2 h2 p2 c1 x3 h3 p3 c2 x4 h4 p4 c3)))) (fun x4 h4 p4 c3 => (bX12_alive_40 (bX12_alive_58 (v3 x1 h1 p1 x2 h2 p2 c1 x3 h3 p3 c2 x4 h4 p4 c3))))))) (fun x3 h3 p3 c2 => (bX12_alive_28 (bX12_alive_33 (k5 x1 h1 p1 x2 h2 p2 c1 x3 h3 p3 c2) (fun x5 h5 p5 c4 => (bX12_alive_44 (o2 x1 h1 p1 x2 h2 p2 c1 x3 h3 p3 c2 x5 h5 p5 c4) (bX12_alive_58 (v4 x1 h1 p1 x2 h2 p2 c1 x3 h3 p3 c2 x5 h5 p5 c4)))) (fun x5 h5 p5 c4 => (bX12_alive_40 (bX12_alive_58 (v5 x1 h1 p1 x2 h2 p2 c1 x3 h3 p3 c2 x5 h5 p5 c4))))))))))
theorem dX12_aliveEnds_0 : decode (mC mX12_aliveEnds) 0 = .ok (.aload_n 0, 1) := by decide +kernel
theorem dX12_aliveEnds_1 : decode (mC mX12_aliveEnds) 1 = .ok (.iconst 0, 1) := by decide +kernel
theorem dX12_aliveEnds_2 : decode (mC mX12_aliveEnds) 2 = .ok (.putfield 3, 3) := by decide +kernel
theorem dX12_aliveEnds_5 : decode (mC mX12_aliveEnds) 5 = .ok (.aload_n 0, 1) := by decide +kernel
theorem dX12_aliveEnds_6 : decode (mC mX12_aliveEnds) 6 = .ok (.aload_n 0, 1) := by decide +kernel
theorem dX12_aliveEnds_7 : decode (mC mX12_aliveEnds) 7 = .ok (.iload_n 1, 1) := by decide +kernel
theorem dX12_aliveEnds_8 : decode (mC mX12_aliveEnds) 8 = .ok (.invokevirtual 353, 3) := by decide +kernel
theorem dX12_aliveEnds_11 : decode (mC mX12_aliveEnds) 11 = .ok (.iconst 1, 1) := by decide +kernel
theorem dX12_aliveEnds_12 : decode (mC mX12_aliveEnds) 12 = .ok (.invokevirtual 157, 3) := by decide +kernel
theorem dX12_aliveEnds_15 : decode (mC mX12_aliveEnds) 15 = .ok (.ifCond .eq 5, 3) := by decide +kernel
theorem dX12_aliveEnds_18 : decode (mC mX12_aliveEnds) 18 = .ok (.iconst 0, 1) := by decide +kernel
theorem dX12_aliveEnds_19 : decode (mC mX12_aliveEnds) 19 = .ok (.ireturn, 1) := by decide +kernel
theorem dX12_aliveEnds_20 : decode (mC mX12_aliveEnds) 20 = .ok (.aload_n 0, 1) := by decide +kernel
theorem dX12_aliveEnds_21 : decode (mC mX12_aliveEnds) 21 = .ok (.invokevirtual 319, 3) := by decide +kernel
theorem dX12_aliveEnds_24 : decode (mC mX12_aliveEnds) 24 = .ok (.aload_n 0, 1) := by decide +kernel
theorem dX12_aliveEnds_25 : decode (mC mX12_aliveEnds) 25 = .ok (.iload_n 1, 1) := by decide +kernel
theorem dX12_aliveEnds_26 : decode (mC mX12_aliveEnds) 26 = .ok (.invokevirtual 347, 3) := by decide +kernel
theorem dX12_aliveEnds_29 : decode (mC mX12_aliveEnds) 29 = .ok (.aload_n 0, 1) := by decide +kernel
theorem dX12_aliveEnds_30 : decode (mC mX12_aliveEnds) 30 = .ok (.iload_n 2, 1) := by decide +kernel
theorem dX12_aliveEnds_31 : decode (mC mX12_aliveEnds) 31 = .ok (.iload_n 3, 1) := by decide +kernel
theorem dX12_aliveEnds_32 : decode (mC mX12_aliveEnds) 32 = .ok (.invokevirtual 248, 3) := by decide +kernel
theorem dX12_aliveEnds_35 : decode (mC mX12_aliveEnds) 35 = .ok (.ireturn, 1) := by decide +kernel
set_option maxRecDepth 100000 in
theorem bX12_aliveEnds_0 {sc : Nat × (Nat → Int32)} {h : jH} {Q : jQ} {l1 l2 l3 : Int32} {P1 : Int32 → jH → Prop} {P2 : Int32 → jH → Prop}
    (k1 : JM mX12_noAlive [.ref 159, .int l1] (jG0 sc) (jput h 159 0 0) (jint sc P1))
    (k2 : ∀ (x1 : Int32) (h1 : jH), P1 x1 h1 → JM mX12_throwsIf [.ref 159, .int x1, .int 1] (jG0 sc) h1 (jint sc P2))
    (v1 : ∀ (x1 : Int32) (h1 : jH), P1 x1 h1 → ∀ (x2 : Int32) (h2 : jH), P2 x2 h2 → x2 = 0 → WP mX12_aliveEnds Q 20 [some (.ref 159), some (.int l1), some (.int l2), some (.int l3)] [] (jG0 sc) h2 (0, 0))
    (v2 : ∀ (x1 : Int32) (h1 : jH), P1 x1 h1 → ∀ (x2 : Int32) (h2 : jH), P2 x2 h2 → ¬ x2 = 0 → WP mX12_aliveEnds Q 18 [some (.ref 159), some (.int l1), some (.int l2), some (.int l3)] [] (jG0 sc) h2 (0, 0)) :
    WP mX12_aliveEnds Q 0 [some (.ref 159), some (.int l1), some (.int l2), some (.int l3)] [] (jG0 sc) h (0, 0) := by
  refine j_aload_n (i := 0) rfl dX12_aliveEnds_0 ?_
  refine j_iconst (n := 0) 0 (by decide) dX12_aliveEnds_1 ?_
  refine j_putI (idx := 3) (ci := 12) (k := 0) (nest := false) (show (12, 3, 12, 0, false) ∈ jFT by decide) rfl rfl rfl rfl (Nat.le_of_ble_eq_true rfl) rfl dX12_aliveEnds_2 ?_
  refine j_aload_n (i := 0) rfl dX12_aliveEnds_5 ?_
  refine j_aload_n (i := 0) rfl dX12_aliveEnds_6 ?_
  refine j_iload_n (i := 1) rfl dX12_aliveEnds_7 ?_
  refine j_callV (idx := 353) (As := [.int l1]) (ci := 12) (n := 1) k1 jint_nt (jlkT (jtb8 7 rfl) rfl) sX12_noAlive kX12_noAlive rfl ⟨rfl, by decide +kernel, by decide +kernel, by decide +kernel⟩ rfl ⟨by decide, by decide⟩ (Nat.le_of_ble_eq_true rfl) rfl (Nat.le_of_ble_eq_true rfl) (Nat.le_of_ble_eq_true rfl) ⟨Nat.zero_le _, Nat.zero_le _⟩ dX12_aliveEnds_8 (fun r Γ' h1 q => ?_)
  obtain ⟨x1, q0, rfl, p1⟩ := q; cases q0
  refine j_eqst [.int x1, .ref 159] (by rfl) ?_
  refine j_iconst (n := 1) 1 (by decide) dX12_aliveEnds_11 ?_
  refine j_callV (idx := 157) (As := [.int x1, .int 1]) (ci := 12) (n := 2) (k2 x1 h1 p1) jint_nt (jlkT (jtb7 17 rfl) rfl) sX12_throwsIf kX12_throwsIf rfl ⟨rfl, by decide +kernel, by decide +kernel, by decide +kernel⟩ rfl ⟨by decide, by decide⟩ (Nat.le_of_ble_eq_true rfl) rfl (Nat.le_of_ble_eq_true rfl) (Nat.le_of_ble_eq_true rfl) ⟨Nat.zero_le _, Nat.zero_le _⟩ dX12_aliveEnds_12 (fun r Γ' h2 q => ?_)
  obtain ⟨x2, q0, rfl, p2⟩ := q; cases q0
  refine j_eqst [.int x2] (by rfl) ?_
  refine j_if_eq (off := 5) 20 dX12_aliveEnds_15 (by decide) (fun c1 => ?_) (fun c1 => ?_)
  · exact j_le [some (.ref 159), some (.int l1), some (.int l2), some (.int l3)] (And.intro rfl (And.intro rfl (And.intro rfl (And.intro rfl True.intro)))) (v1 x1 h1 p1 x2 h2 p2 c1)
  · exact j_le [some (.ref 159), some (.int l1), some (.int l2), some (.int l3)] (And.intro rfl (And.intro rfl (And.intro rfl (And.intro rfl True.intro)))) (v2 x1 h1 p1 x2 h2 p2 c1)
set_option maxRecDepth 100000 in
theorem bX12_aliveEnds_18 {sc : Nat × (Nat → Int32)} {h : jH} {Q : jQ} {l1 l2 l3 : Int32}
    (v1 : Q (.inl (some (.int 0))) (jG0 sc) h) :
    WP mX12_aliveEnds Q 18 [some (.ref 159), some (.int l1), some (.int l2), some (.int l3)] [] (jG0 sc) h (0, 0) := by
  refine j_iconst (n := 0) 0 (by decide) dX12_aliveEnds_18 ?_
  exact j_iret rfl rfl (Nat.zero_le _) (Nat.zero_le _) dX12_aliveEnds_19 v1
set_option maxRecDepth 100000 in
theorem bX12_aliveEnds_20 {sc : Nat × (Nat → Int32)} {h : jH} {Q : jQ} {l1 l2 l3 : Int32} {P1 : jH → Prop} {P2 : jH → Prop} {P3 : Int32 → jH → Prop}
    (k1 : JM mX12_listsBody [.ref 159] (jG0 sc) h (jvoid sc P1))
    (k2 : ∀ h1 : jH, P1 h1 → JM mX12_laysAlive [.ref 159, .int l1] (jG0 sc) h1 (jvoid sc P2))
    (k3 : ∀ h1 : jH, P1 h1 → ∀ h2 : jH, P2 h2 → JM mX12_endAt [.ref 159, .int l2, .int l3] (jG0 sc) h2 (jint sc P3))
    (v1 : ∀ h1 : jH, P1 h1 → ∀ h2 : jH, P2 h2 → ∀ (x3 : Int32) (h3 : jH), P3 x3 h3 → Q (.inl (some (.int x3))) (jG0 sc) h3) :
    WP mX12_aliveEnds Q 20 [some (.ref 159), some (.int l1), some (.int l2), some (.int l3)] [] (jG0 sc) h (0, 0) := by
  refine j_aload_n (i := 0) rfl dX12_aliveEnds_20 ?_
  refine j_callV (idx := 319) (As := []) (ci := 12) (n := 0) k1 jvoid_nt (jlkT (jtb7 160 rfl) rfl) sX12_listsBody kX12_listsBody rfl ⟨rfl, by decide +kernel, by decide +kernel, by decide +kernel⟩ rfl ⟨by decide, by decide⟩ (Nat.le_of_ble_eq_true rfl) rfl (Nat.le_of_ble_eq_true rfl) (Nat.le_of_ble_eq_true rfl) ⟨Nat.zero_le _, Nat.zero_le _⟩ dX12_aliveEnds_21 (fun r Γ' h1 q => ?_)
  obtain ⟨q0, rfl, p1⟩ := q; cases q0
  refine j_eqst [] (by rfl) ?_
  refine j_aload_n (i := 0) rfl dX12_aliveEnds_24 ?_
  refine j_iload_n (i := 1) rfl dX12_aliveEnds_25 ?_
  refine j_callV (idx := 347) (As := [.int l1]) (ci := 12) (n := 1) (k2 h1 p1) jvoid_nt (jlkT (jtb7 235 rfl) rfl) sX12_laysAlive kX12_laysAlive rfl ⟨rfl, by decide +kernel, by decide +kernel, by decide +kernel⟩ rfl ⟨by decide, by decide⟩ (Nat.le_of_ble_eq_true rfl) rfl (Nat.le_of_ble_eq_true rfl) (Nat.le_of_ble_eq_true rfl) ⟨Nat.zero_le _, Nat.zero_le _⟩ dX12_aliveEnds_26 (fun r Γ' h2 q => ?_)
  obtain ⟨q0, rfl, p2⟩ := q; cases q0
  refine j_eqst [] (by rfl) ?_
  refine j_aload_n (i := 0) rfl dX12_aliveEnds_29 ?_
  refine j_iload_n (i := 2) rfl dX12_aliveEnds_30 ?_
  refine j_iload_n (i := 3) rfl dX12_aliveEnds_31 ?_
  refine j_callV (idx := 248) (As := [.int l2, .int l3]) (ci := 12) (n := 2) (k3 h1 p1 h2 p2) jint_nt (jlkT (jtb7 71 rfl) rfl) sX12_endAt kX12_endAt rfl ⟨rfl, by decide +kernel, by decide +kernel, by decide +kernel⟩ rfl ⟨by decide, by decide⟩ (Nat.le_of_ble_eq_true rfl) rfl (Nat.le_of_ble_eq_true rfl) (Nat.le_of_ble_eq_true rfl) ⟨Nat.zero_le _, Nat.zero_le _⟩ dX12_aliveEnds_32 (fun r Γ' h3 q => ?_)
  obtain ⟨x3, q0, rfl, p3⟩ := q; cases q0
  refine j_eqst [.int x3] (by rfl) ?_
  exact j_iret rfl rfl (Nat.zero_le _) (Nat.zero_le _) dX12_aliveEnds_35 (v1 h1 p1 h2 p2 x3 h3 p3)
set_option maxRecDepth 100000 in
theorem rX12_aliveEnds_0 {sc : Nat × (Nat → Int32)} {h : jH} {Q : jQ} {l1 l2 l3 : Int32} {P1 : Int32 → jH → Prop} {P2 : Int32 → jH → Prop} {P3 : jH → Prop} {P4 : jH → Prop} {P5 : Int32 → jH → Prop}
    (k1 : JM mX12_noAlive [.ref 159, .int l1] (jG0 sc) (jput h 159 0 0) (jint sc P1))
    (k2 : ∀ (x1 : Int32) (h1 : jH), P1 x1 h1 → JM mX12_throwsIf [.ref 159, .int x1, .int 1] (jG0 sc) h1 (jint sc P2))
    (k3 : ∀ (x1 : Int32) (h1 : jH), P1 x1 h1 → ∀ (x2 : Int32) (h2 : jH), P2 x2 h2 → x2 = 0 → JM mX12_listsBody [.ref 159] (jG0 sc) h2 (jvoid sc P3))
    (k4 : ∀ (x1 : Int32) (h1 : jH), P1 x1 h1 → ∀ (x2 : Int32) (h2 : jH), P2 x2 h2 → x2 = 0 → ∀ h3 : jH, P3 h3 → JM mX12_laysAlive [.ref 159, .int l1] (jG0 sc) h3 (jvoid sc P4))
    (k5 : ∀ (x1 : Int32) (h1 : jH), P1 x1 h1 → ∀ (x2 : Int32) (h2 : jH), P2 x2 h2 → x2 = 0 → ∀ h3 : jH, P3 h3 → ∀ h4 : jH, P4 h4 → JM mX12_endAt [.ref 159, .int l2, .int l3] (jG0 sc) h4 (jint sc P5))
    (v1 : ∀ (x1 : Int32) (h1 : jH), P1 x1 h1 → ∀ (x2 : Int32) (h2 : jH), P2 x2 h2 → x2 = 0 → ∀ h3 : jH, P3 h3 → ∀ h4 : jH, P4 h4 → ∀ (x5 : Int32) (h5 : jH), P5 x5 h5 → Q (.inl (some (.int x5))) (jG0 sc) h5)
    (v2 : ∀ (x1 : Int32) (h1 : jH), P1 x1 h1 → ∀ (x2 : Int32) (h2 : jH), P2 x2 h2 → ¬ x2 = 0 → Q (.inl (some (.int 0))) (jG0 sc) h2) :
    WP mX12_aliveEnds Q 0 [some (.ref 159), some (.int l1), some (.int l2), some (.int l3)] [] (jG0 sc) h (0, 0) := by
  exact (bX12_aliveEnds_0 k1 (fun x1 h1 p1 => (k2 x1 h1 p1)) (fun x1 h1 p1 x2 h2 p2 c1 => (bX12_aliveEnds_20 (k3 x1 h1 p1 x2 h2 p2 c1) (fun h3 p3 => (k4 x1 h1 p1 x2 h2 p2 c1 h3 p3)) (fun h3 p3 h4 p4 => (k5 x1 h1 p1 x2 h2 p2 c1 h3 p3 h4 p4)) (fun h3 p3 h4 p4 x5 h5 p5 => (v1 x1 h1 p1 x2 h2 p2 c1 h3 p3 h4 p4 x5 h5 p5)))) (fun x1 h1 p1 x2 h2 p2 c1 => (bX12_aliveEnds_18 (v2 x1 h1 p1 x2 h2 p2 c1))))
theorem dX12_teach_0 : decode (mC mX12_teach) 0 = .ok (.aload_n 0, 1) := by decide +kernel
theorem dX12_teach_1 : decode (mC mX12_teach) 1 = .ok (.iconst 0, 1) := by decide +kernel
theorem dX12_teach_2 : decode (mC mX12_teach) 2 = .ok (.putfield 3, 3) := by decide +kernel
theorem dX12_teach_5 : decode (mC mX12_teach) 5 = .ok (.aload_n 0, 1) := by decide +kernel
theorem dX12_teach_6 : decode (mC mX12_teach) 6 = .ok (.iload_n 1, 1) := by decide +kernel
theorem dX12_teach_7 : decode (mC mX12_teach) 7 = .ok (.iconst 0, 1) := by decide +kernel
theorem dX12_teach_8 : decode (mC mX12_teach) 8 = .ok (.iconst 5, 1) := by decide +kernel
theorem dX12_teach_9 : decode (mC mX12_teach) 9 = .ok (.invokestatic 206, 3) := by decide +kernel
theorem dX12_teach_12 : decode (mC mX12_teach) 12 = .ok (.ifCond .ne 7, 3) := by decide +kernel
theorem dX12_teach_15 : decode (mC mX12_teach) 15 = .ok (.iconst 1, 1) := by decide +kernel
theorem dX12_teach_16 : decode (mC mX12_teach) 16 = .ok (.goto 4, 3) := by decide +kernel
theorem dX12_teach_19 : decode (mC mX12_teach) 19 = .ok (.iconst 0, 1) := by decide +kernel
theorem dX12_teach_20 : decode (mC mX12_teach) 20 = .ok (.iconst 1, 1) := by decide +kernel
theorem dX12_teach_21 : decode (mC mX12_teach) 21 = .ok (.invokevirtual 157, 3) := by decide +kernel
theorem dX12_teach_24 : decode (mC mX12_teach) 24 = .ok (.ifCond .eq 5, 3) := by decide +kernel
theorem dX12_teach_27 : decode (mC mX12_teach) 27 = .ok (.iconst 0, 1) := by decide +kernel
theorem dX12_teach_28 : decode (mC mX12_teach) 28 = .ok (.ireturn, 1) := by decide +kernel
theorem dX12_teach_29 : decode (mC mX12_teach) 29 = .ok (.aload_n 0, 1) := by decide +kernel
theorem dX12_teach_30 : decode (mC mX12_teach) 30 = .ok (.getfield 13, 3) := by decide +kernel
theorem dX12_teach_33 : decode (mC mX12_teach) 33 = .ok (.sipush 279, 3) := by decide +kernel
theorem dX12_teach_36 : decode (mC mX12_teach) 36 = .ok (.iload_n 1, 1) := by decide +kernel
theorem dX12_teach_37 : decode (mC mX12_teach) 37 = .ok (.iadd, 1) := by decide +kernel
theorem dX12_teach_38 : decode (mC mX12_teach) 38 = .ok (.dup2, 1) := by decide +kernel
theorem dX12_teach_39 : decode (mC mX12_teach) 39 = .ok (.iaload, 1) := by decide +kernel
theorem dX12_teach_40 : decode (mC mX12_teach) 40 = .ok (.iconst 1, 1) := by decide +kernel
theorem dX12_teach_41 : decode (mC mX12_teach) 41 = .ok (.iadd, 1) := by decide +kernel
theorem dX12_teach_42 : decode (mC mX12_teach) 42 = .ok (.iastore, 1) := by decide +kernel
theorem dX12_teach_43 : decode (mC mX12_teach) 43 = .ok (.aload_n 0, 1) := by decide +kernel
theorem dX12_teach_44 : decode (mC mX12_teach) 44 = .ok (.getfield 13, 3) := by decide +kernel
theorem dX12_teach_47 : decode (mC mX12_teach) 47 = .ok (.sipush 279, 3) := by decide +kernel
theorem dX12_teach_50 : decode (mC mX12_teach) 50 = .ok (.iload_n 1, 1) := by decide +kernel
theorem dX12_teach_51 : decode (mC mX12_teach) 51 = .ok (.iadd, 1) := by decide +kernel
theorem dX12_teach_52 : decode (mC mX12_teach) 52 = .ok (.iaload, 1) := by decide +kernel
theorem dX12_teach_53 : decode (mC mX12_teach) 53 = .ok (.ireturn, 1) := by decide +kernel
set_option maxRecDepth 100000 in
theorem bX12_teach_0 {sc : Nat × (Nat → Int32)} {h : jH} {Q : jQ} {l1 : Int32} {P1 : Int32 → jH → Prop}
    (k1 : JM mX12_in [.int l1, .int 0, .int 5] (jG0 sc) (jput h 159 0 0) (jint sc P1))
    (v1 : ∀ (x1 : Int32) (h1 : jH), P1 x1 h1 → ¬ x1 = 0 → WP mX12_teach Q 19 [some (.ref 159), some (.int l1)] [.ref 159] (jG0 sc) h1 (0, 0))
    (v2 : ∀ (x1 : Int32) (h1 : jH), P1 x1 h1 → x1 = 0 → WP mX12_teach Q 15 [some (.ref 159), some (.int l1)] [.ref 159] (jG0 sc) h1 (0, 0)) :
    WP mX12_teach Q 0 [some (.ref 159), some (.int l1)] [] (jG0 sc) h (0, 0) := by
  refine j_aload_n (i := 0) rfl dX12_teach_0 ?_
  refine j_iconst (n := 0) 0 (by decide) dX12_teach_1 ?_
  refine j_putI (idx := 3) (ci := 12) (k := 0) (nest := false) (show (12, 3, 12, 0, false) ∈ jFT by decide) rfl rfl rfl rfl (Nat.le_of_ble_eq_true rfl) rfl dX12_teach_2 ?_
  refine j_aload_n (i := 0) rfl dX12_teach_5 ?_
  refine j_iload_n (i := 1) rfl dX12_teach_6 ?_
  refine j_iconst (n := 0) 0 (by decide) dX12_teach_7 ?_
  refine j_iconst (n := 5) 5 (by decide) dX12_teach_8 ?_
  refine j_callS (idx := 206) (As := [.int l1, .int 0, .int 5]) (n := 3) k1 jint_nt (jlkT (jtb7 84 rfl) rfl) sX12_in kX12_in rfl ⟨by decide +kernel, by decide +kernel, by decide +kernel⟩ rfl ⟨by decide, by decide⟩ (Nat.le_of_ble_eq_true rfl) ⟨Nat.zero_le _, Nat.zero_le _⟩ dX12_teach_9 (fun r Γ' h1 q => ?_)
  obtain ⟨x1, q0, rfl, p1⟩ := q; cases q0
  refine j_eqst [.int x1, .ref 159] (by rfl) ?_
  refine j_if_ne (off := 7) 19 dX12_teach_12 (by decide) (fun c1 => ?_) (fun c1 => ?_)
  · exact j_le [some (.ref 159), some (.int l1)] (And.intro rfl (And.intro rfl True.intro)) (v1 x1 h1 p1 c1)
  · exact j_le [some (.ref 159), some (.int l1)] (And.intro rfl (And.intro rfl True.intro)) (v2 x1 h1 p1 c1)
set_option maxRecDepth 100000 in
theorem bX12_teach_15 {sc : Nat × (Nat → Int32)} {h : jH} {Q : jQ} {l1 : Int32}
    (v1 : WP mX12_teach Q 20 [some (.ref 159), some (.int l1)] [.int 1, .ref 159] (jG0 sc) h (0, 0)) :
    WP mX12_teach Q 15 [some (.ref 159), some (.int l1)] [.ref 159] (jG0 sc) h (0, 0) := by
  refine j_iconst (n := 1) 1 (by decide) dX12_teach_15 ?_
  refine j_goto (off := 4) 20 dX12_teach_16 (by decide) ?_
  exact j_le [some (.ref 159), some (.int l1)] (And.intro rfl (And.intro rfl True.intro)) v1
set_option maxRecDepth 100000 in
theorem bX12_teach_19 {sc : Nat × (Nat → Int32)} {h : jH} {Q : jQ} {l1 : Int32}
    (v1 : WP mX12_teach Q 20 [some (.ref 159), some (.int l1)] [.int 0, .ref 159] (jG0 sc) h (0, 0)) :
    WP mX12_teach Q 19 [some (.ref 159), some (.int l1)] [.ref 159] (jG0 sc) h (0, 0) := by
  refine j_iconst (n := 0) 0 (by decide) dX12_teach_19 ?_
  exact j_le [some (.ref 159), some (.int l1)] (And.intro rfl (And.intro rfl True.intro)) v1
set_option maxRecDepth 100000 in
theorem bX12_teach_20 {sc : Nat × (Nat → Int32)} {h : jH} {Q : jQ} {l1 s0 : Int32} {P1 : Int32 → jH → Prop}
    (k1 : JM mX12_throwsIf [.ref 159, .int s0, .int 1] (jG0 sc) h (jint sc P1))
    (v1 : ∀ (x1 : Int32) (h1 : jH), P1 x1 h1 → x1 = 0 → WP mX12_teach Q 29 [some (.ref 159), some (.int l1)] [] (jG0 sc) h1 (0, 0))
    (v2 : ∀ (x1 : Int32) (h1 : jH), P1 x1 h1 → ¬ x1 = 0 → WP mX12_teach Q 27 [some (.ref 159), some (.int l1)] [] (jG0 sc) h1 (0, 0)) :
    WP mX12_teach Q 20 [some (.ref 159), some (.int l1)] [.int s0, .ref 159] (jG0 sc) h (0, 0) := by
  refine j_iconst (n := 1) 1 (by decide) dX12_teach_20 ?_
  refine j_callV (idx := 157) (As := [.int s0, .int 1]) (ci := 12) (n := 2) k1 jint_nt (jlkT (jtb7 17 rfl) rfl) sX12_throwsIf kX12_throwsIf rfl ⟨rfl, by decide +kernel, by decide +kernel, by decide +kernel⟩ rfl ⟨by decide, by decide⟩ (Nat.le_of_ble_eq_true rfl) rfl (Nat.le_of_ble_eq_true rfl) (Nat.le_of_ble_eq_true rfl) ⟨Nat.zero_le _, Nat.zero_le _⟩ dX12_teach_21 (fun r Γ' h1 q => ?_)
  obtain ⟨x1, q0, rfl, p1⟩ := q; cases q0
  refine j_eqst [.int x1] (by rfl) ?_
  refine j_if_eq (off := 5) 29 dX12_teach_24 (by decide) (fun c1 => ?_) (fun c1 => ?_)
  · exact j_le [some (.ref 159), some (.int l1)] (And.intro rfl (And.intro rfl True.intro)) (v1 x1 h1 p1 c1)
  · exact j_le [some (.ref 159), some (.int l1)] (And.intro rfl (And.intro rfl True.intro)) (v2 x1 h1 p1 c1)
set_option maxRecDepth 100000 in
theorem bX12_teach_27 {sc : Nat × (Nat → Int32)} {h : jH} {Q : jQ} {l1 : Int32}
    (v1 : Q (.inl (some (.int 0))) (jG0 sc) h) :
    WP mX12_teach Q 27 [some (.ref 159), some (.int l1)] [] (jG0 sc) h (0, 0) := by
  refine j_iconst (n := 0) 0 (by decide) dX12_teach_27 ?_
  exact j_iret rfl rfl (Nat.zero_le _) (Nat.zero_le _) dX12_teach_28 v1
set_option maxRecDepth 100000 in
theorem bX12_teach_29 {sc : Nat × (Nat → Int32)} {h : jH} {Q : jQ} {l1 : Int32}
    (o1 : vp_in (279 + l1) 1454)
    (o2 : vp_in (279 + l1) 1454)
    (o3 : vp_in (279 + l1) 1454)
    (v1 : Q (.inl (some (.int ((jput h 160 ((279 + l1).toNatClampNeg) ((h 160 ((279 + l1).toNatClampNeg)) + 1)) 160 ((279 + l1).toNatClampNeg))))) (jG0 sc) (jput h 160 ((279 + l1).toNatClampNeg) ((h 160 ((279 + l1).toNatClampNeg)) + 1))) :
    WP mX12_teach Q 29 [some (.ref 159), some (.int l1)] [] (jG0 sc) h (0, 0) := by
  refine j_aload_n (i := 0) rfl dX12_teach_29 ?_
  refine j_getR (idx := 13) (ci := 12) (k := 1) (nest := false) (show (12, 13, 12, 1, false) ∈ jFT by decide) rfl (Nat.le_of_ble_eq_true rfl) rfl (a := 160) rfl dX12_teach_30 ?_
  refine j_sipush (n := 279) 279 (by decide) dX12_teach_33 ?_
  refine j_iload_n (i := 1) rfl dX12_teach_36 ?_
  refine j_iadd dX12_teach_37 ?_
  refine j_dup2 rfl rfl dX12_teach_38 ?_
  refine j_iald (Nat.le_of_ble_eq_true rfl) rfl o1 dX12_teach_39 ?_
  refine j_iconst (n := 1) 1 (by decide) dX12_teach_40 ?_
  refine j_iadd dX12_teach_41 ?_
  refine j_iast (Nat.le_of_ble_eq_true rfl) rfl o2 dX12_teach_42 ?_
  refine j_aload_n (i := 0) rfl dX12_teach_43 ?_
  refine j_getR (idx := 13) (ci := 12) (k := 1) (nest := false) (show (12, 13, 12, 1, false) ∈ jFT by decide) rfl (Nat.le_of_ble_eq_true rfl) rfl (a := 160) rfl dX12_teach_44 ?_
  refine j_sipush (n := 279) 279 (by decide) dX12_teach_47 ?_
  refine j_iload_n (i := 1) rfl dX12_teach_50 ?_
  refine j_iadd dX12_teach_51 ?_
  refine j_iald (Nat.le_of_ble_eq_true rfl) rfl o3 dX12_teach_52 ?_
  exact j_iret rfl rfl (Nat.zero_le _) (Nat.zero_le _) dX12_teach_53 v1
set_option maxRecDepth 100000 in
theorem rX12_teach_0 {sc : Nat × (Nat → Int32)} {h : jH} {Q : jQ} {l1 : Int32} {P1 : Int32 → jH → Prop} {P2 : Int32 → jH → Prop} {P3 : Int32 → jH → Prop}
    (k1 : JM mX12_in [.int l1, .int 0, .int 5] (jG0 sc) (jput h 159 0 0) (jint sc P1))
    (k2 : ∀ (x1 : Int32) (h1 : jH), P1 x1 h1 → ¬ x1 = 0 → JM mX12_throwsIf [.ref 159, .int 0, .int 1] (jG0 sc) h1 (jint sc P2))
    (o1 : ∀ (x1 : Int32) (h1 : jH), P1 x1 h1 → ¬ x1 = 0 → ∀ (x2 : Int32) (h2 : jH), P2 x2 h2 → x2 = 0 → vp_in (279 + l1) 1454)
    (v1 : ∀ (x1 : Int32) (h1 : jH), P1 x1 h1 → ¬ x1 = 0 → ∀ (x2 : Int32) (h2 : jH), P2 x2 h2 → x2 = 0 → Q (.inl (some (.int ((jput h2 160 ((279 + l1).toNatClampNeg) ((h2 160 ((279 + l1).toNatClampNeg)) + 1)) 160 ((279 + l1).toNatClampNeg))))) (jG0 sc) (jput h2 160 ((279 + l1).toNatClampNeg) ((h2 160 ((279 + l1).toNatClampNeg)) + 1)))
    (v2 : ∀ (x1 : Int32) (h1 : jH), P1 x1 h1 → ¬ x1 = 0 → ∀ (x2 : Int32) (h2 : jH), P2 x2 h2 → ¬ x2 = 0 → Q (.inl (some (.int 0))) (jG0 sc) h2)
    (k3 : ∀ (x1 : Int32) (h1 : jH), P1 x1 h1 → x1 = 0 → JM mX12_throwsIf [.ref 159, .int 1, .int 1] (jG0 sc) h1 (jint sc P3))
    (o2 : ∀ (x1 : Int32) (h1 : jH), P1 x1 h1 → x1 = 0 → ∀ (x3 : Int32) (h3 : jH), P3 x3 h3 → x3 = 0 → vp_in (279 + l1) 1454)
    (v3 : ∀ (x1 : Int32) (h1 : jH), P1 x1 h1 → x1 = 0 → ∀ (x3 : Int32) (h3 : jH), P3 x3 h3 → x3 = 0 → Q (.inl (some (.int ((jput h3 160 ((279 + l1).toNatClampNeg) ((h3 160 ((279 + l1).toNatClampNeg)) + 1)) 160 ((279 + l1).toNatClampNeg))))) (jG0 sc) (jput h3 160 ((279 + l1).toNatClampNeg) ((h3 160 ((279 + l1).toNatClampNeg)) + 1)))
    (v4 : ∀ (x1 : Int32) (h1 : jH), P1 x1 h1 → x1 = 0 → ∀ (x3 : Int32) (h3 : jH), P3 x3 h3 → ¬ x3 = 0 → Q (.inl (some (.int 0))) (jG0 sc) h3) :
    WP mX12_teach Q 0 [some (.ref 159), some (.int l1)] [] (jG0 sc) h (0, 0) := by
  exact (bX12_teach_0 k1 (fun x1 h1 p1 c1 => (bX12_teach_19 (bX12_teach_20 (k2 x1 h1 p1 c1) (fun x2 h2 p2 c2 => (bX12_teach_29 (o1 x1 h1 p1 c1 x2 h2 p2 c2) (o1 x1 h1 p1 c1 x2 h2 p2 c2) (o1 x1 h1 p1 c1 x2 h2 p2 c2) (v1 x1 h1 p1 c1 x2 h2 p2 c2))) (fun x2 h2 p2 c2 => (bX12_teach_27 (v2 x1 h1 p1 c1 x2 h2 p2 c2)))))) (fun x1 h1 p1 c1 => (bX12_teach_15 (bX12_teach_20 (k3 x1 h1 p1 c1) (fun x3 h3 p3 c3 => (bX12_teach_29 (o2 x1 h1 p1 c1 x3 h3 p3 c3) (o2 x1 h1 p1 c1 x3 h3 p3 c3) (o2 x1 h1 p1 c1 x3 h3 p3 c3) (v3 x1 h1 p1 c1 x3 h3 p3 c3))) (fun x3 h3 p3 c3 => (bX12_teach_27 (v4 x1 h1 p1 c1 x3 h3 p3 c3)))))))
theorem dX12_isAhead_0 : decode (mC mX12_isAhead) 0 = .ok (.aload_n 0, 1) := by decide +kernel
theorem dX12_isAhead_1 : decode (mC mX12_isAhead) 1 = .ok (.getfield 13, 3) := by decide +kernel
theorem dX12_isAhead_4 : decode (mC mX12_isAhead) 4 = .ok (.sipush 279, 3) := by decide +kernel
theorem dX12_isAhead_7 : decode (mC mX12_isAhead) 7 = .ok (.iload_n 1, 1) := by decide +kernel
theorem dX12_isAhead_8 : decode (mC mX12_isAhead) 8 = .ok (.iadd, 1) := by decide +kernel
theorem dX12_isAhead_9 : decode (mC mX12_isAhead) 9 = .ok (.iaload, 1) := by decide +kernel
theorem dX12_isAhead_10 : decode (mC mX12_isAhead) 10 = .ok (.aload_n 0, 1) := by decide +kernel
theorem dX12_isAhead_11 : decode (mC mX12_isAhead) 11 = .ok (.getfield 13, 3) := by decide +kernel
theorem dX12_isAhead_14 : decode (mC mX12_isAhead) 14 = .ok (.sipush 279, 3) := by decide +kernel
theorem dX12_isAhead_17 : decode (mC mX12_isAhead) 17 = .ok (.iload_n 2, 1) := by decide +kernel
theorem dX12_isAhead_18 : decode (mC mX12_isAhead) 18 = .ok (.iadd, 1) := by decide +kernel
theorem dX12_isAhead_19 : decode (mC mX12_isAhead) 19 = .ok (.iaload, 1) := by decide +kernel
theorem dX12_isAhead_20 : decode (mC mX12_isAhead) 20 = .ok (.if_icmp .gt 31, 3) := by decide +kernel
theorem dX12_isAhead_23 : decode (mC mX12_isAhead) 23 = .ok (.aload_n 0, 1) := by decide +kernel
theorem dX12_isAhead_24 : decode (mC mX12_isAhead) 24 = .ok (.getfield 13, 3) := by decide +kernel
theorem dX12_isAhead_27 : decode (mC mX12_isAhead) 27 = .ok (.sipush 279, 3) := by decide +kernel
theorem dX12_isAhead_30 : decode (mC mX12_isAhead) 30 = .ok (.iload_n 1, 1) := by decide +kernel
theorem dX12_isAhead_31 : decode (mC mX12_isAhead) 31 = .ok (.iadd, 1) := by decide +kernel
theorem dX12_isAhead_32 : decode (mC mX12_isAhead) 32 = .ok (.iaload, 1) := by decide +kernel
theorem dX12_isAhead_33 : decode (mC mX12_isAhead) 33 = .ok (.aload_n 0, 1) := by decide +kernel
theorem dX12_isAhead_34 : decode (mC mX12_isAhead) 34 = .ok (.getfield 13, 3) := by decide +kernel
theorem dX12_isAhead_37 : decode (mC mX12_isAhead) 37 = .ok (.sipush 279, 3) := by decide +kernel
theorem dX12_isAhead_40 : decode (mC mX12_isAhead) 40 = .ok (.iload_n 2, 1) := by decide +kernel
theorem dX12_isAhead_41 : decode (mC mX12_isAhead) 41 = .ok (.iadd, 1) := by decide +kernel
theorem dX12_isAhead_42 : decode (mC mX12_isAhead) 42 = .ok (.iaload, 1) := by decide +kernel
theorem dX12_isAhead_43 : decode (mC mX12_isAhead) 43 = .ok (.if_icmp .ne 12, 3) := by decide +kernel
theorem dX12_isAhead_46 : decode (mC mX12_isAhead) 46 = .ok (.iload_n 1, 1) := by decide +kernel
theorem dX12_isAhead_47 : decode (mC mX12_isAhead) 47 = .ok (.iload_n 2, 1) := by decide +kernel
theorem dX12_isAhead_48 : decode (mC mX12_isAhead) 48 = .ok (.if_icmp .ge 7, 3) := by decide +kernel
theorem dX12_isAhead_51 : decode (mC mX12_isAhead) 51 = .ok (.iconst 1, 1) := by decide +kernel
theorem dX12_isAhead_52 : decode (mC mX12_isAhead) 52 = .ok (.goto 4, 3) := by decide +kernel
theorem dX12_isAhead_55 : decode (mC mX12_isAhead) 55 = .ok (.iconst 0, 1) := by decide +kernel
theorem dX12_isAhead_56 : decode (mC mX12_isAhead) 56 = .ok (.ireturn, 1) := by decide +kernel
set_option maxRecDepth 100000 in
theorem bX12_isAhead_0 {sc : Nat × (Nat → Int32)} {h : jH} {Q : jQ} {l1 l2 : Int32}
    (o1 : vp_in (279 + l1) 1454)
    (o2 : vp_in (279 + l2) 1454)
    (v1 : (h 160 ((279 + l2).toNatClampNeg)) < (h 160 ((279 + l1).toNatClampNeg)) → WP mX12_isAhead Q 51 [some (.ref 159), some (.int l1), some (.int l2)] [] (jG0 sc) h (0, 0))
    (v2 : ¬ (h 160 ((279 + l2).toNatClampNeg)) < (h 160 ((279 + l1).toNatClampNeg)) → WP mX12_isAhead Q 23 [some (.ref 159), some (.int l1), some (.int l2)] [] (jG0 sc) h (0, 0)) :
    WP mX12_isAhead Q 0 [some (.ref 159), some (.int l1), some (.int l2)] [] (jG0 sc) h (0, 0) := by
  refine j_aload_n (i := 0) rfl dX12_isAhead_0 ?_
  refine j_getR (idx := 13) (ci := 12) (k := 1) (nest := false) (show (12, 13, 12, 1, false) ∈ jFT by decide) rfl (Nat.le_of_ble_eq_true rfl) rfl (a := 160) rfl dX12_isAhead_1 ?_
  refine j_sipush (n := 279) 279 (by decide) dX12_isAhead_4 ?_
  refine j_iload_n (i := 1) rfl dX12_isAhead_7 ?_
  refine j_iadd dX12_isAhead_8 ?_
  refine j_iald (Nat.le_of_ble_eq_true rfl) rfl o1 dX12_isAhead_9 ?_
  refine j_aload_n (i := 0) rfl dX12_isAhead_10 ?_
  refine j_getR (idx := 13) (ci := 12) (k := 1) (nest := false) (show (12, 13, 12, 1, false) ∈ jFT by decide) rfl (Nat.le_of_ble_eq_true rfl) rfl (a := 160) rfl dX12_isAhead_11 ?_
  refine j_sipush (n := 279) 279 (by decide) dX12_isAhead_14 ?_
  refine j_iload_n (i := 2) rfl dX12_isAhead_17 ?_
  refine j_iadd dX12_isAhead_18 ?_
  refine j_iald (Nat.le_of_ble_eq_true rfl) rfl o2 dX12_isAhead_19 ?_
  refine j_icmp_gt (off := 31) 51 dX12_isAhead_20 (by decide) (fun c1 => ?_) (fun c1 => ?_)
  · exact j_le [some (.ref 159), some (.int l1), some (.int l2)] (And.intro rfl (And.intro rfl (And.intro rfl True.intro))) (v1 c1)
  · exact j_le [some (.ref 159), some (.int l1), some (.int l2)] (And.intro rfl (And.intro rfl (And.intro rfl True.intro))) (v2 c1)
set_option maxRecDepth 100000 in
theorem bX12_isAhead_23 {sc : Nat × (Nat → Int32)} {h : jH} {Q : jQ} {l1 l2 : Int32}
    (o1 : vp_in (279 + l1) 1454)
    (o2 : vp_in (279 + l2) 1454)
    (v1 : ¬ (h 160 ((279 + l1).toNatClampNeg)) = (h 160 ((279 + l2).toNatClampNeg)) → WP mX12_isAhead Q 55 [some (.ref 159), some (.int l1), some (.int l2)] [] (jG0 sc) h (0, 0))
    (v2 : (h 160 ((279 + l1).toNatClampNeg)) = (h 160 ((279 + l2).toNatClampNeg)) → WP mX12_isAhead Q 46 [some (.ref 159), some (.int l1), some (.int l2)] [] (jG0 sc) h (0, 0)) :
    WP mX12_isAhead Q 23 [some (.ref 159), some (.int l1), some (.int l2)] [] (jG0 sc) h (0, 0) := by
  refine j_aload_n (i := 0) rfl dX12_isAhead_23 ?_
  refine j_getR (idx := 13) (ci := 12) (k := 1) (nest := false) (show (12, 13, 12, 1, false) ∈ jFT by decide) rfl (Nat.le_of_ble_eq_true rfl) rfl (a := 160) rfl dX12_isAhead_24 ?_
  refine j_sipush (n := 279) 279 (by decide) dX12_isAhead_27 ?_
  refine j_iload_n (i := 1) rfl dX12_isAhead_30 ?_
  refine j_iadd dX12_isAhead_31 ?_
  refine j_iald (Nat.le_of_ble_eq_true rfl) rfl o1 dX12_isAhead_32 ?_
  refine j_aload_n (i := 0) rfl dX12_isAhead_33 ?_
  refine j_getR (idx := 13) (ci := 12) (k := 1) (nest := false) (show (12, 13, 12, 1, false) ∈ jFT by decide) rfl (Nat.le_of_ble_eq_true rfl) rfl (a := 160) rfl dX12_isAhead_34 ?_
  refine j_sipush (n := 279) 279 (by decide) dX12_isAhead_37 ?_
  refine j_iload_n (i := 2) rfl dX12_isAhead_40 ?_
  refine j_iadd dX12_isAhead_41 ?_
  refine j_iald (Nat.le_of_ble_eq_true rfl) rfl o2 dX12_isAhead_42 ?_
  refine j_icmp_ne (off := 12) 55 dX12_isAhead_43 (by decide) (fun c1 => ?_) (fun c1 => ?_)
  · exact j_le [some (.ref 159), some (.int l1), some (.int l2)] (And.intro rfl (And.intro rfl (And.intro rfl True.intro))) (v1 c1)
  · exact j_le [some (.ref 159), some (.int l1), some (.int l2)] (And.intro rfl (And.intro rfl (And.intro rfl True.intro))) (v2 c1)
set_option maxRecDepth 100000 in
theorem bX12_isAhead_46 {sc : Nat × (Nat → Int32)} {h : jH} {Q : jQ} {l1 l2 : Int32}
    (v1 : l2 ≤ l1 → WP mX12_isAhead Q 55 [some (.ref 159), some (.int l1), some (.int l2)] [] (jG0 sc) h (0, 0))
    (v2 : ¬ l2 ≤ l1 → WP mX12_isAhead Q 51 [some (.ref 159), some (.int l1), some (.int l2)] [] (jG0 sc) h (0, 0)) :
    WP mX12_isAhead Q 46 [some (.ref 159), some (.int l1), some (.int l2)] [] (jG0 sc) h (0, 0) := by
  refine j_iload_n (i := 1) rfl dX12_isAhead_46 ?_
  refine j_iload_n (i := 2) rfl dX12_isAhead_47 ?_
  refine j_icmp_ge (off := 7) 55 dX12_isAhead_48 (by decide) (fun c1 => ?_) (fun c1 => ?_)
  · exact j_le [some (.ref 159), some (.int l1), some (.int l2)] (And.intro rfl (And.intro rfl (And.intro rfl True.intro))) (v1 c1)
  · exact j_le [some (.ref 159), some (.int l1), some (.int l2)] (And.intro rfl (And.intro rfl (And.intro rfl True.intro))) (v2 c1)
set_option maxRecDepth 100000 in
theorem bX12_isAhead_51 {sc : Nat × (Nat → Int32)} {h : jH} {Q : jQ} {l1 l2 : Int32}
    (v1 : WP mX12_isAhead Q 56 [some (.ref 159), some (.int l1), some (.int l2)] [.int 1] (jG0 sc) h (0, 0)) :
    WP mX12_isAhead Q 51 [some (.ref 159), some (.int l1), some (.int l2)] [] (jG0 sc) h (0, 0) := by
  refine j_iconst (n := 1) 1 (by decide) dX12_isAhead_51 ?_
  refine j_goto (off := 4) 56 dX12_isAhead_52 (by decide) ?_
  exact j_le [some (.ref 159), some (.int l1), some (.int l2)] (And.intro rfl (And.intro rfl (And.intro rfl True.intro))) v1
set_option maxRecDepth 100000 in
theorem bX12_isAhead_55 {sc : Nat × (Nat → Int32)} {h : jH} {Q : jQ} {l1 l2 : Int32}
    (v1 : WP mX12_isAhead Q 56 [some (.ref 159), some (.int l1), some (.int l2)] [.int 0] (jG0 sc) h (0, 0)) :
    WP mX12_isAhead Q 55 [some (.ref 159), some (.int l1), some (.int l2)] [] (jG0 sc) h (0, 0) := by
  refine j_iconst (n := 0) 0 (by decide) dX12_isAhead_55 ?_
  exact j_le [some (.ref 159), some (.int l1), some (.int l2)] (And.intro rfl (And.intro rfl (And.intro rfl True.intro))) v1
set_option maxRecDepth 100000 in
theorem bX12_isAhead_56 {sc : Nat × (Nat → Int32)} {h : jH} {Q : jQ} {l1 l2 s0 : Int32}
    (o1 : s0 = 0 ∨ s0 = 1)
    (v1 : Q (.inl (some (.int s0))) (jG0 sc) h) :
    WP mX12_isAhead Q 56 [some (.ref 159), some (.int l1), some (.int l2)] [.int s0] (jG0 sc) h (0, 0) := by
  exact j_iret rfl (jbn o1) (Nat.zero_le _) (Nat.zero_le _) dX12_isAhead_56 v1
set_option maxRecDepth 100000 in
theorem rX12_isAhead_0 {sc : Nat × (Nat → Int32)} {h : jH} {Q : jQ} {l1 l2 : Int32}
    (o1 : vp_in (279 + l1) 1454)
    (o2 : vp_in (279 + l2) 1454)
    (v1 : (h 160 ((279 + l2).toNatClampNeg)) < (h 160 ((279 + l1).toNatClampNeg)) → Q (.inl (some (.int 1))) (jG0 sc) h)
    (o3 : ¬ (h 160 ((279 + l2).toNatClampNeg)) < (h 160 ((279 + l1).toNatClampNeg)) → vp_in (279 + l1) 1454)
    (o4 : ¬ (h 160 ((279 + l2).toNatClampNeg)) < (h 160 ((279 + l1).toNatClampNeg)) → vp_in (279 + l2) 1454)
    (v2 : ¬ (h 160 ((279 + l2).toNatClampNeg)) < (h 160 ((279 + l1).toNatClampNeg)) → ¬ (h 160 ((279 + l1).toNatClampNeg)) = (h 160 ((279 + l2).toNatClampNeg)) → Q (.inl (some (.int 0))) (jG0 sc) h)
    (v3 : ¬ (h 160 ((279 + l2).toNatClampNeg)) < (h 160 ((279 + l1).toNatClampNeg)) → (h 160 ((279 + l1).toNatClampNeg)) = (h 160 ((279 + l2).toNatClampNeg)) → l2 ≤ l1 → Q (.inl (some (.int 0))) (jG0 sc) h)
    (v4 : ¬ (h 160 ((279 + l2).toNatClampNeg)) < (h 160 ((279 + l1).toNatClampNeg)) → (h 160 ((279 + l1).toNatClampNeg)) = (h 160 ((279 + l2).toNatClampNeg)) → ¬ l2 ≤ l1 → Q (.inl (some (.int 1))) (jG0 sc) h) :
    WP mX12_isAhead Q 0 [some (.ref 159), some (.int l1), some (.int l2)] [] (jG0 sc) h (0, 0) := by
  exact (bX12_isAhead_0 o1 o2 (fun c1 => (bX12_isAhead_51 (bX12_isAhead_56 (by decide) (v1 c1)))) (fun c1 => (bX12_isAhead_23 (o3 c1) (o4 c1) (fun c2 => (bX12_isAhead_55 (bX12_isAhead_56 (by decide) (v2 c1 c2)))) (fun c2 => (bX12_isAhead_46 (fun c3 => (bX12_isAhead_55 (bX12_isAhead_56 (by decide) (v3 c1 c2 c3)))) (fun c3 => (bX12_isAhead_51 (bX12_isAhead_56 (by decide) (v4 c1 c2 c3)))))))))
theorem dX12_first_0 : decode (mC mX12_first) 0 = .ok (.aload_n 0, 1) := by decide +kernel
theorem dX12_first_1 : decode (mC mX12_first) 1 = .ok (.iconst 0, 1) := by decide +kernel
theorem dX12_first_2 : decode (mC mX12_first) 2 = .ok (.putfield 3, 3) := by decide +kernel
theorem dX12_first_5 : decode (mC mX12_first) 5 = .ok (.aload_n 0, 1) := by decide +kernel
theorem dX12_first_6 : decode (mC mX12_first) 6 = .ok (.aload_n 0, 1) := by decide +kernel
theorem dX12_first_7 : decode (mC mX12_first) 7 = .ok (.invokevirtual 265, 3) := by decide +kernel
theorem dX12_first_10 : decode (mC mX12_first) 10 = .ok (.ifCond .ne 7, 3) := by decide +kernel
theorem dX12_first_13 : decode (mC mX12_first) 13 = .ok (.iconst 1, 1) := by decide +kernel
theorem dX12_first_14 : decode (mC mX12_first) 14 = .ok (.goto 4, 3) := by decide +kernel
theorem dX12_first_17 : decode (mC mX12_first) 17 = .ok (.iconst 0, 1) := by decide +kernel
theorem dX12_first_18 : decode (mC mX12_first) 18 = .ok (.iconst 1, 1) := by decide +kernel
theorem dX12_first_19 : decode (mC mX12_first) 19 = .ok (.invokevirtual 157, 3) := by decide +kernel
theorem dX12_first_22 : decode (mC mX12_first) 22 = .ok (.ifCond .eq 5, 3) := by decide +kernel
theorem dX12_first_25 : decode (mC mX12_first) 25 = .ok (.iconst 0, 1) := by decide +kernel
theorem dX12_first_26 : decode (mC mX12_first) 26 = .ok (.ireturn, 1) := by decide +kernel
theorem dX12_first_27 : decode (mC mX12_first) 27 = .ok (.aload_n 0, 1) := by decide +kernel
theorem dX12_first_28 : decode (mC mX12_first) 28 = .ok (.invokevirtual 319, 3) := by decide +kernel
theorem dX12_first_31 : decode (mC mX12_first) 31 = .ok (.iconst (-1), 1) := by decide +kernel
theorem dX12_first_32 : decode (mC mX12_first) 32 = .ok (.istore_n 2, 1) := by decide +kernel
theorem dX12_first_33 : decode (mC mX12_first) 33 = .ok (.iconst 0, 1) := by decide +kernel
theorem dX12_first_34 : decode (mC mX12_first) 34 = .ok (.istore_n 3, 1) := by decide +kernel
theorem dX12_first_35 : decode (mC mX12_first) 35 = .ok (.iload_n 3, 1) := by decide +kernel
theorem dX12_first_36 : decode (mC mX12_first) 36 = .ok (.aload_n 0, 1) := by decide +kernel
theorem dX12_first_37 : decode (mC mX12_first) 37 = .ok (.getfield 290, 3) := by decide +kernel
theorem dX12_first_40 : decode (mC mX12_first) 40 = .ok (.if_icmp .ge 54, 3) := by decide +kernel
theorem dX12_first_43 : decode (mC mX12_first) 43 = .ok (.aload_n 0, 1) := by decide +kernel
theorem dX12_first_44 : decode (mC mX12_first) 44 = .ok (.iload_n 3, 1) := by decide +kernel
theorem dX12_first_45 : decode (mC mX12_first) 45 = .ok (.iconst (-1), 1) := by decide +kernel
theorem dX12_first_46 : decode (mC mX12_first) 46 = .ok (.invokevirtual 316, 3) := by decide +kernel
theorem dX12_first_49 : decode (mC mX12_first) 49 = .ok (.aload_n 0, 1) := by decide +kernel
theorem dX12_first_50 : decode (mC mX12_first) 50 = .ok (.invokevirtual 336, 3) := by decide +kernel
theorem dX12_first_53 : decode (mC mX12_first) 53 = .ok (.ifCond .lt 6, 3) := by decide +kernel
theorem dX12_first_56 : decode (mC mX12_first) 56 = .ok (.goto 32, 3) := by decide +kernel
theorem dX12_first_59 : decode (mC mX12_first) 59 = .ok (.iload_n 2, 1) := by decide +kernel
theorem dX12_first_60 : decode (mC mX12_first) 60 = .ok (.ifCond .lt 26, 3) := by decide +kernel
theorem dX12_first_63 : decode (mC mX12_first) 63 = .ok (.iload_n 1, 1) := by decide +kernel
theorem dX12_first_64 : decode (mC mX12_first) 64 = .ok (.ifCond .eq 24, 3) := by decide +kernel
theorem dX12_first_67 : decode (mC mX12_first) 67 = .ok (.aload_n 0, 1) := by decide +kernel
theorem dX12_first_68 : decode (mC mX12_first) 68 = .ok (.aload_n 0, 1) := by decide +kernel
theorem dX12_first_69 : decode (mC mX12_first) 69 = .ok (.getfield 51, 3) := by decide +kernel
theorem dX12_first_72 : decode (mC mX12_first) 72 = .ok (.iload_n 3, 1) := by decide +kernel
theorem dX12_first_73 : decode (mC mX12_first) 73 = .ok (.iaload, 1) := by decide +kernel
theorem dX12_first_74 : decode (mC mX12_first) 74 = .ok (.aload_n 0, 1) := by decide +kernel
theorem dX12_first_75 : decode (mC mX12_first) 75 = .ok (.getfield 51, 3) := by decide +kernel
theorem dX12_first_78 : decode (mC mX12_first) 78 = .ok (.iload_n 2, 1) := by decide +kernel
theorem dX12_first_79 : decode (mC mX12_first) 79 = .ok (.iaload, 1) := by decide +kernel
theorem dX12_first_80 : decode (mC mX12_first) 80 = .ok (.invokevirtual 356, 3) := by decide +kernel
theorem dX12_first_83 : decode (mC mX12_first) 83 = .ok (.ifCond .eq 5, 3) := by decide +kernel
theorem dX12_first_86 : decode (mC mX12_first) 86 = .ok (.iload_n 3, 1) := by decide +kernel
theorem dX12_first_87 : decode (mC mX12_first) 87 = .ok (.istore_n 2, 1) := by decide +kernel
theorem dX12_first_88 : decode (mC mX12_first) 88 = .ok (.iinc 3 1, 3) := by decide +kernel
theorem dX12_first_91 : decode (mC mX12_first) 91 = .ok (.goto (-56), 3) := by decide +kernel
theorem dX12_first_94 : decode (mC mX12_first) 94 = .ok (.iload_n 2, 1) := by decide +kernel
theorem dX12_first_95 : decode (mC mX12_first) 95 = .ok (.ifCond .ge 5, 3) := by decide +kernel
theorem dX12_first_98 : decode (mC mX12_first) 98 = .ok (.iconst (-1), 1) := by decide +kernel
theorem dX12_first_99 : decode (mC mX12_first) 99 = .ok (.ireturn, 1) := by decide +kernel
theorem dX12_first_100 : decode (mC mX12_first) 100 = .ok (.iconst 1, 1) := by decide +kernel
theorem dX12_first_101 : decode (mC mX12_first) 101 = .ok (.istore_n 3, 1) := by decide +kernel
theorem dX12_first_102 : decode (mC mX12_first) 102 = .ok (.iconst 0, 1) := by decide +kernel
theorem dX12_first_103 : decode (mC mX12_first) 103 = .ok (.istore 4, 2) := by decide +kernel
theorem dX12_first_105 : decode (mC mX12_first) 105 = .ok (.iload 4, 2) := by decide +kernel
theorem dX12_first_107 : decode (mC mX12_first) 107 = .ok (.aload_n 0, 1) := by decide +kernel
theorem dX12_first_108 : decode (mC mX12_first) 108 = .ok (.getfield 290, 3) := by decide +kernel
theorem dX12_first_111 : decode (mC mX12_first) 111 = .ok (.if_icmp .ge 77, 3) := by decide +kernel
theorem dX12_first_114 : decode (mC mX12_first) 114 = .ok (.iload_n 3, 1) := by decide +kernel
theorem dX12_first_115 : decode (mC mX12_first) 115 = .ok (.iload_n 1, 1) := by decide +kernel
theorem dX12_first_116 : decode (mC mX12_first) 116 = .ok (.ifCond .eq 53, 3) := by decide +kernel
theorem dX12_first_119 : decode (mC mX12_first) 119 = .ok (.aload_n 0, 1) := by decide +kernel
theorem dX12_first_120 : decode (mC mX12_first) 120 = .ok (.aload_n 0, 1) := by decide +kernel
theorem dX12_first_121 : decode (mC mX12_first) 121 = .ok (.getfield 51, 3) := by decide +kernel
theorem dX12_first_124 : decode (mC mX12_first) 124 = .ok (.iload 4, 2) := by decide +kernel
theorem dX12_first_126 : decode (mC mX12_first) 126 = .ok (.iaload, 1) := by decide +kernel
theorem dX12_first_127 : decode (mC mX12_first) 127 = .ok (.aload_n 0, 1) := by decide +kernel
theorem dX12_first_128 : decode (mC mX12_first) 128 = .ok (.getfield 51, 3) := by decide +kernel
theorem dX12_first_131 : decode (mC mX12_first) 131 = .ok (.iload_n 2, 1) := by decide +kernel
theorem dX12_first_132 : decode (mC mX12_first) 132 = .ok (.iaload, 1) := by decide +kernel
theorem dX12_first_133 : decode (mC mX12_first) 133 = .ok (.invokevirtual 356, 3) := by decide +kernel
theorem dX12_first_136 : decode (mC mX12_first) 136 = .ok (.ifCond .ne 25, 3) := by decide +kernel
theorem dX12_first_139 : decode (mC mX12_first) 139 = .ok (.aload_n 0, 1) := by decide +kernel
theorem dX12_first_140 : decode (mC mX12_first) 140 = .ok (.getfield 51, 3) := by decide +kernel
theorem dX12_first_143 : decode (mC mX12_first) 143 = .ok (.iload 4, 2) := by decide +kernel
theorem dX12_first_145 : decode (mC mX12_first) 145 = .ok (.iaload, 1) := by decide +kernel
theorem dX12_first_146 : decode (mC mX12_first) 146 = .ok (.aload_n 0, 1) := by decide +kernel
theorem dX12_first_147 : decode (mC mX12_first) 147 = .ok (.getfield 51, 3) := by decide +kernel
theorem dX12_first_150 : decode (mC mX12_first) 150 = .ok (.iload_n 2, 1) := by decide +kernel
theorem dX12_first_151 : decode (mC mX12_first) 151 = .ok (.iaload, 1) := by decide +kernel
theorem dX12_first_152 : decode (mC mX12_first) 152 = .ok (.if_icmp .ne 13, 3) := by decide +kernel
theorem dX12_first_155 : decode (mC mX12_first) 155 = .ok (.iload 4, 2) := by decide +kernel
theorem dX12_first_157 : decode (mC mX12_first) 157 = .ok (.iload_n 2, 1) := by decide +kernel
theorem dX12_first_158 : decode (mC mX12_first) 158 = .ok (.if_icmp .ge 7, 3) := by decide +kernel
theorem dX12_first_161 : decode (mC mX12_first) 161 = .ok (.iconst 1, 1) := by decide +kernel
theorem dX12_first_162 : decode (mC mX12_first) 162 = .ok (.goto 18, 3) := by decide +kernel
theorem dX12_first_165 : decode (mC mX12_first) 165 = .ok (.iconst 0, 1) := by decide +kernel
theorem dX12_first_166 : decode (mC mX12_first) 166 = .ok (.goto 14, 3) := by decide +kernel
theorem dX12_first_169 : decode (mC mX12_first) 169 = .ok (.iload 4, 2) := by decide +kernel
theorem dX12_first_171 : decode (mC mX12_first) 171 = .ok (.iload_n 2, 1) := by decide +kernel
theorem dX12_first_172 : decode (mC mX12_first) 172 = .ok (.if_icmp .ge 7, 3) := by decide +kernel
theorem dX12_first_175 : decode (mC mX12_first) 175 = .ok (.iconst 1, 1) := by decide +kernel
theorem dX12_first_176 : decode (mC mX12_first) 176 = .ok (.goto 4, 3) := by decide +kernel
theorem dX12_first_179 : decode (mC mX12_first) 179 = .ok (.iconst 0, 1) := by decide +kernel
theorem dX12_first_180 : decode (mC mX12_first) 180 = .ok (.iadd, 1) := by decide +kernel
theorem dX12_first_181 : decode (mC mX12_first) 181 = .ok (.istore_n 3, 1) := by decide +kernel
theorem dX12_first_182 : decode (mC mX12_first) 182 = .ok (.iinc 4 1, 3) := by decide +kernel
theorem dX12_first_185 : decode (mC mX12_first) 185 = .ok (.goto (-80), 3) := by decide +kernel
theorem dX12_first_188 : decode (mC mX12_first) 188 = .ok (.iload_n 3, 1) := by decide +kernel
theorem dX12_first_189 : decode (mC mX12_first) 189 = .ok (.ireturn, 1) := by decide +kernel
set_option maxRecDepth 100000 in
theorem bX12_first_0 {sc : Nat × (Nat → Int32)} {h : jH} {Q : jQ} {l1 : Int32} {P1 : Int32 → jH → Prop}
    (k1 : JM mX12_lines [.ref 159] (jG0 sc) (jput h 159 0 0) (jint sc P1))
    (v1 : ∀ (x1 : Int32) (h1 : jH), P1 x1 h1 → ¬ x1 = 0 → WP mX12_first Q 17 [some (.ref 159), some (.int l1), none, none, none] [.ref 159] (jG0 sc) h1 (0, 0))
    (v2 : ∀ (x1 : Int32) (h1 : jH), P1 x1 h1 → x1 = 0 → WP mX12_first Q 13 [some (.ref 159), some (.int l1), none, none, none] [.ref 159] (jG0 sc) h1 (0, 0)) :
    WP mX12_first Q 0 [some (.ref 159), some (.int l1), none, none, none] [] (jG0 sc) h (0, 0) := by
  refine j_aload_n (i := 0) rfl dX12_first_0 ?_
  refine j_iconst (n := 0) 0 (by decide) dX12_first_1 ?_
  refine j_putI (idx := 3) (ci := 12) (k := 0) (nest := false) (show (12, 3, 12, 0, false) ∈ jFT by decide) rfl rfl rfl rfl (Nat.le_of_ble_eq_true rfl) rfl dX12_first_2 ?_
  refine j_aload_n (i := 0) rfl dX12_first_5 ?_
  refine j_aload_n (i := 0) rfl dX12_first_6 ?_
  refine j_callV (idx := 265) (As := []) (ci := 12) (n := 0) k1 jint_nt (jlkT (jtb7 112 rfl) rfl) sX12_lines kX12_lines rfl ⟨rfl, by decide +kernel, by decide +kernel, by decide +kernel⟩ rfl ⟨by decide, by decide⟩ (Nat.le_of_ble_eq_true rfl) rfl (Nat.le_of_ble_eq_true rfl) (Nat.le_of_ble_eq_true rfl) ⟨Nat.zero_le _, Nat.zero_le _⟩ dX12_first_7 (fun r Γ' h1 q => ?_)
  obtain ⟨x1, q0, rfl, p1⟩ := q; cases q0
  refine j_eqst [.int x1, .ref 159] (by rfl) ?_
  refine j_if_ne (off := 7) 17 dX12_first_10 (by decide) (fun c1 => ?_) (fun c1 => ?_)
  · exact j_le [some (.ref 159), some (.int l1), none, none, none] (And.intro rfl (And.intro rfl True.intro)) (v1 x1 h1 p1 c1)
  · exact j_le [some (.ref 159), some (.int l1), none, none, none] (And.intro rfl (And.intro rfl True.intro)) (v2 x1 h1 p1 c1)
set_option maxRecDepth 100000 in
theorem bX12_first_13 {sc : Nat × (Nat → Int32)} {h : jH} {Q : jQ} {l1 : Int32}
    (v1 : WP mX12_first Q 18 [some (.ref 159), some (.int l1), none, none, none] [.int 1, .ref 159] (jG0 sc) h (0, 0)) :
    WP mX12_first Q 13 [some (.ref 159), some (.int l1), none, none, none] [.ref 159] (jG0 sc) h (0, 0) := by
  refine j_iconst (n := 1) 1 (by decide) dX12_first_13 ?_
  refine j_goto (off := 4) 18 dX12_first_14 (by decide) ?_
  exact j_le [some (.ref 159), some (.int l1), none, none, none] (And.intro rfl (And.intro rfl True.intro)) v1
set_option maxRecDepth 100000 in
theorem bX12_first_17 {sc : Nat × (Nat → Int32)} {h : jH} {Q : jQ} {l1 : Int32}
    (v1 : WP mX12_first Q 18 [some (.ref 159), some (.int l1), none, none, none] [.int 0, .ref 159] (jG0 sc) h (0, 0)) :
    WP mX12_first Q 17 [some (.ref 159), some (.int l1), none, none, none] [.ref 159] (jG0 sc) h (0, 0) := by
  refine j_iconst (n := 0) 0 (by decide) dX12_first_17 ?_
  exact j_le [some (.ref 159), some (.int l1), none, none, none] (And.intro rfl (And.intro rfl True.intro)) v1
set_option maxRecDepth 100000 in
theorem bX12_first_18 {sc : Nat × (Nat → Int32)} {h : jH} {Q : jQ} {l1 s0 : Int32} {P1 : Int32 → jH → Prop}
    (k1 : JM mX12_throwsIf [.ref 159, .int s0, .int 1] (jG0 sc) h (jint sc P1))
    (v1 : ∀ (x1 : Int32) (h1 : jH), P1 x1 h1 → x1 = 0 → WP mX12_first Q 27 [some (.ref 159), some (.int l1), none, none, none] [] (jG0 sc) h1 (0, 0))
    (v2 : ∀ (x1 : Int32) (h1 : jH), P1 x1 h1 → ¬ x1 = 0 → WP mX12_first Q 25 [some (.ref 159), some (.int l1), none, none, none] [] (jG0 sc) h1 (0, 0)) :
    WP mX12_first Q 18 [some (.ref 159), some (.int l1), none, none, none] [.int s0, .ref 159] (jG0 sc) h (0, 0) := by
  refine j_iconst (n := 1) 1 (by decide) dX12_first_18 ?_
  refine j_callV (idx := 157) (As := [.int s0, .int 1]) (ci := 12) (n := 2) k1 jint_nt (jlkT (jtb7 17 rfl) rfl) sX12_throwsIf kX12_throwsIf rfl ⟨rfl, by decide +kernel, by decide +kernel, by decide +kernel⟩ rfl ⟨by decide, by decide⟩ (Nat.le_of_ble_eq_true rfl) rfl (Nat.le_of_ble_eq_true rfl) (Nat.le_of_ble_eq_true rfl) ⟨Nat.zero_le _, Nat.zero_le _⟩ dX12_first_19 (fun r Γ' h1 q => ?_)
  obtain ⟨x1, q0, rfl, p1⟩ := q; cases q0
  refine j_eqst [.int x1] (by rfl) ?_
  refine j_if_eq (off := 5) 27 dX12_first_22 (by decide) (fun c1 => ?_) (fun c1 => ?_)
  · exact j_le [some (.ref 159), some (.int l1), none, none, none] (And.intro rfl (And.intro rfl True.intro)) (v1 x1 h1 p1 c1)
  · exact j_le [some (.ref 159), some (.int l1), none, none, none] (And.intro rfl (And.intro rfl True.intro)) (v2 x1 h1 p1 c1)
set_option maxRecDepth 100000 in
theorem bX12_first_25 {sc : Nat × (Nat → Int32)} {h : jH} {Q : jQ} {l1 : Int32}
    (v1 : Q (.inl (some (.int 0))) (jG0 sc) h) :
    WP mX12_first Q 25 [some (.ref 159), some (.int l1), none, none, none] [] (jG0 sc) h (0, 0) := by
  refine j_iconst (n := 0) 0 (by decide) dX12_first_25 ?_
  exact j_iret rfl rfl (Nat.zero_le _) (Nat.zero_le _) dX12_first_26 v1
set_option maxRecDepth 100000 in
theorem bX12_first_27 {sc : Nat × (Nat → Int32)} {h : jH} {Q : jQ} {l1 : Int32} {P1 : jH → Prop}
    (k1 : JM mX12_listsBody [.ref 159] (jG0 sc) h (jvoid sc P1))
    (v1 : ∀ h1 : jH, P1 h1 → WP mX12_first Q 35 [some (.ref 159), some (.int l1), some (.int (-1)), some (.int 0), none] [] (jG0 sc) h1 (0, 0)) :
    WP mX12_first Q 27 [some (.ref 159), some (.int l1), none, none, none] [] (jG0 sc) h (0, 0) := by
  refine j_aload_n (i := 0) rfl dX12_first_27 ?_
  refine j_callV (idx := 319) (As := []) (ci := 12) (n := 0) k1 jvoid_nt (jlkT (jtb7 160 rfl) rfl) sX12_listsBody kX12_listsBody rfl ⟨rfl, by decide +kernel, by decide +kernel, by decide +kernel⟩ rfl ⟨by decide, by decide⟩ (Nat.le_of_ble_eq_true rfl) rfl (Nat.le_of_ble_eq_true rfl) (Nat.le_of_ble_eq_true rfl) ⟨Nat.zero_le _, Nat.zero_le _⟩ dX12_first_28 (fun r Γ' h1 q => ?_)
  obtain ⟨q0, rfl, p1⟩ := q; cases q0
  refine j_eqst [] (by rfl) ?_
  refine j_iconst (n := (-1)) (-1) (by decide) dX12_first_31 ?_
  refine j_istore_n (i := 2) dX12_first_32 (Nat.le_of_ble_eq_true rfl) ?_
  refine j_iconst (n := 0) 0 (by decide) dX12_first_33 ?_
  refine j_istore_n (i := 3) dX12_first_34 (Nat.le_of_ble_eq_true rfl) ?_
  exact j_le [some (.ref 159), some (.int l1), some (.int (-1)), some (.int 0), none] (And.intro rfl (And.intro rfl (And.intro rfl (And.intro rfl True.intro)))) (v1 h1 p1)
set_option maxRecDepth 100000 in
theorem bX12_first_35 {sc : Nat × (Nat → Int32)} {h : jH} {Q : jQ} {l1 l2 l3 : Int32}
    (v1 : (h 159 26) ≤ l3 → WP mX12_first Q 94 [some (.ref 159), some (.int l1), some (.int l2), some (.int l3), none] [] (jG0 sc) h (0, 0))
    (v2 : ¬ (h 159 26) ≤ l3 → WP mX12_first Q 43 [some (.ref 159), some (.int l1), some (.int l2), some (.int l3), none] [] (jG0 sc) h (0, 0)) :
    WP mX12_first Q 35 [some (.ref 159), some (.int l1), some (.int l2), some (.int l3), none] [] (jG0 sc) h (0, 0) := by
  refine j_iload_n (i := 3) rfl dX12_first_35 ?_
  refine j_aload_n (i := 0) rfl dX12_first_36 ?_
  refine j_getI (idx := 290) (ci := 12) (k := 26) (nest := false) (show (12, 290, 12, 26, false) ∈ jFT by decide) rfl (Nat.le_of_ble_eq_true rfl) rfl dX12_first_37 ?_
  refine j_icmp_ge (off := 54) 94 dX12_first_40 (by decide) (fun c1 => ?_) (fun c1 => ?_)
  · exact j_le [some (.ref 159), some (.int l1), some (.int l2), some (.int l3), none] (And.intro rfl (And.intro rfl (And.intro rfl (And.intro rfl True.intro)))) (v1 c1)
  · exact j_le [some (.ref 159), some (.int l1), some (.int l2), some (.int l3), none] (And.intro rfl (And.intro rfl (And.intro rfl (And.intro rfl True.intro)))) (v2 c1)
set_option maxRecDepth 100000 in
theorem bX12_first_43 {sc : Nat × (Nat → Int32)} {h : jH} {Q : jQ} {l1 l2 l3 : Int32} {P1 : jH → Prop} {P2 : Int32 → jH → Prop}
    (k1 : JM mX12_laysBy [.ref 159, .int l3, .int (-1)] (jG0 sc) h (jvoid sc P1))
    (k2 : ∀ h1 : jH, P1 h1 → JM mX12_allRight [.ref 159] (jG0 sc) h1 (jint sc P2))
    (v1 : ∀ h1 : jH, P1 h1 → ∀ (x2 : Int32) (h2 : jH), P2 x2 h2 → x2 < 0 → WP mX12_first Q 59 [some (.ref 159), some (.int l1), some (.int l2), some (.int l3), none] [] (jG0 sc) h2 (0, 0))
    (v2 : ∀ h1 : jH, P1 h1 → ∀ (x2 : Int32) (h2 : jH), P2 x2 h2 → ¬ x2 < 0 → WP mX12_first Q 56 [some (.ref 159), some (.int l1), some (.int l2), some (.int l3), none] [] (jG0 sc) h2 (0, 0)) :
    WP mX12_first Q 43 [some (.ref 159), some (.int l1), some (.int l2), some (.int l3), none] [] (jG0 sc) h (0, 0) := by
  refine j_aload_n (i := 0) rfl dX12_first_43 ?_
  refine j_iload_n (i := 3) rfl dX12_first_44 ?_
  refine j_iconst (n := (-1)) (-1) (by decide) dX12_first_45 ?_
  refine j_callV (idx := 316) (As := [.int l3, .int (-1)]) (ci := 12) (n := 2) k1 jvoid_nt (jlkT (jtb7 196 rfl) rfl) sX12_laysBy kX12_laysBy rfl ⟨rfl, by decide +kernel, by decide +kernel, by decide +kernel⟩ rfl ⟨by decide, by decide⟩ (Nat.le_of_ble_eq_true rfl) rfl (Nat.le_of_ble_eq_true rfl) (Nat.le_of_ble_eq_true rfl) ⟨Nat.zero_le _, Nat.zero_le _⟩ dX12_first_46 (fun r Γ' h1 q => ?_)
  obtain ⟨q0, rfl, p1⟩ := q; cases q0
  refine j_eqst [] (by rfl) ?_
  refine j_aload_n (i := 0) rfl dX12_first_49 ?_
  refine j_callV (idx := 336) (As := []) (ci := 12) (n := 0) (k2 h1 p1) jint_nt (jlkT (jtb7 217 rfl) rfl) sX12_allRight kX12_allRight rfl ⟨rfl, by decide +kernel, by decide +kernel, by decide +kernel⟩ rfl ⟨by decide, by decide⟩ (Nat.le_of_ble_eq_true rfl) rfl (Nat.le_of_ble_eq_true rfl) (Nat.le_of_ble_eq_true rfl) ⟨Nat.zero_le _, Nat.zero_le _⟩ dX12_first_50 (fun r Γ' h2 q => ?_)
  obtain ⟨x2, q0, rfl, p2⟩ := q; cases q0
  refine j_eqst [.int x2] (by rfl) ?_
  refine j_if_lt (off := 6) 59 dX12_first_53 (by decide) (fun c1 => ?_) (fun c1 => ?_)
  · exact j_le [some (.ref 159), some (.int l1), some (.int l2), some (.int l3), none] (And.intro rfl (And.intro rfl (And.intro rfl (And.intro rfl True.intro)))) (v1 h1 p1 x2 h2 p2 c1)
  · exact j_le [some (.ref 159), some (.int l1), some (.int l2), some (.int l3), none] (And.intro rfl (And.intro rfl (And.intro rfl (And.intro rfl True.intro)))) (v2 h1 p1 x2 h2 p2 c1)
set_option maxRecDepth 100000 in
theorem bX12_first_56 {sc : Nat × (Nat → Int32)} {h : jH} {Q : jQ} {l1 l2 l3 : Int32}
    (v1 : WP mX12_first Q 88 [some (.ref 159), some (.int l1), some (.int l2), some (.int l3), none] [] (jG0 sc) h (0, 0)) :
    WP mX12_first Q 56 [some (.ref 159), some (.int l1), some (.int l2), some (.int l3), none] [] (jG0 sc) h (0, 0) := by
  refine j_goto (off := 32) 88 dX12_first_56 (by decide) ?_
  exact j_le [some (.ref 159), some (.int l1), some (.int l2), some (.int l3), none] (And.intro rfl (And.intro rfl (And.intro rfl (And.intro rfl True.intro)))) v1
set_option maxRecDepth 100000 in
theorem bX12_first_59 {sc : Nat × (Nat → Int32)} {h : jH} {Q : jQ} {l1 l2 l3 : Int32}
    (v1 : l2 < 0 → WP mX12_first Q 86 [some (.ref 159), some (.int l1), some (.int l2), some (.int l3), none] [] (jG0 sc) h (0, 0))
    (v2 : ¬ l2 < 0 → WP mX12_first Q 63 [some (.ref 159), some (.int l1), some (.int l2), some (.int l3), none] [] (jG0 sc) h (0, 0)) :
    WP mX12_first Q 59 [some (.ref 159), some (.int l1), some (.int l2), some (.int l3), none] [] (jG0 sc) h (0, 0) := by
  refine j_iload_n (i := 2) rfl dX12_first_59 ?_
  refine j_if_lt (off := 26) 86 dX12_first_60 (by decide) (fun c1 => ?_) (fun c1 => ?_)
  · exact j_le [some (.ref 159), some (.int l1), some (.int l2), some (.int l3), none] (And.intro rfl (And.intro rfl (And.intro rfl (And.intro rfl True.intro)))) (v1 c1)
  · exact j_le [some (.ref 159), some (.int l1), some (.int l2), some (.int l3), none] (And.intro rfl (And.intro rfl (And.intro rfl (And.intro rfl True.intro)))) (v2 c1)
set_option maxRecDepth 100000 in
theorem bX12_first_63 {sc : Nat × (Nat → Int32)} {h : jH} {Q : jQ} {l1 l2 l3 : Int32}
    (v1 : l1 = 0 → WP mX12_first Q 88 [some (.ref 159), some (.int l1), some (.int l2), some (.int l3), none] [] (jG0 sc) h (0, 0))
    (v2 : ¬ l1 = 0 → WP mX12_first Q 67 [some (.ref 159), some (.int l1), some (.int l2), some (.int l3), none] [] (jG0 sc) h (0, 0)) :
    WP mX12_first Q 63 [some (.ref 159), some (.int l1), some (.int l2), some (.int l3), none] [] (jG0 sc) h (0, 0) := by
  refine j_iload_n (i := 1) rfl dX12_first_63 ?_
  refine j_if_eq (off := 24) 88 dX12_first_64 (by decide) (fun c1 => ?_) (fun c1 => ?_)
  · exact j_le [some (.ref 159), some (.int l1), some (.int l2), some (.int l3), none] (And.intro rfl (And.intro rfl (And.intro rfl (And.intro rfl True.intro)))) (v1 c1)
  · exact j_le [some (.ref 159), some (.int l1), some (.int l2), some (.int l3), none] (And.intro rfl (And.intro rfl (And.intro rfl (And.intro rfl True.intro)))) (v2 c1)
set_option maxRecDepth 100000 in
theorem bX12_first_67 {sc : Nat × (Nat → Int32)} {h : jH} {Q : jQ} {l1 l2 l3 : Int32} {P1 : Int32 → jH → Prop}
    (o1 : vp_in l3 400)
    (o2 : vp_in l2 400)
    (k1 : JM mX12_isAhead [.ref 159, .int (h 171 l3.toNatClampNeg), .int (h 171 l2.toNatClampNeg)] (jG0 sc) h (jint sc P1))
    (v1 : ∀ (x1 : Int32) (h1 : jH), P1 x1 h1 → x1 = 0 → WP mX12_first Q 88 [some (.ref 159), some (.int l1), some (.int l2), some (.int l3), none] [] (jG0 sc) h1 (0, 0))
    (v2 : ∀ (x1 : Int32) (h1 : jH), P1 x1 h1 → ¬ x1 = 0 → WP mX12_first Q 86 [some (.ref 159), some (.int l1), some (.int l2), some (.int l3), none] [] (jG0 sc) h1 (0, 0)) :
    WP mX12_first Q 67 [some (.ref 159), some (.int l1), some (.int l2), some (.int l3), none] [] (jG0 sc) h (0, 0) := by
  refine j_aload_n (i := 0) rfl dX12_first_67 ?_
  refine j_aload_n (i := 0) rfl dX12_first_68 ?_
  refine j_getR (idx := 51) (ci := 12) (k := 23) (nest := false) (show (12, 51, 12, 23, false) ∈ jFT by decide) rfl (Nat.le_of_ble_eq_true rfl) rfl (a := 171) rfl dX12_first_69 ?_
  refine j_iload_n (i := 3) rfl dX12_first_72 ?_
  refine j_iald (Nat.le_of_ble_eq_true rfl) rfl o1 dX12_first_73 ?_
  refine j_aload_n (i := 0) rfl dX12_first_74 ?_
  refine j_getR (idx := 51) (ci := 12) (k := 23) (nest := false) (show (12, 51, 12, 23, false) ∈ jFT by decide) rfl (Nat.le_of_ble_eq_true rfl) rfl (a := 171) rfl dX12_first_75 ?_
  refine j_iload_n (i := 2) rfl dX12_first_78 ?_
  refine j_iald (Nat.le_of_ble_eq_true rfl) rfl o2 dX12_first_79 ?_
  refine j_callV (idx := 356) (As := [.int (h 171 l3.toNatClampNeg), .int (h 171 l2.toNatClampNeg)]) (ci := 12) (n := 2) k1 jint_nt (jlkT (jtb8 23 rfl) rfl) sX12_isAhead kX12_isAhead rfl ⟨rfl, by decide +kernel, by decide +kernel, by decide +kernel⟩ rfl ⟨by decide, by decide⟩ (Nat.le_of_ble_eq_true rfl) rfl (Nat.le_of_ble_eq_true rfl) (Nat.le_of_ble_eq_true rfl) ⟨Nat.zero_le _, Nat.zero_le _⟩ dX12_first_80 (fun r Γ' h1 q => ?_)
  obtain ⟨x1, q0, rfl, p1⟩ := q; cases q0
  refine j_eqst [.int x1] (by rfl) ?_
  refine j_if_eq (off := 5) 88 dX12_first_83 (by decide) (fun c1 => ?_) (fun c1 => ?_)
  · exact j_le [some (.ref 159), some (.int l1), some (.int l2), some (.int l3), none] (And.intro rfl (And.intro rfl (And.intro rfl (And.intro rfl True.intro)))) (v1 x1 h1 p1 c1)
  · exact j_le [some (.ref 159), some (.int l1), some (.int l2), some (.int l3), none] (And.intro rfl (And.intro rfl (And.intro rfl (And.intro rfl True.intro)))) (v2 x1 h1 p1 c1)
set_option maxRecDepth 100000 in
theorem bX12_first_86 {sc : Nat × (Nat → Int32)} {h : jH} {Q : jQ} {l1 l2 l3 : Int32}
    (v1 : WP mX12_first Q 88 [some (.ref 159), some (.int l1), some (.int l3), some (.int l3), none] [] (jG0 sc) h (0, 0)) :
    WP mX12_first Q 86 [some (.ref 159), some (.int l1), some (.int l2), some (.int l3), none] [] (jG0 sc) h (0, 0) := by
  refine j_iload_n (i := 3) rfl dX12_first_86 ?_
  refine j_istore_n (i := 2) dX12_first_87 (Nat.le_of_ble_eq_true rfl) ?_
  exact j_le [some (.ref 159), some (.int l1), some (.int l3), some (.int l3), none] (And.intro rfl (And.intro rfl (And.intro rfl (And.intro rfl True.intro)))) v1
set_option maxRecDepth 100000 in
theorem bX12_first_88 {sc : Nat × (Nat → Int32)} {h : jH} {Q : jQ} {l1 l2 l3 : Int32}
    (v1 : WP mX12_first Q 35 [some (.ref 159), some (.int l1), some (.int l2), some (.int (l3 + 1)), none] [] (jG0 sc) h (0, 0)) :
    WP mX12_first Q 88 [some (.ref 159), some (.int l1), some (.int l2), some (.int l3), none] [] (jG0 sc) h (0, 0) := by
  refine j_iinc (i := 3) (n := 1) rfl dX12_first_88 (Nat.le_of_ble_eq_true rfl) ?_
  refine j_eqlv [some (.ref 159), some (.int l1), some (.int l2), some (.int (l3 + 1)), none] rfl ?_
  refine j_goto (off := -56) 35 dX12_first_91 (by decide) ?_
  exact j_le [some (.ref 159), some (.int l1), some (.int l2), some (.int (l3 + 1)), none] (And.intro rfl (And.intro rfl (And.intro rfl (And.intro rfl True.intro)))) v1
set_option maxRecDepth 100000 in
theorem bX12_first_94 {sc : Nat × (Nat → Int32)} {h : jH} {Q : jQ} {l1 l2 l3 : Int32}
    (v1 : 0 ≤ l2 → WP mX12_first Q 100 [some (.ref 159), some (.int l1), some (.int l2), some (.int l3), none] [] (jG0 sc) h (0, 0))
    (v2 : ¬ 0 ≤ l2 → WP mX12_first Q 98 [some (.ref 159), some (.int l1), some (.int l2), some (.int l3), none] [] (jG0 sc) h (0, 0)) :
    WP mX12_first Q 94 [some (.ref 159), some (.int l1), some (.int l2), some (.int l3), none] [] (jG0 sc) h (0, 0) := by
  refine j_iload_n (i := 2) rfl dX12_first_94 ?_
  refine j_if_ge (off := 5) 100 dX12_first_95 (by decide) (fun c1 => ?_) (fun c1 => ?_)
  · exact j_le [some (.ref 159), some (.int l1), some (.int l2), some (.int l3), none] (And.intro rfl (And.intro rfl (And.intro rfl (And.intro rfl True.intro)))) (v1 c1)
  · exact j_le [some (.ref 159), some (.int l1), some (.int l2), some (.int l3), none] (And.intro rfl (And.intro rfl (And.intro rfl (And.intro rfl True.intro)))) (v2 c1)
set_option maxRecDepth 100000 in
theorem bX12_first_98 {sc : Nat × (Nat → Int32)} {h : jH} {Q : jQ} {l1 l2 l3 : Int32}
    (v1 : Q (.inl (some (.int (-1)))) (jG0 sc) h) :
    WP mX12_first Q 98 [some (.ref 159), some (.int l1), some (.int l2), some (.int l3), none] [] (jG0 sc) h (0, 0) := by
  refine j_iconst (n := (-1)) (-1) (by decide) dX12_first_98 ?_
  exact j_iret rfl rfl (Nat.zero_le _) (Nat.zero_le _) dX12_first_99 v1
set_option maxRecDepth 100000 in
theorem bX12_first_100 {sc : Nat × (Nat → Int32)} {h : jH} {Q : jQ} {l1 l2 l3 : Int32}
    (v1 : WP mX12_first Q 105 [some (.ref 159), some (.int l1), some (.int l2), some (.int 1), some (.int 0)] [] (jG0 sc) h (0, 0)) :
    WP mX12_first Q 100 [some (.ref 159), some (.int l1), some (.int l2), some (.int l3), none] [] (jG0 sc) h (0, 0) := by
  refine j_iconst (n := 1) 1 (by decide) dX12_first_100 ?_
  refine j_istore_n (i := 3) dX12_first_101 (Nat.le_of_ble_eq_true rfl) ?_
  refine j_iconst (n := 0) 0 (by decide) dX12_first_102 ?_
  refine j_istore (i := 4) dX12_first_103 (Nat.le_of_ble_eq_true rfl) ?_
  exact j_le [some (.ref 159), some (.int l1), some (.int l2), some (.int 1), some (.int 0)] (And.intro rfl (And.intro rfl (And.intro rfl (And.intro rfl (And.intro rfl True.intro))))) v1
set_option maxRecDepth 100000 in
theorem bX12_first_105 {sc : Nat × (Nat → Int32)} {h : jH} {Q : jQ} {l1 l2 l3 l4 : Int32}
    (v1 : (h 159 26) ≤ l4 → WP mX12_first Q 188 [some (.ref 159), some (.int l1), some (.int l2), some (.int l3), some (.int l4)] [] (jG0 sc) h (0, 0))
    (v2 : ¬ (h 159 26) ≤ l4 → WP mX12_first Q 114 [some (.ref 159), some (.int l1), some (.int l2), some (.int l3), some (.int l4)] [] (jG0 sc) h (0, 0)) :
    WP mX12_first Q 105 [some (.ref 159), some (.int l1), some (.int l2), some (.int l3), some (.int l4)] [] (jG0 sc) h (0, 0) := by
  refine j_iload (i := 4) rfl dX12_first_105 ?_
  refine j_aload_n (i := 0) rfl dX12_first_107 ?_
  refine j_getI (idx := 290) (ci := 12) (k := 26) (nest := false) (show (12, 290, 12, 26, false) ∈ jFT by decide) rfl (Nat.le_of_ble_eq_true rfl) rfl dX12_first_108 ?_
  refine j_icmp_ge (off := 77) 188 dX12_first_111 (by decide) (fun c1 => ?_) (fun c1 => ?_)
  · exact j_le [some (.ref 159), some (.int l1), some (.int l2), some (.int l3), some (.int l4)] (And.intro rfl (And.intro rfl (And.intro rfl (And.intro rfl (And.intro rfl True.intro))))) (v1 c1)
  · exact j_le [some (.ref 159), some (.int l1), some (.int l2), some (.int l3), some (.int l4)] (And.intro rfl (And.intro rfl (And.intro rfl (And.intro rfl (And.intro rfl True.intro))))) (v2 c1)
set_option maxRecDepth 100000 in
theorem bX12_first_114 {sc : Nat × (Nat → Int32)} {h : jH} {Q : jQ} {l1 l2 l3 l4 : Int32}
    (v1 : l1 = 0 → WP mX12_first Q 169 [some (.ref 159), some (.int l1), some (.int l2), some (.int l3), some (.int l4)] [.int l3] (jG0 sc) h (0, 0))
    (v2 : ¬ l1 = 0 → WP mX12_first Q 119 [some (.ref 159), some (.int l1), some (.int l2), some (.int l3), some (.int l4)] [.int l3] (jG0 sc) h (0, 0)) :
    WP mX12_first Q 114 [some (.ref 159), some (.int l1), some (.int l2), some (.int l3), some (.int l4)] [] (jG0 sc) h (0, 0) := by
  refine j_iload_n (i := 3) rfl dX12_first_114 ?_
  refine j_iload_n (i := 1) rfl dX12_first_115 ?_
  refine j_if_eq (off := 53) 169 dX12_first_116 (by decide) (fun c1 => ?_) (fun c1 => ?_)
  · exact j_le [some (.ref 159), some (.int l1), some (.int l2), some (.int l3), some (.int l4)] (And.intro rfl (And.intro rfl (And.intro rfl (And.intro rfl (And.intro rfl True.intro))))) (v1 c1)
  · exact j_le [some (.ref 159), some (.int l1), some (.int l2), some (.int l3), some (.int l4)] (And.intro rfl (And.intro rfl (And.intro rfl (And.intro rfl (And.intro rfl True.intro))))) (v2 c1)
set_option maxRecDepth 100000 in
theorem bX12_first_119 {sc : Nat × (Nat → Int32)} {h : jH} {Q : jQ} {l1 l2 l3 l4 s0 : Int32} {P1 : Int32 → jH → Prop}
    (o1 : vp_in l4 400)
    (o2 : vp_in l2 400)
    (k1 : JM mX12_isAhead [.ref 159, .int (h 171 l4.toNatClampNeg), .int (h 171 l2.toNatClampNeg)] (jG0 sc) h (jint sc P1))
    (v1 : ∀ (x1 : Int32) (h1 : jH), P1 x1 h1 → ¬ x1 = 0 → WP mX12_first Q 161 [some (.ref 159), some (.int l1), some (.int l2), some (.int l3), some (.int l4)] [.int s0] (jG0 sc) h1 (0, 0))
    (v2 : ∀ (x1 : Int32) (h1 : jH), P1 x1 h1 → x1 = 0 → WP mX12_first Q 139 [some (.ref 159), some (.int l1), some (.int l2), some (.int l3), some (.int l4)] [.int s0] (jG0 sc) h1 (0, 0)) :
    WP mX12_first Q 119 [some (.ref 159), some (.int l1), some (.int l2), some (.int l3), some (.int l4)] [.int s0] (jG0 sc) h (0, 0) := by
  refine j_aload_n (i := 0) rfl dX12_first_119 ?_
  refine j_aload_n (i := 0) rfl dX12_first_120 ?_
  refine j_getR (idx := 51) (ci := 12) (k := 23) (nest := false) (show (12, 51, 12, 23, false) ∈ jFT by decide) rfl (Nat.le_of_ble_eq_true rfl) rfl (a := 171) rfl dX12_first_121 ?_
  refine j_iload (i := 4) rfl dX12_first_124 ?_
  refine j_iald (Nat.le_of_ble_eq_true rfl) rfl o1 dX12_first_126 ?_
  refine j_aload_n (i := 0) rfl dX12_first_127 ?_
  refine j_getR (idx := 51) (ci := 12) (k := 23) (nest := false) (show (12, 51, 12, 23, false) ∈ jFT by decide) rfl (Nat.le_of_ble_eq_true rfl) rfl (a := 171) rfl dX12_first_128 ?_
  refine j_iload_n (i := 2) rfl dX12_first_131 ?_
  refine j_iald (Nat.le_of_ble_eq_true rfl) rfl o2 dX12_first_132 ?_
  refine j_callV (idx := 356) (As := [.int (h 171 l4.toNatClampNeg), .int (h 171 l2.toNatClampNeg)]) (ci := 12) (n := 2) k1 jint_nt (jlkT (jtb8 23 rfl) rfl) sX12_isAhead kX12_isAhead rfl ⟨rfl, by decide +kernel, by decide +kernel, by decide +kernel⟩ rfl ⟨by decide, by decide⟩ (Nat.le_of_ble_eq_true rfl) rfl (Nat.le_of_ble_eq_true rfl) (Nat.le_of_ble_eq_true rfl) ⟨Nat.zero_le _, Nat.zero_le _⟩ dX12_first_133 (fun r Γ' h1 q => ?_)
  obtain ⟨x1, q0, rfl, p1⟩ := q; cases q0
  refine j_eqst [.int x1, .int s0] (by rfl) ?_
  refine j_if_ne (off := 25) 161 dX12_first_136 (by decide) (fun c1 => ?_) (fun c1 => ?_)
  · exact j_le [some (.ref 159), some (.int l1), some (.int l2), some (.int l3), some (.int l4)] (And.intro rfl (And.intro rfl (And.intro rfl (And.intro rfl (And.intro rfl True.intro))))) (v1 x1 h1 p1 c1)
  · exact j_le [some (.ref 159), some (.int l1), some (.int l2), some (.int l3), some (.int l4)] (And.intro rfl (And.intro rfl (And.intro rfl (And.intro rfl (And.intro rfl True.intro))))) (v2 x1 h1 p1 c1)
set_option maxRecDepth 100000 in
theorem bX12_first_139 {sc : Nat × (Nat → Int32)} {h : jH} {Q : jQ} {l1 l2 l3 l4 s0 : Int32}
    (o1 : vp_in l4 400)
    (o2 : vp_in l2 400)
    (v1 : ¬ (h 171 l4.toNatClampNeg) = (h 171 l2.toNatClampNeg) → WP mX12_first Q 165 [some (.ref 159), some (.int l1), some (.int l2), some (.int l3), some (.int l4)] [.int s0] (jG0 sc) h (0, 0))
    (v2 : (h 171 l4.toNatClampNeg) = (h 171 l2.toNatClampNeg) → WP mX12_first Q 155 [some (.ref 159), some (.int l1), some (.int l2), some (.int l3), some (.int l4)] [.int s0] (jG0 sc) h (0, 0)) :
    WP mX12_first Q 139 [some (.ref 159), some (.int l1), some (.int l2), some (.int l3), some (.int l4)] [.int s0] (jG0 sc) h (0, 0) := by
  refine j_aload_n (i := 0) rfl dX12_first_139 ?_
  refine j_getR (idx := 51) (ci := 12) (k := 23) (nest := false) (show (12, 51, 12, 23, false) ∈ jFT by decide) rfl (Nat.le_of_ble_eq_true rfl) rfl (a := 171) rfl dX12_first_140 ?_
  refine j_iload (i := 4) rfl dX12_first_143 ?_
  refine j_iald (Nat.le_of_ble_eq_true rfl) rfl o1 dX12_first_145 ?_
  refine j_aload_n (i := 0) rfl dX12_first_146 ?_
  refine j_getR (idx := 51) (ci := 12) (k := 23) (nest := false) (show (12, 51, 12, 23, false) ∈ jFT by decide) rfl (Nat.le_of_ble_eq_true rfl) rfl (a := 171) rfl dX12_first_147 ?_
  refine j_iload_n (i := 2) rfl dX12_first_150 ?_
  refine j_iald (Nat.le_of_ble_eq_true rfl) rfl o2 dX12_first_151 ?_
  refine j_icmp_ne (off := 13) 165 dX12_first_152 (by decide) (fun c1 => ?_) (fun c1 => ?_)
  · exact j_le [some (.ref 159), some (.int l1), some (.int l2), some (.int l3), some (.int l4)] (And.intro rfl (And.intro rfl (And.intro rfl (And.intro rfl (And.intro rfl True.intro))))) (v1 c1)
  · exact j_le [some (.ref 159), some (.int l1), some (.int l2), some (.int l3), some (.int l4)] (And.intro rfl (And.intro rfl (And.intro rfl (And.intro rfl (And.intro rfl True.intro))))) (v2 c1)
set_option maxRecDepth 100000 in
theorem bX12_first_155 {sc : Nat × (Nat → Int32)} {h : jH} {Q : jQ} {l1 l2 l3 l4 s0 : Int32}
    (v1 : l2 ≤ l4 → WP mX12_first Q 165 [some (.ref 159), some (.int l1), some (.int l2), some (.int l3), some (.int l4)] [.int s0] (jG0 sc) h (0, 0))
    (v2 : ¬ l2 ≤ l4 → WP mX12_first Q 161 [some (.ref 159), some (.int l1), some (.int l2), some (.int l3), some (.int l4)] [.int s0] (jG0 sc) h (0, 0)) :
    WP mX12_first Q 155 [some (.ref 159), some (.int l1), some (.int l2), some (.int l3), some (.int l4)] [.int s0] (jG0 sc) h (0, 0) := by
  refine j_iload (i := 4) rfl dX12_first_155 ?_
  refine j_iload_n (i := 2) rfl dX12_first_157 ?_
  refine j_icmp_ge (off := 7) 165 dX12_first_158 (by decide) (fun c1 => ?_) (fun c1 => ?_)
  · exact j_le [some (.ref 159), some (.int l1), some (.int l2), some (.int l3), some (.int l4)] (And.intro rfl (And.intro rfl (And.intro rfl (And.intro rfl (And.intro rfl True.intro))))) (v1 c1)
  · exact j_le [some (.ref 159), some (.int l1), some (.int l2), some (.int l3), some (.int l4)] (And.intro rfl (And.intro rfl (And.intro rfl (And.intro rfl (And.intro rfl True.intro))))) (v2 c1)
set_option maxRecDepth 100000 in
theorem bX12_first_161 {sc : Nat × (Nat → Int32)} {h : jH} {Q : jQ} {l1 l2 l3 l4 s0 : Int32}
    (v1 : WP mX12_first Q 180 [some (.ref 159), some (.int l1), some (.int l2), some (.int l3), some (.int l4)] [.int 1, .int s0] (jG0 sc) h (0, 0)) :
    WP mX12_first Q 161 [some (.ref 159), some (.int l1), some (.int l2), some (.int l3), some (.int l4)] [.int s0] (jG0 sc) h (0, 0) := by
  refine j_iconst (n := 1) 1 (by decide) dX12_first_161 ?_
  refine j_goto (off := 18) 180 dX12_first_162 (by decide) ?_
  exact j_le [some (.ref 159), some (.int l1), some (.int l2), some (.int l3), some (.int l4)] (And.intro rfl (And.intro rfl (And.intro rfl (And.intro rfl (And.intro rfl True.intro))))) v1
set_option maxRecDepth 100000 in
theorem bX12_first_165 {sc : Nat × (Nat → Int32)} {h : jH} {Q : jQ} {l1 l2 l3 l4 s0 : Int32}
    (v1 : WP mX12_first Q 180 [some (.ref 159), some (.int l1), some (.int l2), some (.int l3), some (.int l4)] [.int 0, .int s0] (jG0 sc) h (0, 0)) :
    WP mX12_first Q 165 [some (.ref 159), some (.int l1), some (.int l2), some (.int l3), some (.int l4)] [.int s0] (jG0 sc) h (0, 0) := by
  refine j_iconst (n := 0) 0 (by decide) dX12_first_165 ?_
  refine j_goto (off := 14) 180 dX12_first_166 (by decide) ?_
  exact j_le [some (.ref 159), some (.int l1), some (.int l2), some (.int l3), some (.int l4)] (And.intro rfl (And.intro rfl (And.intro rfl (And.intro rfl (And.intro rfl True.intro))))) v1
set_option maxRecDepth 100000 in
theorem bX12_first_169 {sc : Nat × (Nat → Int32)} {h : jH} {Q : jQ} {l1 l2 l3 l4 s0 : Int32}
    (v1 : l2 ≤ l4 → WP mX12_first Q 179 [some (.ref 159), some (.int l1), some (.int l2), some (.int l3), some (.int l4)] [.int s0] (jG0 sc) h (0, 0))
    (v2 : ¬ l2 ≤ l4 → WP mX12_first Q 175 [some (.ref 159), some (.int l1), some (.int l2), some (.int l3), some (.int l4)] [.int s0] (jG0 sc) h (0, 0)) :
    WP mX12_first Q 169 [some (.ref 159), some (.int l1), some (.int l2), some (.int l3), some (.int l4)] [.int s0] (jG0 sc) h (0, 0) := by
  refine j_iload (i := 4) rfl dX12_first_169 ?_
  refine j_iload_n (i := 2) rfl dX12_first_171 ?_
  refine j_icmp_ge (off := 7) 179 dX12_first_172 (by decide) (fun c1 => ?_) (fun c1 => ?_)
  · exact j_le [some (.ref 159), some (.int l1), some (.int l2), some (.int l3), some (.int l4)] (And.intro rfl (And.intro rfl (And.intro rfl (And.intro rfl (And.intro rfl True.intro))))) (v1 c1)
  · exact j_le [some (.ref 159), some (.int l1), some (.int l2), some (.int l3), some (.int l4)] (And.intro rfl (And.intro rfl (And.intro rfl (And.intro rfl (And.intro rfl True.intro))))) (v2 c1)
set_option maxRecDepth 100000 in
theorem bX12_first_175 {sc : Nat × (Nat → Int32)} {h : jH} {Q : jQ} {l1 l2 l3 l4 s0 : Int32}
    (v1 : WP mX12_first Q 180 [some (.ref 159), some (.int l1), some (.int l2), some (.int l3), some (.int l4)] [.int 1, .int s0] (jG0 sc) h (0, 0)) :
    WP mX12_first Q 175 [some (.ref 159), some (.int l1), some (.int l2), some (.int l3), some (.int l4)] [.int s0] (jG0 sc) h (0, 0) := by
  refine j_iconst (n := 1) 1 (by decide) dX12_first_175 ?_
  refine j_goto (off := 4) 180 dX12_first_176 (by decide) ?_
  exact j_le [some (.ref 159), some (.int l1), some (.int l2), some (.int l3), some (.int l4)] (And.intro rfl (And.intro rfl (And.intro rfl (And.intro rfl (And.intro rfl True.intro))))) v1
set_option maxRecDepth 100000 in
theorem bX12_first_179 {sc : Nat × (Nat → Int32)} {h : jH} {Q : jQ} {l1 l2 l3 l4 s0 : Int32}
    (v1 : WP mX12_first Q 180 [some (.ref 159), some (.int l1), some (.int l2), some (.int l3), some (.int l4)] [.int 0, .int s0] (jG0 sc) h (0, 0)) :
    WP mX12_first Q 179 [some (.ref 159), some (.int l1), some (.int l2), some (.int l3), some (.int l4)] [.int s0] (jG0 sc) h (0, 0) := by
  refine j_iconst (n := 0) 0 (by decide) dX12_first_179 ?_
  exact j_le [some (.ref 159), some (.int l1), some (.int l2), some (.int l3), some (.int l4)] (And.intro rfl (And.intro rfl (And.intro rfl (And.intro rfl (And.intro rfl True.intro))))) v1
set_option maxRecDepth 100000 in
theorem bX12_first_180 {sc : Nat × (Nat → Int32)} {h : jH} {Q : jQ} {l1 l2 l3 l4 s0 s1 : Int32}
    (v1 : WP mX12_first Q 105 [some (.ref 159), some (.int l1), some (.int l2), some (.int (s1 + s0)), some (.int (l4 + 1))] [] (jG0 sc) h (0, 0)) :
    WP mX12_first Q 180 [some (.ref 159), some (.int l1), some (.int l2), some (.int l3), some (.int l4)] [.int s0, .int s1] (jG0 sc) h (0, 0) := by
  refine j_iadd dX12_first_180 ?_
  refine j_istore_n (i := 3) dX12_first_181 (Nat.le_of_ble_eq_true rfl) ?_
  refine j_iinc (i := 4) (n := 1) rfl dX12_first_182 (Nat.le_of_ble_eq_true rfl) ?_
  refine j_eqlv [some (.ref 159), some (.int l1), some (.int l2), some (.int (s1 + s0)), some (.int (l4 + 1))] rfl ?_
  refine j_goto (off := -80) 105 dX12_first_185 (by decide) ?_
  exact j_le [some (.ref 159), some (.int l1), some (.int l2), some (.int (s1 + s0)), some (.int (l4 + 1))] (And.intro rfl (And.intro rfl (And.intro rfl (And.intro rfl (And.intro rfl True.intro))))) v1
set_option maxRecDepth 100000 in
theorem bX12_first_188 {sc : Nat × (Nat → Int32)} {h : jH} {Q : jQ} {l1 l2 l3 l4 : Int32}
    (v1 : Q (.inl (some (.int l3))) (jG0 sc) h) :
    WP mX12_first Q 188 [some (.ref 159), some (.int l1), some (.int l2), some (.int l3), some (.int l4)] [] (jG0 sc) h (0, 0) := by
  refine j_iload_n (i := 3) rfl dX12_first_188 ?_
  exact j_iret rfl rfl (Nat.zero_le _) (Nat.zero_le _) dX12_first_189 v1
set_option maxRecDepth 100000 in
theorem rX12_first_0 {sc : Nat × (Nat → Int32)} {h : jH} {Q : jQ} {l1 : Int32} {P1 : Int32 → jH → Prop} {P2 : Int32 → jH → Prop} {P3 : jH → Prop} {P4 : Int32 → jH → Prop} {P5 : jH → Prop}
    (k1 : JM mX12_lines [.ref 159] (jG0 sc) (jput h 159 0 0) (jint sc P1))
    (k2 : ∀ (x1 : Int32) (h1 : jH), P1 x1 h1 → ¬ x1 = 0 → JM mX12_throwsIf [.ref 159, .int 0, .int 1] (jG0 sc) h1 (jint sc P2))
    (k3 : ∀ (x1 : Int32) (h1 : jH), P1 x1 h1 → ¬ x1 = 0 → ∀ (x2 : Int32) (h2 : jH), P2 x2 h2 → x2 = 0 → JM mX12_listsBody [.ref 159] (jG0 sc) h2 (jvoid sc P3))
    (v1 : ∀ (x1 : Int32) (h1 : jH), P1 x1 h1 → ¬ x1 = 0 → ∀ (x2 : Int32) (h2 : jH), P2 x2 h2 → x2 = 0 → ∀ h3 : jH, P3 h3 → WP mX12_first Q 35 [some (.ref 159), some (.int l1), some (.int (-1)), some (.int 0), none] [] (jG0 sc) h3 (0, 0))
    (v2 : ∀ (x1 : Int32) (h1 : jH), P1 x1 h1 → ¬ x1 = 0 → ∀ (x2 : Int32) (h2 : jH), P2 x2 h2 → ¬ x2 = 0 → Q (.inl (some (.int 0))) (jG0 sc) h2)
    (k4 : ∀ (x1 : Int32) (h1 : jH), P1 x1 h1 → x1 = 0 → JM mX12_throwsIf [.ref 159, .int 1, .int 1] (jG0 sc) h1 (jint sc P4))
    (k5 : ∀ (x1 : Int32) (h1 : jH), P1 x1 h1 → x1 = 0 → ∀ (x4 : Int32) (h4 : jH), P4 x4 h4 → x4 = 0 → JM mX12_listsBody [.ref 159] (jG0 sc) h4 (jvoid sc P5))
    (v3 : ∀ (x1 : Int32) (h1 : jH), P1 x1 h1 → x1 = 0 → ∀ (x4 : Int32) (h4 : jH), P4 x4 h4 → x4 = 0 → ∀ h5 : jH, P5 h5 → WP mX12_first Q 35 [some (.ref 159), some (.int l1), some (.int (-1)), some (.int 0), none] [] (jG0 sc) h5 (0, 0))
    (v4 : ∀ (x1 : Int32) (h1 : jH), P1 x1 h1 → x1 = 0 → ∀ (x4 : Int32) (h4 : jH), P4 x4 h4 → ¬ x4 = 0 → Q (.inl (some (.int 0))) (jG0 sc) h4) :
    WP mX12_first Q 0 [some (.ref 159), some (.int l1), none, none, none] [] (jG0 sc) h (0, 0) := by
  exact (bX12_first_0 k1 (fun x1 h1 p1 c1 => (bX12_first_17 (bX12_first_18 (k2 x1 h1 p1 c1) (fun x2 h2 p2 c2 => (bX12_first_27 (k3 x1 h1 p1 c1 x2 h2 p2 c2) (fun h3 p3 => (v1 x1 h1 p1 c1 x2 h2 p2 c2 h3 p3)))) (fun x2 h2 p2 c2 => (bX12_first_25 (v2 x1 h1 p1 c1 x2 h2 p2 c2)))))) (fun x1 h1 p1 c1 => (bX12_first_13 (bX12_first_18 (k4 x1 h1 p1 c1) (fun x4 h4 p4 c3 => (bX12_first_27 (k5 x1 h1 p1 c1 x4 h4 p4 c3) (fun h5 p5 => (v3 x1 h1 p1 c1 x4 h4 p4 c3 h5 p5)))) (fun x4 h4 p4 c3 => (bX12_first_25 (v4 x1 h1 p1 c1 x4 h4 p4 c3)))))))
set_option maxRecDepth 100000 in
theorem rX12_first_35 {sc : Nat × (Nat → Int32)} {h : jH} {Q : jQ} {l1 l2 l3 : Int32} {P1 : jH → Prop} {P2 : Int32 → jH → Prop} {P3 : Int32 → jH → Prop}
    (v1 : (h 159 26) ≤ l3 → 0 ≤ l2 → WP mX12_first Q 105 [some (.ref 159), some (.int l1), some (.int l2), some (.int 1), some (.int 0)] [] (jG0 sc) h (0, 0))
    (v2 : (h 159 26) ≤ l3 → ¬ 0 ≤ l2 → Q (.inl (some (.int (-1)))) (jG0 sc) h)
    (k1 : ¬ (h 159 26) ≤ l3 → JM mX12_laysBy [.ref 159, .int l3, .int (-1)] (jG0 sc) h (jvoid sc P1))
    (k2 : ¬ (h 159 26) ≤ l3 → ∀ h1 : jH, P1 h1 → JM mX12_allRight [.ref 159] (jG0 sc) h1 (jint sc P2))
    (v3 : ¬ (h 159 26) ≤ l3 → ∀ h1 : jH, P1 h1 → ∀ (x2 : Int32) (h2 : jH), P2 x2 h2 → x2 < 0 → l2 < 0 → WP mX12_first Q 35 [some (.ref 159), some (.int l1), some (.int l3), some (.int (l3 + 1)), none] [] (jG0 sc) h2 (0, 0))
    (v4 : ¬ (h 159 26) ≤ l3 → ∀ h1 : jH, P1 h1 → ∀ (x2 : Int32) (h2 : jH), P2 x2 h2 → x2 < 0 → ¬ l2 < 0 → l1 = 0 → WP mX12_first Q 35 [some (.ref 159), some (.int l1), some (.int l2), some (.int (l3 + 1)), none] [] (jG0 sc) h2 (0, 0))
    (o1 : ¬ (h 159 26) ≤ l3 → ∀ h1 : jH, P1 h1 → ∀ (x2 : Int32) (h2 : jH), P2 x2 h2 → x2 < 0 → ¬ l2 < 0 → ¬ l1 = 0 → vp_in l3 400)
    (o2 : ¬ (h 159 26) ≤ l3 → ∀ h1 : jH, P1 h1 → ∀ (x2 : Int32) (h2 : jH), P2 x2 h2 → x2 < 0 → ¬ l2 < 0 → ¬ l1 = 0 → vp_in l2 400)
    (k3 : ¬ (h 159 26) ≤ l3 → ∀ h1 : jH, P1 h1 → ∀ (x2 : Int32) (h2 : jH), P2 x2 h2 → x2 < 0 → ¬ l2 < 0 → ¬ l1 = 0 → JM mX12_isAhead [.ref 159, .int (h2 171 l3.toNatClampNeg), .int (h2 171 l2.toNatClampNeg)] (jG0 sc) h2 (jint sc P3))
    (v5 : ¬ (h 159 26) ≤ l3 → ∀ h1 : jH, P1 h1 → ∀ (x2 : Int32) (h2 : jH), P2 x2 h2 → x2 < 0 → ¬ l2 < 0 → ¬ l1 = 0 → ∀ (x3 : Int32) (h3 : jH), P3 x3 h3 → x3 = 0 → WP mX12_first Q 35 [some (.ref 159), some (.int l1), some (.int l2), some (.int (l3 + 1)), none] [] (jG0 sc) h3 (0, 0))
    (v6 : ¬ (h 159 26) ≤ l3 → ∀ h1 : jH, P1 h1 → ∀ (x2 : Int32) (h2 : jH), P2 x2 h2 → x2 < 0 → ¬ l2 < 0 → ¬ l1 = 0 → ∀ (x3 : Int32) (h3 : jH), P3 x3 h3 → ¬ x3 = 0 → WP mX12_first Q 35 [some (.ref 159), some (.int l1), some (.int l3), some (.int (l3 + 1)), none] [] (jG0 sc) h3 (0, 0))
    (v7 : ¬ (h 159 26) ≤ l3 → ∀ h1 : jH, P1 h1 → ∀ (x2 : Int32) (h2 : jH), P2 x2 h2 → ¬ x2 < 0 → WP mX12_first Q 35 [some (.ref 159), some (.int l1), some (.int l2), some (.int (l3 + 1)), none] [] (jG0 sc) h2 (0, 0)) :
    WP mX12_first Q 35 [some (.ref 159), some (.int l1), some (.int l2), some (.int l3), none] [] (jG0 sc) h (0, 0) := by
  exact (bX12_first_35 (fun c1 => (bX12_first_94 (fun c2 => (bX12_first_100 (v1 c1 c2))) (fun c2 => (bX12_first_98 (v2 c1 c2))))) (fun c1 => (bX12_first_43 (k1 c1) (fun h1 p1 => (k2 c1 h1 p1)) (fun h1 p1 x2 h2 p2 c3 => (bX12_first_59 (fun c4 => (bX12_first_86 (bX12_first_88 (v3 c1 h1 p1 x2 h2 p2 c3 c4)))) (fun c4 => (bX12_first_63 (fun c5 => (bX12_first_88 (v4 c1 h1 p1 x2 h2 p2 c3 c4 c5))) (fun c5 => (bX12_first_67 (o1 c1 h1 p1 x2 h2 p2 c3 c4 c5) (o2 c1 h1 p1 x2 h2 p2 c3 c4 c5) (k3 c1 h1 p1 x2 h2 p2 c3 c4 c5) (fun x3 h3 p3 c6 => (bX12_first_88 (v5 c1 h1 p1 x2 h2 p2 c3 c4 c5 x3 h3 p3 c6))) (fun x3 h3 p3 c6 => (bX12_first_86 (bX12_first_88 (v6 c1 h1 p1 x2 h2 p2 c3 c4 c5 x3 h3 p3 c6)))))))))) (fun h1 p1 x2 h2 p2 c3 => (bX12_first_56 (bX12_first_88 (v7 c1 h1 p1 x2 h2 p2 c3)))))))
set_option maxRecDepth 100000 in
theorem rX12_first_105 {sc : Nat × (Nat → Int32)} {h : jH} {Q : jQ} {l1 l2 l3 l4 : Int32} {P1 : Int32 → jH → Prop}
    (v1 : (h 159 26) ≤ l4 → Q (.inl (some (.int l3))) (jG0 sc) h)
    (v2 : ¬ (h 159 26) ≤ l4 → l1 = 0 → l2 ≤ l4 → WP mX12_first Q 105 [some (.ref 159), some (.int l1), some (.int l2), some (.int (l3 + 0)), some (.int (l4 + 1))] [] (jG0 sc) h (0, 0))
    (v3 : ¬ (h 159 26) ≤ l4 → l1 = 0 → ¬ l2 ≤ l4 → WP mX12_first Q 105 [some (.ref 159), some (.int l1), some (.int l2), some (.int (l3 + 1)), some (.int (l4 + 1))] [] (jG0 sc) h (0, 0))
    (o1 : ¬ (h 159 26) ≤ l4 → ¬ l1 = 0 → vp_in l4 400)
    (o2 : ¬ (h 159 26) ≤ l4 → ¬ l1 = 0 → vp_in l2 400)
    (k1 : ¬ (h 159 26) ≤ l4 → ¬ l1 = 0 → JM mX12_isAhead [.ref 159, .int (h 171 l4.toNatClampNeg), .int (h 171 l2.toNatClampNeg)] (jG0 sc) h (jint sc P1))
    (v4 : ¬ (h 159 26) ≤ l4 → ¬ l1 = 0 → ∀ (x1 : Int32) (h1 : jH), P1 x1 h1 → ¬ x1 = 0 → WP mX12_first Q 105 [some (.ref 159), some (.int l1), some (.int l2), some (.int (l3 + 1)), some (.int (l4 + 1))] [] (jG0 sc) h1 (0, 0))
    (o3 : ¬ (h 159 26) ≤ l4 → ¬ l1 = 0 → ∀ (x1 : Int32) (h1 : jH), P1 x1 h1 → x1 = 0 → vp_in l4 400)
    (o4 : ¬ (h 159 26) ≤ l4 → ¬ l1 = 0 → ∀ (x1 : Int32) (h1 : jH), P1 x1 h1 → x1 = 0 → vp_in l2 400)
    (v5 : ¬ (h 159 26) ≤ l4 → ¬ l1 = 0 → ∀ (x1 : Int32) (h1 : jH), P1 x1 h1 → x1 = 0 → ¬ (h1 171 l4.toNatClampNeg) = (h1 171 l2.toNatClampNeg) → WP mX12_first Q 105 [some (.ref 159), some (.int l1), some (.int l2), some (.int (l3 + 0)), some (.int (l4 + 1))] [] (jG0 sc) h1 (0, 0))
    (v6 : ¬ (h 159 26) ≤ l4 → ¬ l1 = 0 → ∀ (x1 : Int32) (h1 : jH), P1 x1 h1 → x1 = 0 → (h1 171 l4.toNatClampNeg) = (h1 171 l2.toNatClampNeg) → l2 ≤ l4 → WP mX12_first Q 105 [some (.ref 159), some (.int l1), some (.int l2), some (.int (l3 + 0)), some (.int (l4 + 1))] [] (jG0 sc) h1 (0, 0))
    (v7 : ¬ (h 159 26) ≤ l4 → ¬ l1 = 0 → ∀ (x1 : Int32) (h1 : jH), P1 x1 h1 → x1 = 0 → (h1 171 l4.toNatClampNeg) = (h1 171 l2.toNatClampNeg) → ¬ l2 ≤ l4 → WP mX12_first Q 105 [some (.ref 159), some (.int l1), some (.int l2), some (.int (l3 + 1)), some (.int (l4 + 1))] [] (jG0 sc) h1 (0, 0)) :
    WP mX12_first Q 105 [some (.ref 159), some (.int l1), some (.int l2), some (.int l3), some (.int l4)] [] (jG0 sc) h (0, 0) := by
  exact (bX12_first_105 (fun c1 => (bX12_first_188 (v1 c1))) (fun c1 => (bX12_first_114 (fun c2 => (bX12_first_169 (fun c3 => (bX12_first_179 (bX12_first_180 (v2 c1 c2 c3)))) (fun c3 => (bX12_first_175 (bX12_first_180 (v3 c1 c2 c3)))))) (fun c2 => (bX12_first_119 (o1 c1 c2) (o2 c1 c2) (k1 c1 c2) (fun x1 h1 p1 c4 => (bX12_first_161 (bX12_first_180 (v4 c1 c2 x1 h1 p1 c4)))) (fun x1 h1 p1 c4 => (bX12_first_139 (o3 c1 c2 x1 h1 p1 c4) (o4 c1 c2 x1 h1 p1 c4) (fun c5 => (bX12_first_165 (bX12_first_180 (v5 c1 c2 x1 h1 p1 c4 c5)))) (fun c5 => (bX12_first_155 (fun c6 => (bX12_first_165 (bX12_first_180 (v6 c1 c2 x1 h1 p1 c4 c5 c6)))) (fun c6 => (bX12_first_161 (bX12_first_180 (v7 c1 c2 x1 h1 p1 c4 c5 c6)))))))))))))
theorem dX12_box_0 : decode (mC mX12_box) 0 = .ok (.aload_n 0, 1) := by decide +kernel
theorem dX12_box_1 : decode (mC mX12_box) 1 = .ok (.iconst 0, 1) := by decide +kernel
theorem dX12_box_2 : decode (mC mX12_box) 2 = .ok (.putfield 3, 3) := by decide +kernel
theorem dX12_box_5 : decode (mC mX12_box) 5 = .ok (.aload_n 0, 1) := by decide +kernel
theorem dX12_box_6 : decode (mC mX12_box) 6 = .ok (.iload_n 1, 1) := by decide +kernel
theorem dX12_box_7 : decode (mC mX12_box) 7 = .ok (.iconst 0, 1) := by decide +kernel
theorem dX12_box_8 : decode (mC mX12_box) 8 = .ok (.bipush 15, 2) := by decide +kernel
theorem dX12_box_10 : decode (mC mX12_box) 10 = .ok (.invokestatic 206, 3) := by decide +kernel
theorem dX12_box_13 : decode (mC mX12_box) 13 = .ok (.ifCond .ne 7, 3) := by decide +kernel
theorem dX12_box_16 : decode (mC mX12_box) 16 = .ok (.iconst 1, 1) := by decide +kernel
theorem dX12_box_17 : decode (mC mX12_box) 17 = .ok (.goto 4, 3) := by decide +kernel
theorem dX12_box_20 : decode (mC mX12_box) 20 = .ok (.iconst 0, 1) := by decide +kernel
theorem dX12_box_21 : decode (mC mX12_box) 21 = .ok (.iconst 1, 1) := by decide +kernel
theorem dX12_box_22 : decode (mC mX12_box) 22 = .ok (.invokevirtual 157, 3) := by decide +kernel
theorem dX12_box_25 : decode (mC mX12_box) 25 = .ok (.ifCond .eq 4, 3) := by decide +kernel
theorem dX12_box_28 : decode (mC mX12_box) 28 = .ok (.return_, 1) := by decide +kernel
theorem dX12_box_29 : decode (mC mX12_box) 29 = .ok (.aload_n 0, 1) := by decide +kernel
theorem dX12_box_30 : decode (mC mX12_box) 30 = .ok (.getfield 13, 3) := by decide +kernel
theorem dX12_box_33 : decode (mC mX12_box) 33 = .ok (.sipush 285, 3) := by decide +kernel
theorem dX12_box_36 : decode (mC mX12_box) 36 = .ok (.iload_n 1, 1) := by decide +kernel
theorem dX12_box_37 : decode (mC mX12_box) 37 = .ok (.iastore, 1) := by decide +kernel
theorem dX12_box_38 : decode (mC mX12_box) 38 = .ok (.return_, 1) := by decide +kernel
set_option maxRecDepth 100000 in
theorem bX12_box_0 {sc : Nat × (Nat → Int32)} {h : jH} {Q : jQ} {l1 : Int32} {P1 : Int32 → jH → Prop}
    (k1 : JM mX12_in [.int l1, .int 0, .int 15] (jG0 sc) (jput h 159 0 0) (jint sc P1))
    (v1 : ∀ (x1 : Int32) (h1 : jH), P1 x1 h1 → ¬ x1 = 0 → WP mX12_box Q 20 [some (.ref 159), some (.int l1)] [.ref 159] (jG0 sc) h1 (0, 0))
    (v2 : ∀ (x1 : Int32) (h1 : jH), P1 x1 h1 → x1 = 0 → WP mX12_box Q 16 [some (.ref 159), some (.int l1)] [.ref 159] (jG0 sc) h1 (0, 0)) :
    WP mX12_box Q 0 [some (.ref 159), some (.int l1)] [] (jG0 sc) h (0, 0) := by
  refine j_aload_n (i := 0) rfl dX12_box_0 ?_
  refine j_iconst (n := 0) 0 (by decide) dX12_box_1 ?_
  refine j_putI (idx := 3) (ci := 12) (k := 0) (nest := false) (show (12, 3, 12, 0, false) ∈ jFT by decide) rfl rfl rfl rfl (Nat.le_of_ble_eq_true rfl) rfl dX12_box_2 ?_
  refine j_aload_n (i := 0) rfl dX12_box_5 ?_
  refine j_iload_n (i := 1) rfl dX12_box_6 ?_
  refine j_iconst (n := 0) 0 (by decide) dX12_box_7 ?_
  refine j_bipush (n := 15) 15 (by decide) dX12_box_8 ?_
  refine j_callS (idx := 206) (As := [.int l1, .int 0, .int 15]) (n := 3) k1 jint_nt (jlkT (jtb7 84 rfl) rfl) sX12_in kX12_in rfl ⟨by decide +kernel, by decide +kernel, by decide +kernel⟩ rfl ⟨by decide, by decide⟩ (Nat.le_of_ble_eq_true rfl) ⟨Nat.zero_le _, Nat.zero_le _⟩ dX12_box_10 (fun r Γ' h1 q => ?_)
  obtain ⟨x1, q0, rfl, p1⟩ := q; cases q0
  refine j_eqst [.int x1, .ref 159] (by rfl) ?_
  refine j_if_ne (off := 7) 20 dX12_box_13 (by decide) (fun c1 => ?_) (fun c1 => ?_)
  · exact j_le [some (.ref 159), some (.int l1)] (And.intro rfl (And.intro rfl True.intro)) (v1 x1 h1 p1 c1)
  · exact j_le [some (.ref 159), some (.int l1)] (And.intro rfl (And.intro rfl True.intro)) (v2 x1 h1 p1 c1)
set_option maxRecDepth 100000 in
theorem bX12_box_16 {sc : Nat × (Nat → Int32)} {h : jH} {Q : jQ} {l1 : Int32}
    (v1 : WP mX12_box Q 21 [some (.ref 159), some (.int l1)] [.int 1, .ref 159] (jG0 sc) h (0, 0)) :
    WP mX12_box Q 16 [some (.ref 159), some (.int l1)] [.ref 159] (jG0 sc) h (0, 0) := by
  refine j_iconst (n := 1) 1 (by decide) dX12_box_16 ?_
  refine j_goto (off := 4) 21 dX12_box_17 (by decide) ?_
  exact j_le [some (.ref 159), some (.int l1)] (And.intro rfl (And.intro rfl True.intro)) v1
set_option maxRecDepth 100000 in
theorem bX12_box_20 {sc : Nat × (Nat → Int32)} {h : jH} {Q : jQ} {l1 : Int32}
    (v1 : WP mX12_box Q 21 [some (.ref 159), some (.int l1)] [.int 0, .ref 159] (jG0 sc) h (0, 0)) :
    WP mX12_box Q 20 [some (.ref 159), some (.int l1)] [.ref 159] (jG0 sc) h (0, 0) := by
  refine j_iconst (n := 0) 0 (by decide) dX12_box_20 ?_
  exact j_le [some (.ref 159), some (.int l1)] (And.intro rfl (And.intro rfl True.intro)) v1
set_option maxRecDepth 100000 in
theorem bX12_box_21 {sc : Nat × (Nat → Int32)} {h : jH} {Q : jQ} {l1 s0 : Int32} {P1 : Int32 → jH → Prop}
    (k1 : JM mX12_throwsIf [.ref 159, .int s0, .int 1] (jG0 sc) h (jint sc P1))
    (v1 : ∀ (x1 : Int32) (h1 : jH), P1 x1 h1 → x1 = 0 → WP mX12_box Q 29 [some (.ref 159), some (.int l1)] [] (jG0 sc) h1 (0, 0))
    (v2 : ∀ (x1 : Int32) (h1 : jH), P1 x1 h1 → ¬ x1 = 0 → WP mX12_box Q 28 [some (.ref 159), some (.int l1)] [] (jG0 sc) h1 (0, 0)) :
    WP mX12_box Q 21 [some (.ref 159), some (.int l1)] [.int s0, .ref 159] (jG0 sc) h (0, 0) := by
  refine j_iconst (n := 1) 1 (by decide) dX12_box_21 ?_
  refine j_callV (idx := 157) (As := [.int s0, .int 1]) (ci := 12) (n := 2) k1 jint_nt (jlkT (jtb7 17 rfl) rfl) sX12_throwsIf kX12_throwsIf rfl ⟨rfl, by decide +kernel, by decide +kernel, by decide +kernel⟩ rfl ⟨by decide, by decide⟩ (Nat.le_of_ble_eq_true rfl) rfl (Nat.le_of_ble_eq_true rfl) (Nat.le_of_ble_eq_true rfl) ⟨Nat.zero_le _, Nat.zero_le _⟩ dX12_box_22 (fun r Γ' h1 q => ?_)
  obtain ⟨x1, q0, rfl, p1⟩ := q; cases q0
  refine j_eqst [.int x1] (by rfl) ?_
  refine j_if_eq (off := 4) 29 dX12_box_25 (by decide) (fun c1 => ?_) (fun c1 => ?_)
  · exact j_le [some (.ref 159), some (.int l1)] (And.intro rfl (And.intro rfl True.intro)) (v1 x1 h1 p1 c1)
  · exact j_le [some (.ref 159), some (.int l1)] (And.intro rfl (And.intro rfl True.intro)) (v2 x1 h1 p1 c1)
set_option maxRecDepth 100000 in
theorem bX12_box_28 {sc : Nat × (Nat → Int32)} {h : jH} {Q : jQ} {l1 : Int32}
    (v1 : Q (.inl none) (jG0 sc) h) :
    WP mX12_box Q 28 [some (.ref 159), some (.int l1)] [] (jG0 sc) h (0, 0) := by
  exact j_vret rfl (Nat.zero_le _) (Nat.zero_le _) dX12_box_28 v1
set_option maxRecDepth 100000 in
theorem bX12_box_29 {sc : Nat × (Nat → Int32)} {h : jH} {Q : jQ} {l1 : Int32}
    (v1 : Q (.inl none) (jG0 sc) (jput h 160 285 l1)) :
    WP mX12_box Q 29 [some (.ref 159), some (.int l1)] [] (jG0 sc) h (0, 0) := by
  refine j_aload_n (i := 0) rfl dX12_box_29 ?_
  refine j_getR (idx := 13) (ci := 12) (k := 1) (nest := false) (show (12, 13, 12, 1, false) ∈ jFT by decide) rfl (Nat.le_of_ble_eq_true rfl) rfl (a := 160) rfl dX12_box_30 ?_
  refine j_sipush (n := 285) 285 (by decide) dX12_box_33 ?_
  refine j_iload_n (i := 1) rfl dX12_box_36 ?_
  refine j_iast (Nat.le_of_ble_eq_true rfl) rfl (jinl (n := 1454) (by decide)) dX12_box_37 ?_
  exact j_vret rfl (Nat.zero_le _) (Nat.zero_le _) dX12_box_38 v1
set_option maxRecDepth 100000 in
theorem rX12_box_0 {sc : Nat × (Nat → Int32)} {h : jH} {Q : jQ} {l1 : Int32} {P1 : Int32 → jH → Prop} {P2 : Int32 → jH → Prop} {P3 : Int32 → jH → Prop}
    (k1 : JM mX12_in [.int l1, .int 0, .int 15] (jG0 sc) (jput h 159 0 0) (jint sc P1))
    (k2 : ∀ (x1 : Int32) (h1 : jH), P1 x1 h1 → ¬ x1 = 0 → JM mX12_throwsIf [.ref 159, .int 0, .int 1] (jG0 sc) h1 (jint sc P2))
    (v1 : ∀ (x1 : Int32) (h1 : jH), P1 x1 h1 → ¬ x1 = 0 → ∀ (x2 : Int32) (h2 : jH), P2 x2 h2 → x2 = 0 → Q (.inl none) (jG0 sc) (jput h2 160 285 l1))
    (v2 : ∀ (x1 : Int32) (h1 : jH), P1 x1 h1 → ¬ x1 = 0 → ∀ (x2 : Int32) (h2 : jH), P2 x2 h2 → ¬ x2 = 0 → Q (.inl none) (jG0 sc) h2)
    (k3 : ∀ (x1 : Int32) (h1 : jH), P1 x1 h1 → x1 = 0 → JM mX12_throwsIf [.ref 159, .int 1, .int 1] (jG0 sc) h1 (jint sc P3))
    (v3 : ∀ (x1 : Int32) (h1 : jH), P1 x1 h1 → x1 = 0 → ∀ (x3 : Int32) (h3 : jH), P3 x3 h3 → x3 = 0 → Q (.inl none) (jG0 sc) (jput h3 160 285 l1))
    (v4 : ∀ (x1 : Int32) (h1 : jH), P1 x1 h1 → x1 = 0 → ∀ (x3 : Int32) (h3 : jH), P3 x3 h3 → ¬ x3 = 0 → Q (.inl none) (jG0 sc) h3) :
    WP mX12_box Q 0 [some (.ref 159), some (.int l1)] [] (jG0 sc) h (0, 0) := by
  exact (bX12_box_0 k1 (fun x1 h1 p1 c1 => (bX12_box_20 (bX12_box_21 (k2 x1 h1 p1 c1) (fun x2 h2 p2 c2 => (bX12_box_29 (v1 x1 h1 p1 c1 x2 h2 p2 c2))) (fun x2 h2 p2 c2 => (bX12_box_28 (v2 x1 h1 p1 c1 x2 h2 p2 c2)))))) (fun x1 h1 p1 c1 => (bX12_box_16 (bX12_box_21 (k3 x1 h1 p1 c1) (fun x3 h3 p3 c3 => (bX12_box_29 (v3 x1 h1 p1 c1 x3 h3 p3 c3))) (fun x3 h3 p3 c3 => (bX12_box_28 (v4 x1 h1 p1 c1 x3 h3 p3 c3)))))))
theorem dX12_endsOfAll_0 : decode (mC mX12_endsOfAll) 0 = .ok (.iconst 0, 1) := by decide +kernel
theorem dX12_endsOfAll_1 : decode (mC mX12_endsOfAll) 1 = .ok (.istore_n 3, 1) := by decide +kernel
theorem dX12_endsOfAll_2 : decode (mC mX12_endsOfAll) 2 = .ok (.iload_n 3, 1) := by decide +kernel
theorem dX12_endsOfAll_3 : decode (mC mX12_endsOfAll) 3 = .ok (.aload_n 0, 1) := by decide +kernel
theorem dX12_endsOfAll_4 : decode (mC mX12_endsOfAll) 4 = .ok (.getfield 13, 3) := by decide +kernel
theorem dX12_endsOfAll_7 : decode (mC mX12_endsOfAll) 7 = .ok (.sipush 163, 3) := by decide +kernel
theorem dX12_endsOfAll_10 : decode (mC mX12_endsOfAll) 10 = .ok (.iaload, 1) := by decide +kernel
theorem dX12_endsOfAll_11 : decode (mC mX12_endsOfAll) 11 = .ok (.if_icmp .ge 26, 3) := by decide +kernel
theorem dX12_endsOfAll_14 : decode (mC mX12_endsOfAll) 14 = .ok (.aload_n 0, 1) := by decide +kernel
theorem dX12_endsOfAll_15 : decode (mC mX12_endsOfAll) 15 = .ok (.iload_n 3, 1) := by decide +kernel
theorem dX12_endsOfAll_16 : decode (mC mX12_endsOfAll) 16 = .ok (.invokevirtual 347, 3) := by decide +kernel
theorem dX12_endsOfAll_19 : decode (mC mX12_endsOfAll) 19 = .ok (.aload_n 0, 1) := by decide +kernel
theorem dX12_endsOfAll_20 : decode (mC mX12_endsOfAll) 20 = .ok (.getfield 60, 3) := by decide +kernel
theorem dX12_endsOfAll_23 : decode (mC mX12_endsOfAll) 23 = .ok (.iload_n 3, 1) := by decide +kernel
theorem dX12_endsOfAll_24 : decode (mC mX12_endsOfAll) 24 = .ok (.aload_n 0, 1) := by decide +kernel
theorem dX12_endsOfAll_25 : decode (mC mX12_endsOfAll) 25 = .ok (.iload_n 1, 1) := by decide +kernel
theorem dX12_endsOfAll_26 : decode (mC mX12_endsOfAll) 26 = .ok (.iload_n 2, 1) := by decide +kernel
theorem dX12_endsOfAll_27 : decode (mC mX12_endsOfAll) 27 = .ok (.invokevirtual 248, 3) := by decide +kernel
theorem dX12_endsOfAll_30 : decode (mC mX12_endsOfAll) 30 = .ok (.iastore, 1) := by decide +kernel
theorem dX12_endsOfAll_31 : decode (mC mX12_endsOfAll) 31 = .ok (.iinc 3 1, 3) := by decide +kernel
theorem dX12_endsOfAll_34 : decode (mC mX12_endsOfAll) 34 = .ok (.goto (-32), 3) := by decide +kernel
theorem dX12_endsOfAll_37 : decode (mC mX12_endsOfAll) 37 = .ok (.return_, 1) := by decide +kernel
set_option maxRecDepth 100000 in
theorem bX12_endsOfAll_0 {sc : Nat × (Nat → Int32)} {h : jH} {Q : jQ} {l1 l2 : Int32}
    (v1 : WP mX12_endsOfAll Q 2 [some (.ref 159), some (.int l1), some (.int l2), some (.int 0)] [] (jG0 sc) h (0, 0)) :
    WP mX12_endsOfAll Q 0 [some (.ref 159), some (.int l1), some (.int l2), none] [] (jG0 sc) h (0, 0) := by
  refine j_iconst (n := 0) 0 (by decide) dX12_endsOfAll_0 ?_
  refine j_istore_n (i := 3) dX12_endsOfAll_1 (Nat.le_of_ble_eq_true rfl) ?_
  exact j_le [some (.ref 159), some (.int l1), some (.int l2), some (.int 0)] (And.intro rfl (And.intro rfl (And.intro rfl (And.intro rfl True.intro)))) v1
set_option maxRecDepth 100000 in
theorem bX12_endsOfAll_2 {sc : Nat × (Nat → Int32)} {h : jH} {Q : jQ} {l1 l2 l3 : Int32}
    (v1 : (h 160 163) ≤ l3 → WP mX12_endsOfAll Q 37 [some (.ref 159), some (.int l1), some (.int l2), some (.int l3)] [] (jG0 sc) h (0, 0))
    (v2 : ¬ (h 160 163) ≤ l3 → WP mX12_endsOfAll Q 14 [some (.ref 159), some (.int l1), some (.int l2), some (.int l3)] [] (jG0 sc) h (0, 0)) :
    WP mX12_endsOfAll Q 2 [some (.ref 159), some (.int l1), some (.int l2), some (.int l3)] [] (jG0 sc) h (0, 0) := by
  refine j_iload_n (i := 3) rfl dX12_endsOfAll_2 ?_
  refine j_aload_n (i := 0) rfl dX12_endsOfAll_3 ?_
  refine j_getR (idx := 13) (ci := 12) (k := 1) (nest := false) (show (12, 13, 12, 1, false) ∈ jFT by decide) rfl (Nat.le_of_ble_eq_true rfl) rfl (a := 160) rfl dX12_endsOfAll_4 ?_
  refine j_sipush (n := 163) 163 (by decide) dX12_endsOfAll_7 ?_
  refine j_iald (Nat.le_of_ble_eq_true rfl) rfl (jinl (n := 1454) (by decide)) dX12_endsOfAll_10 ?_
  refine j_eqst [.int (h 160 163), .int l3] (by rfl) ?_
  refine j_icmp_ge (off := 26) 37 dX12_endsOfAll_11 (by decide) (fun c1 => ?_) (fun c1 => ?_)
  · exact j_le [some (.ref 159), some (.int l1), some (.int l2), some (.int l3)] (And.intro rfl (And.intro rfl (And.intro rfl (And.intro rfl True.intro)))) (v1 c1)
  · exact j_le [some (.ref 159), some (.int l1), some (.int l2), some (.int l3)] (And.intro rfl (And.intro rfl (And.intro rfl (And.intro rfl True.intro)))) (v2 c1)
set_option maxRecDepth 100000 in
theorem bX12_endsOfAll_14 {sc : Nat × (Nat → Int32)} {h : jH} {Q : jQ} {l1 l2 l3 : Int32} {P1 : jH → Prop} {P2 : Int32 → jH → Prop}
    (k1 : JM mX12_laysAlive [.ref 159, .int l3] (jG0 sc) h (jvoid sc P1))
    (k2 : ∀ h1 : jH, P1 h1 → JM mX12_endAt [.ref 159, .int l1, .int l2] (jG0 sc) h1 (jint sc P2))
    (o1 : ∀ h1 : jH, P1 h1 → ∀ (x2 : Int32) (h2 : jH), P2 x2 h2 → vp_in l3 30)
    (v1 : ∀ h1 : jH, P1 h1 → ∀ (x2 : Int32) (h2 : jH), P2 x2 h2 → WP mX12_endsOfAll Q 2 [some (.ref 159), some (.int l1), some (.int l2), some (.int (l3 + 1))] [] (jG0 sc) (jput h2 174 l3.toNatClampNeg x2) (0, 0)) :
    WP mX12_endsOfAll Q 14 [some (.ref 159), some (.int l1), some (.int l2), some (.int l3)] [] (jG0 sc) h (0, 0) := by
  refine j_aload_n (i := 0) rfl dX12_endsOfAll_14 ?_
  refine j_iload_n (i := 3) rfl dX12_endsOfAll_15 ?_
  refine j_callV (idx := 347) (As := [.int l3]) (ci := 12) (n := 1) k1 jvoid_nt (jlkT (jtb7 235 rfl) rfl) sX12_laysAlive kX12_laysAlive rfl ⟨rfl, by decide +kernel, by decide +kernel, by decide +kernel⟩ rfl ⟨by decide, by decide⟩ (Nat.le_of_ble_eq_true rfl) rfl (Nat.le_of_ble_eq_true rfl) (Nat.le_of_ble_eq_true rfl) ⟨Nat.zero_le _, Nat.zero_le _⟩ dX12_endsOfAll_16 (fun r Γ' h1 q => ?_)
  obtain ⟨q0, rfl, p1⟩ := q; cases q0
  refine j_eqst [] (by rfl) ?_
  refine j_aload_n (i := 0) rfl dX12_endsOfAll_19 ?_
  refine j_getR (idx := 60) (ci := 12) (k := 27) (nest := false) (show (12, 60, 12, 27, false) ∈ jFT by decide) rfl (Nat.le_of_ble_eq_true rfl) rfl (a := 174) rfl dX12_endsOfAll_20 ?_
  refine j_iload_n (i := 3) rfl dX12_endsOfAll_23 ?_
  refine j_aload_n (i := 0) rfl dX12_endsOfAll_24 ?_
  refine j_iload_n (i := 1) rfl dX12_endsOfAll_25 ?_
  refine j_iload_n (i := 2) rfl dX12_endsOfAll_26 ?_
  refine j_callV (idx := 248) (As := [.int l1, .int l2]) (ci := 12) (n := 2) (k2 h1 p1) jint_nt (jlkT (jtb7 71 rfl) rfl) sX12_endAt kX12_endAt rfl ⟨rfl, by decide +kernel, by decide +kernel, by decide +kernel⟩ rfl ⟨by decide, by decide⟩ (Nat.le_of_ble_eq_true rfl) rfl (Nat.le_of_ble_eq_true rfl) (Nat.le_of_ble_eq_true rfl) ⟨Nat.zero_le _, Nat.zero_le _⟩ dX12_endsOfAll_27 (fun r Γ' h2 q => ?_)
  obtain ⟨x2, q0, rfl, p2⟩ := q; cases q0
  refine j_eqst [.int x2, .int l3, .ref 174] (by rfl) ?_
  refine j_iast (Nat.le_of_ble_eq_true rfl) rfl (o1 h1 p1 x2 h2 p2) dX12_endsOfAll_30 ?_
  refine j_iinc (i := 3) (n := 1) rfl dX12_endsOfAll_31 (Nat.le_of_ble_eq_true rfl) ?_
  refine j_eqlv [some (.ref 159), some (.int l1), some (.int l2), some (.int (l3 + 1))] rfl ?_
  refine j_goto (off := -32) 2 dX12_endsOfAll_34 (by decide) ?_
  exact j_le [some (.ref 159), some (.int l1), some (.int l2), some (.int (l3 + 1))] (And.intro rfl (And.intro rfl (And.intro rfl (And.intro rfl True.intro)))) (v1 h1 p1 x2 h2 p2)
set_option maxRecDepth 100000 in
theorem bX12_endsOfAll_37 {sc : Nat × (Nat → Int32)} {h : jH} {Q : jQ} {l1 l2 l3 : Int32}
    (v1 : Q (.inl none) (jG0 sc) h) :
    WP mX12_endsOfAll Q 37 [some (.ref 159), some (.int l1), some (.int l2), some (.int l3)] [] (jG0 sc) h (0, 0) := by
  exact j_vret rfl (Nat.zero_le _) (Nat.zero_le _) dX12_endsOfAll_37 v1
set_option maxRecDepth 100000 in
theorem rX12_endsOfAll_0 {sc : Nat × (Nat → Int32)} {h : jH} {Q : jQ} {l1 l2 : Int32}
    (v1 : WP mX12_endsOfAll Q 2 [some (.ref 159), some (.int l1), some (.int l2), some (.int 0)] [] (jG0 sc) h (0, 0)) :
    WP mX12_endsOfAll Q 0 [some (.ref 159), some (.int l1), some (.int l2), none] [] (jG0 sc) h (0, 0) := by
  exact (bX12_endsOfAll_0 v1)
set_option maxRecDepth 100000 in
theorem rX12_endsOfAll_2 {sc : Nat × (Nat → Int32)} {h : jH} {Q : jQ} {l1 l2 l3 : Int32} {P1 : jH → Prop} {P2 : Int32 → jH → Prop}
    (v1 : (h 160 163) ≤ l3 → Q (.inl none) (jG0 sc) h)
    (k1 : ¬ (h 160 163) ≤ l3 → JM mX12_laysAlive [.ref 159, .int l3] (jG0 sc) h (jvoid sc P1))
    (k2 : ¬ (h 160 163) ≤ l3 → ∀ h1 : jH, P1 h1 → JM mX12_endAt [.ref 159, .int l1, .int l2] (jG0 sc) h1 (jint sc P2))
    (o1 : ¬ (h 160 163) ≤ l3 → ∀ h1 : jH, P1 h1 → ∀ (x2 : Int32) (h2 : jH), P2 x2 h2 → vp_in l3 30)
    (v2 : ¬ (h 160 163) ≤ l3 → ∀ h1 : jH, P1 h1 → ∀ (x2 : Int32) (h2 : jH), P2 x2 h2 → WP mX12_endsOfAll Q 2 [some (.ref 159), some (.int l1), some (.int l2), some (.int (l3 + 1))] [] (jG0 sc) (jput h2 174 l3.toNatClampNeg x2) (0, 0)) :
    WP mX12_endsOfAll Q 2 [some (.ref 159), some (.int l1), some (.int l2), some (.int l3)] [] (jG0 sc) h (0, 0) := by
  exact (bX12_endsOfAll_2 (fun c1 => (bX12_endsOfAll_37 (v1 c1))) (fun c1 => (bX12_endsOfAll_14 (k1 c1) (fun h1 p1 => (k2 c1 h1 p1)) (fun h1 p1 x2 h2 p2 => (o1 c1 h1 p1 x2 h2 p2)) (fun h1 p1 x2 h2 p2 => (v2 c1 h1 p1 x2 h2 p2)))))
theorem dX12_mostAlike_0 : decode (mC mX12_mostAlike) 0 = .ok (.iconst 0, 1) := by decide +kernel
theorem dX12_mostAlike_1 : decode (mC mX12_mostAlike) 1 = .ok (.istore_n 1, 1) := by decide +kernel
theorem dX12_mostAlike_2 : decode (mC mX12_mostAlike) 2 = .ok (.iconst 0, 1) := by decide +kernel
theorem dX12_mostAlike_3 : decode (mC mX12_mostAlike) 3 = .ok (.istore_n 2, 1) := by decide +kernel
theorem dX12_mostAlike_4 : decode (mC mX12_mostAlike) 4 = .ok (.iload_n 2, 1) := by decide +kernel
theorem dX12_mostAlike_5 : decode (mC mX12_mostAlike) 5 = .ok (.aload_n 0, 1) := by decide +kernel
theorem dX12_mostAlike_6 : decode (mC mX12_mostAlike) 6 = .ok (.getfield 13, 3) := by decide +kernel
theorem dX12_mostAlike_9 : decode (mC mX12_mostAlike) 9 = .ok (.sipush 163, 3) := by decide +kernel
theorem dX12_mostAlike_12 : decode (mC mX12_mostAlike) 12 = .ok (.iaload, 1) := by decide +kernel
theorem dX12_mostAlike_13 : decode (mC mX12_mostAlike) 13 = .ok (.if_icmp .ge 63, 3) := by decide +kernel
theorem dX12_mostAlike_16 : decode (mC mX12_mostAlike) 16 = .ok (.iconst 0, 1) := by decide +kernel
theorem dX12_mostAlike_17 : decode (mC mX12_mostAlike) 17 = .ok (.istore_n 3, 1) := by decide +kernel
theorem dX12_mostAlike_18 : decode (mC mX12_mostAlike) 18 = .ok (.iconst 0, 1) := by decide +kernel
theorem dX12_mostAlike_19 : decode (mC mX12_mostAlike) 19 = .ok (.istore 4, 2) := by decide +kernel
theorem dX12_mostAlike_21 : decode (mC mX12_mostAlike) 21 = .ok (.iload 4, 2) := by decide +kernel
theorem dX12_mostAlike_23 : decode (mC mX12_mostAlike) 23 = .ok (.aload_n 0, 1) := by decide +kernel
theorem dX12_mostAlike_24 : decode (mC mX12_mostAlike) 24 = .ok (.getfield 13, 3) := by decide +kernel
theorem dX12_mostAlike_27 : decode (mC mX12_mostAlike) 27 = .ok (.sipush 163, 3) := by decide +kernel
theorem dX12_mostAlike_30 : decode (mC mX12_mostAlike) 30 = .ok (.iaload, 1) := by decide +kernel
theorem dX12_mostAlike_31 : decode (mC mX12_mostAlike) 31 = .ok (.if_icmp .ge 33, 3) := by decide +kernel
theorem dX12_mostAlike_34 : decode (mC mX12_mostAlike) 34 = .ok (.iload_n 3, 1) := by decide +kernel
theorem dX12_mostAlike_35 : decode (mC mX12_mostAlike) 35 = .ok (.aload_n 0, 1) := by decide +kernel
theorem dX12_mostAlike_36 : decode (mC mX12_mostAlike) 36 = .ok (.getfield 60, 3) := by decide +kernel
theorem dX12_mostAlike_39 : decode (mC mX12_mostAlike) 39 = .ok (.iload 4, 2) := by decide +kernel
theorem dX12_mostAlike_41 : decode (mC mX12_mostAlike) 41 = .ok (.iaload, 1) := by decide +kernel
theorem dX12_mostAlike_42 : decode (mC mX12_mostAlike) 42 = .ok (.aload_n 0, 1) := by decide +kernel
theorem dX12_mostAlike_43 : decode (mC mX12_mostAlike) 43 = .ok (.getfield 60, 3) := by decide +kernel
theorem dX12_mostAlike_46 : decode (mC mX12_mostAlike) 46 = .ok (.iload_n 2, 1) := by decide +kernel
theorem dX12_mostAlike_47 : decode (mC mX12_mostAlike) 47 = .ok (.iaload, 1) := by decide +kernel
theorem dX12_mostAlike_48 : decode (mC mX12_mostAlike) 48 = .ok (.if_icmp .ne 7, 3) := by decide +kernel
theorem dX12_mostAlike_51 : decode (mC mX12_mostAlike) 51 = .ok (.iconst 1, 1) := by decide +kernel
theorem dX12_mostAlike_52 : decode (mC mX12_mostAlike) 52 = .ok (.goto 4, 3) := by decide +kernel
theorem dX12_mostAlike_55 : decode (mC mX12_mostAlike) 55 = .ok (.iconst 0, 1) := by decide +kernel
theorem dX12_mostAlike_56 : decode (mC mX12_mostAlike) 56 = .ok (.iadd, 1) := by decide +kernel
theorem dX12_mostAlike_57 : decode (mC mX12_mostAlike) 57 = .ok (.istore_n 3, 1) := by decide +kernel
theorem dX12_mostAlike_58 : decode (mC mX12_mostAlike) 58 = .ok (.iinc 4 1, 3) := by decide +kernel
theorem dX12_mostAlike_61 : decode (mC mX12_mostAlike) 61 = .ok (.goto (-40), 3) := by decide +kernel
theorem dX12_mostAlike_64 : decode (mC mX12_mostAlike) 64 = .ok (.iload_n 1, 1) := by decide +kernel
theorem dX12_mostAlike_65 : decode (mC mX12_mostAlike) 65 = .ok (.iload_n 3, 1) := by decide +kernel
theorem dX12_mostAlike_66 : decode (mC mX12_mostAlike) 66 = .ok (.invokestatic 243, 3) := by decide +kernel
theorem dX12_mostAlike_69 : decode (mC mX12_mostAlike) 69 = .ok (.istore_n 1, 1) := by decide +kernel
theorem dX12_mostAlike_70 : decode (mC mX12_mostAlike) 70 = .ok (.iinc 2 1, 3) := by decide +kernel
theorem dX12_mostAlike_73 : decode (mC mX12_mostAlike) 73 = .ok (.goto (-69), 3) := by decide +kernel
theorem dX12_mostAlike_76 : decode (mC mX12_mostAlike) 76 = .ok (.iload_n 1, 1) := by decide +kernel
theorem dX12_mostAlike_77 : decode (mC mX12_mostAlike) 77 = .ok (.ireturn, 1) := by decide +kernel
set_option maxRecDepth 100000 in
theorem bX12_mostAlike_0 {sc : Nat × (Nat → Int32)} {h : jH} {Q : jQ}
    (v1 : WP mX12_mostAlike Q 4 [some (.ref 159), some (.int 0), some (.int 0), none, none] [] (jG0 sc) h (0, 0)) :
    WP mX12_mostAlike Q 0 [some (.ref 159), none, none, none, none] [] (jG0 sc) h (0, 0) := by
  refine j_iconst (n := 0) 0 (by decide) dX12_mostAlike_0 ?_
  refine j_istore_n (i := 1) dX12_mostAlike_1 (Nat.le_of_ble_eq_true rfl) ?_
  refine j_iconst (n := 0) 0 (by decide) dX12_mostAlike_2 ?_
  refine j_istore_n (i := 2) dX12_mostAlike_3 (Nat.le_of_ble_eq_true rfl) ?_
  exact j_le [some (.ref 159), some (.int 0), some (.int 0), none, none] (And.intro rfl (And.intro rfl (And.intro rfl True.intro))) v1
set_option maxRecDepth 100000 in
theorem bX12_mostAlike_4 {sc : Nat × (Nat → Int32)} {h : jH} {Q : jQ} {l1 l2 : Int32}
    (v1 : (h 160 163) ≤ l2 → WP mX12_mostAlike Q 76 [some (.ref 159), some (.int l1), some (.int l2), none, none] [] (jG0 sc) h (0, 0))
    (v2 : ¬ (h 160 163) ≤ l2 → WP mX12_mostAlike Q 16 [some (.ref 159), some (.int l1), some (.int l2), none, none] [] (jG0 sc) h (0, 0)) :
    WP mX12_mostAlike Q 4 [some (.ref 159), some (.int l1), some (.int l2), none, none] [] (jG0 sc) h (0, 0) := by
  refine j_iload_n (i := 2) rfl dX12_mostAlike_4 ?_
  refine j_aload_n (i := 0) rfl dX12_mostAlike_5 ?_
  refine j_getR (idx := 13) (ci := 12) (k := 1) (nest := false) (show (12, 13, 12, 1, false) ∈ jFT by decide) rfl (Nat.le_of_ble_eq_true rfl) rfl (a := 160) rfl dX12_mostAlike_6 ?_
  refine j_sipush (n := 163) 163 (by decide) dX12_mostAlike_9 ?_
  refine j_iald (Nat.le_of_ble_eq_true rfl) rfl (jinl (n := 1454) (by decide)) dX12_mostAlike_12 ?_
  refine j_eqst [.int (h 160 163), .int l2] (by rfl) ?_
  refine j_icmp_ge (off := 63) 76 dX12_mostAlike_13 (by decide) (fun c1 => ?_) (fun c1 => ?_)
  · exact j_le [some (.ref 159), some (.int l1), some (.int l2), none, none] (And.intro rfl (And.intro rfl (And.intro rfl True.intro))) (v1 c1)
  · exact j_le [some (.ref 159), some (.int l1), some (.int l2), none, none] (And.intro rfl (And.intro rfl (And.intro rfl True.intro))) (v2 c1)
set_option maxRecDepth 100000 in
theorem bX12_mostAlike_16 {sc : Nat × (Nat → Int32)} {h : jH} {Q : jQ} {l1 l2 : Int32}
    (v1 : WP mX12_mostAlike Q 21 [some (.ref 159), some (.int l1), some (.int l2), some (.int 0), some (.int 0)] [] (jG0 sc) h (0, 0)) :
    WP mX12_mostAlike Q 16 [some (.ref 159), some (.int l1), some (.int l2), none, none] [] (jG0 sc) h (0, 0) := by
  refine j_iconst (n := 0) 0 (by decide) dX12_mostAlike_16 ?_
  refine j_istore_n (i := 3) dX12_mostAlike_17 (Nat.le_of_ble_eq_true rfl) ?_
  refine j_iconst (n := 0) 0 (by decide) dX12_mostAlike_18 ?_
  refine j_istore (i := 4) dX12_mostAlike_19 (Nat.le_of_ble_eq_true rfl) ?_
  exact j_le [some (.ref 159), some (.int l1), some (.int l2), some (.int 0), some (.int 0)] (And.intro rfl (And.intro rfl (And.intro rfl (And.intro rfl (And.intro rfl True.intro))))) v1
set_option maxRecDepth 100000 in
theorem bX12_mostAlike_21 {sc : Nat × (Nat → Int32)} {h : jH} {Q : jQ} {l1 l2 l3 l4 : Int32}
    (v1 : (h 160 163) ≤ l4 → WP mX12_mostAlike Q 64 [some (.ref 159), some (.int l1), some (.int l2), some (.int l3), some (.int l4)] [] (jG0 sc) h (0, 0))
    (v2 : ¬ (h 160 163) ≤ l4 → WP mX12_mostAlike Q 34 [some (.ref 159), some (.int l1), some (.int l2), some (.int l3), some (.int l4)] [] (jG0 sc) h (0, 0)) :
    WP mX12_mostAlike Q 21 [some (.ref 159), some (.int l1), some (.int l2), some (.int l3), some (.int l4)] [] (jG0 sc) h (0, 0) := by
  refine j_iload (i := 4) rfl dX12_mostAlike_21 ?_
  refine j_aload_n (i := 0) rfl dX12_mostAlike_23 ?_
  refine j_getR (idx := 13) (ci := 12) (k := 1) (nest := false) (show (12, 13, 12, 1, false) ∈ jFT by decide) rfl (Nat.le_of_ble_eq_true rfl) rfl (a := 160) rfl dX12_mostAlike_24 ?_
  refine j_sipush (n := 163) 163 (by decide) dX12_mostAlike_27 ?_
  refine j_iald (Nat.le_of_ble_eq_true rfl) rfl (jinl (n := 1454) (by decide)) dX12_mostAlike_30 ?_
  refine j_eqst [.int (h 160 163), .int l4] (by rfl) ?_
  refine j_icmp_ge (off := 33) 64 dX12_mostAlike_31 (by decide) (fun c1 => ?_) (fun c1 => ?_)
  · exact j_le [some (.ref 159), some (.int l1), some (.int l2), some (.int l3), some (.int l4)] (And.intro rfl (And.intro rfl (And.intro rfl (And.intro rfl (And.intro rfl True.intro))))) (v1 c1)
  · exact j_le [some (.ref 159), some (.int l1), some (.int l2), some (.int l3), some (.int l4)] (And.intro rfl (And.intro rfl (And.intro rfl (And.intro rfl (And.intro rfl True.intro))))) (v2 c1)
set_option maxRecDepth 100000 in
theorem bX12_mostAlike_34 {sc : Nat × (Nat → Int32)} {h : jH} {Q : jQ} {l1 l2 l3 l4 : Int32}
    (o1 : vp_in l4 30)
    (o2 : vp_in l2 30)
    (v1 : ¬ (h 174 l4.toNatClampNeg) = (h 174 l2.toNatClampNeg) → WP mX12_mostAlike Q 55 [some (.ref 159), some (.int l1), some (.int l2), some (.int l3), some (.int l4)] [.int l3] (jG0 sc) h (0, 0))
    (v2 : (h 174 l4.toNatClampNeg) = (h 174 l2.toNatClampNeg) → WP mX12_mostAlike Q 51 [some (.ref 159), some (.int l1), some (.int l2), some (.int l3), some (.int l4)] [.int l3] (jG0 sc) h (0, 0)) :
    WP mX12_mostAlike Q 34 [some (.ref 159), some (.int l1), some (.int l2), some (.int l3), some (.int l4)] [] (jG0 sc) h (0, 0) := by
  refine j_iload_n (i := 3) rfl dX12_mostAlike_34 ?_
  refine j_aload_n (i := 0) rfl dX12_mostAlike_35 ?_
  refine j_getR (idx := 60) (ci := 12) (k := 27) (nest := false) (show (12, 60, 12, 27, false) ∈ jFT by decide) rfl (Nat.le_of_ble_eq_true rfl) rfl (a := 174) rfl dX12_mostAlike_36 ?_
  refine j_iload (i := 4) rfl dX12_mostAlike_39 ?_
  refine j_iald (Nat.le_of_ble_eq_true rfl) rfl o1 dX12_mostAlike_41 ?_
  refine j_aload_n (i := 0) rfl dX12_mostAlike_42 ?_
  refine j_getR (idx := 60) (ci := 12) (k := 27) (nest := false) (show (12, 60, 12, 27, false) ∈ jFT by decide) rfl (Nat.le_of_ble_eq_true rfl) rfl (a := 174) rfl dX12_mostAlike_43 ?_
  refine j_iload_n (i := 2) rfl dX12_mostAlike_46 ?_
  refine j_iald (Nat.le_of_ble_eq_true rfl) rfl o2 dX12_mostAlike_47 ?_
  refine j_icmp_ne (off := 7) 55 dX12_mostAlike_48 (by decide) (fun c1 => ?_) (fun c1 => ?_)
  · exact j_le [some (.ref 159), some (.int l1), some (.int l2), some (.int l3), some (.int l4)] (And.intro rfl (And.intro rfl (And.intro rfl (And.intro rfl (And.intro rfl True.intro))))) (v1 c1)
  · exact j_le [some (.ref 159), some (.int l1), some (.int l2), some (.int l3), some (.int l4)] (And.intro rfl (And.intro rfl (And.intro rfl (And.intro rfl (And.intro rfl True.intro))))) (v2 c1)
set_option maxRecDepth 100000 in
theorem bX12_mostAlike_51 {sc : Nat × (Nat → Int32)} {h : jH} {Q : jQ} {l1 l2 l3 l4 s0 : Int32}
    (v1 : WP mX12_mostAlike Q 56 [some (.ref 159), some (.int l1), some (.int l2), some (.int l3), some (.int l4)] [.int 1, .int s0] (jG0 sc) h (0, 0)) :
    WP mX12_mostAlike Q 51 [some (.ref 159), some (.int l1), some (.int l2), some (.int l3), some (.int l4)] [.int s0] (jG0 sc) h (0, 0) := by
  refine j_iconst (n := 1) 1 (by decide) dX12_mostAlike_51 ?_
  refine j_goto (off := 4) 56 dX12_mostAlike_52 (by decide) ?_
  exact j_le [some (.ref 159), some (.int l1), some (.int l2), some (.int l3), some (.int l4)] (And.intro rfl (And.intro rfl (And.intro rfl (And.intro rfl (And.intro rfl True.intro))))) v1
set_option maxRecDepth 100000 in
theorem bX12_mostAlike_55 {sc : Nat × (Nat → Int32)} {h : jH} {Q : jQ} {l1 l2 l3 l4 s0 : Int32}
    (v1 : WP mX12_mostAlike Q 56 [some (.ref 159), some (.int l1), some (.int l2), some (.int l3), some (.int l4)] [.int 0, .int s0] (jG0 sc) h (0, 0)) :
    WP mX12_mostAlike Q 55 [some (.ref 159), some (.int l1), some (.int l2), some (.int l3), some (.int l4)] [.int s0] (jG0 sc) h (0, 0) := by
  refine j_iconst (n := 0) 0 (by decide) dX12_mostAlike_55 ?_
  exact j_le [some (.ref 159), some (.int l1), some (.int l2), some (.int l3), some (.int l4)] (And.intro rfl (And.intro rfl (And.intro rfl (And.intro rfl (And.intro rfl True.intro))))) v1
set_option maxRecDepth 100000 in
theorem bX12_mostAlike_56 {sc : Nat × (Nat → Int32)} {h : jH} {Q : jQ} {l1 l2 l3 l4 s0 s1 : Int32}
    (v1 : WP mX12_mostAlike Q 21 [some (.ref 159), some (.int l1), some (.int l2), some (.int (s1 + s0)), some (.int (l4 + 1))] [] (jG0 sc) h (0, 0)) :
    WP mX12_mostAlike Q 56 [some (.ref 159), some (.int l1), some (.int l2), some (.int l3), some (.int l4)] [.int s0, .int s1] (jG0 sc) h (0, 0) := by
  refine j_iadd dX12_mostAlike_56 ?_
  refine j_istore_n (i := 3) dX12_mostAlike_57 (Nat.le_of_ble_eq_true rfl) ?_
  refine j_iinc (i := 4) (n := 1) rfl dX12_mostAlike_58 (Nat.le_of_ble_eq_true rfl) ?_
  refine j_eqlv [some (.ref 159), some (.int l1), some (.int l2), some (.int (s1 + s0)), some (.int (l4 + 1))] rfl ?_
  refine j_goto (off := -40) 21 dX12_mostAlike_61 (by decide) ?_
  exact j_le [some (.ref 159), some (.int l1), some (.int l2), some (.int (s1 + s0)), some (.int (l4 + 1))] (And.intro rfl (And.intro rfl (And.intro rfl (And.intro rfl (And.intro rfl True.intro))))) v1
set_option maxRecDepth 100000 in
theorem bX12_mostAlike_64 {sc : Nat × (Nat → Int32)} {h : jH} {Q : jQ} {l1 l2 l3 l4 : Int32}
    (v1 : WP mX12_mostAlike Q 4 [some (.ref 159), some (.int (if l1 < l3 then l3 else l1)), some (.int (l2 + 1)), none, none] [] (jG0 sc) h (0, 0)) :
    WP mX12_mostAlike Q 64 [some (.ref 159), some (.int l1), some (.int l2), some (.int l3), some (.int l4)] [] (jG0 sc) h (0, 0) := by
  refine j_iload_n (i := 1) rfl dX12_mostAlike_64 ?_
  refine j_iload_n (i := 3) rfl dX12_mostAlike_65 ?_
  refine j_mmax (idx := 243) (jlkT (jtb7 103 rfl) rfl) dX12_mostAlike_66 (Nat.le_of_ble_eq_true rfl) ⟨Nat.zero_le _, Nat.zero_le _⟩ ?_
  refine j_istore_n (i := 1) dX12_mostAlike_69 (Nat.le_of_ble_eq_true rfl) ?_
  refine j_iinc (i := 2) (n := 1) rfl dX12_mostAlike_70 (Nat.le_of_ble_eq_true rfl) ?_
  refine j_eqlv [some (.ref 159), some (.int (if l1 < l3 then l3 else l1)), some (.int (l2 + 1)), some (.int l3), some (.int l4)] rfl ?_
  refine j_goto (off := -69) 4 dX12_mostAlike_73 (by decide) ?_
  exact j_le [some (.ref 159), some (.int (if l1 < l3 then l3 else l1)), some (.int (l2 + 1)), none, none] (And.intro rfl (And.intro rfl (And.intro rfl True.intro))) v1
set_option maxRecDepth 100000 in
theorem bX12_mostAlike_76 {sc : Nat × (Nat → Int32)} {h : jH} {Q : jQ} {l1 l2 : Int32}
    (v1 : Q (.inl (some (.int l1))) (jG0 sc) h) :
    WP mX12_mostAlike Q 76 [some (.ref 159), some (.int l1), some (.int l2), none, none] [] (jG0 sc) h (0, 0) := by
  refine j_iload_n (i := 1) rfl dX12_mostAlike_76 ?_
  exact j_iret rfl rfl (Nat.zero_le _) (Nat.zero_le _) dX12_mostAlike_77 v1
set_option maxRecDepth 100000 in
theorem rX12_mostAlike_0 {sc : Nat × (Nat → Int32)} {h : jH} {Q : jQ}
    (v1 : WP mX12_mostAlike Q 4 [some (.ref 159), some (.int 0), some (.int 0), none, none] [] (jG0 sc) h (0, 0)) :
    WP mX12_mostAlike Q 0 [some (.ref 159), none, none, none, none] [] (jG0 sc) h (0, 0) := by
  exact (bX12_mostAlike_0 v1)
set_option maxRecDepth 100000 in
theorem rX12_mostAlike_4 {sc : Nat × (Nat → Int32)} {h : jH} {Q : jQ} {l1 l2 : Int32}
    (v1 : (h 160 163) ≤ l2 → Q (.inl (some (.int l1))) (jG0 sc) h)
    (v2 : ¬ (h 160 163) ≤ l2 → WP mX12_mostAlike Q 21 [some (.ref 159), some (.int l1), some (.int l2), some (.int 0), some (.int 0)] [] (jG0 sc) h (0, 0)) :
    WP mX12_mostAlike Q 4 [some (.ref 159), some (.int l1), some (.int l2), none, none] [] (jG0 sc) h (0, 0) := by
  exact (bX12_mostAlike_4 (fun c1 => (bX12_mostAlike_76 (v1 c1))) (fun c1 => (bX12_mostAlike_16 (v2 c1))))
set_option maxRecDepth 100000 in
theorem rX12_mostAlike_21 {sc : Nat × (Nat → Int32)} {h : jH} {Q : jQ} {l1 l2 l3 l4 : Int32}
    (v1 : (h 160 163) ≤ l4 → WP mX12_mostAlike Q 4 [some (.ref 159), some (.int (if l1 < l3 then l3 else l1)), some (.int (l2 + 1)), none, none] [] (jG0 sc) h (0, 0))
    (o1 : ¬ (h 160 163) ≤ l4 → vp_in l4 30)
    (o2 : ¬ (h 160 163) ≤ l4 → vp_in l2 30)
    (v2 : ¬ (h 160 163) ≤ l4 → ¬ (h 174 l4.toNatClampNeg) = (h 174 l2.toNatClampNeg) → WP mX12_mostAlike Q 21 [some (.ref 159), some (.int l1), some (.int l2), some (.int (l3 + 0)), some (.int (l4 + 1))] [] (jG0 sc) h (0, 0))
    (v3 : ¬ (h 160 163) ≤ l4 → (h 174 l4.toNatClampNeg) = (h 174 l2.toNatClampNeg) → WP mX12_mostAlike Q 21 [some (.ref 159), some (.int l1), some (.int l2), some (.int (l3 + 1)), some (.int (l4 + 1))] [] (jG0 sc) h (0, 0)) :
    WP mX12_mostAlike Q 21 [some (.ref 159), some (.int l1), some (.int l2), some (.int l3), some (.int l4)] [] (jG0 sc) h (0, 0) := by
  exact (bX12_mostAlike_21 (fun c1 => (bX12_mostAlike_64 (v1 c1))) (fun c1 => (bX12_mostAlike_34 (o1 c1) (o2 c1) (fun c2 => (bX12_mostAlike_55 (bX12_mostAlike_56 (v2 c1 c2)))) (fun c2 => (bX12_mostAlike_51 (bX12_mostAlike_56 (v3 c1 c2)))))))
theorem dX12_nearest_0 : decode (mC mX12_nearest) 0 = .ok (.iconst (-1), 1) := by decide +kernel
theorem dX12_nearest_1 : decode (mC mX12_nearest) 1 = .ok (.istore_n 3, 1) := by decide +kernel
theorem dX12_nearest_2 : decode (mC mX12_nearest) 2 = .ok (.iconst 0, 1) := by decide +kernel
theorem dX12_nearest_3 : decode (mC mX12_nearest) 3 = .ok (.istore 4, 2) := by decide +kernel
theorem dX12_nearest_5 : decode (mC mX12_nearest) 5 = .ok (.iload 4, 2) := by decide +kernel
theorem dX12_nearest_7 : decode (mC mX12_nearest) 7 = .ok (.aload_n 0, 1) := by decide +kernel
theorem dX12_nearest_8 : decode (mC mX12_nearest) 8 = .ok (.getfield 13, 3) := by decide +kernel
theorem dX12_nearest_11 : decode (mC mX12_nearest) 11 = .ok (.bipush 122, 2) := by decide +kernel
theorem dX12_nearest_13 : decode (mC mX12_nearest) 13 = .ok (.iaload, 1) := by decide +kernel
theorem dX12_nearest_14 : decode (mC mX12_nearest) 14 = .ok (.if_icmp .ge 64, 3) := by decide +kernel
theorem dX12_nearest_17 : decode (mC mX12_nearest) 17 = .ok (.iload_n 1, 1) := by decide +kernel
theorem dX12_nearest_18 : decode (mC mX12_nearest) 18 = .ok (.aload_n 0, 1) := by decide +kernel
theorem dX12_nearest_19 : decode (mC mX12_nearest) 19 = .ok (.getfield 13, 3) := by decide +kernel
theorem dX12_nearest_22 : decode (mC mX12_nearest) 22 = .ok (.bipush 123, 2) := by decide +kernel
theorem dX12_nearest_24 : decode (mC mX12_nearest) 24 = .ok (.iconst 3, 1) := by decide +kernel
theorem dX12_nearest_25 : decode (mC mX12_nearest) 25 = .ok (.iload 4, 2) := by decide +kernel
theorem dX12_nearest_27 : decode (mC mX12_nearest) 27 = .ok (.imul, 1) := by decide +kernel
theorem dX12_nearest_28 : decode (mC mX12_nearest) 28 = .ok (.iadd, 1) := by decide +kernel
theorem dX12_nearest_29 : decode (mC mX12_nearest) 29 = .ok (.iaload, 1) := by decide +kernel
theorem dX12_nearest_30 : decode (mC mX12_nearest) 30 = .ok (.isub, 1) := by decide +kernel
theorem dX12_nearest_31 : decode (mC mX12_nearest) 31 = .ok (.invokestatic 359, 3) := by decide +kernel
theorem dX12_nearest_34 : decode (mC mX12_nearest) 34 = .ok (.iload_n 2, 1) := by decide +kernel
theorem dX12_nearest_35 : decode (mC mX12_nearest) 35 = .ok (.aload_n 0, 1) := by decide +kernel
theorem dX12_nearest_36 : decode (mC mX12_nearest) 36 = .ok (.getfield 13, 3) := by decide +kernel
theorem dX12_nearest_39 : decode (mC mX12_nearest) 39 = .ok (.bipush 123, 2) := by decide +kernel
theorem dX12_nearest_41 : decode (mC mX12_nearest) 41 = .ok (.iconst 3, 1) := by decide +kernel
theorem dX12_nearest_42 : decode (mC mX12_nearest) 42 = .ok (.iload 4, 2) := by decide +kernel
theorem dX12_nearest_44 : decode (mC mX12_nearest) 44 = .ok (.imul, 1) := by decide +kernel
theorem dX12_nearest_45 : decode (mC mX12_nearest) 45 = .ok (.iadd, 1) := by decide +kernel
theorem dX12_nearest_46 : decode (mC mX12_nearest) 46 = .ok (.iconst 1, 1) := by decide +kernel
theorem dX12_nearest_47 : decode (mC mX12_nearest) 47 = .ok (.iadd, 1) := by decide +kernel
theorem dX12_nearest_48 : decode (mC mX12_nearest) 48 = .ok (.iaload, 1) := by decide +kernel
theorem dX12_nearest_49 : decode (mC mX12_nearest) 49 = .ok (.isub, 1) := by decide +kernel
theorem dX12_nearest_50 : decode (mC mX12_nearest) 50 = .ok (.invokestatic 359, 3) := by decide +kernel
theorem dX12_nearest_53 : decode (mC mX12_nearest) 53 = .ok (.iadd, 1) := by decide +kernel
theorem dX12_nearest_54 : decode (mC mX12_nearest) 54 = .ok (.istore 5, 2) := by decide +kernel
theorem dX12_nearest_56 : decode (mC mX12_nearest) 56 = .ok (.iload_n 3, 1) := by decide +kernel
theorem dX12_nearest_57 : decode (mC mX12_nearest) 57 = .ok (.ifCond .ge 8, 3) := by decide +kernel
theorem dX12_nearest_60 : decode (mC mX12_nearest) 60 = .ok (.iload 5, 2) := by decide +kernel
theorem dX12_nearest_62 : decode (mC mX12_nearest) 62 = .ok (.goto 9, 3) := by decide +kernel
theorem dX12_nearest_65 : decode (mC mX12_nearest) 65 = .ok (.iload_n 3, 1) := by decide +kernel
theorem dX12_nearest_66 : decode (mC mX12_nearest) 66 = .ok (.iload 5, 2) := by decide +kernel
theorem dX12_nearest_68 : decode (mC mX12_nearest) 68 = .ok (.invokestatic 362, 3) := by decide +kernel
theorem dX12_nearest_71 : decode (mC mX12_nearest) 71 = .ok (.istore_n 3, 1) := by decide +kernel
theorem dX12_nearest_72 : decode (mC mX12_nearest) 72 = .ok (.iinc 4 1, 3) := by decide +kernel
theorem dX12_nearest_75 : decode (mC mX12_nearest) 75 = .ok (.goto (-70), 3) := by decide +kernel
theorem dX12_nearest_78 : decode (mC mX12_nearest) 78 = .ok (.iconst 0, 1) := by decide +kernel
theorem dX12_nearest_79 : decode (mC mX12_nearest) 79 = .ok (.iload_n 3, 1) := by decide +kernel
theorem dX12_nearest_80 : decode (mC mX12_nearest) 80 = .ok (.invokestatic 243, 3) := by decide +kernel
theorem dX12_nearest_83 : decode (mC mX12_nearest) 83 = .ok (.ireturn, 1) := by decide +kernel
set_option maxRecDepth 100000 in
theorem bX12_nearest_0 {sc : Nat × (Nat → Int32)} {h : jH} {Q : jQ} {l1 l2 : Int32}
    (v1 : WP mX12_nearest Q 5 [some (.ref 159), some (.int l1), some (.int l2), some (.int (-1)), some (.int 0), none] [] (jG0 sc) h (0, 0)) :
    WP mX12_nearest Q 0 [some (.ref 159), some (.int l1), some (.int l2), none, none, none] [] (jG0 sc) h (0, 0) := by
  refine j_iconst (n := (-1)) (-1) (by decide) dX12_nearest_0 ?_
  refine j_istore_n (i := 3) dX12_nearest_1 (Nat.le_of_ble_eq_true rfl) ?_
  refine j_iconst (n := 0) 0 (by decide) dX12_nearest_2 ?_
  refine j_istore (i := 4) dX12_nearest_3 (Nat.le_of_ble_eq_true rfl) ?_
  exact j_le [some (.ref 159), some (.int l1), some (.int l2), some (.int (-1)), some (.int 0), none] (And.intro rfl (And.intro rfl (And.intro rfl (And.intro rfl (And.intro rfl True.intro))))) v1
set_option maxRecDepth 100000 in
theorem bX12_nearest_5 {sc : Nat × (Nat → Int32)} {h : jH} {Q : jQ} {l1 l2 l3 l4 : Int32}
    (v1 : (h 160 122) ≤ l4 → WP mX12_nearest Q 78 [some (.ref 159), some (.int l1), some (.int l2), some (.int l3), some (.int l4), none] [] (jG0 sc) h (0, 0))
    (v2 : ¬ (h 160 122) ≤ l4 → WP mX12_nearest Q 17 [some (.ref 159), some (.int l1), some (.int l2), some (.int l3), some (.int l4), none] [] (jG0 sc) h (0, 0)) :
    WP mX12_nearest Q 5 [some (.ref 159), some (.int l1), some (.int l2), some (.int l3), some (.int l4), none] [] (jG0 sc) h (0, 0) := by
  refine j_iload (i := 4) rfl dX12_nearest_5 ?_
  refine j_aload_n (i := 0) rfl dX12_nearest_7 ?_
  refine j_getR (idx := 13) (ci := 12) (k := 1) (nest := false) (show (12, 13, 12, 1, false) ∈ jFT by decide) rfl (Nat.le_of_ble_eq_true rfl) rfl (a := 160) rfl dX12_nearest_8 ?_
  refine j_bipush (n := 122) 122 (by decide) dX12_nearest_11 ?_
  refine j_iald (Nat.le_of_ble_eq_true rfl) rfl (jinl (n := 1454) (by decide)) dX12_nearest_13 ?_
  refine j_eqst [.int (h 160 122), .int l4] (by rfl) ?_
  refine j_icmp_ge (off := 64) 78 dX12_nearest_14 (by decide) (fun c1 => ?_) (fun c1 => ?_)
  · exact j_le [some (.ref 159), some (.int l1), some (.int l2), some (.int l3), some (.int l4), none] (And.intro rfl (And.intro rfl (And.intro rfl (And.intro rfl (And.intro rfl True.intro))))) (v1 c1)
  · exact j_le [some (.ref 159), some (.int l1), some (.int l2), some (.int l3), some (.int l4), none] (And.intro rfl (And.intro rfl (And.intro rfl (And.intro rfl (And.intro rfl True.intro))))) (v2 c1)
set_option maxRecDepth 100000 in
theorem bX12_nearest_17 {sc : Nat × (Nat → Int32)} {h : jH} {Q : jQ} {l1 l2 l3 l4 : Int32}
    (o1 : vp_in (123 + (3 * l4)) 1454)
    (v1 : WP mX12_nearest Q 47 [some (.ref 159), some (.int l1), some (.int l2), some (.int l3), some (.int l4), none] [.int 1, .int (123 + (3 * l4)), .ref 160, .int l2, .int (if 0 ≤ (l1 - (h 160 ((123 + (3 * l4)).toNatClampNeg))) then (l1 - (h 160 ((123 + (3 * l4)).toNatClampNeg))) else 0 - (l1 - (h 160 ((123 + (3 * l4)).toNatClampNeg))))] (jG0 sc) h (0, 0)) :
    WP mX12_nearest Q 17 [some (.ref 159), some (.int l1), some (.int l2), some (.int l3), some (.int l4), none] [] (jG0 sc) h (0, 0) := by
  refine j_iload_n (i := 1) rfl dX12_nearest_17 ?_
  refine j_aload_n (i := 0) rfl dX12_nearest_18 ?_
  refine j_getR (idx := 13) (ci := 12) (k := 1) (nest := false) (show (12, 13, 12, 1, false) ∈ jFT by decide) rfl (Nat.le_of_ble_eq_true rfl) rfl (a := 160) rfl dX12_nearest_19 ?_
  refine j_bipush (n := 123) 123 (by decide) dX12_nearest_22 ?_
  refine j_iconst (n := 3) 3 (by decide) dX12_nearest_24 ?_
  refine j_iload (i := 4) rfl dX12_nearest_25 ?_
  refine j_imul dX12_nearest_27 ?_
  refine j_iadd dX12_nearest_28 ?_
  refine j_iald (Nat.le_of_ble_eq_true rfl) rfl o1 dX12_nearest_29 ?_
  refine j_isub dX12_nearest_30 ?_
  refine j_mabs (idx := 359) (jlkT (jtb8 47 rfl) rfl) dX12_nearest_31 (Nat.le_of_ble_eq_true rfl) ⟨Nat.zero_le _, Nat.zero_le _⟩ ?_
  refine j_iload_n (i := 2) rfl dX12_nearest_34 ?_
  refine j_aload_n (i := 0) rfl dX12_nearest_35 ?_
  refine j_getR (idx := 13) (ci := 12) (k := 1) (nest := false) (show (12, 13, 12, 1, false) ∈ jFT by decide) rfl (Nat.le_of_ble_eq_true rfl) rfl (a := 160) rfl dX12_nearest_36 ?_
  refine j_bipush (n := 123) 123 (by decide) dX12_nearest_39 ?_
  refine j_iconst (n := 3) 3 (by decide) dX12_nearest_41 ?_
  refine j_iload (i := 4) rfl dX12_nearest_42 ?_
  refine j_imul dX12_nearest_44 ?_
  refine j_iadd dX12_nearest_45 ?_
  refine j_iconst (n := 1) 1 (by decide) dX12_nearest_46 ?_
  exact j_le [some (.ref 159), some (.int l1), some (.int l2), some (.int l3), some (.int l4), none] (And.intro rfl (And.intro rfl (And.intro rfl (And.intro rfl (And.intro rfl True.intro))))) v1
set_option maxRecDepth 100000 in
theorem bX12_nearest_47 {sc : Nat × (Nat → Int32)} {h : jH} {Q : jQ} {l1 l2 l3 l4 s0 s1 s3 s4 : Int32}
    (o1 : vp_in (s1 + s0) 1454)
    (v1 : 0 ≤ l3 → WP mX12_nearest Q 65 [some (.ref 159), some (.int l1), some (.int l2), some (.int l3), some (.int l4), some (.int (s4 + (if 0 ≤ (s3 - (h 160 ((s1 + s0).toNatClampNeg))) then (s3 - (h 160 ((s1 + s0).toNatClampNeg))) else 0 - (s3 - (h 160 ((s1 + s0).toNatClampNeg))))))] [] (jG0 sc) h (0, 0))
    (v2 : ¬ 0 ≤ l3 → WP mX12_nearest Q 60 [some (.ref 159), some (.int l1), some (.int l2), some (.int l3), some (.int l4), some (.int (s4 + (if 0 ≤ (s3 - (h 160 ((s1 + s0).toNatClampNeg))) then (s3 - (h 160 ((s1 + s0).toNatClampNeg))) else 0 - (s3 - (h 160 ((s1 + s0).toNatClampNeg))))))] [] (jG0 sc) h (0, 0)) :
    WP mX12_nearest Q 47 [some (.ref 159), some (.int l1), some (.int l2), some (.int l3), some (.int l4), none] [.int s0, .int s1, .ref 160, .int s3, .int s4] (jG0 sc) h (0, 0) := by
  refine j_iadd dX12_nearest_47 ?_
  refine j_iald (Nat.le_of_ble_eq_true rfl) rfl o1 dX12_nearest_48 ?_
  refine j_isub dX12_nearest_49 ?_
  refine j_mabs (idx := 359) (jlkT (jtb8 47 rfl) rfl) dX12_nearest_50 (Nat.le_of_ble_eq_true rfl) ⟨Nat.zero_le _, Nat.zero_le _⟩ ?_
  refine j_iadd dX12_nearest_53 ?_
  refine j_istore (i := 5) dX12_nearest_54 (Nat.le_of_ble_eq_true rfl) ?_
  refine j_iload_n (i := 3) rfl dX12_nearest_56 ?_
  refine j_if_ge (off := 8) 65 dX12_nearest_57 (by decide) (fun c1 => ?_) (fun c1 => ?_)
  · exact j_le [some (.ref 159), some (.int l1), some (.int l2), some (.int l3), some (.int l4), some (.int (s4 + (if 0 ≤ (s3 - (h 160 ((s1 + s0).toNatClampNeg))) then (s3 - (h 160 ((s1 + s0).toNatClampNeg))) else 0 - (s3 - (h 160 ((s1 + s0).toNatClampNeg))))))] (And.intro rfl (And.intro rfl (And.intro rfl (And.intro rfl (And.intro rfl (And.intro rfl True.intro)))))) (v1 c1)
  · exact j_le [some (.ref 159), some (.int l1), some (.int l2), some (.int l3), some (.int l4), some (.int (s4 + (if 0 ≤ (s3 - (h 160 ((s1 + s0).toNatClampNeg))) then (s3 - (h 160 ((s1 + s0).toNatClampNeg))) else 0 - (s3 - (h 160 ((s1 + s0).toNatClampNeg))))))] (And.intro rfl (And.intro rfl (And.intro rfl (And.intro rfl (And.intro rfl (And.intro rfl True.intro)))))) (v2 c1)
set_option maxRecDepth 100000 in
theorem bX12_nearest_60 {sc : Nat × (Nat → Int32)} {h : jH} {Q : jQ} {l1 l2 l3 l4 l5 : Int32}
    (v1 : WP mX12_nearest Q 71 [some (.ref 159), some (.int l1), some (.int l2), some (.int l3), some (.int l4), some (.int l5)] [.int l5] (jG0 sc) h (0, 0)) :
    WP mX12_nearest Q 60 [some (.ref 159), some (.int l1), some (.int l2), some (.int l3), some (.int l4), some (.int l5)] [] (jG0 sc) h (0, 0) := by
  refine j_iload (i := 5) rfl dX12_nearest_60 ?_
  refine j_goto (off := 9) 71 dX12_nearest_62 (by decide) ?_
  exact j_le [some (.ref 159), some (.int l1), some (.int l2), some (.int l3), some (.int l4), some (.int l5)] (And.intro rfl (And.intro rfl (And.intro rfl (And.intro rfl (And.intro rfl (And.intro rfl True.intro)))))) v1
set_option maxRecDepth 100000 in
theorem bX12_nearest_65 {sc : Nat × (Nat → Int32)} {h : jH} {Q : jQ} {l1 l2 l3 l4 l5 : Int32}
    (v1 : WP mX12_nearest Q 71 [some (.ref 159), some (.int l1), some (.int l2), some (.int l3), some (.int l4), some (.int l5)] [.int (if l5 < l3 then l5 else l3)] (jG0 sc) h (0, 0)) :
    WP mX12_nearest Q 65 [some (.ref 159), some (.int l1), some (.int l2), some (.int l3), some (.int l4), some (.int l5)] [] (jG0 sc) h (0, 0) := by
  refine j_iload_n (i := 3) rfl dX12_nearest_65 ?_
  refine j_iload (i := 5) rfl dX12_nearest_66 ?_
  refine j_mmin (idx := 362) (jlkT (jtb8 48 rfl) rfl) dX12_nearest_68 (Nat.le_of_ble_eq_true rfl) ⟨Nat.zero_le _, Nat.zero_le _⟩ ?_
  exact j_le [some (.ref 159), some (.int l1), some (.int l2), some (.int l3), some (.int l4), some (.int l5)] (And.intro rfl (And.intro rfl (And.intro rfl (And.intro rfl (And.intro rfl (And.intro rfl True.intro)))))) v1
set_option maxRecDepth 100000 in
theorem bX12_nearest_71 {sc : Nat × (Nat → Int32)} {h : jH} {Q : jQ} {l1 l2 l3 l4 l5 s0 : Int32}
    (v1 : WP mX12_nearest Q 5 [some (.ref 159), some (.int l1), some (.int l2), some (.int s0), some (.int (l4 + 1)), none] [] (jG0 sc) h (0, 0)) :
    WP mX12_nearest Q 71 [some (.ref 159), some (.int l1), some (.int l2), some (.int l3), some (.int l4), some (.int l5)] [.int s0] (jG0 sc) h (0, 0) := by
  refine j_istore_n (i := 3) dX12_nearest_71 (Nat.le_of_ble_eq_true rfl) ?_
  refine j_iinc (i := 4) (n := 1) rfl dX12_nearest_72 (Nat.le_of_ble_eq_true rfl) ?_
  refine j_eqlv [some (.ref 159), some (.int l1), some (.int l2), some (.int s0), some (.int (l4 + 1)), some (.int l5)] rfl ?_
  refine j_goto (off := -70) 5 dX12_nearest_75 (by decide) ?_
  exact j_le [some (.ref 159), some (.int l1), some (.int l2), some (.int s0), some (.int (l4 + 1)), none] (And.intro rfl (And.intro rfl (And.intro rfl (And.intro rfl (And.intro rfl True.intro))))) v1
set_option maxRecDepth 100000 in
theorem bX12_nearest_78 {sc : Nat × (Nat → Int32)} {h : jH} {Q : jQ} {l1 l2 l3 l4 : Int32}
    (v1 : Q (.inl (some (.int (if 0 < l3 then l3 else 0)))) (jG0 sc) h) :
    WP mX12_nearest Q 78 [some (.ref 159), some (.int l1), some (.int l2), some (.int l3), some (.int l4), none] [] (jG0 sc) h (0, 0) := by
  refine j_iconst (n := 0) 0 (by decide) dX12_nearest_78 ?_
  refine j_iload_n (i := 3) rfl dX12_nearest_79 ?_
  refine j_mmax (idx := 243) (jlkT (jtb7 103 rfl) rfl) dX12_nearest_80 (Nat.le_of_ble_eq_true rfl) ⟨Nat.zero_le _, Nat.zero_le _⟩ ?_
  exact j_iret rfl rfl (Nat.zero_le _) (Nat.zero_le _) dX12_nearest_83 v1
set_option maxRecDepth 100000 in
theorem rX12_nearest_0 {sc : Nat × (Nat → Int32)} {h : jH} {Q : jQ} {l1 l2 : Int32}
    (v1 : WP mX12_nearest Q 5 [some (.ref 159), some (.int l1), some (.int l2), some (.int (-1)), some (.int 0), none] [] (jG0 sc) h (0, 0)) :
    WP mX12_nearest Q 0 [some (.ref 159), some (.int l1), some (.int l2), none, none, none] [] (jG0 sc) h (0, 0) := by
  exact (bX12_nearest_0 v1)
set_option maxRecDepth 100000 in
theorem rX12_nearest_5 {sc : Nat × (Nat → Int32)} {h : jH} {Q : jQ} {l1 l2 l3 l4 : Int32}
    (v1 : (h 160 122) ≤ l4 → Q (.inl (some (.int (if 0 < l3 then l3 else 0)))) (jG0 sc) h)
    (o1 : ¬ (h 160 122) ≤ l4 → vp_in (123 + (3 * l4)) 1454)
    (o2 : ¬ (h 160 122) ≤ l4 → vp_in ((123 + (3 * l4)) + 1) 1454)
    (v2 : ¬ (h 160 122) ≤ l4 → 0 ≤ l3 → WP mX12_nearest Q 5 [some (.ref 159), some (.int l1), some (.int l2), some (.int (if ((if 0 ≤ (l1 - (h 160 ((123 + (3 * l4)).toNatClampNeg))) then (l1 - (h 160 ((123 + (3 * l4)).toNatClampNeg))) else 0 - (l1 - (h 160 ((123 + (3 * l4)).toNatClampNeg)))) + (if 0 ≤ (l2 - (h 160 (((123 + (3 * l4)) + 1).toNatClampNeg))) then (l2 - (h 160 (((123 + (3 * l4)) + 1).toNatClampNeg))) else 0 - (l2 - (h 160 (((123 + (3 * l4)) + 1).toNatClampNeg))))) < l3 then ((if 0 ≤ (l1 - (h 160 ((123 + (3 * l4)).toNatClampNeg))) then (l1 - (h 160 ((123 + (3 * l4)).toNatClampNeg))) else 0 - (l1 - (h 160 ((123 + (3 * l4)).toNatClampNeg)))) + (if 0 ≤ (l2 - (h 160 (((123 + (3 * l4)) + 1).toNatClampNeg))) then (l2 - (h 160 (((123 + (3 * l4)) + 1).toNatClampNeg))) else 0 - (l2 - (h 160 (((123 + (3 * l4)) + 1).toNatClampNeg))))) else l3)), some (.int (l4 + 1)), none] [] (jG0 sc) h (0, 0))
    (v3 : ¬ (h 160 122) ≤ l4 → ¬ 0 ≤ l3 → WP mX12_nearest Q 5 [some (.ref 159), some (.int l1), some (.int l2), some (.int ((if 0 ≤ (l1 - (h 160 ((123 + (3 * l4)).toNatClampNeg))) then (l1 - (h 160 ((123 + (3 * l4)).toNatClampNeg))) else 0 - (l1 - (h 160 ((123 + (3 * l4)).toNatClampNeg)))) + (if 0 ≤ (l2 - (h 160 (((123 + (3 * l4)) + 1).toNatClampNeg))) then (l2 - (h 160 (((123 + (3 * l4)) + 1).toNatClampNeg))) else 0 - (l2 - (h 160 (((123 + (3 * l4)) + 1).toNatClampNeg)))))), some (.int (l4 + 1)), none] [] (jG0 sc) h (0, 0)) :
    WP mX12_nearest Q 5 [some (.ref 159), some (.int l1), some (.int l2), some (.int l3), some (.int l4), none] [] (jG0 sc) h (0, 0) := by
  exact (bX12_nearest_5 (fun c1 => (bX12_nearest_78 (v1 c1))) (fun c1 => (bX12_nearest_17 (o1 c1) (bX12_nearest_47 (o2 c1) (fun c2 => (bX12_nearest_65 (bX12_nearest_71 (v2 c1 c2)))) (fun c2 => (bX12_nearest_60 (bX12_nearest_71 (v3 c1 c2))))))))
theorem dX12_input_0 : decode (mC mX12_input) 0 = .ok (.aload_n 0, 1) := by decide +kernel
theorem dX12_input_1 : decode (mC mX12_input) 1 = .ok (.iconst 0, 1) := by decide +kernel
theorem dX12_input_2 : decode (mC mX12_input) 2 = .ok (.putfield 3, 3) := by decide +kernel
theorem dX12_input_5 : decode (mC mX12_input) 5 = .ok (.aload_n 0, 1) := by decide +kernel
theorem dX12_input_6 : decode (mC mX12_input) 6 = .ok (.getfield 13, 3) := by decide +kernel
theorem dX12_input_9 : decode (mC mX12_input) 9 = .ok (.sipush 163, 3) := by decide +kernel
theorem dX12_input_12 : decode (mC mX12_input) 12 = .ok (.iaload, 1) := by decide +kernel
theorem dX12_input_13 : decode (mC mX12_input) 13 = .ok (.iconst 2, 1) := by decide +kernel
theorem dX12_input_14 : decode (mC mX12_input) 14 = .ok (.if_icmp .ge 5, 3) := by decide +kernel
theorem dX12_input_17 : decode (mC mX12_input) 17 = .ok (.iconst (-1), 1) := by decide +kernel
theorem dX12_input_18 : decode (mC mX12_input) 18 = .ok (.ireturn, 1) := by decide +kernel
theorem dX12_input_19 : decode (mC mX12_input) 19 = .ok (.aload_n 0, 1) := by decide +kernel
theorem dX12_input_20 : decode (mC mX12_input) 20 = .ok (.invokevirtual 319, 3) := by decide +kernel
theorem dX12_input_23 : decode (mC mX12_input) 23 = .ok (.iconst (-1), 1) := by decide +kernel
theorem dX12_input_24 : decode (mC mX12_input) 24 = .ok (.istore_n 2, 1) := by decide +kernel
theorem dX12_input_25 : decode (mC mX12_input) 25 = .ok (.iconst 0, 1) := by decide +kernel
theorem dX12_input_26 : decode (mC mX12_input) 26 = .ok (.istore_n 3, 1) := by decide +kernel
theorem dX12_input_27 : decode (mC mX12_input) 27 = .ok (.iconst 0, 1) := by decide +kernel
theorem dX12_input_28 : decode (mC mX12_input) 28 = .ok (.istore 4, 2) := by decide +kernel
theorem dX12_input_30 : decode (mC mX12_input) 30 = .ok (.iload 4, 2) := by decide +kernel
theorem dX12_input_32 : decode (mC mX12_input) 32 = .ok (.aload_n 0, 1) := by decide +kernel
theorem dX12_input_33 : decode (mC mX12_input) 33 = .ok (.getfield 13, 3) := by decide +kernel
theorem dX12_input_36 : decode (mC mX12_input) 36 = .ok (.sipush 285, 3) := by decide +kernel
theorem dX12_input_39 : decode (mC mX12_input) 39 = .ok (.iaload, 1) := by decide +kernel
theorem dX12_input_40 : decode (mC mX12_input) 40 = .ok (.if_icmp .gt 114, 3) := by decide +kernel
theorem dX12_input_43 : decode (mC mX12_input) 43 = .ok (.iconst 0, 1) := by decide +kernel
theorem dX12_input_44 : decode (mC mX12_input) 44 = .ok (.istore 5, 2) := by decide +kernel
theorem dX12_input_46 : decode (mC mX12_input) 46 = .ok (.iload 5, 2) := by decide +kernel
theorem dX12_input_48 : decode (mC mX12_input) 48 = .ok (.aload_n 0, 1) := by decide +kernel
theorem dX12_input_49 : decode (mC mX12_input) 49 = .ok (.getfield 13, 3) := by decide +kernel
theorem dX12_input_52 : decode (mC mX12_input) 52 = .ok (.sipush 285, 3) := by decide +kernel
theorem dX12_input_55 : decode (mC mX12_input) 55 = .ok (.iaload, 1) := by decide +kernel
theorem dX12_input_56 : decode (mC mX12_input) 56 = .ok (.if_icmp .gt 92, 3) := by decide +kernel
theorem dX12_input_59 : decode (mC mX12_input) 59 = .ok (.aload_n 0, 1) := by decide +kernel
theorem dX12_input_60 : decode (mC mX12_input) 60 = .ok (.iload 4, 2) := by decide +kernel
theorem dX12_input_62 : decode (mC mX12_input) 62 = .ok (.iload 5, 2) := by decide +kernel
theorem dX12_input_64 : decode (mC mX12_input) 64 = .ok (.invokevirtual 365, 3) := by decide +kernel
theorem dX12_input_67 : decode (mC mX12_input) 67 = .ok (.aload_n 0, 1) := by decide +kernel
theorem dX12_input_68 : decode (mC mX12_input) 68 = .ok (.invokevirtual 368, 3) := by decide +kernel
theorem dX12_input_71 : decode (mC mX12_input) 71 = .ok (.istore 6, 2) := by decide +kernel
theorem dX12_input_73 : decode (mC mX12_input) 73 = .ok (.iload_n 1, 1) := by decide +kernel
theorem dX12_input_74 : decode (mC mX12_input) 74 = .ok (.ifCond .ne 19, 3) := by decide +kernel
theorem dX12_input_77 : decode (mC mX12_input) 77 = .ok (.iload 6, 2) := by decide +kernel
theorem dX12_input_79 : decode (mC mX12_input) 79 = .ok (.aload_n 0, 1) := by decide +kernel
theorem dX12_input_80 : decode (mC mX12_input) 80 = .ok (.getfield 13, 3) := by decide +kernel
theorem dX12_input_83 : decode (mC mX12_input) 83 = .ok (.sipush 163, 3) := by decide +kernel
theorem dX12_input_86 : decode (mC mX12_input) 86 = .ok (.iaload, 1) := by decide +kernel
theorem dX12_input_87 : decode (mC mX12_input) 87 = .ok (.if_icmp .ne 6, 3) := by decide +kernel
theorem dX12_input_90 : decode (mC mX12_input) 90 = .ok (.goto 52, 3) := by decide +kernel
theorem dX12_input_93 : decode (mC mX12_input) 93 = .ok (.iload_n 1, 1) := by decide +kernel
theorem dX12_input_94 : decode (mC mX12_input) 94 = .ok (.ifCond .eq 11, 3) := by decide +kernel
theorem dX12_input_97 : decode (mC mX12_input) 97 = .ok (.bipush 100, 2) := by decide +kernel
theorem dX12_input_99 : decode (mC mX12_input) 99 = .ok (.iload 6, 2) := by decide +kernel
theorem dX12_input_101 : decode (mC mX12_input) 101 = .ok (.imul, 1) := by decide +kernel
theorem dX12_input_102 : decode (mC mX12_input) 102 = .ok (.goto 4, 3) := by decide +kernel
theorem dX12_input_105 : decode (mC mX12_input) 105 = .ok (.iconst 0, 1) := by decide +kernel
theorem dX12_input_106 : decode (mC mX12_input) 106 = .ok (.aload_n 0, 1) := by decide +kernel
theorem dX12_input_107 : decode (mC mX12_input) 107 = .ok (.iload 4, 2) := by decide +kernel
theorem dX12_input_109 : decode (mC mX12_input) 109 = .ok (.iload 5, 2) := by decide +kernel
theorem dX12_input_111 : decode (mC mX12_input) 111 = .ok (.invokevirtual 371, 3) := by decide +kernel
theorem dX12_input_114 : decode (mC mX12_input) 114 = .ok (.iadd, 1) := by decide +kernel
theorem dX12_input_115 : decode (mC mX12_input) 115 = .ok (.istore 7, 2) := by decide +kernel
theorem dX12_input_117 : decode (mC mX12_input) 117 = .ok (.iload_n 2, 1) := by decide +kernel
theorem dX12_input_118 : decode (mC mX12_input) 118 = .ok (.ifCond .lt 12, 3) := by decide +kernel
theorem dX12_input_121 : decode (mC mX12_input) 121 = .ok (.iload 7, 2) := by decide +kernel
theorem dX12_input_123 : decode (mC mX12_input) 123 = .ok (.iload_n 3, 1) := by decide +kernel
theorem dX12_input_124 : decode (mC mX12_input) 124 = .ok (.if_icmp .lt 6, 3) := by decide +kernel
theorem dX12_input_127 : decode (mC mX12_input) 127 = .ok (.goto 15, 3) := by decide +kernel
theorem dX12_input_130 : decode (mC mX12_input) 130 = .ok (.bipush 16, 2) := by decide +kernel
theorem dX12_input_132 : decode (mC mX12_input) 132 = .ok (.iload 4, 2) := by decide +kernel
theorem dX12_input_134 : decode (mC mX12_input) 134 = .ok (.imul, 1) := by decide +kernel
theorem dX12_input_135 : decode (mC mX12_input) 135 = .ok (.iload 5, 2) := by decide +kernel
theorem dX12_input_137 : decode (mC mX12_input) 137 = .ok (.iadd, 1) := by decide +kernel
theorem dX12_input_138 : decode (mC mX12_input) 138 = .ok (.istore_n 2, 1) := by decide +kernel
theorem dX12_input_139 : decode (mC mX12_input) 139 = .ok (.iload 7, 2) := by decide +kernel
theorem dX12_input_141 : decode (mC mX12_input) 141 = .ok (.istore_n 3, 1) := by decide +kernel
theorem dX12_input_142 : decode (mC mX12_input) 142 = .ok (.iinc 5 1, 3) := by decide +kernel
theorem dX12_input_145 : decode (mC mX12_input) 145 = .ok (.goto (-99), 3) := by decide +kernel
theorem dX12_input_148 : decode (mC mX12_input) 148 = .ok (.iinc 4 1, 3) := by decide +kernel
theorem dX12_input_151 : decode (mC mX12_input) 151 = .ok (.goto (-121), 3) := by decide +kernel
theorem dX12_input_154 : decode (mC mX12_input) 154 = .ok (.iload_n 2, 1) := by decide +kernel
theorem dX12_input_155 : decode (mC mX12_input) 155 = .ok (.ireturn, 1) := by decide +kernel
set_option maxRecDepth 100000 in
theorem bX12_input_0 {sc : Nat × (Nat → Int32)} {h : jH} {Q : jQ} {l1 : Int32}
    (v1 : 2 ≤ ((jput h 159 0 0) 160 163) → WP mX12_input Q 19 [some (.ref 159), some (.int l1), none, none, none, none, none, none] [] (jG0 sc) (jput h 159 0 0) (0, 0))
    (v2 : ¬ 2 ≤ ((jput h 159 0 0) 160 163) → WP mX12_input Q 17 [some (.ref 159), some (.int l1), none, none, none, none, none, none] [] (jG0 sc) (jput h 159 0 0) (0, 0)) :
    WP mX12_input Q 0 [some (.ref 159), some (.int l1), none, none, none, none, none, none] [] (jG0 sc) h (0, 0) := by
  refine j_aload_n (i := 0) rfl dX12_input_0 ?_
  refine j_iconst (n := 0) 0 (by decide) dX12_input_1 ?_
  refine j_putI (idx := 3) (ci := 12) (k := 0) (nest := false) (show (12, 3, 12, 0, false) ∈ jFT by decide) rfl rfl rfl rfl (Nat.le_of_ble_eq_true rfl) rfl dX12_input_2 ?_
  refine j_aload_n (i := 0) rfl dX12_input_5 ?_
  refine j_getR (idx := 13) (ci := 12) (k := 1) (nest := false) (show (12, 13, 12, 1, false) ∈ jFT by decide) rfl (Nat.le_of_ble_eq_true rfl) rfl (a := 160) rfl dX12_input_6 ?_
  refine j_sipush (n := 163) 163 (by decide) dX12_input_9 ?_
  refine j_iald (Nat.le_of_ble_eq_true rfl) rfl (jinl (n := 1454) (by decide)) dX12_input_12 ?_
  refine j_eqst [.int ((jput h 159 0 0) 160 163)] (by rfl) ?_
  refine j_iconst (n := 2) 2 (by decide) dX12_input_13 ?_
  refine j_icmp_ge (off := 5) 19 dX12_input_14 (by decide) (fun c1 => ?_) (fun c1 => ?_)
  · exact j_le [some (.ref 159), some (.int l1), none, none, none, none, none, none] (And.intro rfl (And.intro rfl True.intro)) (v1 c1)
  · exact j_le [some (.ref 159), some (.int l1), none, none, none, none, none, none] (And.intro rfl (And.intro rfl True.intro)) (v2 c1)
set_option maxRecDepth 100000 in
theorem bX12_input_17 {sc : Nat × (Nat → Int32)} {h : jH} {Q : jQ} {l1 : Int32}
    (v1 : Q (.inl (some (.int (-1)))) (jG0 sc) h) :
    WP mX12_input Q 17 [some (.ref 159), some (.int l1), none, none, none, none, none, none] [] (jG0 sc) h (0, 0) := by
  refine j_iconst (n := (-1)) (-1) (by decide) dX12_input_17 ?_
  exact j_iret rfl rfl (Nat.zero_le _) (Nat.zero_le _) dX12_input_18 v1
set_option maxRecDepth 100000 in
theorem bX12_input_19 {sc : Nat × (Nat → Int32)} {h : jH} {Q : jQ} {l1 : Int32} {P1 : jH → Prop}
    (k1 : JM mX12_listsBody [.ref 159] (jG0 sc) h (jvoid sc P1))
    (v1 : ∀ h1 : jH, P1 h1 → WP mX12_input Q 30 [some (.ref 159), some (.int l1), some (.int (-1)), some (.int 0), some (.int 0), none, none, none] [] (jG0 sc) h1 (0, 0)) :
    WP mX12_input Q 19 [some (.ref 159), some (.int l1), none, none, none, none, none, none] [] (jG0 sc) h (0, 0) := by
  refine j_aload_n (i := 0) rfl dX12_input_19 ?_
  refine j_callV (idx := 319) (As := []) (ci := 12) (n := 0) k1 jvoid_nt (jlkT (jtb7 160 rfl) rfl) sX12_listsBody kX12_listsBody rfl ⟨rfl, by decide +kernel, by decide +kernel, by decide +kernel⟩ rfl ⟨by decide, by decide⟩ (Nat.le_of_ble_eq_true rfl) rfl (Nat.le_of_ble_eq_true rfl) (Nat.le_of_ble_eq_true rfl) ⟨Nat.zero_le _, Nat.zero_le _⟩ dX12_input_20 (fun r Γ' h1 q => ?_)
  obtain ⟨q0, rfl, p1⟩ := q; cases q0
  refine j_eqst [] (by rfl) ?_
  refine j_iconst (n := (-1)) (-1) (by decide) dX12_input_23 ?_
  refine j_istore_n (i := 2) dX12_input_24 (Nat.le_of_ble_eq_true rfl) ?_
  refine j_iconst (n := 0) 0 (by decide) dX12_input_25 ?_
  refine j_istore_n (i := 3) dX12_input_26 (Nat.le_of_ble_eq_true rfl) ?_
  refine j_iconst (n := 0) 0 (by decide) dX12_input_27 ?_
  refine j_istore (i := 4) dX12_input_28 (Nat.le_of_ble_eq_true rfl) ?_
  exact j_le [some (.ref 159), some (.int l1), some (.int (-1)), some (.int 0), some (.int 0), none, none, none] (And.intro rfl (And.intro rfl (And.intro rfl (And.intro rfl (And.intro rfl True.intro))))) (v1 h1 p1)
set_option maxRecDepth 100000 in
theorem bX12_input_30 {sc : Nat × (Nat → Int32)} {h : jH} {Q : jQ} {l1 l2 l3 l4 : Int32}
    (v1 : (h 160 285) < l4 → WP mX12_input Q 154 [some (.ref 159), some (.int l1), some (.int l2), some (.int l3), some (.int l4), none, none, none] [] (jG0 sc) h (0, 0))
    (v2 : ¬ (h 160 285) < l4 → WP mX12_input Q 43 [some (.ref 159), some (.int l1), some (.int l2), some (.int l3), some (.int l4), none, none, none] [] (jG0 sc) h (0, 0)) :
    WP mX12_input Q 30 [some (.ref 159), some (.int l1), some (.int l2), some (.int l3), some (.int l4), none, none, none] [] (jG0 sc) h (0, 0) := by
  refine j_iload (i := 4) rfl dX12_input_30 ?_
  refine j_aload_n (i := 0) rfl dX12_input_32 ?_
  refine j_getR (idx := 13) (ci := 12) (k := 1) (nest := false) (show (12, 13, 12, 1, false) ∈ jFT by decide) rfl (Nat.le_of_ble_eq_true rfl) rfl (a := 160) rfl dX12_input_33 ?_
  refine j_sipush (n := 285) 285 (by decide) dX12_input_36 ?_
  refine j_iald (Nat.le_of_ble_eq_true rfl) rfl (jinl (n := 1454) (by decide)) dX12_input_39 ?_
  refine j_eqst [.int (h 160 285), .int l4] (by rfl) ?_
  refine j_icmp_gt (off := 114) 154 dX12_input_40 (by decide) (fun c1 => ?_) (fun c1 => ?_)
  · exact j_le [some (.ref 159), some (.int l1), some (.int l2), some (.int l3), some (.int l4), none, none, none] (And.intro rfl (And.intro rfl (And.intro rfl (And.intro rfl (And.intro rfl True.intro))))) (v1 c1)
  · exact j_le [some (.ref 159), some (.int l1), some (.int l2), some (.int l3), some (.int l4), none, none, none] (And.intro rfl (And.intro rfl (And.intro rfl (And.intro rfl (And.intro rfl True.intro))))) (v2 c1)
set_option maxRecDepth 100000 in
theorem bX12_input_43 {sc : Nat × (Nat → Int32)} {h : jH} {Q : jQ} {l1 l2 l3 l4 : Int32}
    (v1 : WP mX12_input Q 46 [some (.ref 159), some (.int l1), some (.int l2), some (.int l3), some (.int l4), some (.int 0), none, none] [] (jG0 sc) h (0, 0)) :
    WP mX12_input Q 43 [some (.ref 159), some (.int l1), some (.int l2), some (.int l3), some (.int l4), none, none, none] [] (jG0 sc) h (0, 0) := by
  refine j_iconst (n := 0) 0 (by decide) dX12_input_43 ?_
  refine j_istore (i := 5) dX12_input_44 (Nat.le_of_ble_eq_true rfl) ?_
  exact j_le [some (.ref 159), some (.int l1), some (.int l2), some (.int l3), some (.int l4), some (.int 0), none, none] (And.intro rfl (And.intro rfl (And.intro rfl (And.intro rfl (And.intro rfl (And.intro rfl True.intro)))))) v1
set_option maxRecDepth 100000 in
theorem bX12_input_46 {sc : Nat × (Nat → Int32)} {h : jH} {Q : jQ} {l1 l2 l3 l4 l5 : Int32}
    (v1 : (h 160 285) < l5 → WP mX12_input Q 148 [some (.ref 159), some (.int l1), some (.int l2), some (.int l3), some (.int l4), some (.int l5), none, none] [] (jG0 sc) h (0, 0))
    (v2 : ¬ (h 160 285) < l5 → WP mX12_input Q 59 [some (.ref 159), some (.int l1), some (.int l2), some (.int l3), some (.int l4), some (.int l5), none, none] [] (jG0 sc) h (0, 0)) :
    WP mX12_input Q 46 [some (.ref 159), some (.int l1), some (.int l2), some (.int l3), some (.int l4), some (.int l5), none, none] [] (jG0 sc) h (0, 0) := by
  refine j_iload (i := 5) rfl dX12_input_46 ?_
  refine j_aload_n (i := 0) rfl dX12_input_48 ?_
  refine j_getR (idx := 13) (ci := 12) (k := 1) (nest := false) (show (12, 13, 12, 1, false) ∈ jFT by decide) rfl (Nat.le_of_ble_eq_true rfl) rfl (a := 160) rfl dX12_input_49 ?_
  refine j_sipush (n := 285) 285 (by decide) dX12_input_52 ?_
  refine j_iald (Nat.le_of_ble_eq_true rfl) rfl (jinl (n := 1454) (by decide)) dX12_input_55 ?_
  refine j_eqst [.int (h 160 285), .int l5] (by rfl) ?_
  refine j_icmp_gt (off := 92) 148 dX12_input_56 (by decide) (fun c1 => ?_) (fun c1 => ?_)
  · exact j_le [some (.ref 159), some (.int l1), some (.int l2), some (.int l3), some (.int l4), some (.int l5), none, none] (And.intro rfl (And.intro rfl (And.intro rfl (And.intro rfl (And.intro rfl (And.intro rfl True.intro)))))) (v1 c1)
  · exact j_le [some (.ref 159), some (.int l1), some (.int l2), some (.int l3), some (.int l4), some (.int l5), none, none] (And.intro rfl (And.intro rfl (And.intro rfl (And.intro rfl (And.intro rfl (And.intro rfl True.intro)))))) (v2 c1)
set_option maxRecDepth 100000 in
theorem bX12_input_59 {sc : Nat × (Nat → Int32)} {h : jH} {Q : jQ} {l1 l2 l3 l4 l5 : Int32} {P1 : jH → Prop} {P2 : Int32 → jH → Prop}
    (k1 : JM mX12_endsOfAll [.ref 159, .int l4, .int l5] (jG0 sc) h (jvoid sc P1))
    (k2 : ∀ h1 : jH, P1 h1 → JM mX12_mostAlike [.ref 159] (jG0 sc) h1 (jint sc P2))
    (v1 : ∀ h1 : jH, P1 h1 → ∀ (x2 : Int32) (h2 : jH), P2 x2 h2 → ¬ l1 = 0 → WP mX12_input Q 93 [some (.ref 159), some (.int l1), some (.int l2), some (.int l3), some (.int l4), some (.int l5), some (.int x2), none] [] (jG0 sc) h2 (0, 0))
    (v2 : ∀ h1 : jH, P1 h1 → ∀ (x2 : Int32) (h2 : jH), P2 x2 h2 → l1 = 0 → WP mX12_input Q 77 [some (.ref 159), some (.int l1), some (.int l2), some (.int l3), some (.int l4), some (.int l5), some (.int x2), none] [] (jG0 sc) h2 (0, 0)) :
    WP mX12_input Q 59 [some (.ref 159), some (.int l1), some (.int l2), some (.int l3), some (.int l4), some (.int l5), none, none] [] (jG0 sc) h (0, 0) := by
  refine j_aload_n (i := 0) rfl dX12_input_59 ?_
  refine j_iload (i := 4) rfl dX12_input_60 ?_
  refine j_iload (i := 5) rfl dX12_input_62 ?_
  refine j_callV (idx := 365) (As := [.int l4, .int l5]) (ci := 12) (n := 2) k1 jvoid_nt (jlkT (jtb8 35 rfl) rfl) sX12_endsOfAll kX12_endsOfAll rfl ⟨rfl, by decide +kernel, by decide +kernel, by decide +kernel⟩ rfl ⟨by decide, by decide⟩ (Nat.le_of_ble_eq_true rfl) rfl (Nat.le_of_ble_eq_true rfl) (Nat.le_of_ble_eq_true rfl) ⟨Nat.zero_le _, Nat.zero_le _⟩ dX12_input_64 (fun r Γ' h1 q => ?_)
  obtain ⟨q0, rfl, p1⟩ := q; cases q0
  refine j_eqst [] (by rfl) ?_
  refine j_aload_n (i := 0) rfl dX12_input_67 ?_
  refine j_callV (idx := 368) (As := []) (ci := 12) (n := 0) (k2 h1 p1) jint_nt (jlkT (jtb8 39 rfl) rfl) sX12_mostAlike kX12_mostAlike rfl ⟨rfl, by decide +kernel, by decide +kernel, by decide +kernel⟩ rfl ⟨by decide, by decide⟩ (Nat.le_of_ble_eq_true rfl) rfl (Nat.le_of_ble_eq_true rfl) (Nat.le_of_ble_eq_true rfl) ⟨Nat.zero_le _, Nat.zero_le _⟩ dX12_input_68 (fun r Γ' h2 q => ?_)
  obtain ⟨x2, q0, rfl, p2⟩ := q; cases q0
  refine j_eqst [.int x2] (by rfl) ?_
  refine j_istore (i := 6) dX12_input_71 (Nat.le_of_ble_eq_true rfl) ?_
  refine j_iload_n (i := 1) rfl dX12_input_73 ?_
  refine j_if_ne (off := 19) 93 dX12_input_74 (by decide) (fun c1 => ?_) (fun c1 => ?_)
  · exact j_le [some (.ref 159), some (.int l1), some (.int l2), some (.int l3), some (.int l4), some (.int l5), some (.int x2), none] (And.intro rfl (And.intro rfl (And.intro rfl (And.intro rfl (And.intro rfl (And.intro rfl (And.intro rfl True.intro))))))) (v1 h1 p1 x2 h2 p2 c1)
  · exact j_le [some (.ref 159), some (.int l1), some (.int l2), some (.int l3), some (.int l4), some (.int l5), some (.int x2), none] (And.intro rfl (And.intro rfl (And.intro rfl (And.intro rfl (And.intro rfl (And.intro rfl (And.intro rfl True.intro))))))) (v2 h1 p1 x2 h2 p2 c1)
set_option maxRecDepth 100000 in
theorem bX12_input_77 {sc : Nat × (Nat → Int32)} {h : jH} {Q : jQ} {l1 l2 l3 l4 l5 l6 : Int32}
    (v1 : ¬ l6 = (h 160 163) → WP mX12_input Q 93 [some (.ref 159), some (.int l1), some (.int l2), some (.int l3), some (.int l4), some (.int l5), some (.int l6), none] [] (jG0 sc) h (0, 0))
    (v2 : l6 = (h 160 163) → WP mX12_input Q 90 [some (.ref 159), some (.int l1), some (.int l2), some (.int l3), some (.int l4), some (.int l5), some (.int l6), none] [] (jG0 sc) h (0, 0)) :
    WP mX12_input Q 77 [some (.ref 159), some (.int l1), some (.int l2), some (.int l3), some (.int l4), some (.int l5), some (.int l6), none] [] (jG0 sc) h (0, 0) := by
  refine j_iload (i := 6) rfl dX12_input_77 ?_
  refine j_aload_n (i := 0) rfl dX12_input_79 ?_
  refine j_getR (idx := 13) (ci := 12) (k := 1) (nest := false) (show (12, 13, 12, 1, false) ∈ jFT by decide) rfl (Nat.le_of_ble_eq_true rfl) rfl (a := 160) rfl dX12_input_80 ?_
  refine j_sipush (n := 163) 163 (by decide) dX12_input_83 ?_
  refine j_iald (Nat.le_of_ble_eq_true rfl) rfl (jinl (n := 1454) (by decide)) dX12_input_86 ?_
  refine j_eqst [.int (h 160 163), .int l6] (by rfl) ?_
  refine j_icmp_ne (off := 6) 93 dX12_input_87 (by decide) (fun c1 => ?_) (fun c1 => ?_)
  · exact j_le [some (.ref 159), some (.int l1), some (.int l2), some (.int l3), some (.int l4), some (.int l5), some (.int l6), none] (And.intro rfl (And.intro rfl (And.intro rfl (And.intro rfl (And.intro rfl (And.intro rfl (And.intro rfl True.intro))))))) (v1 c1)
  · exact j_le [some (.ref 159), some (.int l1), some (.int l2), some (.int l3), some (.int l4), some (.int l5), some (.int l6), none] (And.intro rfl (And.intro rfl (And.intro rfl (And.intro rfl (And.intro rfl (And.intro rfl (And.intro rfl True.intro))))))) (v2 c1)
set_option maxRecDepth 100000 in
theorem bX12_input_90 {sc : Nat × (Nat → Int32)} {h : jH} {Q : jQ} {l1 l2 l3 l4 l5 l6 : Int32}
    (v1 : WP mX12_input Q 142 [some (.ref 159), some (.int l1), some (.int l2), some (.int l3), some (.int l4), some (.int l5), some (.int l6), none] [] (jG0 sc) h (0, 0)) :
    WP mX12_input Q 90 [some (.ref 159), some (.int l1), some (.int l2), some (.int l3), some (.int l4), some (.int l5), some (.int l6), none] [] (jG0 sc) h (0, 0) := by
  refine j_goto (off := 52) 142 dX12_input_90 (by decide) ?_
  exact j_le [some (.ref 159), some (.int l1), some (.int l2), some (.int l3), some (.int l4), some (.int l5), some (.int l6), none] (And.intro rfl (And.intro rfl (And.intro rfl (And.intro rfl (And.intro rfl (And.intro rfl (And.intro rfl True.intro))))))) v1
set_option maxRecDepth 100000 in
theorem bX12_input_93 {sc : Nat × (Nat → Int32)} {h : jH} {Q : jQ} {l1 l2 l3 l4 l5 l6 : Int32}
    (v1 : l1 = 0 → WP mX12_input Q 105 [some (.ref 159), some (.int l1), some (.int l2), some (.int l3), some (.int l4), some (.int l5), some (.int l6), none] [] (jG0 sc) h (0, 0))
    (v2 : ¬ l1 = 0 → WP mX12_input Q 97 [some (.ref 159), some (.int l1), some (.int l2), some (.int l3), some (.int l4), some (.int l5), some (.int l6), none] [] (jG0 sc) h (0, 0)) :
    WP mX12_input Q 93 [some (.ref 159), some (.int l1), some (.int l2), some (.int l3), some (.int l4), some (.int l5), some (.int l6), none] [] (jG0 sc) h (0, 0) := by
  refine j_iload_n (i := 1) rfl dX12_input_93 ?_
  refine j_if_eq (off := 11) 105 dX12_input_94 (by decide) (fun c1 => ?_) (fun c1 => ?_)
  · exact j_le [some (.ref 159), some (.int l1), some (.int l2), some (.int l3), some (.int l4), some (.int l5), some (.int l6), none] (And.intro rfl (And.intro rfl (And.intro rfl (And.intro rfl (And.intro rfl (And.intro rfl (And.intro rfl True.intro))))))) (v1 c1)
  · exact j_le [some (.ref 159), some (.int l1), some (.int l2), some (.int l3), some (.int l4), some (.int l5), some (.int l6), none] (And.intro rfl (And.intro rfl (And.intro rfl (And.intro rfl (And.intro rfl (And.intro rfl (And.intro rfl True.intro))))))) (v2 c1)
set_option maxRecDepth 100000 in
theorem bX12_input_97 {sc : Nat × (Nat → Int32)} {h : jH} {Q : jQ} {l1 l2 l3 l4 l5 l6 : Int32}
    (v1 : WP mX12_input Q 106 [some (.ref 159), some (.int l1), some (.int l2), some (.int l3), some (.int l4), some (.int l5), some (.int l6), none] [.int (100 * l6)] (jG0 sc) h (0, 0)) :
    WP mX12_input Q 97 [some (.ref 159), some (.int l1), some (.int l2), some (.int l3), some (.int l4), some (.int l5), some (.int l6), none] [] (jG0 sc) h (0, 0) := by
  refine j_bipush (n := 100) 100 (by decide) dX12_input_97 ?_
  refine j_iload (i := 6) rfl dX12_input_99 ?_
  refine j_imul dX12_input_101 ?_
  refine j_goto (off := 4) 106 dX12_input_102 (by decide) ?_
  exact j_le [some (.ref 159), some (.int l1), some (.int l2), some (.int l3), some (.int l4), some (.int l5), some (.int l6), none] (And.intro rfl (And.intro rfl (And.intro rfl (And.intro rfl (And.intro rfl (And.intro rfl (And.intro rfl True.intro))))))) v1
set_option maxRecDepth 100000 in
theorem bX12_input_105 {sc : Nat × (Nat → Int32)} {h : jH} {Q : jQ} {l1 l2 l3 l4 l5 l6 : Int32}
    (v1 : WP mX12_input Q 106 [some (.ref 159), some (.int l1), some (.int l2), some (.int l3), some (.int l4), some (.int l5), some (.int l6), none] [.int 0] (jG0 sc) h (0, 0)) :
    WP mX12_input Q 105 [some (.ref 159), some (.int l1), some (.int l2), some (.int l3), some (.int l4), some (.int l5), some (.int l6), none] [] (jG0 sc) h (0, 0) := by
  refine j_iconst (n := 0) 0 (by decide) dX12_input_105 ?_
  exact j_le [some (.ref 159), some (.int l1), some (.int l2), some (.int l3), some (.int l4), some (.int l5), some (.int l6), none] (And.intro rfl (And.intro rfl (And.intro rfl (And.intro rfl (And.intro rfl (And.intro rfl (And.intro rfl True.intro))))))) v1
set_option maxRecDepth 100000 in
theorem bX12_input_106 {sc : Nat × (Nat → Int32)} {h : jH} {Q : jQ} {l1 l2 l3 l4 l5 l6 s0 : Int32} {P1 : Int32 → jH → Prop}
    (k1 : JM mX12_nearest [.ref 159, .int l4, .int l5] (jG0 sc) h (jint sc P1))
    (v1 : ∀ (x1 : Int32) (h1 : jH), P1 x1 h1 → l2 < 0 → WP mX12_input Q 130 [some (.ref 159), some (.int l1), some (.int l2), some (.int l3), some (.int l4), some (.int l5), some (.int l6), some (.int (s0 + x1))] [] (jG0 sc) h1 (0, 0))
    (v2 : ∀ (x1 : Int32) (h1 : jH), P1 x1 h1 → ¬ l2 < 0 → WP mX12_input Q 121 [some (.ref 159), some (.int l1), some (.int l2), some (.int l3), some (.int l4), some (.int l5), some (.int l6), some (.int (s0 + x1))] [] (jG0 sc) h1 (0, 0)) :
    WP mX12_input Q 106 [some (.ref 159), some (.int l1), some (.int l2), some (.int l3), some (.int l4), some (.int l5), some (.int l6), none] [.int s0] (jG0 sc) h (0, 0) := by
  refine j_aload_n (i := 0) rfl dX12_input_106 ?_
  refine j_iload (i := 4) rfl dX12_input_107 ?_
  refine j_iload (i := 5) rfl dX12_input_109 ?_
  refine j_callV (idx := 371) (As := [.int l4, .int l5]) (ci := 12) (n := 2) k1 jint_nt (jlkT (jtb8 43 rfl) rfl) sX12_nearest kX12_nearest rfl ⟨rfl, by decide +kernel, by decide +kernel, by decide +kernel⟩ rfl ⟨by decide, by decide⟩ (Nat.le_of_ble_eq_true rfl) rfl (Nat.le_of_ble_eq_true rfl) (Nat.le_of_ble_eq_true rfl) ⟨Nat.zero_le _, Nat.zero_le _⟩ dX12_input_111 (fun r Γ' h1 q => ?_)
  obtain ⟨x1, q0, rfl, p1⟩ := q; cases q0
  refine j_eqst [.int x1, .int s0] (by rfl) ?_
  refine j_iadd dX12_input_114 ?_
  refine j_istore (i := 7) dX12_input_115 (Nat.le_of_ble_eq_true rfl) ?_
  refine j_iload_n (i := 2) rfl dX12_input_117 ?_
  refine j_if_lt (off := 12) 130 dX12_input_118 (by decide) (fun c1 => ?_) (fun c1 => ?_)
  · exact j_le [some (.ref 159), some (.int l1), some (.int l2), some (.int l3), some (.int l4), some (.int l5), some (.int l6), some (.int (s0 + x1))] (And.intro rfl (And.intro rfl (And.intro rfl (And.intro rfl (And.intro rfl (And.intro rfl (And.intro rfl (And.intro rfl True.intro)))))))) (v1 x1 h1 p1 c1)
  · exact j_le [some (.ref 159), some (.int l1), some (.int l2), some (.int l3), some (.int l4), some (.int l5), some (.int l6), some (.int (s0 + x1))] (And.intro rfl (And.intro rfl (And.intro rfl (And.intro rfl (And.intro rfl (And.intro rfl (And.intro rfl (And.intro rfl True.intro)))))))) (v2 x1 h1 p1 c1)
set_option maxRecDepth 100000 in
theorem bX12_input_121 {sc : Nat × (Nat → Int32)} {h : jH} {Q : jQ} {l1 l2 l3 l4 l5 l6 l7 : Int32}
    (v1 : l7 < l3 → WP mX12_input Q 130 [some (.ref 159), some (.int l1), some (.int l2), some (.int l3), some (.int l4), some (.int l5), some (.int l6), some (.int l7)] [] (jG0 sc) h (0, 0))
    (v2 : ¬ l7 < l3 → WP mX12_input Q 127 [some (.ref 159), some (.int l1), some (.int l2), some (.int l3), some (.int l4), some (.int l5), some (.int l6), some (.int l7)] [] (jG0 sc) h (0, 0)) :
    WP mX12_input Q 121 [some (.ref 159), some (.int l1), some (.int l2), some (.int l3), some (.int l4), some (.int l5), some (.int l6), some (.int l7)] [] (jG0 sc) h (0, 0) := by
  refine j_iload (i := 7) rfl dX12_input_121 ?_
  refine j_iload_n (i := 3) rfl dX12_input_123 ?_
  refine j_icmp_lt (off := 6) 130 dX12_input_124 (by decide) (fun c1 => ?_) (fun c1 => ?_)
  · exact j_le [some (.ref 159), some (.int l1), some (.int l2), some (.int l3), some (.int l4), some (.int l5), some (.int l6), some (.int l7)] (And.intro rfl (And.intro rfl (And.intro rfl (And.intro rfl (And.intro rfl (And.intro rfl (And.intro rfl (And.intro rfl True.intro)))))))) (v1 c1)
  · exact j_le [some (.ref 159), some (.int l1), some (.int l2), some (.int l3), some (.int l4), some (.int l5), some (.int l6), some (.int l7)] (And.intro rfl (And.intro rfl (And.intro rfl (And.intro rfl (And.intro rfl (And.intro rfl (And.intro rfl (And.intro rfl True.intro)))))))) (v2 c1)
set_option maxRecDepth 100000 in
theorem bX12_input_127 {sc : Nat × (Nat → Int32)} {h : jH} {Q : jQ} {l1 l2 l3 l4 l5 l6 l7 : Int32}
    (v1 : WP mX12_input Q 142 [some (.ref 159), some (.int l1), some (.int l2), some (.int l3), some (.int l4), some (.int l5), some (.int l6), none] [] (jG0 sc) h (0, 0)) :
    WP mX12_input Q 127 [some (.ref 159), some (.int l1), some (.int l2), some (.int l3), some (.int l4), some (.int l5), some (.int l6), some (.int l7)] [] (jG0 sc) h (0, 0) := by
  refine j_goto (off := 15) 142 dX12_input_127 (by decide) ?_
  exact j_le [some (.ref 159), some (.int l1), some (.int l2), some (.int l3), some (.int l4), some (.int l5), some (.int l6), none] (And.intro rfl (And.intro rfl (And.intro rfl (And.intro rfl (And.intro rfl (And.intro rfl (And.intro rfl True.intro))))))) v1
set_option maxRecDepth 100000 in
theorem bX12_input_130 {sc : Nat × (Nat → Int32)} {h : jH} {Q : jQ} {l1 l2 l3 l4 l5 l6 l7 : Int32}
    (v1 : WP mX12_input Q 142 [some (.ref 159), some (.int l1), some (.int ((16 * l4) + l5)), some (.int l7), some (.int l4), some (.int l5), some (.int l6), none] [] (jG0 sc) h (0, 0)) :
    WP mX12_input Q 130 [some (.ref 159), some (.int l1), some (.int l2), some (.int l3), some (.int l4), some (.int l5), some (.int l6), some (.int l7)] [] (jG0 sc) h (0, 0) := by
  refine j_bipush (n := 16) 16 (by decide) dX12_input_130 ?_
  refine j_iload (i := 4) rfl dX12_input_132 ?_
  refine j_imul dX12_input_134 ?_
  refine j_iload (i := 5) rfl dX12_input_135 ?_
  refine j_iadd dX12_input_137 ?_
  refine j_istore_n (i := 2) dX12_input_138 (Nat.le_of_ble_eq_true rfl) ?_
  refine j_iload (i := 7) rfl dX12_input_139 ?_
  refine j_istore_n (i := 3) dX12_input_141 (Nat.le_of_ble_eq_true rfl) ?_
  exact j_le [some (.ref 159), some (.int l1), some (.int ((16 * l4) + l5)), some (.int l7), some (.int l4), some (.int l5), some (.int l6), none] (And.intro rfl (And.intro rfl (And.intro rfl (And.intro rfl (And.intro rfl (And.intro rfl (And.intro rfl True.intro))))))) v1
set_option maxRecDepth 100000 in
theorem bX12_input_142 {sc : Nat × (Nat → Int32)} {h : jH} {Q : jQ} {l1 l2 l3 l4 l5 l6 : Int32}
    (v1 : WP mX12_input Q 46 [some (.ref 159), some (.int l1), some (.int l2), some (.int l3), some (.int l4), some (.int (l5 + 1)), none, none] [] (jG0 sc) h (0, 0)) :
    WP mX12_input Q 142 [some (.ref 159), some (.int l1), some (.int l2), some (.int l3), some (.int l4), some (.int l5), some (.int l6), none] [] (jG0 sc) h (0, 0) := by
  refine j_iinc (i := 5) (n := 1) rfl dX12_input_142 (Nat.le_of_ble_eq_true rfl) ?_
  refine j_eqlv [some (.ref 159), some (.int l1), some (.int l2), some (.int l3), some (.int l4), some (.int (l5 + 1)), some (.int l6), none] rfl ?_
  refine j_goto (off := -99) 46 dX12_input_145 (by decide) ?_
  exact j_le [some (.ref 159), some (.int l1), some (.int l2), some (.int l3), some (.int l4), some (.int (l5 + 1)), none, none] (And.intro rfl (And.intro rfl (And.intro rfl (And.intro rfl (And.intro rfl (And.intro rfl True.intro)))))) v1
set_option maxRecDepth 100000 in
theorem bX12_input_148 {sc : Nat × (Nat → Int32)} {h : jH} {Q : jQ} {l1 l2 l3 l4 l5 : Int32}
    (v1 : WP mX12_input Q 30 [some (.ref 159), some (.int l1), some (.int l2), some (.int l3), some (.int (l4 + 1)), none, none, none] [] (jG0 sc) h (0, 0)) :
    WP mX12_input Q 148 [some (.ref 159), some (.int l1), some (.int l2), some (.int l3), some (.int l4), some (.int l5), none, none] [] (jG0 sc) h (0, 0) := by
  refine j_iinc (i := 4) (n := 1) rfl dX12_input_148 (Nat.le_of_ble_eq_true rfl) ?_
  refine j_eqlv [some (.ref 159), some (.int l1), some (.int l2), some (.int l3), some (.int (l4 + 1)), some (.int l5), none, none] rfl ?_
  refine j_goto (off := -121) 30 dX12_input_151 (by decide) ?_
  exact j_le [some (.ref 159), some (.int l1), some (.int l2), some (.int l3), some (.int (l4 + 1)), none, none, none] (And.intro rfl (And.intro rfl (And.intro rfl (And.intro rfl (And.intro rfl True.intro))))) v1
set_option maxRecDepth 100000 in
theorem bX12_input_154 {sc : Nat × (Nat → Int32)} {h : jH} {Q : jQ} {l1 l2 l3 l4 : Int32}
    (v1 : Q (.inl (some (.int l2))) (jG0 sc) h) :
    WP mX12_input Q 154 [some (.ref 159), some (.int l1), some (.int l2), some (.int l3), some (.int l4), none, none, none] [] (jG0 sc) h (0, 0) := by
  refine j_iload_n (i := 2) rfl dX12_input_154 ?_
  exact j_iret rfl rfl (Nat.zero_le _) (Nat.zero_le _) dX12_input_155 v1
set_option maxRecDepth 100000 in
theorem rX12_input_0 {sc : Nat × (Nat → Int32)} {h : jH} {Q : jQ} {l1 : Int32} {P1 : jH → Prop}
    (k1 : 2 ≤ ((jput h 159 0 0) 160 163) → JM mX12_listsBody [.ref 159] (jG0 sc) (jput h 159 0 0) (jvoid sc P1))
    (v1 : 2 ≤ ((jput h 159 0 0) 160 163) → ∀ h1 : jH, P1 h1 → WP mX12_input Q 30 [some (.ref 159), some (.int l1), some (.int (-1)), some (.int 0), some (.int 0), none, none, none] [] (jG0 sc) h1 (0, 0))
    (v2 : ¬ 2 ≤ ((jput h 159 0 0) 160 163) → Q (.inl (some (.int (-1)))) (jG0 sc) (jput h 159 0 0)) :
    WP mX12_input Q 0 [some (.ref 159), some (.int l1), none, none, none, none, none, none] [] (jG0 sc) h (0, 0) := by
  exact (bX12_input_0 (fun c1 => (bX12_input_19 (k1 c1) (fun h1 p1 => (v1 c1 h1 p1)))) (fun c1 => (bX12_input_17 (v2 c1))))
set_option maxRecDepth 100000 in
theorem rX12_input_30 {sc : Nat × (Nat → Int32)} {h : jH} {Q : jQ} {l1 l2 l3 l4 : Int32}
    (v1 : (h 160 285) < l4 → Q (.inl (some (.int l2))) (jG0 sc) h)
    (v2 : ¬ (h 160 285) < l4 → WP mX12_input Q 46 [some (.ref 159), some (.int l1), some (.int l2), some (.int l3), some (.int l4), some (.int 0), none, none] [] (jG0 sc) h (0, 0)) :
    WP mX12_input Q 30 [some (.ref 159), some (.int l1), some (.int l2), some (.int l3), some (.int l4), none, none, none] [] (jG0 sc) h (0, 0) := by
  exact (bX12_input_30 (fun c1 => (bX12_input_154 (v1 c1))) (fun c1 => (bX12_input_43 (v2 c1))))
set_option maxRecDepth 100000 in
theorem rX12_input_46 {sc : Nat × (Nat → Int32)} {h : jH} {Q : jQ} {l1 l2 l3 l4 l5 : Int32} {P1 : jH → Prop} {P2 : Int32 → jH → Prop} {P3 : Int32 → jH → Prop} {P4 : Int32 → jH → Prop} {P5 : Int32 → jH → Prop} {P6 : Int32 → jH → Prop}
    (v1 : (h 160 285) < l5 → WP mX12_input Q 30 [some (.ref 159), some (.int l1), some (.int l2), some (.int l3), some (.int (l4 + 1)), none, none, none] [] (jG0 sc) h (0, 0))
    (k1 : ¬ (h 160 285) < l5 → JM mX12_endsOfAll [.ref 159, .int l4, .int l5] (jG0 sc) h (jvoid sc P1))
    (k2 : ¬ (h 160 285) < l5 → ∀ h1 : jH, P1 h1 → JM mX12_mostAlike [.ref 159] (jG0 sc) h1 (jint sc P2))
    (k3 : ¬ (h 160 285) < l5 → ∀ h1 : jH, P1 h1 → ∀ (x2 : Int32) (h2 : jH), P2 x2 h2 → ¬ l1 = 0 → l1 = 0 → JM mX12_nearest [.ref 159, .int l4, .int l5] (jG0 sc) h2 (jint sc P3))
    (v2 : ¬ (h 160 285) < l5 → ∀ h1 : jH, P1 h1 → ∀ (x2 : Int32) (h2 : jH), P2 x2 h2 → ¬ l1 = 0 → l1 = 0 → ∀ (x3 : Int32) (h3 : jH), P3 x3 h3 → l2 < 0 → WP mX12_input Q 46 [some (.ref 159), some (.int l1), some (.int ((16 * l4) + l5)), some (.int (0 + x3)), some (.int l4), some (.int (l5 + 1)), none, none] [] (jG0 sc) h3 (0, 0))
    (v3 : ¬ (h 160 285) < l5 → ∀ h1 : jH, P1 h1 → ∀ (x2 : Int32) (h2 : jH), P2 x2 h2 → ¬ l1 = 0 → l1 = 0 → ∀ (x3 : Int32) (h3 : jH), P3 x3 h3 → ¬ l2 < 0 → (0 + x3) < l3 → WP mX12_input Q 46 [some (.ref 159), some (.int l1), some (.int ((16 * l4) + l5)), some (.int (0 + x3)), some (.int l4), some (.int (l5 + 1)), none, none] [] (jG0 sc) h3 (0, 0))
    (v4 : ¬ (h 160 285) < l5 → ∀ h1 : jH, P1 h1 → ∀ (x2 : Int32) (h2 : jH), P2 x2 h2 → ¬ l1 = 0 → l1 = 0 → ∀ (x3 : Int32) (h3 : jH), P3 x3 h3 → ¬ l2 < 0 → ¬ (0 + x3) < l3 → WP mX12_input Q 46 [some (.ref 159), some (.int l1), some (.int l2), some (.int l3), some (.int l4), some (.int (l5 + 1)), none, none] [] (jG0 sc) h3 (0, 0))
    (k4 : ¬ (h 160 285) < l5 → ∀ h1 : jH, P1 h1 → ∀ (x2 : Int32) (h2 : jH), P2 x2 h2 → ¬ l1 = 0 → ¬ l1 = 0 → JM mX12_nearest [.ref 159, .int l4, .int l5] (jG0 sc) h2 (jint sc P4))
    (v5 : ¬ (h 160 285) < l5 → ∀ h1 : jH, P1 h1 → ∀ (x2 : Int32) (h2 : jH), P2 x2 h2 → ¬ l1 = 0 → ¬ l1 = 0 → ∀ (x4 : Int32) (h4 : jH), P4 x4 h4 → l2 < 0 → WP mX12_input Q 46 [some (.ref 159), some (.int l1), some (.int ((16 * l4) + l5)), some (.int ((100 * x2) + x4)), some (.int l4), some (.int (l5 + 1)), none, none] [] (jG0 sc) h4 (0, 0))
    (v6 : ¬ (h 160 285) < l5 → ∀ h1 : jH, P1 h1 → ∀ (x2 : Int32) (h2 : jH), P2 x2 h2 → ¬ l1 = 0 → ¬ l1 = 0 → ∀ (x4 : Int32) (h4 : jH), P4 x4 h4 → ¬ l2 < 0 → ((100 * x2) + x4) < l3 → WP mX12_input Q 46 [some (.ref 159), some (.int l1), some (.int ((16 * l4) + l5)), some (.int ((100 * x2) + x4)), some (.int l4), some (.int (l5 + 1)), none, none] [] (jG0 sc) h4 (0, 0))
    (v7 : ¬ (h 160 285) < l5 → ∀ h1 : jH, P1 h1 → ∀ (x2 : Int32) (h2 : jH), P2 x2 h2 → ¬ l1 = 0 → ¬ l1 = 0 → ∀ (x4 : Int32) (h4 : jH), P4 x4 h4 → ¬ l2 < 0 → ¬ ((100 * x2) + x4) < l3 → WP mX12_input Q 46 [some (.ref 159), some (.int l1), some (.int l2), some (.int l3), some (.int l4), some (.int (l5 + 1)), none, none] [] (jG0 sc) h4 (0, 0))
    (k5 : ¬ (h 160 285) < l5 → ∀ h1 : jH, P1 h1 → ∀ (x2 : Int32) (h2 : jH), P2 x2 h2 → l1 = 0 → ¬ x2 = (h2 160 163) → l1 = 0 → JM mX12_nearest [.ref 159, .int l4, .int l5] (jG0 sc) h2 (jint sc P5))
    (v8 : ¬ (h 160 285) < l5 → ∀ h1 : jH, P1 h1 → ∀ (x2 : Int32) (h2 : jH), P2 x2 h2 → l1 = 0 → ¬ x2 = (h2 160 163) → l1 = 0 → ∀ (x5 : Int32) (h5 : jH), P5 x5 h5 → l2 < 0 → WP mX12_input Q 46 [some (.ref 159), some (.int l1), some (.int ((16 * l4) + l5)), some (.int (0 + x5)), some (.int l4), some (.int (l5 + 1)), none, none] [] (jG0 sc) h5 (0, 0))
    (v9 : ¬ (h 160 285) < l5 → ∀ h1 : jH, P1 h1 → ∀ (x2 : Int32) (h2 : jH), P2 x2 h2 → l1 = 0 → ¬ x2 = (h2 160 163) → l1 = 0 → ∀ (x5 : Int32) (h5 : jH), P5 x5 h5 → ¬ l2 < 0 → (0 + x5) < l3 → WP mX12_input Q 46 [some (.ref 159), some (.int l1), some (.int ((16 * l4) + l5)), some (.int (0 + x5)), some (.int l4), some (.int (l5 + 1)), none, none] [] (jG0 sc) h5 (0, 0))
    (v10 : ¬ (h 160 285) < l5 → ∀ h1 : jH, P1 h1 → ∀ (x2 : Int32) (h2 : jH), P2 x2 h2 → l1 = 0 → ¬ x2 = (h2 160 163) → l1 = 0 → ∀ (x5 : Int32) (h5 : jH), P5 x5 h5 → ¬ l2 < 0 → ¬ (0 + x5) < l3 → WP mX12_input Q 46 [some (.ref 159), some (.int l1), some (.int l2), some (.int l3), some (.int l4), some (.int (l5 + 1)), none, none] [] (jG0 sc) h5 (0, 0))
    (k6 : ¬ (h 160 285) < l5 → ∀ h1 : jH, P1 h1 → ∀ (x2 : Int32) (h2 : jH), P2 x2 h2 → l1 = 0 → ¬ x2 = (h2 160 163) → ¬ l1 = 0 → JM mX12_nearest [.ref 159, .int l4, .int l5] (jG0 sc) h2 (jint sc P6))
    (v11 : ¬ (h 160 285) < l5 → ∀ h1 : jH, P1 h1 → ∀ (x2 : Int32) (h2 : jH), P2 x2 h2 → l1 = 0 → ¬ x2 = (h2 160 163) → ¬ l1 = 0 → ∀ (x6 : Int32) (h6 : jH), P6 x6 h6 → l2 < 0 → WP mX12_input Q 46 [some (.ref 159), some (.int l1), some (.int ((16 * l4) + l5)), some (.int ((100 * x2) + x6)), some (.int l4), some (.int (l5 + 1)), none, none] [] (jG0 sc) h6 (0, 0))
    (v12 : ¬ (h 160 285) < l5 → ∀ h1 : jH, P1 h1 → ∀ (x2 : Int32) (h2 : jH), P2 x2 h2 → l1 = 0 → ¬ x2 = (h2 160 163) → ¬ l1 = 0 → ∀ (x6 : Int32) (h6 : jH), P6 x6 h6 → ¬ l2 < 0 → ((100 * x2) + x6) < l3 → WP mX12_input Q 46 [some (.ref 159), some (.int l1), some (.int ((16 * l4) + l5)), some (.int ((100 * x2) + x6)), some (.int l4), some (.int (l5 + 1)), none, none] [] (jG0 sc) h6 (0, 0))
    (v13 : ¬ (h 160 285) < l5 → ∀ h1 : jH, P1 h1 → ∀ (x2 : Int32) (h2 : jH), P2 x2 h2 → l1 = 0 → ¬ x2 = (h2 160 163) → ¬ l1 = 0 → ∀ (x6 : Int32) (h6 : jH), P6 x6 h6 → ¬ l2 < 0 → ¬ ((100 * x2) + x6) < l3 → WP mX12_input Q 46 [some (.ref 159), some (.int l1), some (.int l2), some (.int l3), some (.int l4), some (.int (l5 + 1)), none, none] [] (jG0 sc) h6 (0, 0))
    (v14 : ¬ (h 160 285) < l5 → ∀ h1 : jH, P1 h1 → ∀ (x2 : Int32) (h2 : jH), P2 x2 h2 → l1 = 0 → x2 = (h2 160 163) → WP mX12_input Q 46 [some (.ref 159), some (.int l1), some (.int l2), some (.int l3), some (.int l4), some (.int (l5 + 1)), none, none] [] (jG0 sc) h2 (0, 0)) :
    WP mX12_input Q 46 [some (.ref 159), some (.int l1), some (.int l2), some (.int l3), some (.int l4), some (.int l5), none, none] [] (jG0 sc) h (0, 0) := by
  exact (bX12_input_46 (fun c1 => (bX12_input_148 (v1 c1))) (fun c1 => (bX12_input_59 (k1 c1) (fun h1 p1 => (k2 c1 h1 p1)) (fun h1 p1 x2 h2 p2 c2 => (bX12_input_93 (fun c3 => (bX12_input_105 (bX12_input_106 (k3 c1 h1 p1 x2 h2 p2 c2 c3) (fun x3 h3 p3 c4 => (bX12_input_130 (bX12_input_142 (v2 c1 h1 p1 x2 h2 p2 c2 c3 x3 h3 p3 c4)))) (fun x3 h3 p3 c4 => (bX12_input_121 (fun c5 => (bX12_input_130 (bX12_input_142 (v3 c1 h1 p1 x2 h2 p2 c2 c3 x3 h3 p3 c4 c5)))) (fun c5 => (bX12_input_127 (bX12_input_142 (v4 c1 h1 p1 x2 h2 p2 c2 c3 x3 h3 p3 c4 c5))))))))) (fun c3 => (bX12_input_97 (bX12_input_106 (k4 c1 h1 p1 x2 h2 p2 c2 c3) (fun x4 h4 p4 c6 => (bX12_input_130 (bX12_input_142 (v5 c1 h1 p1 x2 h2 p2 c2 c3 x4 h4 p4 c6)))) (fun x4 h4 p4 c6 => (bX12_input_121 (fun c7 => (bX12_input_130 (bX12_input_142 (v6 c1 h1 p1 x2 h2 p2 c2 c3 x4 h4 p4 c6 c7)))) (fun c7 => (bX12_input_127 (bX12_input_142 (v7 c1 h1 p1 x2 h2 p2 c2 c3 x4 h4 p4 c6 c7))))))))))) (fun h1 p1 x2 h2 p2 c2 => (bX12_input_77 (fun c8 => (bX12_input_93 (fun c9 => (bX12_input_105 (bX12_input_106 (k5 c1 h1 p1 x2 h2 p2 c2 c8 c9) (fun x5 h5 p5 c10 => (bX12_input_130 (bX12_input_142 (v8 c1 h1 p1 x2 h2 p2 c2 c8 c9 x5 h5 p5 c10)))) (fun x5 h5 p5 c10 => (bX12_input_121 (fun c11 => (bX12_input_130 (bX12_input_142 (v9 c1 h1 p1 x2 h2 p2 c2 c8 c9 x5 h5 p5 c10 c11)))) (fun c11 => (bX12_input_127 (bX12_input_142 (v10 c1 h1 p1 x2 h2 p2 c2 c8 c9 x5 h5 p5 c10 c11))))))))) (fun c9 => (bX12_input_97 (bX12_input_106 (k6 c1 h1 p1 x2 h2 p2 c2 c8 c9) (fun x6 h6 p6 c12 => (bX12_input_130 (bX12_input_142 (v11 c1 h1 p1 x2 h2 p2 c2 c8 c9 x6 h6 p6 c12)))) (fun x6 h6 p6 c12 => (bX12_input_121 (fun c13 => (bX12_input_130 (bX12_input_142 (v12 c1 h1 p1 x2 h2 p2 c2 c8 c9 x6 h6 p6 c12 c13)))) (fun c13 => (bX12_input_127 (bX12_input_142 (v13 c1 h1 p1 x2 h2 p2 c2 c8 c9 x6 h6 p6 c12 c13))))))))))) (fun c8 => (bX12_input_90 (bX12_input_142 (v14 c1 h1 p1 x2 h2 p2 c2 c8)))))))))
theorem dX12_broken_0 : decode (mC mX12_broken) 0 = .ok (.iconst 0, 1) := by decide +kernel
theorem dX12_broken_1 : decode (mC mX12_broken) 1 = .ok (.istore_n 2, 1) := by decide +kernel
theorem dX12_broken_2 : decode (mC mX12_broken) 2 = .ok (.aload_n 0, 1) := by decide +kernel
theorem dX12_broken_3 : decode (mC mX12_broken) 3 = .ok (.iconst (-1), 1) := by decide +kernel
theorem dX12_broken_4 : decode (mC mX12_broken) 4 = .ok (.putfield 374, 3) := by decide +kernel
theorem dX12_broken_7 : decode (mC mX12_broken) 7 = .ok (.aload_n 0, 1) := by decide +kernel
theorem dX12_broken_8 : decode (mC mX12_broken) 8 = .ok (.iload_n 1, 1) := by decide +kernel
theorem dX12_broken_9 : decode (mC mX12_broken) 9 = .ok (.invokevirtual 347, 3) := by decide +kernel
theorem dX12_broken_12 : decode (mC mX12_broken) 12 = .ok (.iconst 0, 1) := by decide +kernel
theorem dX12_broken_13 : decode (mC mX12_broken) 13 = .ok (.istore_n 3, 1) := by decide +kernel
theorem dX12_broken_14 : decode (mC mX12_broken) 14 = .ok (.iload_n 3, 1) := by decide +kernel
theorem dX12_broken_15 : decode (mC mX12_broken) 15 = .ok (.aload_n 0, 1) := by decide +kernel
theorem dX12_broken_16 : decode (mC mX12_broken) 16 = .ok (.getfield 13, 3) := by decide +kernel
theorem dX12_broken_19 : decode (mC mX12_broken) 19 = .ok (.sipush 285, 3) := by decide +kernel
theorem dX12_broken_22 : decode (mC mX12_broken) 22 = .ok (.iaload, 1) := by decide +kernel
theorem dX12_broken_23 : decode (mC mX12_broken) 23 = .ok (.if_icmp .gt 69, 3) := by decide +kernel
theorem dX12_broken_26 : decode (mC mX12_broken) 26 = .ok (.iconst 0, 1) := by decide +kernel
theorem dX12_broken_27 : decode (mC mX12_broken) 27 = .ok (.istore 4, 2) := by decide +kernel
theorem dX12_broken_29 : decode (mC mX12_broken) 29 = .ok (.iload 4, 2) := by decide +kernel
theorem dX12_broken_31 : decode (mC mX12_broken) 31 = .ok (.aload_n 0, 1) := by decide +kernel
theorem dX12_broken_32 : decode (mC mX12_broken) 32 = .ok (.getfield 13, 3) := by decide +kernel
theorem dX12_broken_35 : decode (mC mX12_broken) 35 = .ok (.sipush 285, 3) := by decide +kernel
theorem dX12_broken_38 : decode (mC mX12_broken) 38 = .ok (.iaload, 1) := by decide +kernel
theorem dX12_broken_39 : decode (mC mX12_broken) 39 = .ok (.if_icmp .gt 47, 3) := by decide +kernel
theorem dX12_broken_42 : decode (mC mX12_broken) 42 = .ok (.aload_n 0, 1) := by decide +kernel
theorem dX12_broken_43 : decode (mC mX12_broken) 43 = .ok (.aload_n 0, 1) := by decide +kernel
theorem dX12_broken_44 : decode (mC mX12_broken) 44 = .ok (.iload_n 3, 1) := by decide +kernel
theorem dX12_broken_45 : decode (mC mX12_broken) 45 = .ok (.iload 4, 2) := by decide +kernel
theorem dX12_broken_47 : decode (mC mX12_broken) 47 = .ok (.invokevirtual 248, 3) := by decide +kernel
theorem dX12_broken_50 : decode (mC mX12_broken) 50 = .ok (.iload_n 3, 1) := by decide +kernel
theorem dX12_broken_51 : decode (mC mX12_broken) 51 = .ok (.iload 4, 2) := by decide +kernel
theorem dX12_broken_53 : decode (mC mX12_broken) 53 = .ok (.invokevirtual 377, 3) := by decide +kernel
theorem dX12_broken_56 : decode (mC mX12_broken) 56 = .ok (.ifCond .eq 6, 3) := by decide +kernel
theorem dX12_broken_59 : decode (mC mX12_broken) 59 = .ok (.goto 21, 3) := by decide +kernel
theorem dX12_broken_62 : decode (mC mX12_broken) 62 = .ok (.iload_n 2, 1) := by decide +kernel
theorem dX12_broken_63 : decode (mC mX12_broken) 63 = .ok (.ifCond .ne 14, 3) := by decide +kernel
theorem dX12_broken_66 : decode (mC mX12_broken) 66 = .ok (.aload_n 0, 1) := by decide +kernel
theorem dX12_broken_67 : decode (mC mX12_broken) 67 = .ok (.bipush 16, 2) := by decide +kernel
theorem dX12_broken_69 : decode (mC mX12_broken) 69 = .ok (.iload_n 3, 1) := by decide +kernel
theorem dX12_broken_70 : decode (mC mX12_broken) 70 = .ok (.imul, 1) := by decide +kernel
theorem dX12_broken_71 : decode (mC mX12_broken) 71 = .ok (.iload 4, 2) := by decide +kernel
theorem dX12_broken_73 : decode (mC mX12_broken) 73 = .ok (.iadd, 1) := by decide +kernel
theorem dX12_broken_74 : decode (mC mX12_broken) 74 = .ok (.putfield 374, 3) := by decide +kernel
theorem dX12_broken_77 : decode (mC mX12_broken) 77 = .ok (.iinc 2 1, 3) := by decide +kernel
theorem dX12_broken_80 : decode (mC mX12_broken) 80 = .ok (.iinc 4 1, 3) := by decide +kernel
theorem dX12_broken_83 : decode (mC mX12_broken) 83 = .ok (.goto (-54), 3) := by decide +kernel
theorem dX12_broken_86 : decode (mC mX12_broken) 86 = .ok (.iinc 3 1, 3) := by decide +kernel
theorem dX12_broken_89 : decode (mC mX12_broken) 89 = .ok (.goto (-75), 3) := by decide +kernel
theorem dX12_broken_92 : decode (mC mX12_broken) 92 = .ok (.iload_n 2, 1) := by decide +kernel
theorem dX12_broken_93 : decode (mC mX12_broken) 93 = .ok (.ireturn, 1) := by decide +kernel
set_option maxRecDepth 100000 in
theorem bX12_broken_0 {sc : Nat × (Nat → Int32)} {h : jH} {Q : jQ} {l1 : Int32} {P1 : jH → Prop}
    (k1 : JM mX12_laysAlive [.ref 159, .int l1] (jG0 sc) (jput h 159 28 (-1)) (jvoid sc P1))
    (v1 : ∀ h1 : jH, P1 h1 → WP mX12_broken Q 14 [some (.ref 159), some (.int l1), some (.int 0), some (.int 0), none] [] (jG0 sc) h1 (0, 0)) :
    WP mX12_broken Q 0 [some (.ref 159), some (.int l1), none, none, none] [] (jG0 sc) h (0, 0) := by
  refine j_iconst (n := 0) 0 (by decide) dX12_broken_0 ?_
  refine j_istore_n (i := 2) dX12_broken_1 (Nat.le_of_ble_eq_true rfl) ?_
  refine j_aload_n (i := 0) rfl dX12_broken_2 ?_
  refine j_iconst (n := (-1)) (-1) (by decide) dX12_broken_3 ?_
  refine j_putI (idx := 374) (ci := 12) (k := 28) (nest := false) (show (12, 374, 12, 28, false) ∈ jFT by decide) rfl rfl rfl rfl (Nat.le_of_ble_eq_true rfl) rfl dX12_broken_4 ?_
  refine j_aload_n (i := 0) rfl dX12_broken_7 ?_
  refine j_iload_n (i := 1) rfl dX12_broken_8 ?_
  refine j_callV (idx := 347) (As := [.int l1]) (ci := 12) (n := 1) k1 jvoid_nt (jlkT (jtb7 235 rfl) rfl) sX12_laysAlive kX12_laysAlive rfl ⟨rfl, by decide +kernel, by decide +kernel, by decide +kernel⟩ rfl ⟨by decide, by decide⟩ (Nat.le_of_ble_eq_true rfl) rfl (Nat.le_of_ble_eq_true rfl) (Nat.le_of_ble_eq_true rfl) ⟨Nat.zero_le _, Nat.zero_le _⟩ dX12_broken_9 (fun r Γ' h1 q => ?_)
  obtain ⟨q0, rfl, p1⟩ := q; cases q0
  refine j_eqst [] (by rfl) ?_
  refine j_iconst (n := 0) 0 (by decide) dX12_broken_12 ?_
  refine j_istore_n (i := 3) dX12_broken_13 (Nat.le_of_ble_eq_true rfl) ?_
  exact j_le [some (.ref 159), some (.int l1), some (.int 0), some (.int 0), none] (And.intro rfl (And.intro rfl (And.intro rfl (And.intro rfl True.intro)))) (v1 h1 p1)
set_option maxRecDepth 100000 in
theorem bX12_broken_14 {sc : Nat × (Nat → Int32)} {h : jH} {Q : jQ} {l1 l2 l3 : Int32}
    (v1 : (h 160 285) < l3 → WP mX12_broken Q 92 [some (.ref 159), some (.int l1), some (.int l2), some (.int l3), none] [] (jG0 sc) h (0, 0))
    (v2 : ¬ (h 160 285) < l3 → WP mX12_broken Q 26 [some (.ref 159), some (.int l1), some (.int l2), some (.int l3), none] [] (jG0 sc) h (0, 0)) :
    WP mX12_broken Q 14 [some (.ref 159), some (.int l1), some (.int l2), some (.int l3), none] [] (jG0 sc) h (0, 0) := by
  refine j_iload_n (i := 3) rfl dX12_broken_14 ?_
  refine j_aload_n (i := 0) rfl dX12_broken_15 ?_
  refine j_getR (idx := 13) (ci := 12) (k := 1) (nest := false) (show (12, 13, 12, 1, false) ∈ jFT by decide) rfl (Nat.le_of_ble_eq_true rfl) rfl (a := 160) rfl dX12_broken_16 ?_
  refine j_sipush (n := 285) 285 (by decide) dX12_broken_19 ?_
  refine j_iald (Nat.le_of_ble_eq_true rfl) rfl (jinl (n := 1454) (by decide)) dX12_broken_22 ?_
  refine j_eqst [.int (h 160 285), .int l3] (by rfl) ?_
  refine j_icmp_gt (off := 69) 92 dX12_broken_23 (by decide) (fun c1 => ?_) (fun c1 => ?_)
  · exact j_le [some (.ref 159), some (.int l1), some (.int l2), some (.int l3), none] (And.intro rfl (And.intro rfl (And.intro rfl (And.intro rfl True.intro)))) (v1 c1)
  · exact j_le [some (.ref 159), some (.int l1), some (.int l2), some (.int l3), none] (And.intro rfl (And.intro rfl (And.intro rfl (And.intro rfl True.intro)))) (v2 c1)
set_option maxRecDepth 100000 in
theorem bX12_broken_26 {sc : Nat × (Nat → Int32)} {h : jH} {Q : jQ} {l1 l2 l3 : Int32}
    (v1 : WP mX12_broken Q 29 [some (.ref 159), some (.int l1), some (.int l2), some (.int l3), some (.int 0)] [] (jG0 sc) h (0, 0)) :
    WP mX12_broken Q 26 [some (.ref 159), some (.int l1), some (.int l2), some (.int l3), none] [] (jG0 sc) h (0, 0) := by
  refine j_iconst (n := 0) 0 (by decide) dX12_broken_26 ?_
  refine j_istore (i := 4) dX12_broken_27 (Nat.le_of_ble_eq_true rfl) ?_
  exact j_le [some (.ref 159), some (.int l1), some (.int l2), some (.int l3), some (.int 0)] (And.intro rfl (And.intro rfl (And.intro rfl (And.intro rfl (And.intro rfl True.intro))))) v1
set_option maxRecDepth 100000 in
theorem bX12_broken_29 {sc : Nat × (Nat → Int32)} {h : jH} {Q : jQ} {l1 l2 l3 l4 : Int32}
    (v1 : (h 160 285) < l4 → WP mX12_broken Q 86 [some (.ref 159), some (.int l1), some (.int l2), some (.int l3), some (.int l4)] [] (jG0 sc) h (0, 0))
    (v2 : ¬ (h 160 285) < l4 → WP mX12_broken Q 42 [some (.ref 159), some (.int l1), some (.int l2), some (.int l3), some (.int l4)] [] (jG0 sc) h (0, 0)) :
    WP mX12_broken Q 29 [some (.ref 159), some (.int l1), some (.int l2), some (.int l3), some (.int l4)] [] (jG0 sc) h (0, 0) := by
  refine j_iload (i := 4) rfl dX12_broken_29 ?_
  refine j_aload_n (i := 0) rfl dX12_broken_31 ?_
  refine j_getR (idx := 13) (ci := 12) (k := 1) (nest := false) (show (12, 13, 12, 1, false) ∈ jFT by decide) rfl (Nat.le_of_ble_eq_true rfl) rfl (a := 160) rfl dX12_broken_32 ?_
  refine j_sipush (n := 285) 285 (by decide) dX12_broken_35 ?_
  refine j_iald (Nat.le_of_ble_eq_true rfl) rfl (jinl (n := 1454) (by decide)) dX12_broken_38 ?_
  refine j_eqst [.int (h 160 285), .int l4] (by rfl) ?_
  refine j_icmp_gt (off := 47) 86 dX12_broken_39 (by decide) (fun c1 => ?_) (fun c1 => ?_)
  · exact j_le [some (.ref 159), some (.int l1), some (.int l2), some (.int l3), some (.int l4)] (And.intro rfl (And.intro rfl (And.intro rfl (And.intro rfl (And.intro rfl True.intro))))) (v1 c1)
  · exact j_le [some (.ref 159), some (.int l1), some (.int l2), some (.int l3), some (.int l4)] (And.intro rfl (And.intro rfl (And.intro rfl (And.intro rfl (And.intro rfl True.intro))))) (v2 c1)
set_option maxRecDepth 100000 in
theorem bX12_broken_42 {sc : Nat × (Nat → Int32)} {h : jH} {Q : jQ} {l1 l2 l3 l4 : Int32} {P1 : Int32 → jH → Prop} {P2 : Int32 → jH → Prop}
    (k1 : JM mX12_endAt [.ref 159, .int l3, .int l4] (jG0 sc) h (jint sc P1))
    (k2 : ∀ (x1 : Int32) (h1 : jH), P1 x1 h1 → JM mX12_keeps [.ref 159, .int x1, .int l3, .int l4] (jG0 sc) h1 (jint sc P2))
    (v1 : ∀ (x1 : Int32) (h1 : jH), P1 x1 h1 → ∀ (x2 : Int32) (h2 : jH), P2 x2 h2 → x2 = 0 → WP mX12_broken Q 62 [some (.ref 159), some (.int l1), some (.int l2), some (.int l3), some (.int l4)] [] (jG0 sc) h2 (0, 0))
    (v2 : ∀ (x1 : Int32) (h1 : jH), P1 x1 h1 → ∀ (x2 : Int32) (h2 : jH), P2 x2 h2 → ¬ x2 = 0 → WP mX12_broken Q 59 [some (.ref 159), some (.int l1), some (.int l2), some (.int l3), some (.int l4)] [] (jG0 sc) h2 (0, 0)) :
    WP mX12_broken Q 42 [some (.ref 159), some (.int l1), some (.int l2), some (.int l3), some (.int l4)] [] (jG0 sc) h (0, 0) := by
  refine j_aload_n (i := 0) rfl dX12_broken_42 ?_
  refine j_aload_n (i := 0) rfl dX12_broken_43 ?_
  refine j_iload_n (i := 3) rfl dX12_broken_44 ?_
  refine j_iload (i := 4) rfl dX12_broken_45 ?_
  refine j_callV (idx := 248) (As := [.int l3, .int l4]) (ci := 12) (n := 2) k1 jint_nt (jlkT (jtb7 71 rfl) rfl) sX12_endAt kX12_endAt rfl ⟨rfl, by decide +kernel, by decide +kernel, by decide +kernel⟩ rfl ⟨by decide, by decide⟩ (Nat.le_of_ble_eq_true rfl) rfl (Nat.le_of_ble_eq_true rfl) (Nat.le_of_ble_eq_true rfl) ⟨Nat.zero_le _, Nat.zero_le _⟩ dX12_broken_47 (fun r Γ' h1 q => ?_)
  obtain ⟨x1, q0, rfl, p1⟩ := q; cases q0
  refine j_eqst [.int x1, .ref 159] (by rfl) ?_
  refine j_iload_n (i := 3) rfl dX12_broken_50 ?_
  refine j_iload (i := 4) rfl dX12_broken_51 ?_
  refine j_callV (idx := 377) (As := [.int x1, .int l3, .int l4]) (ci := 12) (n := 3) (k2 x1 h1 p1) jint_nt (jlkT (jtb8 57 rfl) rfl) sX12_keeps kX12_keeps rfl ⟨rfl, by decide +kernel, by decide +kernel, by decide +kernel⟩ rfl ⟨by decide, by decide⟩ (Nat.le_of_ble_eq_true rfl) rfl (Nat.le_of_ble_eq_true rfl) (Nat.le_of_ble_eq_true rfl) ⟨Nat.zero_le _, Nat.zero_le _⟩ dX12_broken_53 (fun r Γ' h2 q => ?_)
  obtain ⟨x2, q0, rfl, p2⟩ := q; cases q0
  refine j_eqst [.int x2] (by rfl) ?_
  refine j_if_eq (off := 6) 62 dX12_broken_56 (by decide) (fun c1 => ?_) (fun c1 => ?_)
  · exact j_le [some (.ref 159), some (.int l1), some (.int l2), some (.int l3), some (.int l4)] (And.intro rfl (And.intro rfl (And.intro rfl (And.intro rfl (And.intro rfl True.intro))))) (v1 x1 h1 p1 x2 h2 p2 c1)
  · exact j_le [some (.ref 159), some (.int l1), some (.int l2), some (.int l3), some (.int l4)] (And.intro rfl (And.intro rfl (And.intro rfl (And.intro rfl (And.intro rfl True.intro))))) (v2 x1 h1 p1 x2 h2 p2 c1)
set_option maxRecDepth 100000 in
theorem bX12_broken_59 {sc : Nat × (Nat → Int32)} {h : jH} {Q : jQ} {l1 l2 l3 l4 : Int32}
    (v1 : WP mX12_broken Q 80 [some (.ref 159), some (.int l1), some (.int l2), some (.int l3), some (.int l4)] [] (jG0 sc) h (0, 0)) :
    WP mX12_broken Q 59 [some (.ref 159), some (.int l1), some (.int l2), some (.int l3), some (.int l4)] [] (jG0 sc) h (0, 0) := by
  refine j_goto (off := 21) 80 dX12_broken_59 (by decide) ?_
  exact j_le [some (.ref 159), some (.int l1), some (.int l2), some (.int l3), some (.int l4)] (And.intro rfl (And.intro rfl (And.intro rfl (And.intro rfl (And.intro rfl True.intro))))) v1
set_option maxRecDepth 100000 in
theorem bX12_broken_62 {sc : Nat × (Nat → Int32)} {h : jH} {Q : jQ} {l1 l2 l3 l4 : Int32}
    (v1 : ¬ l2 = 0 → WP mX12_broken Q 77 [some (.ref 159), some (.int l1), some (.int l2), some (.int l3), some (.int l4)] [] (jG0 sc) h (0, 0))
    (v2 : l2 = 0 → WP mX12_broken Q 66 [some (.ref 159), some (.int l1), some (.int l2), some (.int l3), some (.int l4)] [] (jG0 sc) h (0, 0)) :
    WP mX12_broken Q 62 [some (.ref 159), some (.int l1), some (.int l2), some (.int l3), some (.int l4)] [] (jG0 sc) h (0, 0) := by
  refine j_iload_n (i := 2) rfl dX12_broken_62 ?_
  refine j_if_ne (off := 14) 77 dX12_broken_63 (by decide) (fun c1 => ?_) (fun c1 => ?_)
  · exact j_le [some (.ref 159), some (.int l1), some (.int l2), some (.int l3), some (.int l4)] (And.intro rfl (And.intro rfl (And.intro rfl (And.intro rfl (And.intro rfl True.intro))))) (v1 c1)
  · exact j_le [some (.ref 159), some (.int l1), some (.int l2), some (.int l3), some (.int l4)] (And.intro rfl (And.intro rfl (And.intro rfl (And.intro rfl (And.intro rfl True.intro))))) (v2 c1)
set_option maxRecDepth 100000 in
theorem bX12_broken_66 {sc : Nat × (Nat → Int32)} {h : jH} {Q : jQ} {l1 l2 l3 l4 : Int32}
    (v1 : WP mX12_broken Q 77 [some (.ref 159), some (.int l1), some (.int l2), some (.int l3), some (.int l4)] [] (jG0 sc) (jput h 159 28 ((16 * l3) + l4)) (0, 0)) :
    WP mX12_broken Q 66 [some (.ref 159), some (.int l1), some (.int l2), some (.int l3), some (.int l4)] [] (jG0 sc) h (0, 0) := by
  refine j_aload_n (i := 0) rfl dX12_broken_66 ?_
  refine j_bipush (n := 16) 16 (by decide) dX12_broken_67 ?_
  refine j_iload_n (i := 3) rfl dX12_broken_69 ?_
  refine j_imul dX12_broken_70 ?_
  refine j_iload (i := 4) rfl dX12_broken_71 ?_
  refine j_iadd dX12_broken_73 ?_
  refine j_putI (idx := 374) (ci := 12) (k := 28) (nest := false) (show (12, 374, 12, 28, false) ∈ jFT by decide) rfl rfl rfl rfl (Nat.le_of_ble_eq_true rfl) rfl dX12_broken_74 ?_
  exact j_le [some (.ref 159), some (.int l1), some (.int l2), some (.int l3), some (.int l4)] (And.intro rfl (And.intro rfl (And.intro rfl (And.intro rfl (And.intro rfl True.intro))))) v1
set_option maxRecDepth 100000 in
theorem bX12_broken_77 {sc : Nat × (Nat → Int32)} {h : jH} {Q : jQ} {l1 l2 l3 l4 : Int32}
    (v1 : WP mX12_broken Q 80 [some (.ref 159), some (.int l1), some (.int (l2 + 1)), some (.int l3), some (.int l4)] [] (jG0 sc) h (0, 0)) :
    WP mX12_broken Q 77 [some (.ref 159), some (.int l1), some (.int l2), some (.int l3), some (.int l4)] [] (jG0 sc) h (0, 0) := by
  refine j_iinc (i := 2) (n := 1) rfl dX12_broken_77 (Nat.le_of_ble_eq_true rfl) ?_
  refine j_eqlv [some (.ref 159), some (.int l1), some (.int (l2 + 1)), some (.int l3), some (.int l4)] rfl ?_
  exact j_le [some (.ref 159), some (.int l1), some (.int (l2 + 1)), some (.int l3), some (.int l4)] (And.intro rfl (And.intro rfl (And.intro rfl (And.intro rfl (And.intro rfl True.intro))))) v1
set_option maxRecDepth 100000 in
theorem bX12_broken_80 {sc : Nat × (Nat → Int32)} {h : jH} {Q : jQ} {l1 l2 l3 l4 : Int32}
    (v1 : WP mX12_broken Q 29 [some (.ref 159), some (.int l1), some (.int l2), some (.int l3), some (.int (l4 + 1))] [] (jG0 sc) h (0, 0)) :
    WP mX12_broken Q 80 [some (.ref 159), some (.int l1), some (.int l2), some (.int l3), some (.int l4)] [] (jG0 sc) h (0, 0) := by
  refine j_iinc (i := 4) (n := 1) rfl dX12_broken_80 (Nat.le_of_ble_eq_true rfl) ?_
  refine j_eqlv [some (.ref 159), some (.int l1), some (.int l2), some (.int l3), some (.int (l4 + 1))] rfl ?_
  refine j_goto (off := -54) 29 dX12_broken_83 (by decide) ?_
  exact j_le [some (.ref 159), some (.int l1), some (.int l2), some (.int l3), some (.int (l4 + 1))] (And.intro rfl (And.intro rfl (And.intro rfl (And.intro rfl (And.intro rfl True.intro))))) v1
set_option maxRecDepth 100000 in
theorem bX12_broken_86 {sc : Nat × (Nat → Int32)} {h : jH} {Q : jQ} {l1 l2 l3 l4 : Int32}
    (v1 : WP mX12_broken Q 14 [some (.ref 159), some (.int l1), some (.int l2), some (.int (l3 + 1)), none] [] (jG0 sc) h (0, 0)) :
    WP mX12_broken Q 86 [some (.ref 159), some (.int l1), some (.int l2), some (.int l3), some (.int l4)] [] (jG0 sc) h (0, 0) := by
  refine j_iinc (i := 3) (n := 1) rfl dX12_broken_86 (Nat.le_of_ble_eq_true rfl) ?_
  refine j_eqlv [some (.ref 159), some (.int l1), some (.int l2), some (.int (l3 + 1)), some (.int l4)] rfl ?_
  refine j_goto (off := -75) 14 dX12_broken_89 (by decide) ?_
  exact j_le [some (.ref 159), some (.int l1), some (.int l2), some (.int (l3 + 1)), none] (And.intro rfl (And.intro rfl (And.intro rfl (And.intro rfl True.intro)))) v1
set_option maxRecDepth 100000 in
theorem bX12_broken_92 {sc : Nat × (Nat → Int32)} {h : jH} {Q : jQ} {l1 l2 l3 : Int32}
    (v1 : Q (.inl (some (.int l2))) (jG0 sc) h) :
    WP mX12_broken Q 92 [some (.ref 159), some (.int l1), some (.int l2), some (.int l3), none] [] (jG0 sc) h (0, 0) := by
  refine j_iload_n (i := 2) rfl dX12_broken_92 ?_
  exact j_iret rfl rfl (Nat.zero_le _) (Nat.zero_le _) dX12_broken_93 v1
set_option maxRecDepth 100000 in
theorem rX12_broken_0 {sc : Nat × (Nat → Int32)} {h : jH} {Q : jQ} {l1 : Int32} {P1 : jH → Prop}
    (k1 : JM mX12_laysAlive [.ref 159, .int l1] (jG0 sc) (jput h 159 28 (-1)) (jvoid sc P1))
    (v1 : ∀ h1 : jH, P1 h1 → WP mX12_broken Q 14 [some (.ref 159), some (.int l1), some (.int 0), some (.int 0), none] [] (jG0 sc) h1 (0, 0)) :
    WP mX12_broken Q 0 [some (.ref 159), some (.int l1), none, none, none] [] (jG0 sc) h (0, 0) := by
  exact (bX12_broken_0 k1 (fun h1 p1 => (v1 h1 p1)))
set_option maxRecDepth 100000 in
theorem rX12_broken_14 {sc : Nat × (Nat → Int32)} {h : jH} {Q : jQ} {l1 l2 l3 : Int32}
    (v1 : (h 160 285) < l3 → Q (.inl (some (.int l2))) (jG0 sc) h)
    (v2 : ¬ (h 160 285) < l3 → WP mX12_broken Q 29 [some (.ref 159), some (.int l1), some (.int l2), some (.int l3), some (.int 0)] [] (jG0 sc) h (0, 0)) :
    WP mX12_broken Q 14 [some (.ref 159), some (.int l1), some (.int l2), some (.int l3), none] [] (jG0 sc) h (0, 0) := by
  exact (bX12_broken_14 (fun c1 => (bX12_broken_92 (v1 c1))) (fun c1 => (bX12_broken_26 (v2 c1))))
set_option maxRecDepth 100000 in
theorem rX12_broken_29 {sc : Nat × (Nat → Int32)} {h : jH} {Q : jQ} {l1 l2 l3 l4 : Int32} {P1 : Int32 → jH → Prop} {P2 : Int32 → jH → Prop}
    (v1 : (h 160 285) < l4 → WP mX12_broken Q 14 [some (.ref 159), some (.int l1), some (.int l2), some (.int (l3 + 1)), none] [] (jG0 sc) h (0, 0))
    (k1 : ¬ (h 160 285) < l4 → JM mX12_endAt [.ref 159, .int l3, .int l4] (jG0 sc) h (jint sc P1))
    (k2 : ¬ (h 160 285) < l4 → ∀ (x1 : Int32) (h1 : jH), P1 x1 h1 → JM mX12_keeps [.ref 159, .int x1, .int l3, .int l4] (jG0 sc) h1 (jint sc P2))
    (v2 : ¬ (h 160 285) < l4 → ∀ (x1 : Int32) (h1 : jH), P1 x1 h1 → ∀ (x2 : Int32) (h2 : jH), P2 x2 h2 → x2 = 0 → ¬ l2 = 0 → WP mX12_broken Q 29 [some (.ref 159), some (.int l1), some (.int (l2 + 1)), some (.int l3), some (.int (l4 + 1))] [] (jG0 sc) h2 (0, 0))
    (v3 : ¬ (h 160 285) < l4 → ∀ (x1 : Int32) (h1 : jH), P1 x1 h1 → ∀ (x2 : Int32) (h2 : jH), P2 x2 h2 → x2 = 0 → l2 = 0 → WP mX12_broken Q 29 [some (.ref 159), some (.int l1), some (.int (l2 + 1)), some (.int l3), some (.int (l4 + 1))] [] (jG0 sc) (jput h2 159 28 ((16 * l3) + l4)) (0, 0))
    (v4 : ¬ (h 160 285) < l4 → ∀ (x1 : Int32) (h1 : jH), P1 x1 h1 → ∀ (x2 : Int32) (h2 : jH), P2 x2 h2 → ¬ x2 = 0 → WP mX12_broken Q 29 [some (.ref 159), some (.int l1), some (.int l2), some (.int l3), some (.int (l4 + 1))] [] (jG0 sc) h2 (0, 0)) :
    WP mX12_broken Q 29 [some (.ref 159), some (.int l1), some (.int l2), some (.int l3), some (.int l4)] [] (jG0 sc) h (0, 0) := by
  exact (bX12_broken_29 (fun c1 => (bX12_broken_86 (v1 c1))) (fun c1 => (bX12_broken_42 (k1 c1) (fun x1 h1 p1 => (k2 c1 x1 h1 p1)) (fun x1 h1 p1 x2 h2 p2 c2 => (bX12_broken_62 (fun c3 => (bX12_broken_77 (bX12_broken_80 (v2 c1 x1 h1 p1 x2 h2 p2 c2 c3)))) (fun c3 => (bX12_broken_66 (bX12_broken_77 (bX12_broken_80 (v3 c1 x1 h1 p1 x2 h2 p2 c2 c3))))))) (fun x1 h1 p1 x2 h2 p2 c2 => (bX12_broken_59 (bX12_broken_80 (v4 c1 x1 h1 p1 x2 h2 p2 c2)))))))
theorem dX12_prove_0 : decode (mC mX12_prove) 0 = .ok (.aload_n 0, 1) := by decide +kernel
theorem dX12_prove_1 : decode (mC mX12_prove) 1 = .ok (.iconst 0, 1) := by decide +kernel
theorem dX12_prove_2 : decode (mC mX12_prove) 2 = .ok (.putfield 3, 3) := by decide +kernel
theorem dX12_prove_5 : decode (mC mX12_prove) 5 = .ok (.aload_n 0, 1) := by decide +kernel
theorem dX12_prove_6 : decode (mC mX12_prove) 6 = .ok (.aload_n 0, 1) := by decide +kernel
theorem dX12_prove_7 : decode (mC mX12_prove) 7 = .ok (.iload_n 1, 1) := by decide +kernel
theorem dX12_prove_8 : decode (mC mX12_prove) 8 = .ok (.invokevirtual 353, 3) := by decide +kernel
theorem dX12_prove_11 : decode (mC mX12_prove) 11 = .ok (.iconst 1, 1) := by decide +kernel
theorem dX12_prove_12 : decode (mC mX12_prove) 12 = .ok (.invokevirtual 157, 3) := by decide +kernel
theorem dX12_prove_15 : decode (mC mX12_prove) 15 = .ok (.ifCond .ne 27, 3) := by decide +kernel
theorem dX12_prove_18 : decode (mC mX12_prove) 18 = .ok (.aload_n 0, 1) := by decide +kernel
theorem dX12_prove_19 : decode (mC mX12_prove) 19 = .ok (.aload_n 0, 1) := by decide +kernel
theorem dX12_prove_20 : decode (mC mX12_prove) 20 = .ok (.getfield 13, 3) := by decide +kernel
theorem dX12_prove_23 : decode (mC mX12_prove) 23 = .ok (.sipush 653, 3) := by decide +kernel
theorem dX12_prove_26 : decode (mC mX12_prove) 26 = .ok (.iaload, 1) := by decide +kernel
theorem dX12_prove_27 : decode (mC mX12_prove) 27 = .ok (.ifCond .ne 7, 3) := by decide +kernel
theorem dX12_prove_30 : decode (mC mX12_prove) 30 = .ok (.iconst 1, 1) := by decide +kernel
theorem dX12_prove_31 : decode (mC mX12_prove) 31 = .ok (.goto 4, 3) := by decide +kernel
theorem dX12_prove_34 : decode (mC mX12_prove) 34 = .ok (.iconst 0, 1) := by decide +kernel
theorem dX12_prove_35 : decode (mC mX12_prove) 35 = .ok (.iconst 2, 1) := by decide +kernel
theorem dX12_prove_36 : decode (mC mX12_prove) 36 = .ok (.invokevirtual 157, 3) := by decide +kernel
theorem dX12_prove_39 : decode (mC mX12_prove) 39 = .ok (.ifCond .eq 5, 3) := by decide +kernel
theorem dX12_prove_42 : decode (mC mX12_prove) 42 = .ok (.iconst 0, 1) := by decide +kernel
theorem dX12_prove_43 : decode (mC mX12_prove) 43 = .ok (.ireturn, 1) := by decide +kernel
theorem dX12_prove_44 : decode (mC mX12_prove) 44 = .ok (.aload_n 0, 1) := by decide +kernel
theorem dX12_prove_45 : decode (mC mX12_prove) 45 = .ok (.invokevirtual 319, 3) := by decide +kernel
theorem dX12_prove_48 : decode (mC mX12_prove) 48 = .ok (.aload_n 0, 1) := by decide +kernel
theorem dX12_prove_49 : decode (mC mX12_prove) 49 = .ok (.iload_n 1, 1) := by decide +kernel
theorem dX12_prove_50 : decode (mC mX12_prove) 50 = .ok (.invokevirtual 380, 3) := by decide +kernel
theorem dX12_prove_53 : decode (mC mX12_prove) 53 = .ok (.istore_n 3, 1) := by decide +kernel
theorem dX12_prove_54 : decode (mC mX12_prove) 54 = .ok (.iload_n 2, 1) := by decide +kernel
theorem dX12_prove_55 : decode (mC mX12_prove) 55 = .ok (.ifCond .eq 10, 3) := by decide +kernel
theorem dX12_prove_58 : decode (mC mX12_prove) 58 = .ok (.aload_n 0, 1) := by decide +kernel
theorem dX12_prove_59 : decode (mC mX12_prove) 59 = .ok (.getfield 374, 3) := by decide +kernel
theorem dX12_prove_62 : decode (mC mX12_prove) 62 = .ok (.goto 4, 3) := by decide +kernel
theorem dX12_prove_65 : decode (mC mX12_prove) 65 = .ok (.iload_n 3, 1) := by decide +kernel
theorem dX12_prove_66 : decode (mC mX12_prove) 66 = .ok (.ireturn, 1) := by decide +kernel
set_option maxRecDepth 100000 in
theorem bX12_prove_0 {sc : Nat × (Nat → Int32)} {h : jH} {Q : jQ} {l1 l2 : Int32} {P1 : Int32 → jH → Prop} {P2 : Int32 → jH → Prop}
    (k1 : JM mX12_noAlive [.ref 159, .int l1] (jG0 sc) (jput h 159 0 0) (jint sc P1))
    (k2 : ∀ (x1 : Int32) (h1 : jH), P1 x1 h1 → JM mX12_throwsIf [.ref 159, .int x1, .int 1] (jG0 sc) h1 (jint sc P2))
    (v1 : ∀ (x1 : Int32) (h1 : jH), P1 x1 h1 → ∀ (x2 : Int32) (h2 : jH), P2 x2 h2 → ¬ x2 = 0 → WP mX12_prove Q 42 [some (.ref 159), some (.int l1), some (.int l2), none] [] (jG0 sc) h2 (0, 0))
    (v2 : ∀ (x1 : Int32) (h1 : jH), P1 x1 h1 → ∀ (x2 : Int32) (h2 : jH), P2 x2 h2 → x2 = 0 → WP mX12_prove Q 18 [some (.ref 159), some (.int l1), some (.int l2), none] [] (jG0 sc) h2 (0, 0)) :
    WP mX12_prove Q 0 [some (.ref 159), some (.int l1), some (.int l2), none] [] (jG0 sc) h (0, 0) := by
  refine j_aload_n (i := 0) rfl dX12_prove_0 ?_
  refine j_iconst (n := 0) 0 (by decide) dX12_prove_1 ?_
  refine j_putI (idx := 3) (ci := 12) (k := 0) (nest := false) (show (12, 3, 12, 0, false) ∈ jFT by decide) rfl rfl rfl rfl (Nat.le_of_ble_eq_true rfl) rfl dX12_prove_2 ?_
  refine j_aload_n (i := 0) rfl dX12_prove_5 ?_
  refine j_aload_n (i := 0) rfl dX12_prove_6 ?_
  refine j_iload_n (i := 1) rfl dX12_prove_7 ?_
  refine j_callV (idx := 353) (As := [.int l1]) (ci := 12) (n := 1) k1 jint_nt (jlkT (jtb8 7 rfl) rfl) sX12_noAlive kX12_noAlive rfl ⟨rfl, by decide +kernel, by decide +kernel, by decide +kernel⟩ rfl ⟨by decide, by decide⟩ (Nat.le_of_ble_eq_true rfl) rfl (Nat.le_of_ble_eq_true rfl) (Nat.le_of_ble_eq_true rfl) ⟨Nat.zero_le _, Nat.zero_le _⟩ dX12_prove_8 (fun r Γ' h1 q => ?_)
  obtain ⟨x1, q0, rfl, p1⟩ := q; cases q0
  refine j_eqst [.int x1, .ref 159] (by rfl) ?_
  refine j_iconst (n := 1) 1 (by decide) dX12_prove_11 ?_
  refine j_callV (idx := 157) (As := [.int x1, .int 1]) (ci := 12) (n := 2) (k2 x1 h1 p1) jint_nt (jlkT (jtb7 17 rfl) rfl) sX12_throwsIf kX12_throwsIf rfl ⟨rfl, by decide +kernel, by decide +kernel, by decide +kernel⟩ rfl ⟨by decide, by decide⟩ (Nat.le_of_ble_eq_true rfl) rfl (Nat.le_of_ble_eq_true rfl) (Nat.le_of_ble_eq_true rfl) ⟨Nat.zero_le _, Nat.zero_le _⟩ dX12_prove_12 (fun r Γ' h2 q => ?_)
  obtain ⟨x2, q0, rfl, p2⟩ := q; cases q0
  refine j_eqst [.int x2] (by rfl) ?_
  refine j_if_ne (off := 27) 42 dX12_prove_15 (by decide) (fun c1 => ?_) (fun c1 => ?_)
  · exact j_le [some (.ref 159), some (.int l1), some (.int l2), none] (And.intro rfl (And.intro rfl (And.intro rfl True.intro))) (v1 x1 h1 p1 x2 h2 p2 c1)
  · exact j_le [some (.ref 159), some (.int l1), some (.int l2), none] (And.intro rfl (And.intro rfl (And.intro rfl True.intro))) (v2 x1 h1 p1 x2 h2 p2 c1)
set_option maxRecDepth 100000 in
theorem bX12_prove_18 {sc : Nat × (Nat → Int32)} {h : jH} {Q : jQ} {l1 l2 : Int32}
    (v1 : ¬ (h 160 653) = 0 → WP mX12_prove Q 34 [some (.ref 159), some (.int l1), some (.int l2), none] [.ref 159] (jG0 sc) h (0, 0))
    (v2 : (h 160 653) = 0 → WP mX12_prove Q 30 [some (.ref 159), some (.int l1), some (.int l2), none] [.ref 159] (jG0 sc) h (0, 0)) :
    WP mX12_prove Q 18 [some (.ref 159), some (.int l1), some (.int l2), none] [] (jG0 sc) h (0, 0) := by
  refine j_aload_n (i := 0) rfl dX12_prove_18 ?_
  refine j_aload_n (i := 0) rfl dX12_prove_19 ?_
  refine j_getR (idx := 13) (ci := 12) (k := 1) (nest := false) (show (12, 13, 12, 1, false) ∈ jFT by decide) rfl (Nat.le_of_ble_eq_true rfl) rfl (a := 160) rfl dX12_prove_20 ?_
  refine j_sipush (n := 653) 653 (by decide) dX12_prove_23 ?_
  refine j_iald (Nat.le_of_ble_eq_true rfl) rfl (jinl (n := 1454) (by decide)) dX12_prove_26 ?_
  refine j_eqst [.int (h 160 653), .ref 159] (by rfl) ?_
  refine j_if_ne (off := 7) 34 dX12_prove_27 (by decide) (fun c1 => ?_) (fun c1 => ?_)
  · exact j_le [some (.ref 159), some (.int l1), some (.int l2), none] (And.intro rfl (And.intro rfl (And.intro rfl True.intro))) (v1 c1)
  · exact j_le [some (.ref 159), some (.int l1), some (.int l2), none] (And.intro rfl (And.intro rfl (And.intro rfl True.intro))) (v2 c1)
set_option maxRecDepth 100000 in
theorem bX12_prove_30 {sc : Nat × (Nat → Int32)} {h : jH} {Q : jQ} {l1 l2 : Int32}
    (v1 : WP mX12_prove Q 35 [some (.ref 159), some (.int l1), some (.int l2), none] [.int 1, .ref 159] (jG0 sc) h (0, 0)) :
    WP mX12_prove Q 30 [some (.ref 159), some (.int l1), some (.int l2), none] [.ref 159] (jG0 sc) h (0, 0) := by
  refine j_iconst (n := 1) 1 (by decide) dX12_prove_30 ?_
  refine j_goto (off := 4) 35 dX12_prove_31 (by decide) ?_
  exact j_le [some (.ref 159), some (.int l1), some (.int l2), none] (And.intro rfl (And.intro rfl (And.intro rfl True.intro))) v1
set_option maxRecDepth 100000 in
theorem bX12_prove_34 {sc : Nat × (Nat → Int32)} {h : jH} {Q : jQ} {l1 l2 : Int32}
    (v1 : WP mX12_prove Q 35 [some (.ref 159), some (.int l1), some (.int l2), none] [.int 0, .ref 159] (jG0 sc) h (0, 0)) :
    WP mX12_prove Q 34 [some (.ref 159), some (.int l1), some (.int l2), none] [.ref 159] (jG0 sc) h (0, 0) := by
  refine j_iconst (n := 0) 0 (by decide) dX12_prove_34 ?_
  exact j_le [some (.ref 159), some (.int l1), some (.int l2), none] (And.intro rfl (And.intro rfl (And.intro rfl True.intro))) v1
set_option maxRecDepth 100000 in
theorem bX12_prove_35 {sc : Nat × (Nat → Int32)} {h : jH} {Q : jQ} {l1 l2 s0 : Int32} {P1 : Int32 → jH → Prop}
    (k1 : JM mX12_throwsIf [.ref 159, .int s0, .int 2] (jG0 sc) h (jint sc P1))
    (v1 : ∀ (x1 : Int32) (h1 : jH), P1 x1 h1 → x1 = 0 → WP mX12_prove Q 44 [some (.ref 159), some (.int l1), some (.int l2), none] [] (jG0 sc) h1 (0, 0))
    (v2 : ∀ (x1 : Int32) (h1 : jH), P1 x1 h1 → ¬ x1 = 0 → WP mX12_prove Q 42 [some (.ref 159), some (.int l1), some (.int l2), none] [] (jG0 sc) h1 (0, 0)) :
    WP mX12_prove Q 35 [some (.ref 159), some (.int l1), some (.int l2), none] [.int s0, .ref 159] (jG0 sc) h (0, 0) := by
  refine j_iconst (n := 2) 2 (by decide) dX12_prove_35 ?_
  refine j_callV (idx := 157) (As := [.int s0, .int 2]) (ci := 12) (n := 2) k1 jint_nt (jlkT (jtb7 17 rfl) rfl) sX12_throwsIf kX12_throwsIf rfl ⟨rfl, by decide +kernel, by decide +kernel, by decide +kernel⟩ rfl ⟨by decide, by decide⟩ (Nat.le_of_ble_eq_true rfl) rfl (Nat.le_of_ble_eq_true rfl) (Nat.le_of_ble_eq_true rfl) ⟨Nat.zero_le _, Nat.zero_le _⟩ dX12_prove_36 (fun r Γ' h1 q => ?_)
  obtain ⟨x1, q0, rfl, p1⟩ := q; cases q0
  refine j_eqst [.int x1] (by rfl) ?_
  refine j_if_eq (off := 5) 44 dX12_prove_39 (by decide) (fun c1 => ?_) (fun c1 => ?_)
  · exact j_le [some (.ref 159), some (.int l1), some (.int l2), none] (And.intro rfl (And.intro rfl (And.intro rfl True.intro))) (v1 x1 h1 p1 c1)
  · exact j_le [some (.ref 159), some (.int l1), some (.int l2), none] (And.intro rfl (And.intro rfl (And.intro rfl True.intro))) (v2 x1 h1 p1 c1)
set_option maxRecDepth 100000 in
theorem bX12_prove_42 {sc : Nat × (Nat → Int32)} {h : jH} {Q : jQ} {l1 l2 : Int32}
    (v1 : Q (.inl (some (.int 0))) (jG0 sc) h) :
    WP mX12_prove Q 42 [some (.ref 159), some (.int l1), some (.int l2), none] [] (jG0 sc) h (0, 0) := by
  refine j_iconst (n := 0) 0 (by decide) dX12_prove_42 ?_
  exact j_iret rfl rfl (Nat.zero_le _) (Nat.zero_le _) dX12_prove_43 v1
set_option maxRecDepth 100000 in
theorem bX12_prove_44 {sc : Nat × (Nat → Int32)} {h : jH} {Q : jQ} {l1 l2 : Int32} {P1 : jH → Prop} {P2 : Int32 → jH → Prop}
    (k1 : JM mX12_listsBody [.ref 159] (jG0 sc) h (jvoid sc P1))
    (k2 : ∀ h1 : jH, P1 h1 → JM mX12_broken [.ref 159, .int l1] (jG0 sc) h1 (jint sc P2))
    (v1 : ∀ h1 : jH, P1 h1 → ∀ (x2 : Int32) (h2 : jH), P2 x2 h2 → l2 = 0 → WP mX12_prove Q 65 [some (.ref 159), some (.int l1), some (.int l2), some (.int x2)] [] (jG0 sc) h2 (0, 0))
    (v2 : ∀ h1 : jH, P1 h1 → ∀ (x2 : Int32) (h2 : jH), P2 x2 h2 → ¬ l2 = 0 → WP mX12_prove Q 58 [some (.ref 159), some (.int l1), some (.int l2), some (.int x2)] [] (jG0 sc) h2 (0, 0)) :
    WP mX12_prove Q 44 [some (.ref 159), some (.int l1), some (.int l2), none] [] (jG0 sc) h (0, 0) := by
  refine j_aload_n (i := 0) rfl dX12_prove_44 ?_
  refine j_callV (idx := 319) (As := []) (ci := 12) (n := 0) k1 jvoid_nt (jlkT (jtb7 160 rfl) rfl) sX12_listsBody kX12_listsBody rfl ⟨rfl, by decide +kernel, by decide +kernel, by decide +kernel⟩ rfl ⟨by decide, by decide⟩ (Nat.le_of_ble_eq_true rfl) rfl (Nat.le_of_ble_eq_true rfl) (Nat.le_of_ble_eq_true rfl) ⟨Nat.zero_le _, Nat.zero_le _⟩ dX12_prove_45 (fun r Γ' h1 q => ?_)
  obtain ⟨q0, rfl, p1⟩ := q; cases q0
  refine j_eqst [] (by rfl) ?_
  refine j_aload_n (i := 0) rfl dX12_prove_48 ?_
  refine j_iload_n (i := 1) rfl dX12_prove_49 ?_
  refine j_callV (idx := 380) (As := [.int l1]) (ci := 12) (n := 1) (k2 h1 p1) jint_nt (jlkT (jtb8 53 rfl) rfl) sX12_broken kX12_broken rfl ⟨rfl, by decide +kernel, by decide +kernel, by decide +kernel⟩ rfl ⟨by decide, by decide⟩ (Nat.le_of_ble_eq_true rfl) rfl (Nat.le_of_ble_eq_true rfl) (Nat.le_of_ble_eq_true rfl) ⟨Nat.zero_le _, Nat.zero_le _⟩ dX12_prove_50 (fun r Γ' h2 q => ?_)
  obtain ⟨x2, q0, rfl, p2⟩ := q; cases q0
  refine j_eqst [.int x2] (by rfl) ?_
  refine j_istore_n (i := 3) dX12_prove_53 (Nat.le_of_ble_eq_true rfl) ?_
  refine j_iload_n (i := 2) rfl dX12_prove_54 ?_
  refine j_if_eq (off := 10) 65 dX12_prove_55 (by decide) (fun c1 => ?_) (fun c1 => ?_)
  · exact j_le [some (.ref 159), some (.int l1), some (.int l2), some (.int x2)] (And.intro rfl (And.intro rfl (And.intro rfl (And.intro rfl True.intro)))) (v1 h1 p1 x2 h2 p2 c1)
  · exact j_le [some (.ref 159), some (.int l1), some (.int l2), some (.int x2)] (And.intro rfl (And.intro rfl (And.intro rfl (And.intro rfl True.intro)))) (v2 h1 p1 x2 h2 p2 c1)
set_option maxRecDepth 100000 in
theorem bX12_prove_58 {sc : Nat × (Nat → Int32)} {h : jH} {Q : jQ} {l1 l2 l3 : Int32}
    (v1 : WP mX12_prove Q 66 [some (.ref 159), some (.int l1), some (.int l2), some (.int l3)] [.int (h 159 28)] (jG0 sc) h (0, 0)) :
    WP mX12_prove Q 58 [some (.ref 159), some (.int l1), some (.int l2), some (.int l3)] [] (jG0 sc) h (0, 0) := by
  refine j_aload_n (i := 0) rfl dX12_prove_58 ?_
  refine j_getI (idx := 374) (ci := 12) (k := 28) (nest := false) (show (12, 374, 12, 28, false) ∈ jFT by decide) rfl (Nat.le_of_ble_eq_true rfl) rfl dX12_prove_59 ?_
  refine j_goto (off := 4) 66 dX12_prove_62 (by decide) ?_
  exact j_le [some (.ref 159), some (.int l1), some (.int l2), some (.int l3)] (And.intro rfl (And.intro rfl (And.intro rfl (And.intro rfl True.intro)))) v1
set_option maxRecDepth 100000 in
theorem bX12_prove_65 {sc : Nat × (Nat → Int32)} {h : jH} {Q : jQ} {l1 l2 l3 : Int32}
    (v1 : WP mX12_prove Q 66 [some (.ref 159), some (.int l1), some (.int l2), some (.int l3)] [.int l3] (jG0 sc) h (0, 0)) :
    WP mX12_prove Q 65 [some (.ref 159), some (.int l1), some (.int l2), some (.int l3)] [] (jG0 sc) h (0, 0) := by
  refine j_iload_n (i := 3) rfl dX12_prove_65 ?_
  exact j_le [some (.ref 159), some (.int l1), some (.int l2), some (.int l3)] (And.intro rfl (And.intro rfl (And.intro rfl (And.intro rfl True.intro)))) v1
set_option maxRecDepth 100000 in
theorem bX12_prove_66 {sc : Nat × (Nat → Int32)} {h : jH} {Q : jQ} {l1 l2 l3 s0 : Int32}
    (v1 : Q (.inl (some (.int s0))) (jG0 sc) h) :
    WP mX12_prove Q 66 [some (.ref 159), some (.int l1), some (.int l2), some (.int l3)] [.int s0] (jG0 sc) h (0, 0) := by
  exact j_iret rfl rfl (Nat.zero_le _) (Nat.zero_le _) dX12_prove_66 v1
set_option maxRecDepth 100000 in
theorem rX12_prove_0 {sc : Nat × (Nat → Int32)} {h : jH} {Q : jQ} {l1 l2 : Int32} {P1 : Int32 → jH → Prop} {P2 : Int32 → jH → Prop} {P3 : Int32 → jH → Prop} {P4 : jH → Prop} {P5 : Int32 → jH → Prop} {P6 : Int32 → jH → Prop} {P7 : jH → Prop} {P8 : Int32 → jH → Prop}
    (k1 : JM mX12_noAlive [.ref 159, .int l1] (jG0 sc) (jput h 159 0 0) (jint sc P1))
    (k2 : ∀ (x1 : Int32) (h1 : jH), P1 x1 h1 → JM mX12_throwsIf [.ref 159, .int x1, .int 1] (jG0 sc) h1 (jint sc P2))
    (v1 : ∀ (x1 : Int32) (h1 : jH), P1 x1 h1 → ∀ (x2 : Int32) (h2 : jH), P2 x2 h2 → ¬ x2 = 0 → Q (.inl (some (.int 0))) (jG0 sc) h2)
    (k3 : ∀ (x1 : Int32) (h1 : jH), P1 x1 h1 → ∀ (x2 : Int32) (h2 : jH), P2 x2 h2 → x2 = 0 → ¬ (h2 160 653) = 0 → JM mX12_throwsIf [.ref 159, .int 0, .int 2] (jG0 sc) h2 (jint sc P3))
    (k4 : ∀ (x1 : Int32) (h1 : jH), P1 x1 h1 → ∀ (x2 : Int32) (h2 : jH), P2 x2 h2 → x2 = 0 → ¬ (h2 160 653) = 0 → ∀ (x3 : Int32) (h3 : jH), P3 x3 h3 → x3 = 0 → JM mX12_listsBody [.ref 159] (jG0 sc) h3 (jvoid sc P4))
    (k5 : ∀ (x1 : Int32) (h1 : jH), P1 x1 h1 → ∀ (x2 : Int32) (h2 : jH), P2 x2 h2 → x2 = 0 → ¬ (h2 160 653) = 0 → ∀ (x3 : Int32) (h3 : jH), P3 x3 h3 → x3 = 0 → ∀ h4 : jH, P4 h4 → JM mX12_broken [.ref 159, .int l1] (jG0 sc) h4 (jint sc P5))
    (v2 : ∀ (x1 : Int32) (h1 : jH), P1 x1 h1 → ∀ (x2 : Int32) (h2 : jH), P2 x2 h2 → x2 = 0 → ¬ (h2 160 653) = 0 → ∀ (x3 : Int32) (h3 : jH), P3 x3 h3 → x3 = 0 → ∀ h4 : jH, P4 h4 → ∀ (x5 : Int32) (h5 : jH), P5 x5 h5 → l2 = 0 → Q (.inl (some (.int x5))) (jG0 sc) h5)
    (v3 : ∀ (x1 : Int32) (h1 : jH), P1 x1 h1 → ∀ (x2 : Int32) (h2 : jH), P2 x2 h2 → x2 = 0 → ¬ (h2 160 653) = 0 → ∀ (x3 : Int32) (h3 : jH), P3 x3 h3 → x3 = 0 → ∀ h4 : jH, P4 h4 → ∀ (x5 : Int32) (h5 : jH), P5 x5 h5 → ¬ l2 = 0 → Q (.inl (some (.int (h5 159 28)))) (jG0 sc) h5)
    (v4 : ∀ (x1 : Int32) (h1 : jH), P1 x1 h1 → ∀ (x2 : Int32) (h2 : jH), P2 x2 h2 → x2 = 0 → ¬ (h2 160 653) = 0 → ∀ (x3 : Int32) (h3 : jH), P3 x3 h3 → ¬ x3 = 0 → Q (.inl (some (.int 0))) (jG0 sc) h3)
    (k6 : ∀ (x1 : Int32) (h1 : jH), P1 x1 h1 → ∀ (x2 : Int32) (h2 : jH), P2 x2 h2 → x2 = 0 → (h2 160 653) = 0 → JM mX12_throwsIf [.ref 159, .int 1, .int 2] (jG0 sc) h2 (jint sc P6))
    (k7 : ∀ (x1 : Int32) (h1 : jH), P1 x1 h1 → ∀ (x2 : Int32) (h2 : jH), P2 x2 h2 → x2 = 0 → (h2 160 653) = 0 → ∀ (x6 : Int32) (h6 : jH), P6 x6 h6 → x6 = 0 → JM mX12_listsBody [.ref 159] (jG0 sc) h6 (jvoid sc P7))
    (k8 : ∀ (x1 : Int32) (h1 : jH), P1 x1 h1 → ∀ (x2 : Int32) (h2 : jH), P2 x2 h2 → x2 = 0 → (h2 160 653) = 0 → ∀ (x6 : Int32) (h6 : jH), P6 x6 h6 → x6 = 0 → ∀ h7 : jH, P7 h7 → JM mX12_broken [.ref 159, .int l1] (jG0 sc) h7 (jint sc P8))
    (v5 : ∀ (x1 : Int32) (h1 : jH), P1 x1 h1 → ∀ (x2 : Int32) (h2 : jH), P2 x2 h2 → x2 = 0 → (h2 160 653) = 0 → ∀ (x6 : Int32) (h6 : jH), P6 x6 h6 → x6 = 0 → ∀ h7 : jH, P7 h7 → ∀ (x8 : Int32) (h8 : jH), P8 x8 h8 → l2 = 0 → Q (.inl (some (.int x8))) (jG0 sc) h8)
    (v6 : ∀ (x1 : Int32) (h1 : jH), P1 x1 h1 → ∀ (x2 : Int32) (h2 : jH), P2 x2 h2 → x2 = 0 → (h2 160 653) = 0 → ∀ (x6 : Int32) (h6 : jH), P6 x6 h6 → x6 = 0 → ∀ h7 : jH, P7 h7 → ∀ (x8 : Int32) (h8 : jH), P8 x8 h8 → ¬ l2 = 0 → Q (.inl (some (.int (h8 159 28)))) (jG0 sc) h8)
    (v7 : ∀ (x1 : Int32) (h1 : jH), P1 x1 h1 → ∀ (x2 : Int32) (h2 : jH), P2 x2 h2 → x2 = 0 → (h2 160 653) = 0 → ∀ (x6 : Int32) (h6 : jH), P6 x6 h6 → ¬ x6 = 0 → Q (.inl (some (.int 0))) (jG0 sc) h6) :
    WP mX12_prove Q 0 [some (.ref 159), some (.int l1), some (.int l2), none] [] (jG0 sc) h (0, 0) := by
  exact (bX12_prove_0 k1 (fun x1 h1 p1 => (k2 x1 h1 p1)) (fun x1 h1 p1 x2 h2 p2 c1 => (bX12_prove_42 (v1 x1 h1 p1 x2 h2 p2 c1))) (fun x1 h1 p1 x2 h2 p2 c1 => (bX12_prove_18 (fun c2 => (bX12_prove_34 (bX12_prove_35 (k3 x1 h1 p1 x2 h2 p2 c1 c2) (fun x3 h3 p3 c3 => (bX12_prove_44 (k4 x1 h1 p1 x2 h2 p2 c1 c2 x3 h3 p3 c3) (fun h4 p4 => (k5 x1 h1 p1 x2 h2 p2 c1 c2 x3 h3 p3 c3 h4 p4)) (fun h4 p4 x5 h5 p5 c4 => (bX12_prove_65 (bX12_prove_66 (v2 x1 h1 p1 x2 h2 p2 c1 c2 x3 h3 p3 c3 h4 p4 x5 h5 p5 c4)))) (fun h4 p4 x5 h5 p5 c4 => (bX12_prove_58 (bX12_prove_66 (v3 x1 h1 p1 x2 h2 p2 c1 c2 x3 h3 p3 c3 h4 p4 x5 h5 p5 c4)))))) (fun x3 h3 p3 c3 => (bX12_prove_42 (v4 x1 h1 p1 x2 h2 p2 c1 c2 x3 h3 p3 c3)))))) (fun c2 => (bX12_prove_30 (bX12_prove_35 (k6 x1 h1 p1 x2 h2 p2 c1 c2) (fun x6 h6 p6 c5 => (bX12_prove_44 (k7 x1 h1 p1 x2 h2 p2 c1 c2 x6 h6 p6 c5) (fun h7 p7 => (k8 x1 h1 p1 x2 h2 p2 c1 c2 x6 h6 p6 c5 h7 p7)) (fun h7 p7 x8 h8 p8 c6 => (bX12_prove_65 (bX12_prove_66 (v5 x1 h1 p1 x2 h2 p2 c1 c2 x6 h6 p6 c5 h7 p7 x8 h8 p8 c6)))) (fun h7 p7 x8 h8 p8 c6 => (bX12_prove_58 (bX12_prove_66 (v6 x1 h1 p1 x2 h2 p2 c1 c2 x6 h6 p6 c5 h7 p7 x8 h8 p8 c6)))))) (fun x6 h6 p6 c5 => (bX12_prove_42 (v7 x1 h1 p1 x2 h2 p2 c1 c2 x6 h6 p6 c5)))))))))
theorem dX12_bar_0 : decode (mC mX12_bar) 0 = .ok (.aload_n 0, 1) := by decide +kernel
theorem dX12_bar_1 : decode (mC mX12_bar) 1 = .ok (.iconst 0, 1) := by decide +kernel
theorem dX12_bar_2 : decode (mC mX12_bar) 2 = .ok (.putfield 3, 3) := by decide +kernel
theorem dX12_bar_5 : decode (mC mX12_bar) 5 = .ok (.aload_n 0, 1) := by decide +kernel
theorem dX12_bar_6 : decode (mC mX12_bar) 6 = .ok (.aload_n 0, 1) := by decide +kernel
theorem dX12_bar_7 : decode (mC mX12_bar) 7 = .ok (.getfield 13, 3) := by decide +kernel
theorem dX12_bar_10 : decode (mC mX12_bar) 10 = .ok (.sipush 653, 3) := by decide +kernel
theorem dX12_bar_13 : decode (mC mX12_bar) 13 = .ok (.iaload, 1) := by decide +kernel
theorem dX12_bar_14 : decode (mC mX12_bar) 14 = .ok (.ifCond .ne 7, 3) := by decide +kernel
theorem dX12_bar_17 : decode (mC mX12_bar) 17 = .ok (.iconst 1, 1) := by decide +kernel
theorem dX12_bar_18 : decode (mC mX12_bar) 18 = .ok (.goto 4, 3) := by decide +kernel
theorem dX12_bar_21 : decode (mC mX12_bar) 21 = .ok (.iconst 0, 1) := by decide +kernel
theorem dX12_bar_22 : decode (mC mX12_bar) 22 = .ok (.iconst 1, 1) := by decide +kernel
theorem dX12_bar_23 : decode (mC mX12_bar) 23 = .ok (.invokevirtual 157, 3) := by decide +kernel
theorem dX12_bar_26 : decode (mC mX12_bar) 26 = .ok (.ifCond .eq 5, 3) := by decide +kernel
theorem dX12_bar_29 : decode (mC mX12_bar) 29 = .ok (.iconst 0, 1) := by decide +kernel
theorem dX12_bar_30 : decode (mC mX12_bar) 30 = .ok (.ireturn, 1) := by decide +kernel
theorem dX12_bar_31 : decode (mC mX12_bar) 31 = .ok (.aload_n 0, 1) := by decide +kernel
theorem dX12_bar_32 : decode (mC mX12_bar) 32 = .ok (.invokevirtual 319, 3) := by decide +kernel
theorem dX12_bar_35 : decode (mC mX12_bar) 35 = .ok (.iconst 0, 1) := by decide +kernel
theorem dX12_bar_36 : decode (mC mX12_bar) 36 = .ok (.istore_n 1, 1) := by decide +kernel
theorem dX12_bar_37 : decode (mC mX12_bar) 37 = .ok (.aload_n 0, 1) := by decide +kernel
theorem dX12_bar_38 : decode (mC mX12_bar) 38 = .ok (.getfield 13, 3) := by decide +kernel
theorem dX12_bar_41 : decode (mC mX12_bar) 41 = .ok (.sipush 163, 3) := by decide +kernel
theorem dX12_bar_44 : decode (mC mX12_bar) 44 = .ok (.iaload, 1) := by decide +kernel
theorem dX12_bar_45 : decode (mC mX12_bar) 45 = .ok (.iconst 1, 1) := by decide +kernel
theorem dX12_bar_46 : decode (mC mX12_bar) 46 = .ok (.isub, 1) := by decide +kernel
theorem dX12_bar_47 : decode (mC mX12_bar) 47 = .ok (.istore_n 2, 1) := by decide +kernel
theorem dX12_bar_48 : decode (mC mX12_bar) 48 = .ok (.iload_n 2, 1) := by decide +kernel
theorem dX12_bar_49 : decode (mC mX12_bar) 49 = .ok (.ifCond .lt 28, 3) := by decide +kernel
theorem dX12_bar_52 : decode (mC mX12_bar) 52 = .ok (.aload_n 0, 1) := by decide +kernel
theorem dX12_bar_53 : decode (mC mX12_bar) 53 = .ok (.iload_n 2, 1) := by decide +kernel
theorem dX12_bar_54 : decode (mC mX12_bar) 54 = .ok (.invokevirtual 380, 3) := by decide +kernel
theorem dX12_bar_57 : decode (mC mX12_bar) 57 = .ok (.ifCond .ne 6, 3) := by decide +kernel
theorem dX12_bar_60 : decode (mC mX12_bar) 60 = .ok (.goto 11, 3) := by decide +kernel
theorem dX12_bar_63 : decode (mC mX12_bar) 63 = .ok (.aload_n 0, 1) := by decide +kernel
theorem dX12_bar_64 : decode (mC mX12_bar) 64 = .ok (.iload_n 2, 1) := by decide +kernel
theorem dX12_bar_65 : decode (mC mX12_bar) 65 = .ok (.invokevirtual 350, 3) := by decide +kernel
theorem dX12_bar_68 : decode (mC mX12_bar) 68 = .ok (.iinc 1 1, 3) := by decide +kernel
theorem dX12_bar_71 : decode (mC mX12_bar) 71 = .ok (.iinc 2 (-1), 3) := by decide +kernel
theorem dX12_bar_74 : decode (mC mX12_bar) 74 = .ok (.goto (-26), 3) := by decide +kernel
theorem dX12_bar_77 : decode (mC mX12_bar) 77 = .ok (.aload_n 0, 1) := by decide +kernel
theorem dX12_bar_78 : decode (mC mX12_bar) 78 = .ok (.getfield 13, 3) := by decide +kernel
theorem dX12_bar_81 : decode (mC mX12_bar) 81 = .ok (.sipush 162, 3) := by decide +kernel
theorem dX12_bar_84 : decode (mC mX12_bar) 84 = .ok (.dup2, 1) := by decide +kernel
theorem dX12_bar_85 : decode (mC mX12_bar) 85 = .ok (.iaload, 1) := by decide +kernel
theorem dX12_bar_86 : decode (mC mX12_bar) 86 = .ok (.iload_n 1, 1) := by decide +kernel
theorem dX12_bar_87 : decode (mC mX12_bar) 87 = .ok (.iadd, 1) := by decide +kernel
theorem dX12_bar_88 : decode (mC mX12_bar) 88 = .ok (.iastore, 1) := by decide +kernel
theorem dX12_bar_89 : decode (mC mX12_bar) 89 = .ok (.iload_n 1, 1) := by decide +kernel
theorem dX12_bar_90 : decode (mC mX12_bar) 90 = .ok (.ireturn, 1) := by decide +kernel
set_option maxRecDepth 100000 in
theorem bX12_bar_0 {sc : Nat × (Nat → Int32)} {h : jH} {Q : jQ}
    (v1 : ¬ ((jput h 159 0 0) 160 653) = 0 → WP mX12_bar Q 21 [some (.ref 159), none, none] [.ref 159] (jG0 sc) (jput h 159 0 0) (0, 0))
    (v2 : ((jput h 159 0 0) 160 653) = 0 → WP mX12_bar Q 17 [some (.ref 159), none, none] [.ref 159] (jG0 sc) (jput h 159 0 0) (0, 0)) :
    WP mX12_bar Q 0 [some (.ref 159), none, none] [] (jG0 sc) h (0, 0) := by
  refine j_aload_n (i := 0) rfl dX12_bar_0 ?_
  refine j_iconst (n := 0) 0 (by decide) dX12_bar_1 ?_
  refine j_putI (idx := 3) (ci := 12) (k := 0) (nest := false) (show (12, 3, 12, 0, false) ∈ jFT by decide) rfl rfl rfl rfl (Nat.le_of_ble_eq_true rfl) rfl dX12_bar_2 ?_
  refine j_aload_n (i := 0) rfl dX12_bar_5 ?_
  refine j_aload_n (i := 0) rfl dX12_bar_6 ?_
  refine j_getR (idx := 13) (ci := 12) (k := 1) (nest := false) (show (12, 13, 12, 1, false) ∈ jFT by decide) rfl (Nat.le_of_ble_eq_true rfl) rfl (a := 160) rfl dX12_bar_7 ?_
  refine j_sipush (n := 653) 653 (by decide) dX12_bar_10 ?_
  refine j_iald (Nat.le_of_ble_eq_true rfl) rfl (jinl (n := 1454) (by decide)) dX12_bar_13 ?_
  refine j_eqst [.int ((jput h 159 0 0) 160 653), .ref 159] (by rfl) ?_
  refine j_if_ne (off := 7) 21 dX12_bar_14 (by decide) (fun c1 => ?_) (fun c1 => ?_)
  · exact j_le [some (.ref 159), none, none] (And.intro rfl True.intro) (v1 c1)
  · exact j_le [some (.ref 159), none, none] (And.intro rfl True.intro) (v2 c1)
set_option maxRecDepth 100000 in
theorem bX12_bar_17 {sc : Nat × (Nat → Int32)} {h : jH} {Q : jQ}
    (v1 : WP mX12_bar Q 22 [some (.ref 159), none, none] [.int 1, .ref 159] (jG0 sc) h (0, 0)) :
    WP mX12_bar Q 17 [some (.ref 159), none, none] [.ref 159] (jG0 sc) h (0, 0) := by
  refine j_iconst (n := 1) 1 (by decide) dX12_bar_17 ?_
  refine j_goto (off := 4) 22 dX12_bar_18 (by decide) ?_
  exact j_le [some (.ref 159), none, none] (And.intro rfl True.intro) v1
set_option maxRecDepth 100000 in
theorem bX12_bar_21 {sc : Nat × (Nat → Int32)} {h : jH} {Q : jQ}
    (v1 : WP mX12_bar Q 22 [some (.ref 159), none, none] [.int 0, .ref 159] (jG0 sc) h (0, 0)) :
    WP mX12_bar Q 21 [some (.ref 159), none, none] [.ref 159] (jG0 sc) h (0, 0) := by
  refine j_iconst (n := 0) 0 (by decide) dX12_bar_21 ?_
  exact j_le [some (.ref 159), none, none] (And.intro rfl True.intro) v1
set_option maxRecDepth 100000 in
theorem bX12_bar_22 {sc : Nat × (Nat → Int32)} {h : jH} {Q : jQ} {s0 : Int32} {P1 : Int32 → jH → Prop}
    (k1 : JM mX12_throwsIf [.ref 159, .int s0, .int 1] (jG0 sc) h (jint sc P1))
    (v1 : ∀ (x1 : Int32) (h1 : jH), P1 x1 h1 → x1 = 0 → WP mX12_bar Q 31 [some (.ref 159), none, none] [] (jG0 sc) h1 (0, 0))
    (v2 : ∀ (x1 : Int32) (h1 : jH), P1 x1 h1 → ¬ x1 = 0 → WP mX12_bar Q 29 [some (.ref 159), none, none] [] (jG0 sc) h1 (0, 0)) :
    WP mX12_bar Q 22 [some (.ref 159), none, none] [.int s0, .ref 159] (jG0 sc) h (0, 0) := by
  refine j_iconst (n := 1) 1 (by decide) dX12_bar_22 ?_
  refine j_callV (idx := 157) (As := [.int s0, .int 1]) (ci := 12) (n := 2) k1 jint_nt (jlkT (jtb7 17 rfl) rfl) sX12_throwsIf kX12_throwsIf rfl ⟨rfl, by decide +kernel, by decide +kernel, by decide +kernel⟩ rfl ⟨by decide, by decide⟩ (Nat.le_of_ble_eq_true rfl) rfl (Nat.le_of_ble_eq_true rfl) (Nat.le_of_ble_eq_true rfl) ⟨Nat.zero_le _, Nat.zero_le _⟩ dX12_bar_23 (fun r Γ' h1 q => ?_)
  obtain ⟨x1, q0, rfl, p1⟩ := q; cases q0
  refine j_eqst [.int x1] (by rfl) ?_
  refine j_if_eq (off := 5) 31 dX12_bar_26 (by decide) (fun c1 => ?_) (fun c1 => ?_)
  · exact j_le [some (.ref 159), none, none] (And.intro rfl True.intro) (v1 x1 h1 p1 c1)
  · exact j_le [some (.ref 159), none, none] (And.intro rfl True.intro) (v2 x1 h1 p1 c1)
set_option maxRecDepth 100000 in
theorem bX12_bar_29 {sc : Nat × (Nat → Int32)} {h : jH} {Q : jQ}
    (v1 : Q (.inl (some (.int 0))) (jG0 sc) h) :
    WP mX12_bar Q 29 [some (.ref 159), none, none] [] (jG0 sc) h (0, 0) := by
  refine j_iconst (n := 0) 0 (by decide) dX12_bar_29 ?_
  exact j_iret rfl rfl (Nat.zero_le _) (Nat.zero_le _) dX12_bar_30 v1
set_option maxRecDepth 100000 in
theorem bX12_bar_31 {sc : Nat × (Nat → Int32)} {h : jH} {Q : jQ} {P1 : jH → Prop}
    (k1 : JM mX12_listsBody [.ref 159] (jG0 sc) h (jvoid sc P1))
    (v1 : ∀ h1 : jH, P1 h1 → WP mX12_bar Q 48 [some (.ref 159), some (.int 0), some (.int ((h1 160 163) - 1))] [] (jG0 sc) h1 (0, 0)) :
    WP mX12_bar Q 31 [some (.ref 159), none, none] [] (jG0 sc) h (0, 0) := by
  refine j_aload_n (i := 0) rfl dX12_bar_31 ?_
  refine j_callV (idx := 319) (As := []) (ci := 12) (n := 0) k1 jvoid_nt (jlkT (jtb7 160 rfl) rfl) sX12_listsBody kX12_listsBody rfl ⟨rfl, by decide +kernel, by decide +kernel, by decide +kernel⟩ rfl ⟨by decide, by decide⟩ (Nat.le_of_ble_eq_true rfl) rfl (Nat.le_of_ble_eq_true rfl) (Nat.le_of_ble_eq_true rfl) ⟨Nat.zero_le _, Nat.zero_le _⟩ dX12_bar_32 (fun r Γ' h1 q => ?_)
  obtain ⟨q0, rfl, p1⟩ := q; cases q0
  refine j_eqst [] (by rfl) ?_
  refine j_iconst (n := 0) 0 (by decide) dX12_bar_35 ?_
  refine j_istore_n (i := 1) dX12_bar_36 (Nat.le_of_ble_eq_true rfl) ?_
  refine j_aload_n (i := 0) rfl dX12_bar_37 ?_
  refine j_getR (idx := 13) (ci := 12) (k := 1) (nest := false) (show (12, 13, 12, 1, false) ∈ jFT by decide) rfl (Nat.le_of_ble_eq_true rfl) rfl (a := 160) rfl dX12_bar_38 ?_
  refine j_sipush (n := 163) 163 (by decide) dX12_bar_41 ?_
  refine j_iald (Nat.le_of_ble_eq_true rfl) rfl (jinl (n := 1454) (by decide)) dX12_bar_44 ?_
  refine j_eqst [.int (h1 160 163)] (by rfl) ?_
  refine j_iconst (n := 1) 1 (by decide) dX12_bar_45 ?_
  refine j_isub dX12_bar_46 ?_
  refine j_istore_n (i := 2) dX12_bar_47 (Nat.le_of_ble_eq_true rfl) ?_
  exact j_le [some (.ref 159), some (.int 0), some (.int ((h1 160 163) - 1))] (And.intro rfl (And.intro rfl (And.intro rfl True.intro))) (v1 h1 p1)
set_option maxRecDepth 100000 in
theorem bX12_bar_48 {sc : Nat × (Nat → Int32)} {h : jH} {Q : jQ} {l1 l2 : Int32}
    (v1 : l2 < 0 → WP mX12_bar Q 77 [some (.ref 159), some (.int l1), some (.int l2)] [] (jG0 sc) h (0, 0))
    (v2 : ¬ l2 < 0 → WP mX12_bar Q 52 [some (.ref 159), some (.int l1), some (.int l2)] [] (jG0 sc) h (0, 0)) :
    WP mX12_bar Q 48 [some (.ref 159), some (.int l1), some (.int l2)] [] (jG0 sc) h (0, 0) := by
  refine j_iload_n (i := 2) rfl dX12_bar_48 ?_
  refine j_if_lt (off := 28) 77 dX12_bar_49 (by decide) (fun c1 => ?_) (fun c1 => ?_)
  · exact j_le [some (.ref 159), some (.int l1), some (.int l2)] (And.intro rfl (And.intro rfl (And.intro rfl True.intro))) (v1 c1)
  · exact j_le [some (.ref 159), some (.int l1), some (.int l2)] (And.intro rfl (And.intro rfl (And.intro rfl True.intro))) (v2 c1)
set_option maxRecDepth 100000 in
theorem bX12_bar_52 {sc : Nat × (Nat → Int32)} {h : jH} {Q : jQ} {l1 l2 : Int32} {P1 : Int32 → jH → Prop}
    (k1 : JM mX12_broken [.ref 159, .int l2] (jG0 sc) h (jint sc P1))
    (v1 : ∀ (x1 : Int32) (h1 : jH), P1 x1 h1 → ¬ x1 = 0 → WP mX12_bar Q 63 [some (.ref 159), some (.int l1), some (.int l2)] [] (jG0 sc) h1 (0, 0))
    (v2 : ∀ (x1 : Int32) (h1 : jH), P1 x1 h1 → x1 = 0 → WP mX12_bar Q 60 [some (.ref 159), some (.int l1), some (.int l2)] [] (jG0 sc) h1 (0, 0)) :
    WP mX12_bar Q 52 [some (.ref 159), some (.int l1), some (.int l2)] [] (jG0 sc) h (0, 0) := by
  refine j_aload_n (i := 0) rfl dX12_bar_52 ?_
  refine j_iload_n (i := 2) rfl dX12_bar_53 ?_
  refine j_callV (idx := 380) (As := [.int l2]) (ci := 12) (n := 1) k1 jint_nt (jlkT (jtb8 53 rfl) rfl) sX12_broken kX12_broken rfl ⟨rfl, by decide +kernel, by decide +kernel, by decide +kernel⟩ rfl ⟨by decide, by decide⟩ (Nat.le_of_ble_eq_true rfl) rfl (Nat.le_of_ble_eq_true rfl) (Nat.le_of_ble_eq_true rfl) ⟨Nat.zero_le _, Nat.zero_le _⟩ dX12_bar_54 (fun r Γ' h1 q => ?_)
  obtain ⟨x1, q0, rfl, p1⟩ := q; cases q0
  refine j_eqst [.int x1] (by rfl) ?_
  refine j_if_ne (off := 6) 63 dX12_bar_57 (by decide) (fun c1 => ?_) (fun c1 => ?_)
  · exact j_le [some (.ref 159), some (.int l1), some (.int l2)] (And.intro rfl (And.intro rfl (And.intro rfl True.intro))) (v1 x1 h1 p1 c1)
  · exact j_le [some (.ref 159), some (.int l1), some (.int l2)] (And.intro rfl (And.intro rfl (And.intro rfl True.intro))) (v2 x1 h1 p1 c1)
set_option maxRecDepth 100000 in
theorem bX12_bar_60 {sc : Nat × (Nat → Int32)} {h : jH} {Q : jQ} {l1 l2 : Int32}
    (v1 : WP mX12_bar Q 71 [some (.ref 159), some (.int l1), some (.int l2)] [] (jG0 sc) h (0, 0)) :
    WP mX12_bar Q 60 [some (.ref 159), some (.int l1), some (.int l2)] [] (jG0 sc) h (0, 0) := by
  refine j_goto (off := 11) 71 dX12_bar_60 (by decide) ?_
  exact j_le [some (.ref 159), some (.int l1), some (.int l2)] (And.intro rfl (And.intro rfl (And.intro rfl True.intro))) v1
set_option maxRecDepth 100000 in
theorem bX12_bar_63 {sc : Nat × (Nat → Int32)} {h : jH} {Q : jQ} {l1 l2 : Int32} {P1 : jH → Prop}
    (k1 : JM mX12_putsOut [.ref 159, .int l2] (jG0 sc) h (jvoid sc P1))
    (v1 : ∀ h1 : jH, P1 h1 → WP mX12_bar Q 71 [some (.ref 159), some (.int (l1 + 1)), some (.int l2)] [] (jG0 sc) h1 (0, 0)) :
    WP mX12_bar Q 63 [some (.ref 159), some (.int l1), some (.int l2)] [] (jG0 sc) h (0, 0) := by
  refine j_aload_n (i := 0) rfl dX12_bar_63 ?_
  refine j_iload_n (i := 2) rfl dX12_bar_64 ?_
  refine j_callV (idx := 350) (As := [.int l2]) (ci := 12) (n := 1) k1 jvoid_nt (jlkT (jtb7 239 rfl) rfl) sX12_putsOut kX12_putsOut rfl ⟨rfl, by decide +kernel, by decide +kernel, by decide +kernel⟩ rfl ⟨by decide, by decide⟩ (Nat.le_of_ble_eq_true rfl) rfl (Nat.le_of_ble_eq_true rfl) (Nat.le_of_ble_eq_true rfl) ⟨Nat.zero_le _, Nat.zero_le _⟩ dX12_bar_65 (fun r Γ' h1 q => ?_)
  obtain ⟨q0, rfl, p1⟩ := q; cases q0
  refine j_eqst [] (by rfl) ?_
  refine j_iinc (i := 1) (n := 1) rfl dX12_bar_68 (Nat.le_of_ble_eq_true rfl) ?_
  refine j_eqlv [some (.ref 159), some (.int (l1 + 1)), some (.int l2)] rfl ?_
  exact j_le [some (.ref 159), some (.int (l1 + 1)), some (.int l2)] (And.intro rfl (And.intro rfl (And.intro rfl True.intro))) (v1 h1 p1)
set_option maxRecDepth 100000 in
theorem bX12_bar_71 {sc : Nat × (Nat → Int32)} {h : jH} {Q : jQ} {l1 l2 : Int32}
    (v1 : WP mX12_bar Q 48 [some (.ref 159), some (.int l1), some (.int (l2 + (-1)))] [] (jG0 sc) h (0, 0)) :
    WP mX12_bar Q 71 [some (.ref 159), some (.int l1), some (.int l2)] [] (jG0 sc) h (0, 0) := by
  refine j_iinc (i := 2) (n := -1) rfl dX12_bar_71 (Nat.le_of_ble_eq_true rfl) ?_
  refine j_eqlv [some (.ref 159), some (.int l1), some (.int (l2 + (-1)))] rfl ?_
  refine j_goto (off := -26) 48 dX12_bar_74 (by decide) ?_
  exact j_le [some (.ref 159), some (.int l1), some (.int (l2 + (-1)))] (And.intro rfl (And.intro rfl (And.intro rfl True.intro))) v1
set_option maxRecDepth 100000 in
theorem bX12_bar_77 {sc : Nat × (Nat → Int32)} {h : jH} {Q : jQ} {l1 l2 : Int32}
    (v1 : Q (.inl (some (.int l1))) (jG0 sc) (jput h 160 162 ((h 160 162) + l1))) :
    WP mX12_bar Q 77 [some (.ref 159), some (.int l1), some (.int l2)] [] (jG0 sc) h (0, 0) := by
  refine j_aload_n (i := 0) rfl dX12_bar_77 ?_
  refine j_getR (idx := 13) (ci := 12) (k := 1) (nest := false) (show (12, 13, 12, 1, false) ∈ jFT by decide) rfl (Nat.le_of_ble_eq_true rfl) rfl (a := 160) rfl dX12_bar_78 ?_
  refine j_sipush (n := 162) 162 (by decide) dX12_bar_81 ?_
  refine j_dup2 rfl rfl dX12_bar_84 ?_
  refine j_iald (Nat.le_of_ble_eq_true rfl) rfl (jinl (n := 1454) (by decide)) dX12_bar_85 ?_
  refine j_eqst [.int (h 160 162), .int 162, .ref 160] (by rfl) ?_
  refine j_iload_n (i := 1) rfl dX12_bar_86 ?_
  refine j_iadd dX12_bar_87 ?_
  refine j_iast (Nat.le_of_ble_eq_true rfl) rfl (jinl (n := 1454) (by decide)) dX12_bar_88 ?_
  refine j_iload_n (i := 1) rfl dX12_bar_89 ?_
  exact j_iret rfl rfl (Nat.zero_le _) (Nat.zero_le _) dX12_bar_90 v1
set_option maxRecDepth 100000 in
theorem rX12_bar_0 {sc : Nat × (Nat → Int32)} {h : jH} {Q : jQ} {P1 : Int32 → jH → Prop} {P2 : jH → Prop} {P3 : Int32 → jH → Prop} {P4 : jH → Prop}
    (k1 : ¬ ((jput h 159 0 0) 160 653) = 0 → JM mX12_throwsIf [.ref 159, .int 0, .int 1] (jG0 sc) (jput h 159 0 0) (jint sc P1))
    (k2 : ¬ ((jput h 159 0 0) 160 653) = 0 → ∀ (x1 : Int32) (h1 : jH), P1 x1 h1 → x1 = 0 → JM mX12_listsBody [.ref 159] (jG0 sc) h1 (jvoid sc P2))
    (v1 : ¬ ((jput h 159 0 0) 160 653) = 0 → ∀ (x1 : Int32) (h1 : jH), P1 x1 h1 → x1 = 0 → ∀ h2 : jH, P2 h2 → WP mX12_bar Q 48 [some (.ref 159), some (.int 0), some (.int ((h2 160 163) - 1))] [] (jG0 sc) h2 (0, 0))
    (v2 : ¬ ((jput h 159 0 0) 160 653) = 0 → ∀ (x1 : Int32) (h1 : jH), P1 x1 h1 → ¬ x1 = 0 → Q (.inl (some (.int 0))) (jG0 sc) h1)
    (k3 : ((jput h 159 0 0) 160 653) = 0 → JM mX12_throwsIf [.ref 159, .int 1, .int 1] (jG0 sc) (jput h 159 0 0) (jint sc P3))
    (k4 : ((jput h 159 0 0) 160 653) = 0 → ∀ (x3 : Int32) (h3 : jH), P3 x3 h3 → x3 = 0 → JM mX12_listsBody [.ref 159] (jG0 sc) h3 (jvoid sc P4))
    (v3 : ((jput h 159 0 0) 160 653) = 0 → ∀ (x3 : Int32) (h3 : jH), P3 x3 h3 → x3 = 0 → ∀ h4 : jH, P4 h4 → WP mX12_bar Q 48 [some (.ref 159), some (.int 0), some (.int ((h4 160 163) - 1))] [] (jG0 sc) h4 (0, 0))
    (v4 : ((jput h 159 0 0) 160 653) = 0 → ∀ (x3 : Int32) (h3 : jH), P3 x3 h3 → ¬ x3 = 0 → Q (.inl (some (.int 0))) (jG0 sc) h3) :
    WP mX12_bar Q 0 [some (.ref 159), none, none] [] (jG0 sc) h (0, 0) := by
  exact (bX12_bar_0 (fun c1 => (bX12_bar_21 (bX12_bar_22 (k1 c1) (fun x1 h1 p1 c2 => (bX12_bar_31 (k2 c1 x1 h1 p1 c2) (fun h2 p2 => (v1 c1 x1 h1 p1 c2 h2 p2)))) (fun x1 h1 p1 c2 => (bX12_bar_29 (v2 c1 x1 h1 p1 c2)))))) (fun c1 => (bX12_bar_17 (bX12_bar_22 (k3 c1) (fun x3 h3 p3 c3 => (bX12_bar_31 (k4 c1 x3 h3 p3 c3) (fun h4 p4 => (v3 c1 x3 h3 p3 c3 h4 p4)))) (fun x3 h3 p3 c3 => (bX12_bar_29 (v4 c1 x3 h3 p3 c3)))))))
set_option maxRecDepth 100000 in
theorem rX12_bar_48 {sc : Nat × (Nat → Int32)} {h : jH} {Q : jQ} {l1 l2 : Int32} {P1 : Int32 → jH → Prop} {P2 : jH → Prop}
    (v1 : l2 < 0 → Q (.inl (some (.int l1))) (jG0 sc) (jput h 160 162 ((h 160 162) + l1)))
    (k1 : ¬ l2 < 0 → JM mX12_broken [.ref 159, .int l2] (jG0 sc) h (jint sc P1))
    (k2 : ¬ l2 < 0 → ∀ (x1 : Int32) (h1 : jH), P1 x1 h1 → ¬ x1 = 0 → JM mX12_putsOut [.ref 159, .int l2] (jG0 sc) h1 (jvoid sc P2))
    (v2 : ¬ l2 < 0 → ∀ (x1 : Int32) (h1 : jH), P1 x1 h1 → ¬ x1 = 0 → ∀ h2 : jH, P2 h2 → WP mX12_bar Q 48 [some (.ref 159), some (.int (l1 + 1)), some (.int (l2 + (-1)))] [] (jG0 sc) h2 (0, 0))
    (v3 : ¬ l2 < 0 → ∀ (x1 : Int32) (h1 : jH), P1 x1 h1 → x1 = 0 → WP mX12_bar Q 48 [some (.ref 159), some (.int l1), some (.int (l2 + (-1)))] [] (jG0 sc) h1 (0, 0)) :
    WP mX12_bar Q 48 [some (.ref 159), some (.int l1), some (.int l2)] [] (jG0 sc) h (0, 0) := by
  exact (bX12_bar_48 (fun c1 => (bX12_bar_77 (v1 c1))) (fun c1 => (bX12_bar_52 (k1 c1) (fun x1 h1 p1 c2 => (bX12_bar_63 (k2 c1 x1 h1 p1 c2) (fun h2 p2 => (bX12_bar_71 (v2 c1 x1 h1 p1 c2 h2 p2))))) (fun x1 h1 p1 c2 => (bX12_bar_60 (bX12_bar_71 (v3 c1 x1 h1 p1 c2)))))))
theorem dX12_otherwise_0 : decode (mC mX12_otherwise) 0 = .ok (.aload_n 0, 1) := by decide +kernel
theorem dX12_otherwise_1 : decode (mC mX12_otherwise) 1 = .ok (.iconst 0, 1) := by decide +kernel
theorem dX12_otherwise_2 : decode (mC mX12_otherwise) 2 = .ok (.putfield 3, 3) := by decide +kernel
theorem dX12_otherwise_5 : decode (mC mX12_otherwise) 5 = .ok (.aload_n 0, 1) := by decide +kernel
theorem dX12_otherwise_6 : decode (mC mX12_otherwise) 6 = .ok (.iload_n 1, 1) := by decide +kernel
theorem dX12_otherwise_7 : decode (mC mX12_otherwise) 7 = .ok (.iconst (-1), 1) := by decide +kernel
theorem dX12_otherwise_8 : decode (mC mX12_otherwise) 8 = .ok (.if_icmp .eq 15, 3) := by decide +kernel
theorem dX12_otherwise_11 : decode (mC mX12_otherwise) 11 = .ok (.aload_n 0, 1) := by decide +kernel
theorem dX12_otherwise_12 : decode (mC mX12_otherwise) 12 = .ok (.iload_n 1, 1) := by decide +kernel
theorem dX12_otherwise_13 : decode (mC mX12_otherwise) 13 = .ok (.invokevirtual 353, 3) := by decide +kernel
theorem dX12_otherwise_16 : decode (mC mX12_otherwise) 16 = .ok (.ifCond .eq 7, 3) := by decide +kernel
theorem dX12_otherwise_19 : decode (mC mX12_otherwise) 19 = .ok (.iconst 1, 1) := by decide +kernel
theorem dX12_otherwise_20 : decode (mC mX12_otherwise) 20 = .ok (.goto 4, 3) := by decide +kernel
theorem dX12_otherwise_23 : decode (mC mX12_otherwise) 23 = .ok (.iconst 0, 1) := by decide +kernel
theorem dX12_otherwise_24 : decode (mC mX12_otherwise) 24 = .ok (.iconst 1, 1) := by decide +kernel
theorem dX12_otherwise_25 : decode (mC mX12_otherwise) 25 = .ok (.invokevirtual 157, 3) := by decide +kernel
theorem dX12_otherwise_28 : decode (mC mX12_otherwise) 28 = .ok (.ifCond .ne 33, 3) := by decide +kernel
theorem dX12_otherwise_31 : decode (mC mX12_otherwise) 31 = .ok (.aload_n 0, 1) := by decide +kernel
theorem dX12_otherwise_32 : decode (mC mX12_otherwise) 32 = .ok (.aload_n 0, 1) := by decide +kernel
theorem dX12_otherwise_33 : decode (mC mX12_otherwise) 33 = .ok (.invokevirtual 265, 3) := by decide +kernel
theorem dX12_otherwise_36 : decode (mC mX12_otherwise) 36 = .ok (.ifCond .eq 13, 3) := by decide +kernel
theorem dX12_otherwise_39 : decode (mC mX12_otherwise) 39 = .ok (.aload_n 0, 1) := by decide +kernel
theorem dX12_otherwise_40 : decode (mC mX12_otherwise) 40 = .ok (.getfield 13, 3) := by decide +kernel
theorem dX12_otherwise_43 : decode (mC mX12_otherwise) 43 = .ok (.bipush 61, 2) := by decide +kernel
theorem dX12_otherwise_45 : decode (mC mX12_otherwise) 45 = .ok (.iaload, 1) := by decide +kernel
theorem dX12_otherwise_46 : decode (mC mX12_otherwise) 46 = .ok (.ifCond .ne 7, 3) := by decide +kernel
theorem dX12_otherwise_49 : decode (mC mX12_otherwise) 49 = .ok (.iconst 1, 1) := by decide +kernel
theorem dX12_otherwise_50 : decode (mC mX12_otherwise) 50 = .ok (.goto 4, 3) := by decide +kernel
theorem dX12_otherwise_53 : decode (mC mX12_otherwise) 53 = .ok (.iconst 0, 1) := by decide +kernel
theorem dX12_otherwise_54 : decode (mC mX12_otherwise) 54 = .ok (.iconst 2, 1) := by decide +kernel
theorem dX12_otherwise_55 : decode (mC mX12_otherwise) 55 = .ok (.invokevirtual 157, 3) := by decide +kernel
theorem dX12_otherwise_58 : decode (mC mX12_otherwise) 58 = .ok (.ifCond .eq 5, 3) := by decide +kernel
theorem dX12_otherwise_61 : decode (mC mX12_otherwise) 61 = .ok (.iconst 0, 1) := by decide +kernel
theorem dX12_otherwise_62 : decode (mC mX12_otherwise) 62 = .ok (.ireturn, 1) := by decide +kernel
theorem dX12_otherwise_63 : decode (mC mX12_otherwise) 63 = .ok (.aload_n 0, 1) := by decide +kernel
theorem dX12_otherwise_64 : decode (mC mX12_otherwise) 64 = .ok (.invokevirtual 319, 3) := by decide +kernel
theorem dX12_otherwise_67 : decode (mC mX12_otherwise) 67 = .ok (.iconst 0, 1) := by decide +kernel
theorem dX12_otherwise_68 : decode (mC mX12_otherwise) 68 = .ok (.istore_n 2, 1) := by decide +kernel
theorem dX12_otherwise_69 : decode (mC mX12_otherwise) 69 = .ok (.iconst 0, 1) := by decide +kernel
theorem dX12_otherwise_70 : decode (mC mX12_otherwise) 70 = .ok (.istore_n 3, 1) := by decide +kernel
theorem dX12_otherwise_71 : decode (mC mX12_otherwise) 71 = .ok (.iload_n 3, 1) := by decide +kernel
theorem dX12_otherwise_72 : decode (mC mX12_otherwise) 72 = .ok (.aload_n 0, 1) := by decide +kernel
theorem dX12_otherwise_73 : decode (mC mX12_otherwise) 73 = .ok (.getfield 13, 3) := by decide +kernel
theorem dX12_otherwise_76 : decode (mC mX12_otherwise) 76 = .ok (.sipush 285, 3) := by decide +kernel
theorem dX12_otherwise_79 : decode (mC mX12_otherwise) 79 = .ok (.iaload, 1) := by decide +kernel
theorem dX12_otherwise_80 : decode (mC mX12_otherwise) 80 = .ok (.if_icmp .gt 82, 3) := by decide +kernel
theorem dX12_otherwise_83 : decode (mC mX12_otherwise) 83 = .ok (.iconst 0, 1) := by decide +kernel
theorem dX12_otherwise_84 : decode (mC mX12_otherwise) 84 = .ok (.istore 4, 2) := by decide +kernel
theorem dX12_otherwise_86 : decode (mC mX12_otherwise) 86 = .ok (.iload 4, 2) := by decide +kernel
theorem dX12_otherwise_88 : decode (mC mX12_otherwise) 88 = .ok (.aload_n 0, 1) := by decide +kernel
theorem dX12_otherwise_89 : decode (mC mX12_otherwise) 89 = .ok (.getfield 13, 3) := by decide +kernel
theorem dX12_otherwise_92 : decode (mC mX12_otherwise) 92 = .ok (.sipush 285, 3) := by decide +kernel
theorem dX12_otherwise_95 : decode (mC mX12_otherwise) 95 = .ok (.iaload, 1) := by decide +kernel
theorem dX12_otherwise_96 : decode (mC mX12_otherwise) 96 = .ok (.if_icmp .gt 60, 3) := by decide +kernel
theorem dX12_otherwise_99 : decode (mC mX12_otherwise) 99 = .ok (.aload_n 0, 1) := by decide +kernel
theorem dX12_otherwise_100 : decode (mC mX12_otherwise) 100 = .ok (.bipush 61, 2) := by decide +kernel
theorem dX12_otherwise_102 : decode (mC mX12_otherwise) 102 = .ok (.invokevirtual 258, 3) := by decide +kernel
theorem dX12_otherwise_105 : decode (mC mX12_otherwise) 105 = .ok (.aload_n 0, 1) := by decide +kernel
theorem dX12_otherwise_106 : decode (mC mX12_otherwise) 106 = .ok (.iload_n 3, 1) := by decide +kernel
theorem dX12_otherwise_107 : decode (mC mX12_otherwise) 107 = .ok (.iload 4, 2) := by decide +kernel
theorem dX12_otherwise_109 : decode (mC mX12_otherwise) 109 = .ok (.invokevirtual 248, 3) := by decide +kernel
theorem dX12_otherwise_112 : decode (mC mX12_otherwise) 112 = .ok (.istore 5, 2) := by decide +kernel
theorem dX12_otherwise_114 : decode (mC mX12_otherwise) 114 = .ok (.iload_n 1, 1) := by decide +kernel
theorem dX12_otherwise_115 : decode (mC mX12_otherwise) 115 = .ok (.ifCond .ge 10, 3) := by decide +kernel
theorem dX12_otherwise_118 : decode (mC mX12_otherwise) 118 = .ok (.aload_n 0, 1) := by decide +kernel
theorem dX12_otherwise_119 : decode (mC mX12_otherwise) 119 = .ok (.invokevirtual 307, 3) := by decide +kernel
theorem dX12_otherwise_122 : decode (mC mX12_otherwise) 122 = .ok (.goto 8, 3) := by decide +kernel
theorem dX12_otherwise_125 : decode (mC mX12_otherwise) 125 = .ok (.aload_n 0, 1) := by decide +kernel
theorem dX12_otherwise_126 : decode (mC mX12_otherwise) 126 = .ok (.iload_n 1, 1) := by decide +kernel
theorem dX12_otherwise_127 : decode (mC mX12_otherwise) 127 = .ok (.invokevirtual 347, 3) := by decide +kernel
theorem dX12_otherwise_130 : decode (mC mX12_otherwise) 130 = .ok (.iload_n 2, 1) := by decide +kernel
theorem dX12_otherwise_131 : decode (mC mX12_otherwise) 131 = .ok (.aload_n 0, 1) := by decide +kernel
theorem dX12_otherwise_132 : decode (mC mX12_otherwise) 132 = .ok (.iload_n 3, 1) := by decide +kernel
theorem dX12_otherwise_133 : decode (mC mX12_otherwise) 133 = .ok (.iload 4, 2) := by decide +kernel
theorem dX12_otherwise_135 : decode (mC mX12_otherwise) 135 = .ok (.invokevirtual 248, 3) := by decide +kernel
theorem dX12_otherwise_138 : decode (mC mX12_otherwise) 138 = .ok (.iload 5, 2) := by decide +kernel
theorem dX12_otherwise_140 : decode (mC mX12_otherwise) 140 = .ok (.if_icmp .eq 7, 3) := by decide +kernel
theorem dX12_otherwise_143 : decode (mC mX12_otherwise) 143 = .ok (.iconst 1, 1) := by decide +kernel
theorem dX12_otherwise_144 : decode (mC mX12_otherwise) 144 = .ok (.goto 4, 3) := by decide +kernel
theorem dX12_otherwise_147 : decode (mC mX12_otherwise) 147 = .ok (.iconst 0, 1) := by decide +kernel
theorem dX12_otherwise_148 : decode (mC mX12_otherwise) 148 = .ok (.iadd, 1) := by decide +kernel
theorem dX12_otherwise_149 : decode (mC mX12_otherwise) 149 = .ok (.istore_n 2, 1) := by decide +kernel
theorem dX12_otherwise_150 : decode (mC mX12_otherwise) 150 = .ok (.iinc 4 1, 3) := by decide +kernel
theorem dX12_otherwise_153 : decode (mC mX12_otherwise) 153 = .ok (.goto (-67), 3) := by decide +kernel
theorem dX12_otherwise_156 : decode (mC mX12_otherwise) 156 = .ok (.iinc 3 1, 3) := by decide +kernel
theorem dX12_otherwise_159 : decode (mC mX12_otherwise) 159 = .ok (.goto (-88), 3) := by decide +kernel
theorem dX12_otherwise_162 : decode (mC mX12_otherwise) 162 = .ok (.iload_n 2, 1) := by decide +kernel
theorem dX12_otherwise_163 : decode (mC mX12_otherwise) 163 = .ok (.ireturn, 1) := by decide +kernel
set_option maxRecDepth 100000 in
theorem bX12_otherwise_0 {sc : Nat × (Nat → Int32)} {h : jH} {Q : jQ} {l1 : Int32}
    (v1 : l1 = (-1) → WP mX12_otherwise Q 23 [some (.ref 159), some (.int l1), none, none, none, none] [.ref 159] (jG0 sc) (jput h 159 0 0) (0, 0))
    (v2 : ¬ l1 = (-1) → WP mX12_otherwise Q 11 [some (.ref 159), some (.int l1), none, none, none, none] [.ref 159] (jG0 sc) (jput h 159 0 0) (0, 0)) :
    WP mX12_otherwise Q 0 [some (.ref 159), some (.int l1), none, none, none, none] [] (jG0 sc) h (0, 0) := by
  refine j_aload_n (i := 0) rfl dX12_otherwise_0 ?_
  refine j_iconst (n := 0) 0 (by decide) dX12_otherwise_1 ?_
  refine j_putI (idx := 3) (ci := 12) (k := 0) (nest := false) (show (12, 3, 12, 0, false) ∈ jFT by decide) rfl rfl rfl rfl (Nat.le_of_ble_eq_true rfl) rfl dX12_otherwise_2 ?_
  refine j_aload_n (i := 0) rfl dX12_otherwise_5 ?_
  refine j_iload_n (i := 1) rfl dX12_otherwise_6 ?_
  refine j_iconst (n := (-1)) (-1) (by decide) dX12_otherwise_7 ?_
  refine j_icmp_eq (off := 15) 23 dX12_otherwise_8 (by decide) (fun c1 => ?_) (fun c1 => ?_)
  · exact j_le [some (.ref 159), some (.int l1), none, none, none, none] (And.intro rfl (And.intro rfl True.intro)) (v1 c1)
  · exact j_le [some (.ref 159), some (.int l1), none, none, none, none] (And.intro rfl (And.intro rfl True.intro)) (v2 c1)
set_option maxRecDepth 100000 in
theorem bX12_otherwise_11 {sc : Nat × (Nat → Int32)} {h : jH} {Q : jQ} {l1 : Int32} {P1 : Int32 → jH → Prop}
    (k1 : JM mX12_noAlive [.ref 159, .int l1] (jG0 sc) h (jint sc P1))
    (v1 : ∀ (x1 : Int32) (h1 : jH), P1 x1 h1 → x1 = 0 → WP mX12_otherwise Q 23 [some (.ref 159), some (.int l1), none, none, none, none] [.ref 159] (jG0 sc) h1 (0, 0))
    (v2 : ∀ (x1 : Int32) (h1 : jH), P1 x1 h1 → ¬ x1 = 0 → WP mX12_otherwise Q 19 [some (.ref 159), some (.int l1), none, none, none, none] [.ref 159] (jG0 sc) h1 (0, 0)) :
    WP mX12_otherwise Q 11 [some (.ref 159), some (.int l1), none, none, none, none] [.ref 159] (jG0 sc) h (0, 0) := by
  refine j_aload_n (i := 0) rfl dX12_otherwise_11 ?_
  refine j_iload_n (i := 1) rfl dX12_otherwise_12 ?_
  refine j_callV (idx := 353) (As := [.int l1]) (ci := 12) (n := 1) k1 jint_nt (jlkT (jtb8 7 rfl) rfl) sX12_noAlive kX12_noAlive rfl ⟨rfl, by decide +kernel, by decide +kernel, by decide +kernel⟩ rfl ⟨by decide, by decide⟩ (Nat.le_of_ble_eq_true rfl) rfl (Nat.le_of_ble_eq_true rfl) (Nat.le_of_ble_eq_true rfl) ⟨Nat.zero_le _, Nat.zero_le _⟩ dX12_otherwise_13 (fun r Γ' h1 q => ?_)
  obtain ⟨x1, q0, rfl, p1⟩ := q; cases q0
  refine j_eqst [.int x1, .ref 159] (by rfl) ?_
  refine j_if_eq (off := 7) 23 dX12_otherwise_16 (by decide) (fun c1 => ?_) (fun c1 => ?_)
  · exact j_le [some (.ref 159), some (.int l1), none, none, none, none] (And.intro rfl (And.intro rfl True.intro)) (v1 x1 h1 p1 c1)
  · exact j_le [some (.ref 159), some (.int l1), none, none, none, none] (And.intro rfl (And.intro rfl True.intro)) (v2 x1 h1 p1 c1)
set_option maxRecDepth 100000 in
theorem bX12_otherwise_19 {sc : Nat × (Nat → Int32)} {h : jH} {Q : jQ} {l1 : Int32}
    (v1 : WP mX12_otherwise Q 24 [some (.ref 159), some (.int l1), none, none, none, none] [.int 1, .ref 159] (jG0 sc) h (0, 0)) :
    WP mX12_otherwise Q 19 [some (.ref 159), some (.int l1), none, none, none, none] [.ref 159] (jG0 sc) h (0, 0) := by
  refine j_iconst (n := 1) 1 (by decide) dX12_otherwise_19 ?_
  refine j_goto (off := 4) 24 dX12_otherwise_20 (by decide) ?_
  exact j_le [some (.ref 159), some (.int l1), none, none, none, none] (And.intro rfl (And.intro rfl True.intro)) v1
set_option maxRecDepth 100000 in
theorem bX12_otherwise_23 {sc : Nat × (Nat → Int32)} {h : jH} {Q : jQ} {l1 : Int32}
    (v1 : WP mX12_otherwise Q 24 [some (.ref 159), some (.int l1), none, none, none, none] [.int 0, .ref 159] (jG0 sc) h (0, 0)) :
    WP mX12_otherwise Q 23 [some (.ref 159), some (.int l1), none, none, none, none] [.ref 159] (jG0 sc) h (0, 0) := by
  refine j_iconst (n := 0) 0 (by decide) dX12_otherwise_23 ?_
  exact j_le [some (.ref 159), some (.int l1), none, none, none, none] (And.intro rfl (And.intro rfl True.intro)) v1
set_option maxRecDepth 100000 in
theorem bX12_otherwise_24 {sc : Nat × (Nat → Int32)} {h : jH} {Q : jQ} {l1 s0 : Int32} {P1 : Int32 → jH → Prop}
    (k1 : JM mX12_throwsIf [.ref 159, .int s0, .int 1] (jG0 sc) h (jint sc P1))
    (v1 : ∀ (x1 : Int32) (h1 : jH), P1 x1 h1 → ¬ x1 = 0 → WP mX12_otherwise Q 61 [some (.ref 159), some (.int l1), none, none, none, none] [] (jG0 sc) h1 (0, 0))
    (v2 : ∀ (x1 : Int32) (h1 : jH), P1 x1 h1 → x1 = 0 → WP mX12_otherwise Q 31 [some (.ref 159), some (.int l1), none, none, none, none] [] (jG0 sc) h1 (0, 0)) :
    WP mX12_otherwise Q 24 [some (.ref 159), some (.int l1), none, none, none, none] [.int s0, .ref 159] (jG0 sc) h (0, 0) := by
  refine j_iconst (n := 1) 1 (by decide) dX12_otherwise_24 ?_
  refine j_callV (idx := 157) (As := [.int s0, .int 1]) (ci := 12) (n := 2) k1 jint_nt (jlkT (jtb7 17 rfl) rfl) sX12_throwsIf kX12_throwsIf rfl ⟨rfl, by decide +kernel, by decide +kernel, by decide +kernel⟩ rfl ⟨by decide, by decide⟩ (Nat.le_of_ble_eq_true rfl) rfl (Nat.le_of_ble_eq_true rfl) (Nat.le_of_ble_eq_true rfl) ⟨Nat.zero_le _, Nat.zero_le _⟩ dX12_otherwise_25 (fun r Γ' h1 q => ?_)
  obtain ⟨x1, q0, rfl, p1⟩ := q; cases q0
  refine j_eqst [.int x1] (by rfl) ?_
  refine j_if_ne (off := 33) 61 dX12_otherwise_28 (by decide) (fun c1 => ?_) (fun c1 => ?_)
  · exact j_le [some (.ref 159), some (.int l1), none, none, none, none] (And.intro rfl (And.intro rfl True.intro)) (v1 x1 h1 p1 c1)
  · exact j_le [some (.ref 159), some (.int l1), none, none, none, none] (And.intro rfl (And.intro rfl True.intro)) (v2 x1 h1 p1 c1)
set_option maxRecDepth 100000 in
theorem bX12_otherwise_31 {sc : Nat × (Nat → Int32)} {h : jH} {Q : jQ} {l1 : Int32} {P1 : Int32 → jH → Prop}
    (k1 : JM mX12_lines [.ref 159] (jG0 sc) h (jint sc P1))
    (v1 : ∀ (x1 : Int32) (h1 : jH), P1 x1 h1 → x1 = 0 → WP mX12_otherwise Q 49 [some (.ref 159), some (.int l1), none, none, none, none] [.ref 159] (jG0 sc) h1 (0, 0))
    (v2 : ∀ (x1 : Int32) (h1 : jH), P1 x1 h1 → ¬ x1 = 0 → WP mX12_otherwise Q 39 [some (.ref 159), some (.int l1), none, none, none, none] [.ref 159] (jG0 sc) h1 (0, 0)) :
    WP mX12_otherwise Q 31 [some (.ref 159), some (.int l1), none, none, none, none] [] (jG0 sc) h (0, 0) := by
  refine j_aload_n (i := 0) rfl dX12_otherwise_31 ?_
  refine j_aload_n (i := 0) rfl dX12_otherwise_32 ?_
  refine j_callV (idx := 265) (As := []) (ci := 12) (n := 0) k1 jint_nt (jlkT (jtb7 112 rfl) rfl) sX12_lines kX12_lines rfl ⟨rfl, by decide +kernel, by decide +kernel, by decide +kernel⟩ rfl ⟨by decide, by decide⟩ (Nat.le_of_ble_eq_true rfl) rfl (Nat.le_of_ble_eq_true rfl) (Nat.le_of_ble_eq_true rfl) ⟨Nat.zero_le _, Nat.zero_le _⟩ dX12_otherwise_33 (fun r Γ' h1 q => ?_)
  obtain ⟨x1, q0, rfl, p1⟩ := q; cases q0
  refine j_eqst [.int x1, .ref 159] (by rfl) ?_
  refine j_if_eq (off := 13) 49 dX12_otherwise_36 (by decide) (fun c1 => ?_) (fun c1 => ?_)
  · exact j_le [some (.ref 159), some (.int l1), none, none, none, none] (And.intro rfl (And.intro rfl True.intro)) (v1 x1 h1 p1 c1)
  · exact j_le [some (.ref 159), some (.int l1), none, none, none, none] (And.intro rfl (And.intro rfl True.intro)) (v2 x1 h1 p1 c1)
set_option maxRecDepth 100000 in
theorem bX12_otherwise_39 {sc : Nat × (Nat → Int32)} {h : jH} {Q : jQ} {l1 : Int32}
    (v1 : ¬ (h 160 61) = 0 → WP mX12_otherwise Q 53 [some (.ref 159), some (.int l1), none, none, none, none] [.ref 159] (jG0 sc) h (0, 0))
    (v2 : (h 160 61) = 0 → WP mX12_otherwise Q 49 [some (.ref 159), some (.int l1), none, none, none, none] [.ref 159] (jG0 sc) h (0, 0)) :
    WP mX12_otherwise Q 39 [some (.ref 159), some (.int l1), none, none, none, none] [.ref 159] (jG0 sc) h (0, 0) := by
  refine j_aload_n (i := 0) rfl dX12_otherwise_39 ?_
  refine j_getR (idx := 13) (ci := 12) (k := 1) (nest := false) (show (12, 13, 12, 1, false) ∈ jFT by decide) rfl (Nat.le_of_ble_eq_true rfl) rfl (a := 160) rfl dX12_otherwise_40 ?_
  refine j_bipush (n := 61) 61 (by decide) dX12_otherwise_43 ?_
  refine j_iald (Nat.le_of_ble_eq_true rfl) rfl (jinl (n := 1454) (by decide)) dX12_otherwise_45 ?_
  refine j_eqst [.int (h 160 61), .ref 159] (by rfl) ?_
  refine j_if_ne (off := 7) 53 dX12_otherwise_46 (by decide) (fun c1 => ?_) (fun c1 => ?_)
  · exact j_le [some (.ref 159), some (.int l1), none, none, none, none] (And.intro rfl (And.intro rfl True.intro)) (v1 c1)
  · exact j_le [some (.ref 159), some (.int l1), none, none, none, none] (And.intro rfl (And.intro rfl True.intro)) (v2 c1)
set_option maxRecDepth 100000 in
theorem bX12_otherwise_49 {sc : Nat × (Nat → Int32)} {h : jH} {Q : jQ} {l1 : Int32}
    (v1 : WP mX12_otherwise Q 54 [some (.ref 159), some (.int l1), none, none, none, none] [.int 1, .ref 159] (jG0 sc) h (0, 0)) :
    WP mX12_otherwise Q 49 [some (.ref 159), some (.int l1), none, none, none, none] [.ref 159] (jG0 sc) h (0, 0) := by
  refine j_iconst (n := 1) 1 (by decide) dX12_otherwise_49 ?_
  refine j_goto (off := 4) 54 dX12_otherwise_50 (by decide) ?_
  exact j_le [some (.ref 159), some (.int l1), none, none, none, none] (And.intro rfl (And.intro rfl True.intro)) v1
set_option maxRecDepth 100000 in
theorem bX12_otherwise_53 {sc : Nat × (Nat → Int32)} {h : jH} {Q : jQ} {l1 : Int32}
    (v1 : WP mX12_otherwise Q 54 [some (.ref 159), some (.int l1), none, none, none, none] [.int 0, .ref 159] (jG0 sc) h (0, 0)) :
    WP mX12_otherwise Q 53 [some (.ref 159), some (.int l1), none, none, none, none] [.ref 159] (jG0 sc) h (0, 0) := by
  refine j_iconst (n := 0) 0 (by decide) dX12_otherwise_53 ?_
  exact j_le [some (.ref 159), some (.int l1), none, none, none, none] (And.intro rfl (And.intro rfl True.intro)) v1
set_option maxRecDepth 100000 in
theorem bX12_otherwise_54 {sc : Nat × (Nat → Int32)} {h : jH} {Q : jQ} {l1 s0 : Int32} {P1 : Int32 → jH → Prop}
    (k1 : JM mX12_throwsIf [.ref 159, .int s0, .int 2] (jG0 sc) h (jint sc P1))
    (v1 : ∀ (x1 : Int32) (h1 : jH), P1 x1 h1 → x1 = 0 → WP mX12_otherwise Q 63 [some (.ref 159), some (.int l1), none, none, none, none] [] (jG0 sc) h1 (0, 0))
    (v2 : ∀ (x1 : Int32) (h1 : jH), P1 x1 h1 → ¬ x1 = 0 → WP mX12_otherwise Q 61 [some (.ref 159), some (.int l1), none, none, none, none] [] (jG0 sc) h1 (0, 0)) :
    WP mX12_otherwise Q 54 [some (.ref 159), some (.int l1), none, none, none, none] [.int s0, .ref 159] (jG0 sc) h (0, 0) := by
  refine j_iconst (n := 2) 2 (by decide) dX12_otherwise_54 ?_
  refine j_callV (idx := 157) (As := [.int s0, .int 2]) (ci := 12) (n := 2) k1 jint_nt (jlkT (jtb7 17 rfl) rfl) sX12_throwsIf kX12_throwsIf rfl ⟨rfl, by decide +kernel, by decide +kernel, by decide +kernel⟩ rfl ⟨by decide, by decide⟩ (Nat.le_of_ble_eq_true rfl) rfl (Nat.le_of_ble_eq_true rfl) (Nat.le_of_ble_eq_true rfl) ⟨Nat.zero_le _, Nat.zero_le _⟩ dX12_otherwise_55 (fun r Γ' h1 q => ?_)
  obtain ⟨x1, q0, rfl, p1⟩ := q; cases q0
  refine j_eqst [.int x1] (by rfl) ?_
  refine j_if_eq (off := 5) 63 dX12_otherwise_58 (by decide) (fun c1 => ?_) (fun c1 => ?_)
  · exact j_le [some (.ref 159), some (.int l1), none, none, none, none] (And.intro rfl (And.intro rfl True.intro)) (v1 x1 h1 p1 c1)
  · exact j_le [some (.ref 159), some (.int l1), none, none, none, none] (And.intro rfl (And.intro rfl True.intro)) (v2 x1 h1 p1 c1)
set_option maxRecDepth 100000 in
theorem bX12_otherwise_61 {sc : Nat × (Nat → Int32)} {h : jH} {Q : jQ} {l1 : Int32}
    (v1 : Q (.inl (some (.int 0))) (jG0 sc) h) :
    WP mX12_otherwise Q 61 [some (.ref 159), some (.int l1), none, none, none, none] [] (jG0 sc) h (0, 0) := by
  refine j_iconst (n := 0) 0 (by decide) dX12_otherwise_61 ?_
  exact j_iret rfl rfl (Nat.zero_le _) (Nat.zero_le _) dX12_otherwise_62 v1
set_option maxRecDepth 100000 in
theorem bX12_otherwise_63 {sc : Nat × (Nat → Int32)} {h : jH} {Q : jQ} {l1 : Int32} {P1 : jH → Prop}
    (k1 : JM mX12_listsBody [.ref 159] (jG0 sc) h (jvoid sc P1))
    (v1 : ∀ h1 : jH, P1 h1 → WP mX12_otherwise Q 71 [some (.ref 159), some (.int l1), some (.int 0), some (.int 0), none, none] [] (jG0 sc) h1 (0, 0)) :
    WP mX12_otherwise Q 63 [some (.ref 159), some (.int l1), none, none, none, none] [] (jG0 sc) h (0, 0) := by
  refine j_aload_n (i := 0) rfl dX12_otherwise_63 ?_
  refine j_callV (idx := 319) (As := []) (ci := 12) (n := 0) k1 jvoid_nt (jlkT (jtb7 160 rfl) rfl) sX12_listsBody kX12_listsBody rfl ⟨rfl, by decide +kernel, by decide +kernel, by decide +kernel⟩ rfl ⟨by decide, by decide⟩ (Nat.le_of_ble_eq_true rfl) rfl (Nat.le_of_ble_eq_true rfl) (Nat.le_of_ble_eq_true rfl) ⟨Nat.zero_le _, Nat.zero_le _⟩ dX12_otherwise_64 (fun r Γ' h1 q => ?_)
  obtain ⟨q0, rfl, p1⟩ := q; cases q0
  refine j_eqst [] (by rfl) ?_
  refine j_iconst (n := 0) 0 (by decide) dX12_otherwise_67 ?_
  refine j_istore_n (i := 2) dX12_otherwise_68 (Nat.le_of_ble_eq_true rfl) ?_
  refine j_iconst (n := 0) 0 (by decide) dX12_otherwise_69 ?_
  refine j_istore_n (i := 3) dX12_otherwise_70 (Nat.le_of_ble_eq_true rfl) ?_
  exact j_le [some (.ref 159), some (.int l1), some (.int 0), some (.int 0), none, none] (And.intro rfl (And.intro rfl (And.intro rfl (And.intro rfl True.intro)))) (v1 h1 p1)
set_option maxRecDepth 100000 in
theorem bX12_otherwise_71 {sc : Nat × (Nat → Int32)} {h : jH} {Q : jQ} {l1 l2 l3 : Int32}
    (v1 : (h 160 285) < l3 → WP mX12_otherwise Q 162 [some (.ref 159), some (.int l1), some (.int l2), some (.int l3), none, none] [] (jG0 sc) h (0, 0))
    (v2 : ¬ (h 160 285) < l3 → WP mX12_otherwise Q 83 [some (.ref 159), some (.int l1), some (.int l2), some (.int l3), none, none] [] (jG0 sc) h (0, 0)) :
    WP mX12_otherwise Q 71 [some (.ref 159), some (.int l1), some (.int l2), some (.int l3), none, none] [] (jG0 sc) h (0, 0) := by
  refine j_iload_n (i := 3) rfl dX12_otherwise_71 ?_
  refine j_aload_n (i := 0) rfl dX12_otherwise_72 ?_
  refine j_getR (idx := 13) (ci := 12) (k := 1) (nest := false) (show (12, 13, 12, 1, false) ∈ jFT by decide) rfl (Nat.le_of_ble_eq_true rfl) rfl (a := 160) rfl dX12_otherwise_73 ?_
  refine j_sipush (n := 285) 285 (by decide) dX12_otherwise_76 ?_
  refine j_iald (Nat.le_of_ble_eq_true rfl) rfl (jinl (n := 1454) (by decide)) dX12_otherwise_79 ?_
  refine j_eqst [.int (h 160 285), .int l3] (by rfl) ?_
  refine j_icmp_gt (off := 82) 162 dX12_otherwise_80 (by decide) (fun c1 => ?_) (fun c1 => ?_)
  · exact j_le [some (.ref 159), some (.int l1), some (.int l2), some (.int l3), none, none] (And.intro rfl (And.intro rfl (And.intro rfl (And.intro rfl True.intro)))) (v1 c1)
  · exact j_le [some (.ref 159), some (.int l1), some (.int l2), some (.int l3), none, none] (And.intro rfl (And.intro rfl (And.intro rfl (And.intro rfl True.intro)))) (v2 c1)
set_option maxRecDepth 100000 in
theorem bX12_otherwise_83 {sc : Nat × (Nat → Int32)} {h : jH} {Q : jQ} {l1 l2 l3 : Int32}
    (v1 : WP mX12_otherwise Q 86 [some (.ref 159), some (.int l1), some (.int l2), some (.int l3), some (.int 0), none] [] (jG0 sc) h (0, 0)) :
    WP mX12_otherwise Q 83 [some (.ref 159), some (.int l1), some (.int l2), some (.int l3), none, none] [] (jG0 sc) h (0, 0) := by
  refine j_iconst (n := 0) 0 (by decide) dX12_otherwise_83 ?_
  refine j_istore (i := 4) dX12_otherwise_84 (Nat.le_of_ble_eq_true rfl) ?_
  exact j_le [some (.ref 159), some (.int l1), some (.int l2), some (.int l3), some (.int 0), none] (And.intro rfl (And.intro rfl (And.intro rfl (And.intro rfl (And.intro rfl True.intro))))) v1
set_option maxRecDepth 100000 in
theorem bX12_otherwise_86 {sc : Nat × (Nat → Int32)} {h : jH} {Q : jQ} {l1 l2 l3 l4 : Int32}
    (v1 : (h 160 285) < l4 → WP mX12_otherwise Q 156 [some (.ref 159), some (.int l1), some (.int l2), some (.int l3), some (.int l4), none] [] (jG0 sc) h (0, 0))
    (v2 : ¬ (h 160 285) < l4 → WP mX12_otherwise Q 99 [some (.ref 159), some (.int l1), some (.int l2), some (.int l3), some (.int l4), none] [] (jG0 sc) h (0, 0)) :
    WP mX12_otherwise Q 86 [some (.ref 159), some (.int l1), some (.int l2), some (.int l3), some (.int l4), none] [] (jG0 sc) h (0, 0) := by
  refine j_iload (i := 4) rfl dX12_otherwise_86 ?_
  refine j_aload_n (i := 0) rfl dX12_otherwise_88 ?_
  refine j_getR (idx := 13) (ci := 12) (k := 1) (nest := false) (show (12, 13, 12, 1, false) ∈ jFT by decide) rfl (Nat.le_of_ble_eq_true rfl) rfl (a := 160) rfl dX12_otherwise_89 ?_
  refine j_sipush (n := 285) 285 (by decide) dX12_otherwise_92 ?_
  refine j_iald (Nat.le_of_ble_eq_true rfl) rfl (jinl (n := 1454) (by decide)) dX12_otherwise_95 ?_
  refine j_eqst [.int (h 160 285), .int l4] (by rfl) ?_
  refine j_icmp_gt (off := 60) 156 dX12_otherwise_96 (by decide) (fun c1 => ?_) (fun c1 => ?_)
  · exact j_le [some (.ref 159), some (.int l1), some (.int l2), some (.int l3), some (.int l4), none] (And.intro rfl (And.intro rfl (And.intro rfl (And.intro rfl (And.intro rfl True.intro))))) (v1 c1)
  · exact j_le [some (.ref 159), some (.int l1), some (.int l2), some (.int l3), some (.int l4), none] (And.intro rfl (And.intro rfl (And.intro rfl (And.intro rfl (And.intro rfl True.intro))))) (v2 c1)
set_option maxRecDepth 100000 in
theorem bX12_otherwise_99 {sc : Nat × (Nat → Int32)} {h : jH} {Q : jQ} {l1 l2 l3 l4 : Int32} {P1 : jH → Prop} {P2 : Int32 → jH → Prop}
    (k1 : JM mX12_lays [.ref 159, .int 61] (jG0 sc) h (jvoid sc P1))
    (k2 : ∀ h1 : jH, P1 h1 → JM mX12_endAt [.ref 159, .int l3, .int l4] (jG0 sc) h1 (jint sc P2))
    (v1 : ∀ h1 : jH, P1 h1 → ∀ (x2 : Int32) (h2 : jH), P2 x2 h2 → 0 ≤ l1 → WP mX12_otherwise Q 125 [some (.ref 159), some (.int l1), some (.int l2), some (.int l3), some (.int l4), some (.int x2)] [] (jG0 sc) h2 (0, 0))
    (v2 : ∀ h1 : jH, P1 h1 → ∀ (x2 : Int32) (h2 : jH), P2 x2 h2 → ¬ 0 ≤ l1 → WP mX12_otherwise Q 118 [some (.ref 159), some (.int l1), some (.int l2), some (.int l3), some (.int l4), some (.int x2)] [] (jG0 sc) h2 (0, 0)) :
    WP mX12_otherwise Q 99 [some (.ref 159), some (.int l1), some (.int l2), some (.int l3), some (.int l4), none] [] (jG0 sc) h (0, 0) := by
  refine j_aload_n (i := 0) rfl dX12_otherwise_99 ?_
  refine j_bipush (n := 61) 61 (by decide) dX12_otherwise_100 ?_
  refine j_callV (idx := 258) (As := [.int 61]) (ci := 12) (n := 1) k1 jvoid_nt (jlkT (jtb7 67 rfl) rfl) sX12_lays kX12_lays rfl ⟨rfl, by decide +kernel, by decide +kernel, by decide +kernel⟩ rfl ⟨by decide, by decide⟩ (Nat.le_of_ble_eq_true rfl) rfl (Nat.le_of_ble_eq_true rfl) (Nat.le_of_ble_eq_true rfl) ⟨Nat.zero_le _, Nat.zero_le _⟩ dX12_otherwise_102 (fun r Γ' h1 q => ?_)
  obtain ⟨q0, rfl, p1⟩ := q; cases q0
  refine j_eqst [] (by rfl) ?_
  refine j_aload_n (i := 0) rfl dX12_otherwise_105 ?_
  refine j_iload_n (i := 3) rfl dX12_otherwise_106 ?_
  refine j_iload (i := 4) rfl dX12_otherwise_107 ?_
  refine j_callV (idx := 248) (As := [.int l3, .int l4]) (ci := 12) (n := 2) (k2 h1 p1) jint_nt (jlkT (jtb7 71 rfl) rfl) sX12_endAt kX12_endAt rfl ⟨rfl, by decide +kernel, by decide +kernel, by decide +kernel⟩ rfl ⟨by decide, by decide⟩ (Nat.le_of_ble_eq_true rfl) rfl (Nat.le_of_ble_eq_true rfl) (Nat.le_of_ble_eq_true rfl) ⟨Nat.zero_le _, Nat.zero_le _⟩ dX12_otherwise_109 (fun r Γ' h2 q => ?_)
  obtain ⟨x2, q0, rfl, p2⟩ := q; cases q0
  refine j_eqst [.int x2] (by rfl) ?_
  refine j_istore (i := 5) dX12_otherwise_112 (Nat.le_of_ble_eq_true rfl) ?_
  refine j_iload_n (i := 1) rfl dX12_otherwise_114 ?_
  refine j_if_ge (off := 10) 125 dX12_otherwise_115 (by decide) (fun c1 => ?_) (fun c1 => ?_)
  · exact j_le [some (.ref 159), some (.int l1), some (.int l2), some (.int l3), some (.int l4), some (.int x2)] (And.intro rfl (And.intro rfl (And.intro rfl (And.intro rfl (And.intro rfl (And.intro rfl True.intro)))))) (v1 h1 p1 x2 h2 p2 c1)
  · exact j_le [some (.ref 159), some (.int l1), some (.int l2), some (.int l3), some (.int l4), some (.int x2)] (And.intro rfl (And.intro rfl (And.intro rfl (And.intro rfl (And.intro rfl (And.intro rfl True.intro)))))) (v2 h1 p1 x2 h2 p2 c1)
set_option maxRecDepth 100000 in
theorem bX12_otherwise_118 {sc : Nat × (Nat → Int32)} {h : jH} {Q : jQ} {l1 l2 l3 l4 l5 : Int32} {P1 : jH → Prop}
    (k1 : JM mX12_plain [.ref 159] (jG0 sc) h (jvoid sc P1))
    (v1 : ∀ h1 : jH, P1 h1 → WP mX12_otherwise Q 130 [some (.ref 159), some (.int l1), some (.int l2), some (.int l3), some (.int l4), some (.int l5)] [] (jG0 sc) h1 (0, 0)) :
    WP mX12_otherwise Q 118 [some (.ref 159), some (.int l1), some (.int l2), some (.int l3), some (.int l4), some (.int l5)] [] (jG0 sc) h (0, 0) := by
  refine j_aload_n (i := 0) rfl dX12_otherwise_118 ?_
  refine j_callV (idx := 307) (As := []) (ci := 12) (n := 0) k1 jvoid_nt (jlkT (jtb7 192 rfl) rfl) sX12_plain kX12_plain rfl ⟨rfl, by decide +kernel, by decide +kernel, by decide +kernel⟩ rfl ⟨by decide, by decide⟩ (Nat.le_of_ble_eq_true rfl) rfl (Nat.le_of_ble_eq_true rfl) (Nat.le_of_ble_eq_true rfl) ⟨Nat.zero_le _, Nat.zero_le _⟩ dX12_otherwise_119 (fun r Γ' h1 q => ?_)
  obtain ⟨q0, rfl, p1⟩ := q; cases q0
  refine j_eqst [] (by rfl) ?_
  refine j_goto (off := 8) 130 dX12_otherwise_122 (by decide) ?_
  exact j_le [some (.ref 159), some (.int l1), some (.int l2), some (.int l3), some (.int l4), some (.int l5)] (And.intro rfl (And.intro rfl (And.intro rfl (And.intro rfl (And.intro rfl (And.intro rfl True.intro)))))) (v1 h1 p1)
set_option maxRecDepth 100000 in
theorem bX12_otherwise_125 {sc : Nat × (Nat → Int32)} {h : jH} {Q : jQ} {l1 l2 l3 l4 l5 : Int32} {P1 : jH → Prop}
    (k1 : JM mX12_laysAlive [.ref 159, .int l1] (jG0 sc) h (jvoid sc P1))
    (v1 : ∀ h1 : jH, P1 h1 → WP mX12_otherwise Q 130 [some (.ref 159), some (.int l1), some (.int l2), some (.int l3), some (.int l4), some (.int l5)] [] (jG0 sc) h1 (0, 0)) :
    WP mX12_otherwise Q 125 [some (.ref 159), some (.int l1), some (.int l2), some (.int l3), some (.int l4), some (.int l5)] [] (jG0 sc) h (0, 0) := by
  refine j_aload_n (i := 0) rfl dX12_otherwise_125 ?_
  refine j_iload_n (i := 1) rfl dX12_otherwise_126 ?_
  refine j_callV (idx := 347) (As := [.int l1]) (ci := 12) (n := 1) k1 jvoid_nt (jlkT (jtb7 235 rfl) rfl) sX12_laysAlive kX12_laysAlive rfl ⟨rfl, by decide +kernel, by decide +kernel, by decide +kernel⟩ rfl ⟨by decide, by decide⟩ (Nat.le_of_ble_eq_true rfl) rfl (Nat.le_of_ble_eq_true rfl) (Nat.le_of_ble_eq_true rfl) ⟨Nat.zero_le _, Nat.zero_le _⟩ dX12_otherwise_127 (fun r Γ' h1 q => ?_)
  obtain ⟨q0, rfl, p1⟩ := q; cases q0
  refine j_eqst [] (by rfl) ?_
  exact j_le [some (.ref 159), some (.int l1), some (.int l2), some (.int l3), some (.int l4), some (.int l5)] (And.intro rfl (And.intro rfl (And.intro rfl (And.intro rfl (And.intro rfl (And.intro rfl True.intro)))))) (v1 h1 p1)
set_option maxRecDepth 100000 in
theorem bX12_otherwise_130 {sc : Nat × (Nat → Int32)} {h : jH} {Q : jQ} {l1 l2 l3 l4 l5 : Int32} {P1 : Int32 → jH → Prop}
    (k1 : JM mX12_endAt [.ref 159, .int l3, .int l4] (jG0 sc) h (jint sc P1))
    (v1 : ∀ (x1 : Int32) (h1 : jH), P1 x1 h1 → x1 = l5 → WP mX12_otherwise Q 147 [some (.ref 159), some (.int l1), some (.int l2), some (.int l3), some (.int l4), some (.int l5)] [.int l2] (jG0 sc) h1 (0, 0))
    (v2 : ∀ (x1 : Int32) (h1 : jH), P1 x1 h1 → ¬ x1 = l5 → WP mX12_otherwise Q 143 [some (.ref 159), some (.int l1), some (.int l2), some (.int l3), some (.int l4), some (.int l5)] [.int l2] (jG0 sc) h1 (0, 0)) :
    WP mX12_otherwise Q 130 [some (.ref 159), some (.int l1), some (.int l2), some (.int l3), some (.int l4), some (.int l5)] [] (jG0 sc) h (0, 0) := by
  refine j_iload_n (i := 2) rfl dX12_otherwise_130 ?_
  refine j_aload_n (i := 0) rfl dX12_otherwise_131 ?_
  refine j_iload_n (i := 3) rfl dX12_otherwise_132 ?_
  refine j_iload (i := 4) rfl dX12_otherwise_133 ?_
  refine j_callV (idx := 248) (As := [.int l3, .int l4]) (ci := 12) (n := 2) k1 jint_nt (jlkT (jtb7 71 rfl) rfl) sX12_endAt kX12_endAt rfl ⟨rfl, by decide +kernel, by decide +kernel, by decide +kernel⟩ rfl ⟨by decide, by decide⟩ (Nat.le_of_ble_eq_true rfl) rfl (Nat.le_of_ble_eq_true rfl) (Nat.le_of_ble_eq_true rfl) ⟨Nat.zero_le _, Nat.zero_le _⟩ dX12_otherwise_135 (fun r Γ' h1 q => ?_)
  obtain ⟨x1, q0, rfl, p1⟩ := q; cases q0
  refine j_eqst [.int x1, .int l2] (by rfl) ?_
  refine j_iload (i := 5) rfl dX12_otherwise_138 ?_
  refine j_icmp_eq (off := 7) 147 dX12_otherwise_140 (by decide) (fun c1 => ?_) (fun c1 => ?_)
  · exact j_le [some (.ref 159), some (.int l1), some (.int l2), some (.int l3), some (.int l4), some (.int l5)] (And.intro rfl (And.intro rfl (And.intro rfl (And.intro rfl (And.intro rfl (And.intro rfl True.intro)))))) (v1 x1 h1 p1 c1)
  · exact j_le [some (.ref 159), some (.int l1), some (.int l2), some (.int l3), some (.int l4), some (.int l5)] (And.intro rfl (And.intro rfl (And.intro rfl (And.intro rfl (And.intro rfl (And.intro rfl True.intro)))))) (v2 x1 h1 p1 c1)
set_option maxRecDepth 100000 in
theorem bX12_otherwise_143 {sc : Nat × (Nat → Int32)} {h : jH} {Q : jQ} {l1 l2 l3 l4 l5 s0 : Int32}
    (v1 : WP mX12_otherwise Q 148 [some (.ref 159), some (.int l1), some (.int l2), some (.int l3), some (.int l4), some (.int l5)] [.int 1, .int s0] (jG0 sc) h (0, 0)) :
    WP mX12_otherwise Q 143 [some (.ref 159), some (.int l1), some (.int l2), some (.int l3), some (.int l4), some (.int l5)] [.int s0] (jG0 sc) h (0, 0) := by
  refine j_iconst (n := 1) 1 (by decide) dX12_otherwise_143 ?_
  refine j_goto (off := 4) 148 dX12_otherwise_144 (by decide) ?_
  exact j_le [some (.ref 159), some (.int l1), some (.int l2), some (.int l3), some (.int l4), some (.int l5)] (And.intro rfl (And.intro rfl (And.intro rfl (And.intro rfl (And.intro rfl (And.intro rfl True.intro)))))) v1
set_option maxRecDepth 100000 in
theorem bX12_otherwise_147 {sc : Nat × (Nat → Int32)} {h : jH} {Q : jQ} {l1 l2 l3 l4 l5 s0 : Int32}
    (v1 : WP mX12_otherwise Q 148 [some (.ref 159), some (.int l1), some (.int l2), some (.int l3), some (.int l4), some (.int l5)] [.int 0, .int s0] (jG0 sc) h (0, 0)) :
    WP mX12_otherwise Q 147 [some (.ref 159), some (.int l1), some (.int l2), some (.int l3), some (.int l4), some (.int l5)] [.int s0] (jG0 sc) h (0, 0) := by
  refine j_iconst (n := 0) 0 (by decide) dX12_otherwise_147 ?_
  exact j_le [some (.ref 159), some (.int l1), some (.int l2), some (.int l3), some (.int l4), some (.int l5)] (And.intro rfl (And.intro rfl (And.intro rfl (And.intro rfl (And.intro rfl (And.intro rfl True.intro)))))) v1
set_option maxRecDepth 100000 in
theorem bX12_otherwise_148 {sc : Nat × (Nat → Int32)} {h : jH} {Q : jQ} {l1 l2 l3 l4 l5 s0 s1 : Int32}
    (v1 : WP mX12_otherwise Q 86 [some (.ref 159), some (.int l1), some (.int (s1 + s0)), some (.int l3), some (.int (l4 + 1)), none] [] (jG0 sc) h (0, 0)) :
    WP mX12_otherwise Q 148 [some (.ref 159), some (.int l1), some (.int l2), some (.int l3), some (.int l4), some (.int l5)] [.int s0, .int s1] (jG0 sc) h (0, 0) := by
  refine j_iadd dX12_otherwise_148 ?_
  refine j_istore_n (i := 2) dX12_otherwise_149 (Nat.le_of_ble_eq_true rfl) ?_
  refine j_iinc (i := 4) (n := 1) rfl dX12_otherwise_150 (Nat.le_of_ble_eq_true rfl) ?_
  refine j_eqlv [some (.ref 159), some (.int l1), some (.int (s1 + s0)), some (.int l3), some (.int (l4 + 1)), some (.int l5)] rfl ?_
  refine j_goto (off := -67) 86 dX12_otherwise_153 (by decide) ?_
  exact j_le [some (.ref 159), some (.int l1), some (.int (s1 + s0)), some (.int l3), some (.int (l4 + 1)), none] (And.intro rfl (And.intro rfl (And.intro rfl (And.intro rfl (And.intro rfl True.intro))))) v1
set_option maxRecDepth 100000 in
theorem bX12_otherwise_156 {sc : Nat × (Nat → Int32)} {h : jH} {Q : jQ} {l1 l2 l3 l4 : Int32}
    (v1 : WP mX12_otherwise Q 71 [some (.ref 159), some (.int l1), some (.int l2), some (.int (l3 + 1)), none, none] [] (jG0 sc) h (0, 0)) :
    WP mX12_otherwise Q 156 [some (.ref 159), some (.int l1), some (.int l2), some (.int l3), some (.int l4), none] [] (jG0 sc) h (0, 0) := by
  refine j_iinc (i := 3) (n := 1) rfl dX12_otherwise_156 (Nat.le_of_ble_eq_true rfl) ?_
  refine j_eqlv [some (.ref 159), some (.int l1), some (.int l2), some (.int (l3 + 1)), some (.int l4), none] rfl ?_
  refine j_goto (off := -88) 71 dX12_otherwise_159 (by decide) ?_
  exact j_le [some (.ref 159), some (.int l1), some (.int l2), some (.int (l3 + 1)), none, none] (And.intro rfl (And.intro rfl (And.intro rfl (And.intro rfl True.intro)))) v1
set_option maxRecDepth 100000 in
theorem bX12_otherwise_162 {sc : Nat × (Nat → Int32)} {h : jH} {Q : jQ} {l1 l2 l3 : Int32}
    (v1 : Q (.inl (some (.int l2))) (jG0 sc) h) :
    WP mX12_otherwise Q 162 [some (.ref 159), some (.int l1), some (.int l2), some (.int l3), none, none] [] (jG0 sc) h (0, 0) := by
  refine j_iload_n (i := 2) rfl dX12_otherwise_162 ?_
  exact j_iret rfl rfl (Nat.zero_le _) (Nat.zero_le _) dX12_otherwise_163 v1
set_option maxRecDepth 100000 in
theorem rX12_otherwise_0 {sc : Nat × (Nat → Int32)} {h : jH} {Q : jQ} {l1 : Int32} {P1 : Int32 → jH → Prop} {P2 : Int32 → jH → Prop} {P3 : Int32 → jH → Prop} {P4 : jH → Prop} {P5 : Int32 → jH → Prop} {P6 : jH → Prop} {P7 : Int32 → jH → Prop} {P8 : jH → Prop} {P9 : Int32 → jH → Prop} {P10 : Int32 → jH → Prop} {P11 : Int32 → jH → Prop} {P12 : Int32 → jH → Prop} {P13 : jH → Prop} {P14 : Int32 → jH → Prop} {P15 : jH → Prop} {P16 : Int32 → jH → Prop} {P17 : jH → Prop} {P18 : Int32 → jH → Prop} {P19 : Int32 → jH → Prop} {P20 : Int32 → jH → Prop} {P21 : jH → Prop} {P22 : Int32 → jH → Prop} {P23 : jH → Prop} {P24 : Int32 → jH → Prop} {P25 : jH → Prop}
    (k1 : l1 = (-1) → JM mX12_throwsIf [.ref 159, .int 0, .int 1] (jG0 sc) (jput h 159 0 0) (jint sc P1))
    (v1 : l1 = (-1) → ∀ (x1 : Int32) (h1 : jH), P1 x1 h1 → ¬ x1 = 0 → Q (.inl (some (.int 0))) (jG0 sc) h1)
    (k2 : l1 = (-1) → ∀ (x1 : Int32) (h1 : jH), P1 x1 h1 → x1 = 0 → JM mX12_lines [.ref 159] (jG0 sc) h1 (jint sc P2))
    (k3 : l1 = (-1) → ∀ (x1 : Int32) (h1 : jH), P1 x1 h1 → x1 = 0 → ∀ (x2 : Int32) (h2 : jH), P2 x2 h2 → x2 = 0 → JM mX12_throwsIf [.ref 159, .int 1, .int 2] (jG0 sc) h2 (jint sc P3))
    (k4 : l1 = (-1) → ∀ (x1 : Int32) (h1 : jH), P1 x1 h1 → x1 = 0 → ∀ (x2 : Int32) (h2 : jH), P2 x2 h2 → x2 = 0 → ∀ (x3 : Int32) (h3 : jH), P3 x3 h3 → x3 = 0 → JM mX12_listsBody [.ref 159] (jG0 sc) h3 (jvoid sc P4))
    (v2 : l1 = (-1) → ∀ (x1 : Int32) (h1 : jH), P1 x1 h1 → x1 = 0 → ∀ (x2 : Int32) (h2 : jH), P2 x2 h2 → x2 = 0 → ∀ (x3 : Int32) (h3 : jH), P3 x3 h3 → x3 = 0 → ∀ h4 : jH, P4 h4 → WP mX12_otherwise Q 71 [some (.ref 159), some (.int l1), some (.int 0), some (.int 0), none, none] [] (jG0 sc) h4 (0, 0))
    (v3 : l1 = (-1) → ∀ (x1 : Int32) (h1 : jH), P1 x1 h1 → x1 = 0 → ∀ (x2 : Int32) (h2 : jH), P2 x2 h2 → x2 = 0 → ∀ (x3 : Int32) (h3 : jH), P3 x3 h3 → ¬ x3 = 0 → Q (.inl (some (.int 0))) (jG0 sc) h3)
    (k5 : l1 = (-1) → ∀ (x1 : Int32) (h1 : jH), P1 x1 h1 → x1 = 0 → ∀ (x2 : Int32) (h2 : jH), P2 x2 h2 → ¬ x2 = 0 → ¬ (h2 160 61) = 0 → JM mX12_throwsIf [.ref 159, .int 0, .int 2] (jG0 sc) h2 (jint sc P5))
    (k6 : l1 = (-1) → ∀ (x1 : Int32) (h1 : jH), P1 x1 h1 → x1 = 0 → ∀ (x2 : Int32) (h2 : jH), P2 x2 h2 → ¬ x2 = 0 → ¬ (h2 160 61) = 0 → ∀ (x5 : Int32) (h5 : jH), P5 x5 h5 → x5 = 0 → JM mX12_listsBody [.ref 159] (jG0 sc) h5 (jvoid sc P6))
    (v4 : l1 = (-1) → ∀ (x1 : Int32) (h1 : jH), P1 x1 h1 → x1 = 0 → ∀ (x2 : Int32) (h2 : jH), P2 x2 h2 → ¬ x2 = 0 → ¬ (h2 160 61) = 0 → ∀ (x5 : Int32) (h5 : jH), P5 x5 h5 → x5 = 0 → ∀ h6 : jH, P6 h6 → WP mX12_otherwise Q 71 [some (.ref 159), some (.int l1), some (.int 0), some (.int 0), none, none] [] (jG0 sc) h6 (0, 0))
    (v5 : l1 = (-1) → ∀ (x1 : Int32) (h1 : jH), P1 x1 h1 → x1 = 0 → ∀ (x2 : Int32) (h2 : jH), P2 x2 h2 → ¬ x2 = 0 → ¬ (h2 160 61) = 0 → ∀ (x5 : Int32) (h5 : jH), P5 x5 h5 → ¬ x5 = 0 → Q (.inl (some (.int 0))) (jG0 sc) h5)
    (k7 : l1 = (-1) → ∀ (x1 : Int32) (h1 : jH), P1 x1 h1 → x1 = 0 → ∀ (x2 : Int32) (h2 : jH), P2 x2 h2 → ¬ x2 = 0 → (h2 160 61) = 0 → JM mX12_throwsIf [.ref 159, .int 1, .int 2] (jG0 sc) h2 (jint sc P7))
    (k8 : l1 = (-1) → ∀ (x1 : Int32) (h1 : jH), P1 x1 h1 → x1 = 0 → ∀ (x2 : Int32) (h2 : jH), P2 x2 h2 → ¬ x2 = 0 → (h2 160 61) = 0 → ∀ (x7 : Int32) (h7 : jH), P7 x7 h7 → x7 = 0 → JM mX12_listsBody [.ref 159] (jG0 sc) h7 (jvoid sc P8))
    (v6 : l1 = (-1) → ∀ (x1 : Int32) (h1 : jH), P1 x1 h1 → x1 = 0 → ∀ (x2 : Int32) (h2 : jH), P2 x2 h2 → ¬ x2 = 0 → (h2 160 61) = 0 → ∀ (x7 : Int32) (h7 : jH), P7 x7 h7 → x7 = 0 → ∀ h8 : jH, P8 h8 → WP mX12_otherwise Q 71 [some (.ref 159), some (.int l1), some (.int 0), some (.int 0), none, none] [] (jG0 sc) h8 (0, 0))
    (v7 : l1 = (-1) → ∀ (x1 : Int32) (h1 : jH), P1 x1 h1 → x1 = 0 → ∀ (x2 : Int32) (h2 : jH), P2 x2 h2 → ¬ x2 = 0 → (h2 160 61) = 0 → ∀ (x7 : Int32) (h7 : jH), P7 x7 h7 → ¬ x7 = 0 → Q (.inl (some (.int 0))) (jG0 sc) h7)
    (k9 : ¬ l1 = (-1) → JM mX12_noAlive [.ref 159, .int l1] (jG0 sc) (jput h 159 0 0) (jint sc P9))
    (k10 : ¬ l1 = (-1) → ∀ (x9 : Int32) (h9 : jH), P9 x9 h9 → x9 = 0 → JM mX12_throwsIf [.ref 159, .int 0, .int 1] (jG0 sc) h9 (jint sc P10))
    (v8 : ¬ l1 = (-1) → ∀ (x9 : Int32) (h9 : jH), P9 x9 h9 → x9 = 0 → ∀ (x10 : Int32) (h10 : jH), P10 x10 h10 → ¬ x10 = 0 → Q (.inl (some (.int 0))) (jG0 sc) h10)
    (k11 : ¬ l1 = (-1) → ∀ (x9 : Int32) (h9 : jH), P9 x9 h9 → x9 = 0 → ∀ (x10 : Int32) (h10 : jH), P10 x10 h10 → x10 = 0 → JM mX12_lines [.ref 159] (jG0 sc) h10 (jint sc P11))
    (k12 : ¬ l1 = (-1) → ∀ (x9 : Int32) (h9 : jH), P9 x9 h9 → x9 = 0 → ∀ (x10 : Int32) (h10 : jH), P10 x10 h10 → x10 = 0 → ∀ (x11 : Int32) (h11 : jH), P11 x11 h11 → x11 = 0 → JM mX12_throwsIf [.ref 159, .int 1, .int 2] (jG0 sc) h11 (jint sc P12))
    (k13 : ¬ l1 = (-1) → ∀ (x9 : Int32) (h9 : jH), P9 x9 h9 → x9 = 0 → ∀ (x10 : Int32) (h10 : jH), P10 x10 h10 → x10 = 0 → ∀ (x11 : Int32) (h11 : jH), P11 x11 h11 → x11 = 0 → ∀ (x12 : Int32) (h12 : jH), P12 x12 h12 → x12 = 0 → JM mX12_listsBody [.ref 159] (jG0 sc) h12 (jvoid sc P13))
    (v9 : ¬ l1 = (-1) → ∀ (x9 : Int32) (h9 : jH), P9 x9 h9 → x9 = 0 → ∀ (x10 : Int32) (h10 : jH), P10 x10 h10 → x10 = 0 → ∀ (x11 : Int32) (h11 : jH), P11 x11 h11 → x11 = 0 → ∀ (x12 : Int32) (h12 : jH), P12 x12 h12 → x12 = 0 → ∀ h13 : jH, P13 h13 → WP mX12_otherwise Q 71 [some (.ref 159), some (.int l1), some (.int 0), some (.int 0), none, none] [] (jG0 sc) h13 (0, 0))
    (v10 : ¬ l1 = (-1) → ∀ (x9 : Int32) (h9 : jH), P9 x9 h9 → x9 = 0 → ∀ (x10 : Int32) (h10 : jH), P10 x10 h10 → x10 = 0 → ∀ (x11 : Int32) (h11 : jH), P11 x11 h11 → x11 = 0 → ∀ (x12 : Int32) (h12 : jH), P12 x12 h12 → ¬ x12 = 0 → Q (.inl (some (.int 0))) (jG0 sc) h12)
    (k14 : ¬ l1 = (-1) → ∀ (x9 : Int32) (h9 : jH), P9 x9 h9 → x9 = 0 → ∀ (x10 : Int32) (h10 : jH), P10 x10 h10 → x10 = 0 → ∀ (x11 : Int32) (h11 : jH), P11 x11 h11 → ¬ x11 = 0 → ¬ (h11 160 61) = 0 → JM mX12_throwsIf [.ref 159, .int 0, .int 2] (jG0 sc) h11 (jint sc P14))
    (k15 : ¬ l1 = (-1) → ∀ (x9 : Int32) (h9 : jH), P9 x9 h9 → x9 = 0 → ∀ (x10 : Int32) (h10 : jH), P10 x10 h10 → x10 = 0 → ∀ (x11 : Int32) (h11 : jH), P11 x11 h11 → ¬ x11 = 0 → ¬ (h11 160 61) = 0 → ∀ (x14 : Int32) (h14 : jH), P14 x14 h14 → x14 = 0 → JM mX12_listsBody [.ref 159] (jG0 sc) h14 (jvoid sc P15))
    (v11 : ¬ l1 = (-1) → ∀ (x9 : Int32) (h9 : jH), P9 x9 h9 → x9 = 0 → ∀ (x10 : Int32) (h10 : jH), P10 x10 h10 → x10 = 0 → ∀ (x11 : Int32) (h11 : jH), P11 x11 h11 → ¬ x11 = 0 → ¬ (h11 160 61) = 0 → ∀ (x14 : Int32) (h14 : jH), P14 x14 h14 → x14 = 0 → ∀ h15 : jH, P15 h15 → WP mX12_otherwise Q 71 [some (.ref 159), some (.int l1), some (.int 0), some (.int 0), none, none] [] (jG0 sc) h15 (0, 0))
    (v12 : ¬ l1 = (-1) → ∀ (x9 : Int32) (h9 : jH), P9 x9 h9 → x9 = 0 → ∀ (x10 : Int32) (h10 : jH), P10 x10 h10 → x10 = 0 → ∀ (x11 : Int32) (h11 : jH), P11 x11 h11 → ¬ x11 = 0 → ¬ (h11 160 61) = 0 → ∀ (x14 : Int32) (h14 : jH), P14 x14 h14 → ¬ x14 = 0 → Q (.inl (some (.int 0))) (jG0 sc) h14)
    (k16 : ¬ l1 = (-1) → ∀ (x9 : Int32) (h9 : jH), P9 x9 h9 → x9 = 0 → ∀ (x10 : Int32) (h10 : jH), P10 x10 h10 → x10 = 0 → ∀ (x11 : Int32) (h11 : jH), P11 x11 h11 → ¬ x11 = 0 → (h11 160 61) = 0 → JM mX12_throwsIf [.ref 159, .int 1, .int 2] (jG0 sc) h11 (jint sc P16))
    (k17 : ¬ l1 = (-1) → ∀ (x9 : Int32) (h9 : jH), P9 x9 h9 → x9 = 0 → ∀ (x10 : Int32) (h10 : jH), P10 x10 h10 → x10 = 0 → ∀ (x11 : Int32) (h11 : jH), P11 x11 h11 → ¬ x11 = 0 → (h11 160 61) = 0 → ∀ (x16 : Int32) (h16 : jH), P16 x16 h16 → x16 = 0 → JM mX12_listsBody [.ref 159] (jG0 sc) h16 (jvoid sc P17))
    (v13 : ¬ l1 = (-1) → ∀ (x9 : Int32) (h9 : jH), P9 x9 h9 → x9 = 0 → ∀ (x10 : Int32) (h10 : jH), P10 x10 h10 → x10 = 0 → ∀ (x11 : Int32) (h11 : jH), P11 x11 h11 → ¬ x11 = 0 → (h11 160 61) = 0 → ∀ (x16 : Int32) (h16 : jH), P16 x16 h16 → x16 = 0 → ∀ h17 : jH, P17 h17 → WP mX12_otherwise Q 71 [some (.ref 159), some (.int l1), some (.int 0), some (.int 0), none, none] [] (jG0 sc) h17 (0, 0))
    (v14 : ¬ l1 = (-1) → ∀ (x9 : Int32) (h9 : jH), P9 x9 h9 → x9 = 0 → ∀ (x10 : Int32) (h10 : jH), P10 x10 h10 → x10 = 0 → ∀ (x11 : Int32) (h11 : jH), P11 x11 h11 → ¬ x11 = 0 → (h11 160 61) = 0 → ∀ (x16 : Int32) (h16 : jH), P16 x16 h16 → ¬ x16 = 0 → Q (.inl (some (.int 0))) (jG0 sc) h16)
    (k18 : ¬ l1 = (-1) → ∀ (x9 : Int32) (h9 : jH), P9 x9 h9 → ¬ x9 = 0 → JM mX12_throwsIf [.ref 159, .int 1, .int 1] (jG0 sc) h9 (jint sc P18))
    (v15 : ¬ l1 = (-1) → ∀ (x9 : Int32) (h9 : jH), P9 x9 h9 → ¬ x9 = 0 → ∀ (x18 : Int32) (h18 : jH), P18 x18 h18 → ¬ x18 = 0 → Q (.inl (some (.int 0))) (jG0 sc) h18)
    (k19 : ¬ l1 = (-1) → ∀ (x9 : Int32) (h9 : jH), P9 x9 h9 → ¬ x9 = 0 → ∀ (x18 : Int32) (h18 : jH), P18 x18 h18 → x18 = 0 → JM mX12_lines [.ref 159] (jG0 sc) h18 (jint sc P19))
    (k20 : ¬ l1 = (-1) → ∀ (x9 : Int32) (h9 : jH), P9 x9 h9 → ¬ x9 = 0 → ∀ (x18 : Int32) (h18 : jH), P18 x18 h18 → x18 = 0 → ∀ (x19 : Int32) (h19 : jH), P19 x19 h19 → x19 = 0 → JM mX12_throwsIf [.ref 159, .int 1, .int 2] (jG0 sc) h19 (jint sc P20))
    (k21 : ¬ l1 = (-1) → ∀ (x9 : Int32) (h9 : jH), P9 x9 h9 → ¬ x9 = 0 → ∀ (x18 : Int32) (h18 : jH), P18 x18 h18 → x18 = 0 → ∀ (x19 : Int32) (h19 : jH), P19 x19 h19 → x19 = 0 → ∀ (x20 : Int32) (h20 : jH), P20 x20 h20 → x20 = 0 → JM mX12_listsBody [.ref 159] (jG0 sc) h20 (jvoid sc P21))
    (v16 : ¬ l1 = (-1) → ∀ (x9 : Int32) (h9 : jH), P9 x9 h9 → ¬ x9 = 0 → ∀ (x18 : Int32) (h18 : jH), P18 x18 h18 → x18 = 0 → ∀ (x19 : Int32) (h19 : jH), P19 x19 h19 → x19 = 0 → ∀ (x20 : Int32) (h20 : jH), P20 x20 h20 → x20 = 0 → ∀ h21 : jH, P21 h21 → WP mX12_otherwise Q 71 [some (.ref 159), some (.int l1), some (.int 0), some (.int 0), none, none] [] (jG0 sc) h21 (0, 0))
    (v17 : ¬ l1 = (-1) → ∀ (x9 : Int32) (h9 : jH), P9 x9 h9 → ¬ x9 = 0 → ∀ (x18 : Int32) (h18 : jH), P18 x18 h18 → x18 = 0 → ∀ (x19 : Int32) (h19 : jH), P19 x19 h19 → x19 = 0 → ∀ (x20 : Int32) (h20 : jH), P20 x20 h20 → ¬ x20 = 0 → Q (.inl (some (.int 0))) (jG0 sc) h20)
    (k22 : ¬ l1 = (-1) → ∀ (x9 : Int32) (h9 : jH), P9 x9 h9 → ¬ x9 = 0 → ∀ (x18 : Int32) (h18 : jH), P18 x18 h18 → x18 = 0 → ∀ (x19 : Int32) (h19 : jH), P19 x19 h19 → ¬ x19 = 0 → ¬ (h19 160 61) = 0 → JM mX12_throwsIf [.ref 159, .int 0, .int 2] (jG0 sc) h19 (jint sc P22))
    (k23 : ¬ l1 = (-1) → ∀ (x9 : Int32) (h9 : jH), P9 x9 h9 → ¬ x9 = 0 → ∀ (x18 : Int32) (h18 : jH), P18 x18 h18 → x18 = 0 → ∀ (x19 : Int32) (h19 : jH), P19 x19 h19 → ¬ x19 = 0 → ¬ (h19 160 61) = 0 → ∀ (x22 : Int32) (h22 : jH), P22 x22 h22 → x22 = 0 → JM mX12_listsBody [.ref 159] (jG0 sc) h22 (jvoid sc P23))
    (v18 : ¬ l1 = (-1) → ∀ (x9 : Int32) (h9 : jH), P9 x9 h9 → ¬ x9 = 0 → ∀ (x18 : Int32) (h18 : jH), P18 x18 h18 → x18 = 0 → ∀ (x19 : Int32) (h19 : jH), P19 x19 h19 → ¬ x19 = 0 → ¬ (h19 160 61) = 0 → ∀ (x22 : Int32) (h22 : jH), P22 x22 h22 → x22 = 0 → ∀ h23 : jH, P23 h23 → WP mX12_otherwise Q 71 [some (.ref 159), some (.int l1), some (.int 0), some (.int 0), none, none] [] (jG0 sc) h23 (0, 0))
    (v19 : ¬ l1 = (-1) → ∀ (x9 : Int32) (h9 : jH), P9 x9 h9 → ¬ x9 = 0 → ∀ (x18 : Int32) (h18 : jH), P18 x18 h18 → x18 = 0 → ∀ (x19 : Int32) (h19 : jH), P19 x19 h19 → ¬ x19 = 0 → ¬ (h19 160 61) = 0 → ∀ (x22 : Int32) (h22 : jH), P22 x22 h22 → ¬ x22 = 0 → Q (.inl (some (.int 0))) (jG0 sc) h22)
    (k24 : ¬ l1 = (-1) → ∀ (x9 : Int32) (h9 : jH), P9 x9 h9 → ¬ x9 = 0 → ∀ (x18 : Int32) (h18 : jH), P18 x18 h18 → x18 = 0 → ∀ (x19 : Int32) (h19 : jH), P19 x19 h19 → ¬ x19 = 0 → (h19 160 61) = 0 → JM mX12_throwsIf [.ref 159, .int 1, .int 2] (jG0 sc) h19 (jint sc P24))
    (k25 : ¬ l1 = (-1) → ∀ (x9 : Int32) (h9 : jH), P9 x9 h9 → ¬ x9 = 0 → ∀ (x18 : Int32) (h18 : jH), P18 x18 h18 → x18 = 0 → ∀ (x19 : Int32) (h19 : jH), P19 x19 h19 → ¬ x19 = 0 → (h19 160 61) = 0 → ∀ (x24 : Int32) (h24 : jH), P24 x24 h24 → x24 = 0 → JM mX12_listsBody [.ref 159] (jG0 sc) h24 (jvoid sc P25))
    (v20 : ¬ l1 = (-1) → ∀ (x9 : Int32) (h9 : jH), P9 x9 h9 → ¬ x9 = 0 → ∀ (x18 : Int32) (h18 : jH), P18 x18 h18 → x18 = 0 → ∀ (x19 : Int32) (h19 : jH), P19 x19 h19 → ¬ x19 = 0 → (h19 160 61) = 0 → ∀ (x24 : Int32) (h24 : jH), P24 x24 h24 → x24 = 0 → ∀ h25 : jH, P25 h25 → WP mX12_otherwise Q 71 [some (.ref 159), some (.int l1), some (.int 0), some (.int 0), none, none] [] (jG0 sc) h25 (0, 0))
    (v21 : ¬ l1 = (-1) → ∀ (x9 : Int32) (h9 : jH), P9 x9 h9 → ¬ x9 = 0 → ∀ (x18 : Int32) (h18 : jH), P18 x18 h18 → x18 = 0 → ∀ (x19 : Int32) (h19 : jH), P19 x19 h19 → ¬ x19 = 0 → (h19 160 61) = 0 → ∀ (x24 : Int32) (h24 : jH), P24 x24 h24 → ¬ x24 = 0 → Q (.inl (some (.int 0))) (jG0 sc) h24) :
    WP mX12_otherwise Q 0 [some (.ref 159), some (.int l1), none, none, none, none] [] (jG0 sc) h (0, 0) := by
  exact (bX12_otherwise_0 (fun c1 => (bX12_otherwise_23 (bX12_otherwise_24 (k1 c1) (fun x1 h1 p1 c2 => (bX12_otherwise_61 (v1 c1 x1 h1 p1 c2))) (fun x1 h1 p1 c2 => (bX12_otherwise_31 (k2 c1 x1 h1 p1 c2) (fun x2 h2 p2 c3 => (bX12_otherwise_49 (bX12_otherwise_54 (k3 c1 x1 h1 p1 c2 x2 h2 p2 c3) (fun x3 h3 p3 c4 => (bX12_otherwise_63 (k4 c1 x1 h1 p1 c2 x2 h2 p2 c3 x3 h3 p3 c4) (fun h4 p4 => (v2 c1 x1 h1 p1 c2 x2 h2 p2 c3 x3 h3 p3 c4 h4 p4)))) (fun x3 h3 p3 c4 => (bX12_otherwise_61 (v3 c1 x1 h1 p1 c2 x2 h2 p2 c3 x3 h3 p3 c4)))))) (fun x2 h2 p2 c3 => (bX12_otherwise_39 (fun c5 => (bX12_otherwise_53 (bX12_otherwise_54 (k5 c1 x1 h1 p1 c2 x2 h2 p2 c3 c5) (fun x5 h5 p5 c6 => (bX12_otherwise_63 (k6 c1 x1 h1 p1 c2 x2 h2 p2 c3 c5 x5 h5 p5 c6) (fun h6 p6 => (v4 c1 x1 h1 p1 c2 x2 h2 p2 c3 c5 x5 h5 p5 c6 h6 p6)))) (fun x5 h5 p5 c6 => (bX12_otherwise_61 (v5 c1 x1 h1 p1 c2 x2 h2 p2 c3 c5 x5 h5 p5 c6)))))) (fun c5 => (bX12_otherwise_49 (bX12_otherwise_54 (k7 c1 x1 h1 p1 c2 x2 h2 p2 c3 c5) (fun x7 h7 p7 c7 => (bX12_otherwise_63 (k8 c1 x1 h1 p1 c2 x2 h2 p2 c3 c5 x7 h7 p7 c7) (fun h8 p8 => (v6 c1 x1 h1 p1 c2 x2 h2 p2 c3 c5 x7 h7 p7 c7 h8 p8)))) (fun x7 h7 p7 c7 => (bX12_otherwise_61 (v7 c1 x1 h1 p1 c2 x2 h2 p2 c3 c5 x7 h7 p7 c7))))))))))))) (fun c1 => (bX12_otherwise_11 (k9 c1) (fun x9 h9 p9 c8 => (bX12_otherwise_23 (bX12_otherwise_24 (k10 c1 x9 h9 p9 c8) (fun x10 h10 p10 c9 => (bX12_otherwise_61 (v8 c1 x9 h9 p9 c8 x10 h10 p10 c9))) (fun x10 h10 p10 c9 => (bX12_otherwise_31 (k11 c1 x9 h9 p9 c8 x10 h10 p10 c9) (fun x11 h11 p11 c10 => (bX12_otherwise_49 (bX12_otherwise_54 (k12 c1 x9 h9 p9 c8 x10 h10 p10 c9 x11 h11 p11 c10) (fun x12 h12 p12 c11 => (bX12_otherwise_63 (k13 c1 x9 h9 p9 c8 x10 h10 p10 c9 x11 h11 p11 c10 x12 h12 p12 c11) (fun h13 p13 => (v9 c1 x9 h9 p9 c8 x10 h10 p10 c9 x11 h11 p11 c10 x12 h12 p12 c11 h13 p13)))) (fun x12 h12 p12 c11 => (bX12_otherwise_61 (v10 c1 x9 h9 p9 c8 x10 h10 p10 c9 x11 h11 p11 c10 x12 h12 p12 c11)))))) (fun x11 h11 p11 c10 => (bX12_otherwise_39 (fun c12 => (bX12_otherwise_53 (bX12_otherwise_54 (k14 c1 x9 h9 p9 c8 x10 h10 p10 c9 x11 h11 p11 c10 c12) (fun x14 h14 p14 c13 => (bX12_otherwise_63 (k15 c1 x9 h9 p9 c8 x10 h10 p10 c9 x11 h11 p11 c10 c12 x14 h14 p14 c13) (fun h15 p15 => (v11 c1 x9 h9 p9 c8 x10 h10 p10 c9 x11 h11 p11 c10 c12 x14 h14 p14 c13 h15 p15)))) (fun x14 h14 p14 c13 => (bX12_otherwise_61 (v12 c1 x9 h9 p9 c8 x10 h10 p10 c9 x11 h11 p11 c10 c12 x14 h14 p14 c13)))))) (fun c12 => (bX12_otherwise_49 (bX12_otherwise_54 (k16 c1 x9 h9 p9 c8 x10 h10 p10 c9 x11 h11 p11 c10 c12) (fun x16 h16 p16 c14 => (bX12_otherwise_63 (k17 c1 x9 h9 p9 c8 x10 h10 p10 c9 x11 h11 p11 c10 c12 x16 h16 p16 c14) (fun h17 p17 => (v13 c1 x9 h9 p9 c8 x10 h10 p10 c9 x11 h11 p11 c10 c12 x16 h16 p16 c14 h17 p17)))) (fun x16 h16 p16 c14 => (bX12_otherwise_61 (v14 c1 x9 h9 p9 c8 x10 h10 p10 c9 x11 h11 p11 c10 c12 x16 h16 p16 c14))))))))))))) (fun x9 h9 p9 c8 => (bX12_otherwise_19 (bX12_otherwise_24 (k18 c1 x9 h9 p9 c8) (fun x18 h18 p18 c15 => (bX12_otherwise_61 (v15 c1 x9 h9 p9 c8 x18 h18 p18 c15))) (fun x18 h18 p18 c15 => (bX12_otherwise_31 (k19 c1 x9 h9 p9 c8 x18 h18 p18 c15) (fun x19 h19 p19 c16 => (bX12_otherwise_49 (bX12_otherwise_54 (k20 c1 x9 h9 p9 c8 x18 h18 p18 c15 x19 h19 p19 c16) (fun x20 h20 p20 c17 => (bX12_otherwise_63 (k21 c1 x9 h9 p9 c8 x18 h18 p18 c15 x19 h19 p19 c16 x20 h20 p20 c17) (fun h21 p21 => (v16 c1 x9 h9 p9 c8 x18 h18 p18 c15 x19 h19 p19 c16 x20 h20 p20 c17 h21 p21)))) (fun x20 h20 p20 c17 => (bX12_otherwise_61 (v17 c1 x9 h9 p9 c8 x18 h18 p18 c15 x19 h19 p19 c16 x20 h20 p20 c17)))))) (fun x19 h19 p19 c16 => (bX12_otherwise_39 (fun c18 => (bX12_otherwise_53 (bX12_otherwise_54 (k22 c1 x9 h9 p9 c8 x18 h18 p18 c15 x19 h19 p19 c16 c18) (fun x22 h22 p22 c19 => (bX12_otherwise_63 (k23 c1 x9 h9 p9 c8 x18 h18 p18 c15 x19 h19 p19 c16 c18 x22 h22 p22 c19) (fun h23 p23 => (v18 c1 x9 h9 p9 c8 x18 h18 p18 c15 x19 h19 p19 c16 c18 x22 h22 p22 c19 h23 p23)))) (fun x22 h22 p22 c19 => (bX12_otherwise_61 (v19 c1 x9 h9 p9 c8 x18 h18 p18 c15 x19 h19 p19 c16 c18 x22 h22 p22 c19)))))) (fun c18 => (bX12_otherwise_49 (bX12_otherwise_54 (k24 c1 x9 h9 p9 c8 x18 h18 p18 c15 x19 h19 p19 c16 c18) (fun x24 h24 p24 c20 => (bX12_otherwise_63 (k25 c1 x9 h9 p9 c8 x18 h18 p18 c15 x19 h19 p19 c16 c18 x24 h24 p24 c20) (fun h25 p25 => (v20 c1 x9 h9 p9 c8 x18 h18 p18 c15 x19 h19 p19 c16 c18 x24 h24 p24 c20 h25 p25)))) (fun x24 h24 p24 c20 => (bX12_otherwise_61 (v21 c1 x9 h9 p9 c8 x18 h18 p18 c15 x19 h19 p19 c16 c18 x24 h24 p24 c20))))))))))))))))
set_option maxRecDepth 100000 in
theorem rX12_otherwise_71 {sc : Nat × (Nat → Int32)} {h : jH} {Q : jQ} {l1 l2 l3 : Int32}
    (v1 : (h 160 285) < l3 → Q (.inl (some (.int l2))) (jG0 sc) h)
    (v2 : ¬ (h 160 285) < l3 → WP mX12_otherwise Q 86 [some (.ref 159), some (.int l1), some (.int l2), some (.int l3), some (.int 0), none] [] (jG0 sc) h (0, 0)) :
    WP mX12_otherwise Q 71 [some (.ref 159), some (.int l1), some (.int l2), some (.int l3), none, none] [] (jG0 sc) h (0, 0) := by
  exact (bX12_otherwise_71 (fun c1 => (bX12_otherwise_162 (v1 c1))) (fun c1 => (bX12_otherwise_83 (v2 c1))))
set_option maxRecDepth 100000 in
theorem rX12_otherwise_86 {sc : Nat × (Nat → Int32)} {h : jH} {Q : jQ} {l1 l2 l3 l4 : Int32} {P1 : jH → Prop} {P2 : Int32 → jH → Prop} {P3 : jH → Prop} {P4 : Int32 → jH → Prop} {P5 : jH → Prop} {P6 : Int32 → jH → Prop}
    (v1 : (h 160 285) < l4 → WP mX12_otherwise Q 71 [some (.ref 159), some (.int l1), some (.int l2), some (.int (l3 + 1)), none, none] [] (jG0 sc) h (0, 0))
    (k1 : ¬ (h 160 285) < l4 → JM mX12_lays [.ref 159, .int 61] (jG0 sc) h (jvoid sc P1))
    (k2 : ¬ (h 160 285) < l4 → ∀ h1 : jH, P1 h1 → JM mX12_endAt [.ref 159, .int l3, .int l4] (jG0 sc) h1 (jint sc P2))
    (k3 : ¬ (h 160 285) < l4 → ∀ h1 : jH, P1 h1 → ∀ (x2 : Int32) (h2 : jH), P2 x2 h2 → 0 ≤ l1 → JM mX12_laysAlive [.ref 159, .int l1] (jG0 sc) h2 (jvoid sc P3))
    (k4 : ¬ (h 160 285) < l4 → ∀ h1 : jH, P1 h1 → ∀ (x2 : Int32) (h2 : jH), P2 x2 h2 → 0 ≤ l1 → ∀ h3 : jH, P3 h3 → JM mX12_endAt [.ref 159, .int l3, .int l4] (jG0 sc) h3 (jint sc P4))
    (v2 : ¬ (h 160 285) < l4 → ∀ h1 : jH, P1 h1 → ∀ (x2 : Int32) (h2 : jH), P2 x2 h2 → 0 ≤ l1 → ∀ h3 : jH, P3 h3 → ∀ (x4 : Int32) (h4 : jH), P4 x4 h4 → x4 = x2 → WP mX12_otherwise Q 86 [some (.ref 159), some (.int l1), some (.int (l2 + 0)), some (.int l3), some (.int (l4 + 1)), none] [] (jG0 sc) h4 (0, 0))
    (v3 : ¬ (h 160 285) < l4 → ∀ h1 : jH, P1 h1 → ∀ (x2 : Int32) (h2 : jH), P2 x2 h2 → 0 ≤ l1 → ∀ h3 : jH, P3 h3 → ∀ (x4 : Int32) (h4 : jH), P4 x4 h4 → ¬ x4 = x2 → WP mX12_otherwise Q 86 [some (.ref 159), some (.int l1), some (.int (l2 + 1)), some (.int l3), some (.int (l4 + 1)), none] [] (jG0 sc) h4 (0, 0))
    (k5 : ¬ (h 160 285) < l4 → ∀ h1 : jH, P1 h1 → ∀ (x2 : Int32) (h2 : jH), P2 x2 h2 → ¬ 0 ≤ l1 → JM mX12_plain [.ref 159] (jG0 sc) h2 (jvoid sc P5))
    (k6 : ¬ (h 160 285) < l4 → ∀ h1 : jH, P1 h1 → ∀ (x2 : Int32) (h2 : jH), P2 x2 h2 → ¬ 0 ≤ l1 → ∀ h5 : jH, P5 h5 → JM mX12_endAt [.ref 159, .int l3, .int l4] (jG0 sc) h5 (jint sc P6))
    (v4 : ¬ (h 160 285) < l4 → ∀ h1 : jH, P1 h1 → ∀ (x2 : Int32) (h2 : jH), P2 x2 h2 → ¬ 0 ≤ l1 → ∀ h5 : jH, P5 h5 → ∀ (x6 : Int32) (h6 : jH), P6 x6 h6 → x6 = x2 → WP mX12_otherwise Q 86 [some (.ref 159), some (.int l1), some (.int (l2 + 0)), some (.int l3), some (.int (l4 + 1)), none] [] (jG0 sc) h6 (0, 0))
    (v5 : ¬ (h 160 285) < l4 → ∀ h1 : jH, P1 h1 → ∀ (x2 : Int32) (h2 : jH), P2 x2 h2 → ¬ 0 ≤ l1 → ∀ h5 : jH, P5 h5 → ∀ (x6 : Int32) (h6 : jH), P6 x6 h6 → ¬ x6 = x2 → WP mX12_otherwise Q 86 [some (.ref 159), some (.int l1), some (.int (l2 + 1)), some (.int l3), some (.int (l4 + 1)), none] [] (jG0 sc) h6 (0, 0)) :
    WP mX12_otherwise Q 86 [some (.ref 159), some (.int l1), some (.int l2), some (.int l3), some (.int l4), none] [] (jG0 sc) h (0, 0) := by
  exact (bX12_otherwise_86 (fun c1 => (bX12_otherwise_156 (v1 c1))) (fun c1 => (bX12_otherwise_99 (k1 c1) (fun h1 p1 => (k2 c1 h1 p1)) (fun h1 p1 x2 h2 p2 c2 => (bX12_otherwise_125 (k3 c1 h1 p1 x2 h2 p2 c2) (fun h3 p3 => (bX12_otherwise_130 (k4 c1 h1 p1 x2 h2 p2 c2 h3 p3) (fun x4 h4 p4 c3 => (bX12_otherwise_147 (bX12_otherwise_148 (v2 c1 h1 p1 x2 h2 p2 c2 h3 p3 x4 h4 p4 c3)))) (fun x4 h4 p4 c3 => (bX12_otherwise_143 (bX12_otherwise_148 (v3 c1 h1 p1 x2 h2 p2 c2 h3 p3 x4 h4 p4 c3)))))))) (fun h1 p1 x2 h2 p2 c2 => (bX12_otherwise_118 (k5 c1 h1 p1 x2 h2 p2 c2) (fun h5 p5 => (bX12_otherwise_130 (k6 c1 h1 p1 x2 h2 p2 c2 h5 p5) (fun x6 h6 p6 c4 => (bX12_otherwise_147 (bX12_otherwise_148 (v4 c1 h1 p1 x2 h2 p2 c2 h5 p5 x6 h6 p6 c4)))) (fun x6 h6 p6 c4 => (bX12_otherwise_143 (bX12_otherwise_148 (v5 c1 h1 p1 x2 h2 p2 c2 h5 p5 x6 h6 p6 c4)))))))))))
theorem dX12_heaps_0 : decode (mC mX12_heaps) 0 = .ok (.aload_n 0, 1) := by decide +kernel
theorem dX12_heaps_1 : decode (mC mX12_heaps) 1 = .ok (.iconst 0, 1) := by decide +kernel
theorem dX12_heaps_2 : decode (mC mX12_heaps) 2 = .ok (.putfield 3, 3) := by decide +kernel
theorem dX12_heaps_5 : decode (mC mX12_heaps) 5 = .ok (.aload_n 0, 1) := by decide +kernel
theorem dX12_heaps_6 : decode (mC mX12_heaps) 6 = .ok (.aload_n 0, 1) := by decide +kernel
theorem dX12_heaps_7 : decode (mC mX12_heaps) 7 = .ok (.invokevirtual 265, 3) := by decide +kernel
theorem dX12_heaps_10 : decode (mC mX12_heaps) 10 = .ok (.ifCond .ne 7, 3) := by decide +kernel
theorem dX12_heaps_13 : decode (mC mX12_heaps) 13 = .ok (.iconst 1, 1) := by decide +kernel
theorem dX12_heaps_14 : decode (mC mX12_heaps) 14 = .ok (.goto 4, 3) := by decide +kernel
theorem dX12_heaps_17 : decode (mC mX12_heaps) 17 = .ok (.iconst 0, 1) := by decide +kernel
theorem dX12_heaps_18 : decode (mC mX12_heaps) 18 = .ok (.iconst 1, 1) := by decide +kernel
theorem dX12_heaps_19 : decode (mC mX12_heaps) 19 = .ok (.invokevirtual 157, 3) := by decide +kernel
theorem dX12_heaps_22 : decode (mC mX12_heaps) 22 = .ok (.ifCond .eq 5, 3) := by decide +kernel
theorem dX12_heaps_25 : decode (mC mX12_heaps) 25 = .ok (.iconst 0, 1) := by decide +kernel
theorem dX12_heaps_26 : decode (mC mX12_heaps) 26 = .ok (.ireturn, 1) := by decide +kernel
theorem dX12_heaps_27 : decode (mC mX12_heaps) 27 = .ok (.aload_n 0, 1) := by decide +kernel
theorem dX12_heaps_28 : decode (mC mX12_heaps) 28 = .ok (.invokevirtual 319, 3) := by decide +kernel
theorem dX12_heaps_31 : decode (mC mX12_heaps) 31 = .ok (.aload_n 0, 1) := by decide +kernel
theorem dX12_heaps_32 : decode (mC mX12_heaps) 32 = .ok (.invokevirtual 307, 3) := by decide +kernel
theorem dX12_heaps_35 : decode (mC mX12_heaps) 35 = .ok (.iconst 0, 1) := by decide +kernel
theorem dX12_heaps_36 : decode (mC mX12_heaps) 36 = .ok (.istore_n 1, 1) := by decide +kernel
theorem dX12_heaps_37 : decode (mC mX12_heaps) 37 = .ok (.iconst 0, 1) := by decide +kernel
theorem dX12_heaps_38 : decode (mC mX12_heaps) 38 = .ok (.istore_n 2, 1) := by decide +kernel
theorem dX12_heaps_39 : decode (mC mX12_heaps) 39 = .ok (.iload_n 2, 1) := by decide +kernel
theorem dX12_heaps_40 : decode (mC mX12_heaps) 40 = .ok (.aload_n 0, 1) := by decide +kernel
theorem dX12_heaps_41 : decode (mC mX12_heaps) 41 = .ok (.getfield 13, 3) := by decide +kernel
theorem dX12_heaps_44 : decode (mC mX12_heaps) 44 = .ok (.bipush 122, 2) := by decide +kernel
theorem dX12_heaps_46 : decode (mC mX12_heaps) 46 = .ok (.iaload, 1) := by decide +kernel
theorem dX12_heaps_47 : decode (mC mX12_heaps) 47 = .ok (.if_icmp .ge 27, 3) := by decide +kernel
theorem dX12_heaps_50 : decode (mC mX12_heaps) 50 = .ok (.iload_n 1, 1) := by decide +kernel
theorem dX12_heaps_51 : decode (mC mX12_heaps) 51 = .ok (.aload_n 0, 1) := by decide +kernel
theorem dX12_heaps_52 : decode (mC mX12_heaps) 52 = .ok (.iload_n 2, 1) := by decide +kernel
theorem dX12_heaps_53 : decode (mC mX12_heaps) 53 = .ok (.invokevirtual 268, 3) := by decide +kernel
theorem dX12_heaps_56 : decode (mC mX12_heaps) 56 = .ok (.ifCond .eq 7, 3) := by decide +kernel
theorem dX12_heaps_59 : decode (mC mX12_heaps) 59 = .ok (.iconst 0, 1) := by decide +kernel
theorem dX12_heaps_60 : decode (mC mX12_heaps) 60 = .ok (.goto 6, 3) := by decide +kernel
theorem dX12_heaps_63 : decode (mC mX12_heaps) 63 = .ok (.iconst 1, 1) := by decide +kernel
theorem dX12_heaps_64 : decode (mC mX12_heaps) 64 = .ok (.iload_n 2, 1) := by decide +kernel
theorem dX12_heaps_65 : decode (mC mX12_heaps) 65 = .ok (.ishl, 1) := by decide +kernel
theorem dX12_heaps_66 : decode (mC mX12_heaps) 66 = .ok (.ior, 1) := by decide +kernel
theorem dX12_heaps_67 : decode (mC mX12_heaps) 67 = .ok (.istore_n 1, 1) := by decide +kernel
theorem dX12_heaps_68 : decode (mC mX12_heaps) 68 = .ok (.iinc 2 1, 3) := by decide +kernel
theorem dX12_heaps_71 : decode (mC mX12_heaps) 71 = .ok (.goto (-32), 3) := by decide +kernel
theorem dX12_heaps_74 : decode (mC mX12_heaps) 74 = .ok (.iconst 0, 1) := by decide +kernel
theorem dX12_heaps_75 : decode (mC mX12_heaps) 75 = .ok (.istore_n 2, 1) := by decide +kernel
theorem dX12_heaps_76 : decode (mC mX12_heaps) 76 = .ok (.iload_n 2, 1) := by decide +kernel
theorem dX12_heaps_77 : decode (mC mX12_heaps) 77 = .ok (.sipush 4096, 3) := by decide +kernel
theorem dX12_heaps_80 : decode (mC mX12_heaps) 80 = .ok (.if_icmp .ge 24, 3) := by decide +kernel
theorem dX12_heaps_83 : decode (mC mX12_heaps) 83 = .ok (.aload_n 0, 1) := by decide +kernel
theorem dX12_heaps_84 : decode (mC mX12_heaps) 84 = .ok (.getfield 63, 3) := by decide +kernel
theorem dX12_heaps_87 : decode (mC mX12_heaps) 87 = .ok (.iload_n 2, 1) := by decide +kernel
theorem dX12_heaps_88 : decode (mC mX12_heaps) 88 = .ok (.iload_n 2, 1) := by decide +kernel
theorem dX12_heaps_89 : decode (mC mX12_heaps) 89 = .ok (.ifCond .ne 7, 3) := by decide +kernel
theorem dX12_heaps_92 : decode (mC mX12_heaps) 92 = .ok (.iconst 0, 1) := by decide +kernel
theorem dX12_heaps_93 : decode (mC mX12_heaps) 93 = .ok (.goto 4, 3) := by decide +kernel
theorem dX12_heaps_96 : decode (mC mX12_heaps) 96 = .ok (.iconst (-1), 1) := by decide +kernel
theorem dX12_heaps_97 : decode (mC mX12_heaps) 97 = .ok (.iastore, 1) := by decide +kernel
theorem dX12_heaps_98 : decode (mC mX12_heaps) 98 = .ok (.iinc 2 1, 3) := by decide +kernel
theorem dX12_heaps_101 : decode (mC mX12_heaps) 101 = .ok (.goto (-25), 3) := by decide +kernel
theorem dX12_heaps_104 : decode (mC mX12_heaps) 104 = .ok (.iconst 0, 1) := by decide +kernel
theorem dX12_heaps_105 : decode (mC mX12_heaps) 105 = .ok (.istore_n 2, 1) := by decide +kernel
theorem dX12_heaps_106 : decode (mC mX12_heaps) 106 = .ok (.iload_n 2, 1) := by decide +kernel
theorem dX12_heaps_107 : decode (mC mX12_heaps) 107 = .ok (.aload_n 0, 1) := by decide +kernel
theorem dX12_heaps_108 : decode (mC mX12_heaps) 108 = .ok (.getfield 290, 3) := by decide +kernel
theorem dX12_heaps_111 : decode (mC mX12_heaps) 111 = .ok (.if_icmp .ge 115, 3) := by decide +kernel
theorem dX12_heaps_114 : decode (mC mX12_heaps) 114 = .ok (.aload_n 0, 1) := by decide +kernel
theorem dX12_heaps_115 : decode (mC mX12_heaps) 115 = .ok (.iload_n 2, 1) := by decide +kernel
theorem dX12_heaps_116 : decode (mC mX12_heaps) 116 = .ok (.iconst 0, 1) := by decide +kernel
theorem dX12_heaps_117 : decode (mC mX12_heaps) 117 = .ok (.invokevirtual 325, 3) := by decide +kernel
theorem dX12_heaps_120 : decode (mC mX12_heaps) 120 = .ok (.ifCond .eq 6, 3) := by decide +kernel
theorem dX12_heaps_123 : decode (mC mX12_heaps) 123 = .ok (.goto 97, 3) := by decide +kernel
theorem dX12_heaps_126 : decode (mC mX12_heaps) 126 = .ok (.aload_n 0, 1) := by decide +kernel
theorem dX12_heaps_127 : decode (mC mX12_heaps) 127 = .ok (.iload_n 2, 1) := by decide +kernel
theorem dX12_heaps_128 : decode (mC mX12_heaps) 128 = .ok (.iconst 1, 1) := by decide +kernel
theorem dX12_heaps_129 : decode (mC mX12_heaps) 129 = .ok (.invokevirtual 325, 3) := by decide +kernel
theorem dX12_heaps_132 : decode (mC mX12_heaps) 132 = .ok (.istore_n 3, 1) := by decide +kernel
theorem dX12_heaps_133 : decode (mC mX12_heaps) 133 = .ok (.sipush 4095, 3) := by decide +kernel
theorem dX12_heaps_136 : decode (mC mX12_heaps) 136 = .ok (.istore 4, 2) := by decide +kernel
theorem dX12_heaps_138 : decode (mC mX12_heaps) 138 = .ok (.iload 4, 2) := by decide +kernel
theorem dX12_heaps_140 : decode (mC mX12_heaps) 140 = .ok (.ifCond .lt 80, 3) := by decide +kernel
theorem dX12_heaps_143 : decode (mC mX12_heaps) 143 = .ok (.aload_n 0, 1) := by decide +kernel
theorem dX12_heaps_144 : decode (mC mX12_heaps) 144 = .ok (.getfield 63, 3) := by decide +kernel
theorem dX12_heaps_147 : decode (mC mX12_heaps) 147 = .ok (.iload 4, 2) := by decide +kernel
theorem dX12_heaps_149 : decode (mC mX12_heaps) 149 = .ok (.iaload, 1) := by decide +kernel
theorem dX12_heaps_150 : decode (mC mX12_heaps) 150 = .ok (.ifCond .ge 6, 3) := by decide +kernel
theorem dX12_heaps_153 : decode (mC mX12_heaps) 153 = .ok (.goto 61, 3) := by decide +kernel
theorem dX12_heaps_156 : decode (mC mX12_heaps) 156 = .ok (.iload 4, 2) := by decide +kernel
theorem dX12_heaps_158 : decode (mC mX12_heaps) 158 = .ok (.iload_n 3, 1) := by decide +kernel
theorem dX12_heaps_159 : decode (mC mX12_heaps) 159 = .ok (.ior, 1) := by decide +kernel
theorem dX12_heaps_160 : decode (mC mX12_heaps) 160 = .ok (.istore 5, 2) := by decide +kernel
theorem dX12_heaps_162 : decode (mC mX12_heaps) 162 = .ok (.iload 5, 2) := by decide +kernel
theorem dX12_heaps_164 : decode (mC mX12_heaps) 164 = .ok (.iload 4, 2) := by decide +kernel
theorem dX12_heaps_166 : decode (mC mX12_heaps) 166 = .ok (.if_icmp .eq 48, 3) := by decide +kernel
theorem dX12_heaps_169 : decode (mC mX12_heaps) 169 = .ok (.aload_n 0, 1) := by decide +kernel
theorem dX12_heaps_170 : decode (mC mX12_heaps) 170 = .ok (.getfield 63, 3) := by decide +kernel
theorem dX12_heaps_173 : decode (mC mX12_heaps) 173 = .ok (.iload 5, 2) := by decide +kernel
theorem dX12_heaps_175 : decode (mC mX12_heaps) 175 = .ok (.iaload, 1) := by decide +kernel
theorem dX12_heaps_176 : decode (mC mX12_heaps) 176 = .ok (.ifCond .lt 22, 3) := by decide +kernel
theorem dX12_heaps_179 : decode (mC mX12_heaps) 179 = .ok (.aload_n 0, 1) := by decide +kernel
theorem dX12_heaps_180 : decode (mC mX12_heaps) 180 = .ok (.getfield 63, 3) := by decide +kernel
theorem dX12_heaps_183 : decode (mC mX12_heaps) 183 = .ok (.iload 5, 2) := by decide +kernel
theorem dX12_heaps_185 : decode (mC mX12_heaps) 185 = .ok (.iaload, 1) := by decide +kernel
theorem dX12_heaps_186 : decode (mC mX12_heaps) 186 = .ok (.aload_n 0, 1) := by decide +kernel
theorem dX12_heaps_187 : decode (mC mX12_heaps) 187 = .ok (.getfield 63, 3) := by decide +kernel
theorem dX12_heaps_190 : decode (mC mX12_heaps) 190 = .ok (.iload 4, 2) := by decide +kernel
theorem dX12_heaps_192 : decode (mC mX12_heaps) 192 = .ok (.iaload, 1) := by decide +kernel
theorem dX12_heaps_193 : decode (mC mX12_heaps) 193 = .ok (.iconst 1, 1) := by decide +kernel
theorem dX12_heaps_194 : decode (mC mX12_heaps) 194 = .ok (.iadd, 1) := by decide +kernel
theorem dX12_heaps_195 : decode (mC mX12_heaps) 195 = .ok (.if_icmp .le 19, 3) := by decide +kernel
theorem dX12_heaps_198 : decode (mC mX12_heaps) 198 = .ok (.aload_n 0, 1) := by decide +kernel
theorem dX12_heaps_199 : decode (mC mX12_heaps) 199 = .ok (.getfield 63, 3) := by decide +kernel
theorem dX12_heaps_202 : decode (mC mX12_heaps) 202 = .ok (.iload 5, 2) := by decide +kernel
theorem dX12_heaps_204 : decode (mC mX12_heaps) 204 = .ok (.aload_n 0, 1) := by decide +kernel
theorem dX12_heaps_205 : decode (mC mX12_heaps) 205 = .ok (.getfield 63, 3) := by decide +kernel
theorem dX12_heaps_208 : decode (mC mX12_heaps) 208 = .ok (.iload 4, 2) := by decide +kernel
theorem dX12_heaps_210 : decode (mC mX12_heaps) 210 = .ok (.iaload, 1) := by decide +kernel
theorem dX12_heaps_211 : decode (mC mX12_heaps) 211 = .ok (.iconst 1, 1) := by decide +kernel
theorem dX12_heaps_212 : decode (mC mX12_heaps) 212 = .ok (.iadd, 1) := by decide +kernel
theorem dX12_heaps_213 : decode (mC mX12_heaps) 213 = .ok (.iastore, 1) := by decide +kernel
theorem dX12_heaps_214 : decode (mC mX12_heaps) 214 = .ok (.iinc 4 (-1), 3) := by decide +kernel
theorem dX12_heaps_217 : decode (mC mX12_heaps) 217 = .ok (.goto (-79), 3) := by decide +kernel
theorem dX12_heaps_220 : decode (mC mX12_heaps) 220 = .ok (.iinc 2 1, 3) := by decide +kernel
theorem dX12_heaps_223 : decode (mC mX12_heaps) 223 = .ok (.goto (-117), 3) := by decide +kernel
theorem dX12_heaps_226 : decode (mC mX12_heaps) 226 = .ok (.aload_n 0, 1) := by decide +kernel
theorem dX12_heaps_227 : decode (mC mX12_heaps) 227 = .ok (.getfield 63, 3) := by decide +kernel
theorem dX12_heaps_230 : decode (mC mX12_heaps) 230 = .ok (.iload_n 1, 1) := by decide +kernel
theorem dX12_heaps_231 : decode (mC mX12_heaps) 231 = .ok (.iaload, 1) := by decide +kernel
theorem dX12_heaps_232 : decode (mC mX12_heaps) 232 = .ok (.ireturn, 1) := by decide +kernel
set_option maxRecDepth 100000 in
theorem bX12_heaps_0 {sc : Nat × (Nat → Int32)} {h : jH} {Q : jQ} {P1 : Int32 → jH → Prop}
    (k1 : JM mX12_lines [.ref 159] (jG0 sc) (jput h 159 0 0) (jint sc P1))
    (v1 : ∀ (x1 : Int32) (h1 : jH), P1 x1 h1 → ¬ x1 = 0 → WP mX12_heaps Q 17 [some (.ref 159), none, none, none, none, none] [.ref 159] (jG0 sc) h1 (0, 0))
    (v2 : ∀ (x1 : Int32) (h1 : jH), P1 x1 h1 → x1 = 0 → WP mX12_heaps Q 13 [some (.ref 159), none, none, none, none, none] [.ref 159] (jG0 sc) h1 (0, 0)) :
    WP mX12_heaps Q 0 [some (.ref 159), none, none, none, none, none] [] (jG0 sc) h (0, 0) := by
  refine j_aload_n (i := 0) rfl dX12_heaps_0 ?_
  refine j_iconst (n := 0) 0 (by decide) dX12_heaps_1 ?_
  refine j_putI (idx := 3) (ci := 12) (k := 0) (nest := false) (show (12, 3, 12, 0, false) ∈ jFT by decide) rfl rfl rfl rfl (Nat.le_of_ble_eq_true rfl) rfl dX12_heaps_2 ?_
  refine j_aload_n (i := 0) rfl dX12_heaps_5 ?_
  refine j_aload_n (i := 0) rfl dX12_heaps_6 ?_
  refine j_callV (idx := 265) (As := []) (ci := 12) (n := 0) k1 jint_nt (jlkT (jtb7 112 rfl) rfl) sX12_lines kX12_lines rfl ⟨rfl, by decide +kernel, by decide +kernel, by decide +kernel⟩ rfl ⟨by decide, by decide⟩ (Nat.le_of_ble_eq_true rfl) rfl (Nat.le_of_ble_eq_true rfl) (Nat.le_of_ble_eq_true rfl) ⟨Nat.zero_le _, Nat.zero_le _⟩ dX12_heaps_7 (fun r Γ' h1 q => ?_)
  obtain ⟨x1, q0, rfl, p1⟩ := q; cases q0
  refine j_eqst [.int x1, .ref 159] (by rfl) ?_
  refine j_if_ne (off := 7) 17 dX12_heaps_10 (by decide) (fun c1 => ?_) (fun c1 => ?_)
  · exact j_le [some (.ref 159), none, none, none, none, none] (And.intro rfl True.intro) (v1 x1 h1 p1 c1)
  · exact j_le [some (.ref 159), none, none, none, none, none] (And.intro rfl True.intro) (v2 x1 h1 p1 c1)
set_option maxRecDepth 100000 in
theorem bX12_heaps_13 {sc : Nat × (Nat → Int32)} {h : jH} {Q : jQ}
    (v1 : WP mX12_heaps Q 18 [some (.ref 159), none, none, none, none, none] [.int 1, .ref 159] (jG0 sc) h (0, 0)) :
    WP mX12_heaps Q 13 [some (.ref 159), none, none, none, none, none] [.ref 159] (jG0 sc) h (0, 0) := by
  refine j_iconst (n := 1) 1 (by decide) dX12_heaps_13 ?_
  refine j_goto (off := 4) 18 dX12_heaps_14 (by decide) ?_
  exact j_le [some (.ref 159), none, none, none, none, none] (And.intro rfl True.intro) v1
set_option maxRecDepth 100000 in
theorem bX12_heaps_17 {sc : Nat × (Nat → Int32)} {h : jH} {Q : jQ}
    (v1 : WP mX12_heaps Q 18 [some (.ref 159), none, none, none, none, none] [.int 0, .ref 159] (jG0 sc) h (0, 0)) :
    WP mX12_heaps Q 17 [some (.ref 159), none, none, none, none, none] [.ref 159] (jG0 sc) h (0, 0) := by
  refine j_iconst (n := 0) 0 (by decide) dX12_heaps_17 ?_
  exact j_le [some (.ref 159), none, none, none, none, none] (And.intro rfl True.intro) v1
set_option maxRecDepth 100000 in
theorem bX12_heaps_18 {sc : Nat × (Nat → Int32)} {h : jH} {Q : jQ} {s0 : Int32} {P1 : Int32 → jH → Prop}
    (k1 : JM mX12_throwsIf [.ref 159, .int s0, .int 1] (jG0 sc) h (jint sc P1))
    (v1 : ∀ (x1 : Int32) (h1 : jH), P1 x1 h1 → x1 = 0 → WP mX12_heaps Q 27 [some (.ref 159), none, none, none, none, none] [] (jG0 sc) h1 (0, 0))
    (v2 : ∀ (x1 : Int32) (h1 : jH), P1 x1 h1 → ¬ x1 = 0 → WP mX12_heaps Q 25 [some (.ref 159), none, none, none, none, none] [] (jG0 sc) h1 (0, 0)) :
    WP mX12_heaps Q 18 [some (.ref 159), none, none, none, none, none] [.int s0, .ref 159] (jG0 sc) h (0, 0) := by
  refine j_iconst (n := 1) 1 (by decide) dX12_heaps_18 ?_
  refine j_callV (idx := 157) (As := [.int s0, .int 1]) (ci := 12) (n := 2) k1 jint_nt (jlkT (jtb7 17 rfl) rfl) sX12_throwsIf kX12_throwsIf rfl ⟨rfl, by decide +kernel, by decide +kernel, by decide +kernel⟩ rfl ⟨by decide, by decide⟩ (Nat.le_of_ble_eq_true rfl) rfl (Nat.le_of_ble_eq_true rfl) (Nat.le_of_ble_eq_true rfl) ⟨Nat.zero_le _, Nat.zero_le _⟩ dX12_heaps_19 (fun r Γ' h1 q => ?_)
  obtain ⟨x1, q0, rfl, p1⟩ := q; cases q0
  refine j_eqst [.int x1] (by rfl) ?_
  refine j_if_eq (off := 5) 27 dX12_heaps_22 (by decide) (fun c1 => ?_) (fun c1 => ?_)
  · exact j_le [some (.ref 159), none, none, none, none, none] (And.intro rfl True.intro) (v1 x1 h1 p1 c1)
  · exact j_le [some (.ref 159), none, none, none, none, none] (And.intro rfl True.intro) (v2 x1 h1 p1 c1)
set_option maxRecDepth 100000 in
theorem bX12_heaps_25 {sc : Nat × (Nat → Int32)} {h : jH} {Q : jQ}
    (v1 : Q (.inl (some (.int 0))) (jG0 sc) h) :
    WP mX12_heaps Q 25 [some (.ref 159), none, none, none, none, none] [] (jG0 sc) h (0, 0) := by
  refine j_iconst (n := 0) 0 (by decide) dX12_heaps_25 ?_
  exact j_iret rfl rfl (Nat.zero_le _) (Nat.zero_le _) dX12_heaps_26 v1
set_option maxRecDepth 100000 in
theorem bX12_heaps_27 {sc : Nat × (Nat → Int32)} {h : jH} {Q : jQ} {P1 : jH → Prop} {P2 : jH → Prop}
    (k1 : JM mX12_listsBody [.ref 159] (jG0 sc) h (jvoid sc P1))
    (k2 : ∀ h1 : jH, P1 h1 → JM mX12_plain [.ref 159] (jG0 sc) h1 (jvoid sc P2))
    (v1 : ∀ h1 : jH, P1 h1 → ∀ h2 : jH, P2 h2 → WP mX12_heaps Q 39 [some (.ref 159), some (.int 0), some (.int 0), none, none, none] [] (jG0 sc) h2 (0, 0)) :
    WP mX12_heaps Q 27 [some (.ref 159), none, none, none, none, none] [] (jG0 sc) h (0, 0) := by
  refine j_aload_n (i := 0) rfl dX12_heaps_27 ?_
  refine j_callV (idx := 319) (As := []) (ci := 12) (n := 0) k1 jvoid_nt (jlkT (jtb7 160 rfl) rfl) sX12_listsBody kX12_listsBody rfl ⟨rfl, by decide +kernel, by decide +kernel, by decide +kernel⟩ rfl ⟨by decide, by decide⟩ (Nat.le_of_ble_eq_true rfl) rfl (Nat.le_of_ble_eq_true rfl) (Nat.le_of_ble_eq_true rfl) ⟨Nat.zero_le _, Nat.zero_le _⟩ dX12_heaps_28 (fun r Γ' h1 q => ?_)
  obtain ⟨q0, rfl, p1⟩ := q; cases q0
  refine j_eqst [] (by rfl) ?_
  refine j_aload_n (i := 0) rfl dX12_heaps_31 ?_
  refine j_callV (idx := 307) (As := []) (ci := 12) (n := 0) (k2 h1 p1) jvoid_nt (jlkT (jtb7 192 rfl) rfl) sX12_plain kX12_plain rfl ⟨rfl, by decide +kernel, by decide +kernel, by decide +kernel⟩ rfl ⟨by decide, by decide⟩ (Nat.le_of_ble_eq_true rfl) rfl (Nat.le_of_ble_eq_true rfl) (Nat.le_of_ble_eq_true rfl) ⟨Nat.zero_le _, Nat.zero_le _⟩ dX12_heaps_32 (fun r Γ' h2 q => ?_)
  obtain ⟨q0, rfl, p2⟩ := q; cases q0
  refine j_eqst [] (by rfl) ?_
  refine j_iconst (n := 0) 0 (by decide) dX12_heaps_35 ?_
  refine j_istore_n (i := 1) dX12_heaps_36 (Nat.le_of_ble_eq_true rfl) ?_
  refine j_iconst (n := 0) 0 (by decide) dX12_heaps_37 ?_
  refine j_istore_n (i := 2) dX12_heaps_38 (Nat.le_of_ble_eq_true rfl) ?_
  exact j_le [some (.ref 159), some (.int 0), some (.int 0), none, none, none] (And.intro rfl (And.intro rfl (And.intro rfl True.intro))) (v1 h1 p1 h2 p2)
set_option maxRecDepth 100000 in
theorem bX12_heaps_39 {sc : Nat × (Nat → Int32)} {h : jH} {Q : jQ} {l1 l2 : Int32}
    (v1 : (h 160 122) ≤ l2 → WP mX12_heaps Q 74 [some (.ref 159), some (.int l1), some (.int l2), none, none, none] [] (jG0 sc) h (0, 0))
    (v2 : ¬ (h 160 122) ≤ l2 → WP mX12_heaps Q 50 [some (.ref 159), some (.int l1), some (.int l2), none, none, none] [] (jG0 sc) h (0, 0)) :
    WP mX12_heaps Q 39 [some (.ref 159), some (.int l1), some (.int l2), none, none, none] [] (jG0 sc) h (0, 0) := by
  refine j_iload_n (i := 2) rfl dX12_heaps_39 ?_
  refine j_aload_n (i := 0) rfl dX12_heaps_40 ?_
  refine j_getR (idx := 13) (ci := 12) (k := 1) (nest := false) (show (12, 13, 12, 1, false) ∈ jFT by decide) rfl (Nat.le_of_ble_eq_true rfl) rfl (a := 160) rfl dX12_heaps_41 ?_
  refine j_bipush (n := 122) 122 (by decide) dX12_heaps_44 ?_
  refine j_iald (Nat.le_of_ble_eq_true rfl) rfl (jinl (n := 1454) (by decide)) dX12_heaps_46 ?_
  refine j_eqst [.int (h 160 122), .int l2] (by rfl) ?_
  refine j_icmp_ge (off := 27) 74 dX12_heaps_47 (by decide) (fun c1 => ?_) (fun c1 => ?_)
  · exact j_le [some (.ref 159), some (.int l1), some (.int l2), none, none, none] (And.intro rfl (And.intro rfl (And.intro rfl True.intro))) (v1 c1)
  · exact j_le [some (.ref 159), some (.int l1), some (.int l2), none, none, none] (And.intro rfl (And.intro rfl (And.intro rfl True.intro))) (v2 c1)
set_option maxRecDepth 100000 in
theorem bX12_heaps_50 {sc : Nat × (Nat → Int32)} {h : jH} {Q : jQ} {l1 l2 : Int32} {P1 : Int32 → jH → Prop}
    (k1 : JM mX12_isRight [.ref 159, .int l2] (jG0 sc) h (jint sc P1))
    (v1 : ∀ (x1 : Int32) (h1 : jH), P1 x1 h1 → x1 = 0 → WP mX12_heaps Q 63 [some (.ref 159), some (.int l1), some (.int l2), none, none, none] [.int l1] (jG0 sc) h1 (0, 0))
    (v2 : ∀ (x1 : Int32) (h1 : jH), P1 x1 h1 → ¬ x1 = 0 → WP mX12_heaps Q 59 [some (.ref 159), some (.int l1), some (.int l2), none, none, none] [.int l1] (jG0 sc) h1 (0, 0)) :
    WP mX12_heaps Q 50 [some (.ref 159), some (.int l1), some (.int l2), none, none, none] [] (jG0 sc) h (0, 0) := by
  refine j_iload_n (i := 1) rfl dX12_heaps_50 ?_
  refine j_aload_n (i := 0) rfl dX12_heaps_51 ?_
  refine j_iload_n (i := 2) rfl dX12_heaps_52 ?_
  refine j_callV (idx := 268) (As := [.int l2]) (ci := 12) (n := 1) k1 jint_nt (jlkT (jtb7 128 rfl) rfl) sX12_isRight kX12_isRight rfl ⟨rfl, by decide +kernel, by decide +kernel, by decide +kernel⟩ rfl ⟨by decide, by decide⟩ (Nat.le_of_ble_eq_true rfl) rfl (Nat.le_of_ble_eq_true rfl) (Nat.le_of_ble_eq_true rfl) ⟨Nat.zero_le _, Nat.zero_le _⟩ dX12_heaps_53 (fun r Γ' h1 q => ?_)
  obtain ⟨x1, q0, rfl, p1⟩ := q; cases q0
  refine j_eqst [.int x1, .int l1] (by rfl) ?_
  refine j_if_eq (off := 7) 63 dX12_heaps_56 (by decide) (fun c1 => ?_) (fun c1 => ?_)
  · exact j_le [some (.ref 159), some (.int l1), some (.int l2), none, none, none] (And.intro rfl (And.intro rfl (And.intro rfl True.intro))) (v1 x1 h1 p1 c1)
  · exact j_le [some (.ref 159), some (.int l1), some (.int l2), none, none, none] (And.intro rfl (And.intro rfl (And.intro rfl True.intro))) (v2 x1 h1 p1 c1)
set_option maxRecDepth 100000 in
theorem bX12_heaps_59 {sc : Nat × (Nat → Int32)} {h : jH} {Q : jQ} {l1 l2 s0 : Int32}
    (v1 : WP mX12_heaps Q 66 [some (.ref 159), some (.int l1), some (.int l2), none, none, none] [.int 0, .int s0] (jG0 sc) h (0, 0)) :
    WP mX12_heaps Q 59 [some (.ref 159), some (.int l1), some (.int l2), none, none, none] [.int s0] (jG0 sc) h (0, 0) := by
  refine j_iconst (n := 0) 0 (by decide) dX12_heaps_59 ?_
  refine j_goto (off := 6) 66 dX12_heaps_60 (by decide) ?_
  exact j_le [some (.ref 159), some (.int l1), some (.int l2), none, none, none] (And.intro rfl (And.intro rfl (And.intro rfl True.intro))) v1
set_option maxRecDepth 100000 in
theorem bX12_heaps_63 {sc : Nat × (Nat → Int32)} {h : jH} {Q : jQ} {l1 l2 s0 : Int32}
    (v1 : WP mX12_heaps Q 66 [some (.ref 159), some (.int l1), some (.int l2), none, none, none] [.int ((1 : Int32) <<< (l2 &&& 31)), .int s0] (jG0 sc) h (0, 0)) :
    WP mX12_heaps Q 63 [some (.ref 159), some (.int l1), some (.int l2), none, none, none] [.int s0] (jG0 sc) h (0, 0) := by
  refine j_iconst (n := 1) 1 (by decide) dX12_heaps_63 ?_
  refine j_iload_n (i := 2) rfl dX12_heaps_64 ?_
  refine j_ishl dX12_heaps_65 ?_
  exact j_le [some (.ref 159), some (.int l1), some (.int l2), none, none, none] (And.intro rfl (And.intro rfl (And.intro rfl True.intro))) v1
set_option maxRecDepth 100000 in
theorem bX12_heaps_66 {sc : Nat × (Nat → Int32)} {h : jH} {Q : jQ} {l1 l2 s0 s1 : Int32}
    (v1 : WP mX12_heaps Q 39 [some (.ref 159), some (.int (s1 ||| s0)), some (.int (l2 + 1)), none, none, none] [] (jG0 sc) h (0, 0)) :
    WP mX12_heaps Q 66 [some (.ref 159), some (.int l1), some (.int l2), none, none, none] [.int s0, .int s1] (jG0 sc) h (0, 0) := by
  refine j_ior dX12_heaps_66 ?_
  refine j_istore_n (i := 1) dX12_heaps_67 (Nat.le_of_ble_eq_true rfl) ?_
  refine j_iinc (i := 2) (n := 1) rfl dX12_heaps_68 (Nat.le_of_ble_eq_true rfl) ?_
  refine j_eqlv [some (.ref 159), some (.int (s1 ||| s0)), some (.int (l2 + 1)), none, none, none] rfl ?_
  refine j_goto (off := -32) 39 dX12_heaps_71 (by decide) ?_
  exact j_le [some (.ref 159), some (.int (s1 ||| s0)), some (.int (l2 + 1)), none, none, none] (And.intro rfl (And.intro rfl (And.intro rfl True.intro))) v1
set_option maxRecDepth 100000 in
theorem bX12_heaps_74 {sc : Nat × (Nat → Int32)} {h : jH} {Q : jQ} {l1 l2 : Int32}
    (v1 : WP mX12_heaps Q 76 [some (.ref 159), some (.int l1), some (.int 0), none, none, none] [] (jG0 sc) h (0, 0)) :
    WP mX12_heaps Q 74 [some (.ref 159), some (.int l1), some (.int l2), none, none, none] [] (jG0 sc) h (0, 0) := by
  refine j_iconst (n := 0) 0 (by decide) dX12_heaps_74 ?_
  refine j_istore_n (i := 2) dX12_heaps_75 (Nat.le_of_ble_eq_true rfl) ?_
  exact j_le [some (.ref 159), some (.int l1), some (.int 0), none, none, none] (And.intro rfl (And.intro rfl (And.intro rfl True.intro))) v1
set_option maxRecDepth 100000 in
theorem bX12_heaps_76 {sc : Nat × (Nat → Int32)} {h : jH} {Q : jQ} {l1 l2 : Int32}
    (v1 : 4096 ≤ l2 → WP mX12_heaps Q 104 [some (.ref 159), some (.int l1), some (.int l2), none, none, none] [] (jG0 sc) h (0, 0))
    (v2 : ¬ 4096 ≤ l2 → WP mX12_heaps Q 83 [some (.ref 159), some (.int l1), some (.int l2), none, none, none] [] (jG0 sc) h (0, 0)) :
    WP mX12_heaps Q 76 [some (.ref 159), some (.int l1), some (.int l2), none, none, none] [] (jG0 sc) h (0, 0) := by
  refine j_iload_n (i := 2) rfl dX12_heaps_76 ?_
  refine j_sipush (n := 4096) 4096 (by decide) dX12_heaps_77 ?_
  refine j_icmp_ge (off := 24) 104 dX12_heaps_80 (by decide) (fun c1 => ?_) (fun c1 => ?_)
  · exact j_le [some (.ref 159), some (.int l1), some (.int l2), none, none, none] (And.intro rfl (And.intro rfl (And.intro rfl True.intro))) (v1 c1)
  · exact j_le [some (.ref 159), some (.int l1), some (.int l2), none, none, none] (And.intro rfl (And.intro rfl (And.intro rfl True.intro))) (v2 c1)
set_option maxRecDepth 100000 in
theorem bX12_heaps_83 {sc : Nat × (Nat → Int32)} {h : jH} {Q : jQ} {l1 l2 : Int32}
    (v1 : ¬ l2 = 0 → WP mX12_heaps Q 96 [some (.ref 159), some (.int l1), some (.int l2), none, none, none] [.int l2, .ref 175] (jG0 sc) h (0, 0))
    (v2 : l2 = 0 → WP mX12_heaps Q 92 [some (.ref 159), some (.int l1), some (.int l2), none, none, none] [.int l2, .ref 175] (jG0 sc) h (0, 0)) :
    WP mX12_heaps Q 83 [some (.ref 159), some (.int l1), some (.int l2), none, none, none] [] (jG0 sc) h (0, 0) := by
  refine j_aload_n (i := 0) rfl dX12_heaps_83 ?_
  refine j_getR (idx := 63) (ci := 12) (k := 29) (nest := false) (show (12, 63, 12, 29, false) ∈ jFT by decide) rfl (Nat.le_of_ble_eq_true rfl) rfl (a := 175) rfl dX12_heaps_84 ?_
  refine j_iload_n (i := 2) rfl dX12_heaps_87 ?_
  refine j_iload_n (i := 2) rfl dX12_heaps_88 ?_
  refine j_if_ne (off := 7) 96 dX12_heaps_89 (by decide) (fun c1 => ?_) (fun c1 => ?_)
  · exact j_le [some (.ref 159), some (.int l1), some (.int l2), none, none, none] (And.intro rfl (And.intro rfl (And.intro rfl True.intro))) (v1 c1)
  · exact j_le [some (.ref 159), some (.int l1), some (.int l2), none, none, none] (And.intro rfl (And.intro rfl (And.intro rfl True.intro))) (v2 c1)
set_option maxRecDepth 100000 in
theorem bX12_heaps_92 {sc : Nat × (Nat → Int32)} {h : jH} {Q : jQ} {l1 l2 s0 : Int32}
    (v1 : WP mX12_heaps Q 97 [some (.ref 159), some (.int l1), some (.int l2), none, none, none] [.int 0, .int s0, .ref 175] (jG0 sc) h (0, 0)) :
    WP mX12_heaps Q 92 [some (.ref 159), some (.int l1), some (.int l2), none, none, none] [.int s0, .ref 175] (jG0 sc) h (0, 0) := by
  refine j_iconst (n := 0) 0 (by decide) dX12_heaps_92 ?_
  refine j_goto (off := 4) 97 dX12_heaps_93 (by decide) ?_
  exact j_le [some (.ref 159), some (.int l1), some (.int l2), none, none, none] (And.intro rfl (And.intro rfl (And.intro rfl True.intro))) v1
set_option maxRecDepth 100000 in
theorem bX12_heaps_96 {sc : Nat × (Nat → Int32)} {h : jH} {Q : jQ} {l1 l2 s0 : Int32}
    (v1 : WP mX12_heaps Q 97 [some (.ref 159), some (.int l1), some (.int l2), none, none, none] [.int (-1), .int s0, .ref 175] (jG0 sc) h (0, 0)) :
    WP mX12_heaps Q 96 [some (.ref 159), some (.int l1), some (.int l2), none, none, none] [.int s0, .ref 175] (jG0 sc) h (0, 0) := by
  refine j_iconst (n := (-1)) (-1) (by decide) dX12_heaps_96 ?_
  exact j_le [some (.ref 159), some (.int l1), some (.int l2), none, none, none] (And.intro rfl (And.intro rfl (And.intro rfl True.intro))) v1
set_option maxRecDepth 100000 in
theorem bX12_heaps_97 {sc : Nat × (Nat → Int32)} {h : jH} {Q : jQ} {l1 l2 s0 s1 : Int32}
    (o1 : vp_in s1 4096)
    (v1 : WP mX12_heaps Q 76 [some (.ref 159), some (.int l1), some (.int (l2 + 1)), none, none, none] [] (jG0 sc) (jput h 175 s1.toNatClampNeg s0) (0, 0)) :
    WP mX12_heaps Q 97 [some (.ref 159), some (.int l1), some (.int l2), none, none, none] [.int s0, .int s1, .ref 175] (jG0 sc) h (0, 0) := by
  refine j_iast (Nat.le_of_ble_eq_true rfl) rfl o1 dX12_heaps_97 ?_
  refine j_iinc (i := 2) (n := 1) rfl dX12_heaps_98 (Nat.le_of_ble_eq_true rfl) ?_
  refine j_eqlv [some (.ref 159), some (.int l1), some (.int (l2 + 1)), none, none, none] rfl ?_
  refine j_goto (off := -25) 76 dX12_heaps_101 (by decide) ?_
  exact j_le [some (.ref 159), some (.int l1), some (.int (l2 + 1)), none, none, none] (And.intro rfl (And.intro rfl (And.intro rfl True.intro))) v1
set_option maxRecDepth 100000 in
theorem bX12_heaps_104 {sc : Nat × (Nat → Int32)} {h : jH} {Q : jQ} {l1 l2 : Int32}
    (v1 : WP mX12_heaps Q 106 [some (.ref 159), some (.int l1), some (.int 0), none, none, none] [] (jG0 sc) h (0, 0)) :
    WP mX12_heaps Q 104 [some (.ref 159), some (.int l1), some (.int l2), none, none, none] [] (jG0 sc) h (0, 0) := by
  refine j_iconst (n := 0) 0 (by decide) dX12_heaps_104 ?_
  refine j_istore_n (i := 2) dX12_heaps_105 (Nat.le_of_ble_eq_true rfl) ?_
  exact j_le [some (.ref 159), some (.int l1), some (.int 0), none, none, none] (And.intro rfl (And.intro rfl (And.intro rfl True.intro))) v1
set_option maxRecDepth 100000 in
theorem bX12_heaps_106 {sc : Nat × (Nat → Int32)} {h : jH} {Q : jQ} {l1 l2 : Int32}
    (v1 : (h 159 26) ≤ l2 → WP mX12_heaps Q 226 [some (.ref 159), some (.int l1), some (.int l2), none, none, none] [] (jG0 sc) h (0, 0))
    (v2 : ¬ (h 159 26) ≤ l2 → WP mX12_heaps Q 114 [some (.ref 159), some (.int l1), some (.int l2), none, none, none] [] (jG0 sc) h (0, 0)) :
    WP mX12_heaps Q 106 [some (.ref 159), some (.int l1), some (.int l2), none, none, none] [] (jG0 sc) h (0, 0) := by
  refine j_iload_n (i := 2) rfl dX12_heaps_106 ?_
  refine j_aload_n (i := 0) rfl dX12_heaps_107 ?_
  refine j_getI (idx := 290) (ci := 12) (k := 26) (nest := false) (show (12, 290, 12, 26, false) ∈ jFT by decide) rfl (Nat.le_of_ble_eq_true rfl) rfl dX12_heaps_108 ?_
  refine j_icmp_ge (off := 115) 226 dX12_heaps_111 (by decide) (fun c1 => ?_) (fun c1 => ?_)
  · exact j_le [some (.ref 159), some (.int l1), some (.int l2), none, none, none] (And.intro rfl (And.intro rfl (And.intro rfl True.intro))) (v1 c1)
  · exact j_le [some (.ref 159), some (.int l1), some (.int l2), none, none, none] (And.intro rfl (And.intro rfl (And.intro rfl True.intro))) (v2 c1)
set_option maxRecDepth 100000 in
theorem bX12_heaps_114 {sc : Nat × (Nat → Int32)} {h : jH} {Q : jQ} {l1 l2 : Int32} {P1 : Int32 → jH → Prop}
    (k1 : JM mX12_turned [.ref 159, .int l2, .int 0] (jG0 sc) h (jint sc P1))
    (v1 : ∀ (x1 : Int32) (h1 : jH), P1 x1 h1 → x1 = 0 → WP mX12_heaps Q 126 [some (.ref 159), some (.int l1), some (.int l2), none, none, none] [] (jG0 sc) h1 (0, 0))
    (v2 : ∀ (x1 : Int32) (h1 : jH), P1 x1 h1 → ¬ x1 = 0 → WP mX12_heaps Q 123 [some (.ref 159), some (.int l1), some (.int l2), none, none, none] [] (jG0 sc) h1 (0, 0)) :
    WP mX12_heaps Q 114 [some (.ref 159), some (.int l1), some (.int l2), none, none, none] [] (jG0 sc) h (0, 0) := by
  refine j_aload_n (i := 0) rfl dX12_heaps_114 ?_
  refine j_iload_n (i := 2) rfl dX12_heaps_115 ?_
  refine j_iconst (n := 0) 0 (by decide) dX12_heaps_116 ?_
  refine j_callV (idx := 325) (As := [.int l2, .int 0]) (ci := 12) (n := 2) k1 jint_nt (jlkT (jtb7 188 rfl) rfl) sX12_turned kX12_turned rfl ⟨rfl, by decide +kernel, by decide +kernel, by decide +kernel⟩ rfl ⟨by decide, by decide⟩ (Nat.le_of_ble_eq_true rfl) rfl (Nat.le_of_ble_eq_true rfl) (Nat.le_of_ble_eq_true rfl) ⟨Nat.zero_le _, Nat.zero_le _⟩ dX12_heaps_117 (fun r Γ' h1 q => ?_)
  obtain ⟨x1, q0, rfl, p1⟩ := q; cases q0
  refine j_eqst [.int x1] (by rfl) ?_
  refine j_if_eq (off := 6) 126 dX12_heaps_120 (by decide) (fun c1 => ?_) (fun c1 => ?_)
  · exact j_le [some (.ref 159), some (.int l1), some (.int l2), none, none, none] (And.intro rfl (And.intro rfl (And.intro rfl True.intro))) (v1 x1 h1 p1 c1)
  · exact j_le [some (.ref 159), some (.int l1), some (.int l2), none, none, none] (And.intro rfl (And.intro rfl (And.intro rfl True.intro))) (v2 x1 h1 p1 c1)
set_option maxRecDepth 100000 in
theorem bX12_heaps_123 {sc : Nat × (Nat → Int32)} {h : jH} {Q : jQ} {l1 l2 : Int32}
    (v1 : WP mX12_heaps Q 220 [some (.ref 159), some (.int l1), some (.int l2), none, none, none] [] (jG0 sc) h (0, 0)) :
    WP mX12_heaps Q 123 [some (.ref 159), some (.int l1), some (.int l2), none, none, none] [] (jG0 sc) h (0, 0) := by
  refine j_goto (off := 97) 220 dX12_heaps_123 (by decide) ?_
  exact j_le [some (.ref 159), some (.int l1), some (.int l2), none, none, none] (And.intro rfl (And.intro rfl (And.intro rfl True.intro))) v1
set_option maxRecDepth 100000 in
theorem bX12_heaps_126 {sc : Nat × (Nat → Int32)} {h : jH} {Q : jQ} {l1 l2 : Int32} {P1 : Int32 → jH → Prop}
    (k1 : JM mX12_turned [.ref 159, .int l2, .int 1] (jG0 sc) h (jint sc P1))
    (v1 : ∀ (x1 : Int32) (h1 : jH), P1 x1 h1 → WP mX12_heaps Q 138 [some (.ref 159), some (.int l1), some (.int l2), some (.int x1), some (.int 4095), none] [] (jG0 sc) h1 (0, 0)) :
    WP mX12_heaps Q 126 [some (.ref 159), some (.int l1), some (.int l2), none, none, none] [] (jG0 sc) h (0, 0) := by
  refine j_aload_n (i := 0) rfl dX12_heaps_126 ?_
  refine j_iload_n (i := 2) rfl dX12_heaps_127 ?_
  refine j_iconst (n := 1) 1 (by decide) dX12_heaps_128 ?_
  refine j_callV (idx := 325) (As := [.int l2, .int 1]) (ci := 12) (n := 2) k1 jint_nt (jlkT (jtb7 188 rfl) rfl) sX12_turned kX12_turned rfl ⟨rfl, by decide +kernel, by decide +kernel, by decide +kernel⟩ rfl ⟨by decide, by decide⟩ (Nat.le_of_ble_eq_true rfl) rfl (Nat.le_of_ble_eq_true rfl) (Nat.le_of_ble_eq_true rfl) ⟨Nat.zero_le _, Nat.zero_le _⟩ dX12_heaps_129 (fun r Γ' h1 q => ?_)
  obtain ⟨x1, q0, rfl, p1⟩ := q; cases q0
  refine j_eqst [.int x1] (by rfl) ?_
  refine j_istore_n (i := 3) dX12_heaps_132 (Nat.le_of_ble_eq_true rfl) ?_
  refine j_sipush (n := 4095) 4095 (by decide) dX12_heaps_133 ?_
  refine j_istore (i := 4) dX12_heaps_136 (Nat.le_of_ble_eq_true rfl) ?_
  exact j_le [some (.ref 159), some (.int l1), some (.int l2), some (.int x1), some (.int 4095), none] (And.intro rfl (And.intro rfl (And.intro rfl (And.intro rfl (And.intro rfl True.intro))))) (v1 x1 h1 p1)
set_option maxRecDepth 100000 in
theorem bX12_heaps_138 {sc : Nat × (Nat → Int32)} {h : jH} {Q : jQ} {l1 l2 l3 l4 : Int32}
    (v1 : l4 < 0 → WP mX12_heaps Q 220 [some (.ref 159), some (.int l1), some (.int l2), none, none, none] [] (jG0 sc) h (0, 0))
    (v2 : ¬ l4 < 0 → WP mX12_heaps Q 143 [some (.ref 159), some (.int l1), some (.int l2), some (.int l3), some (.int l4), none] [] (jG0 sc) h (0, 0)) :
    WP mX12_heaps Q 138 [some (.ref 159), some (.int l1), some (.int l2), some (.int l3), some (.int l4), none] [] (jG0 sc) h (0, 0) := by
  refine j_iload (i := 4) rfl dX12_heaps_138 ?_
  refine j_if_lt (off := 80) 220 dX12_heaps_140 (by decide) (fun c1 => ?_) (fun c1 => ?_)
  · exact j_le [some (.ref 159), some (.int l1), some (.int l2), none, none, none] (And.intro rfl (And.intro rfl (And.intro rfl True.intro))) (v1 c1)
  · exact j_le [some (.ref 159), some (.int l1), some (.int l2), some (.int l3), some (.int l4), none] (And.intro rfl (And.intro rfl (And.intro rfl (And.intro rfl (And.intro rfl True.intro))))) (v2 c1)
set_option maxRecDepth 100000 in
theorem bX12_heaps_143 {sc : Nat × (Nat → Int32)} {h : jH} {Q : jQ} {l1 l2 l3 l4 : Int32}
    (o1 : vp_in l4 4096)
    (v1 : 0 ≤ (h 175 l4.toNatClampNeg) → WP mX12_heaps Q 156 [some (.ref 159), some (.int l1), some (.int l2), some (.int l3), some (.int l4), none] [] (jG0 sc) h (0, 0))
    (v2 : ¬ 0 ≤ (h 175 l4.toNatClampNeg) → WP mX12_heaps Q 153 [some (.ref 159), some (.int l1), some (.int l2), some (.int l3), some (.int l4), none] [] (jG0 sc) h (0, 0)) :
    WP mX12_heaps Q 143 [some (.ref 159), some (.int l1), some (.int l2), some (.int l3), some (.int l4), none] [] (jG0 sc) h (0, 0) := by
  refine j_aload_n (i := 0) rfl dX12_heaps_143 ?_
  refine j_getR (idx := 63) (ci := 12) (k := 29) (nest := false) (show (12, 63, 12, 29, false) ∈ jFT by decide) rfl (Nat.le_of_ble_eq_true rfl) rfl (a := 175) rfl dX12_heaps_144 ?_
  refine j_iload (i := 4) rfl dX12_heaps_147 ?_
  refine j_iald (Nat.le_of_ble_eq_true rfl) rfl o1 dX12_heaps_149 ?_
  refine j_if_ge (off := 6) 156 dX12_heaps_150 (by decide) (fun c1 => ?_) (fun c1 => ?_)
  · exact j_le [some (.ref 159), some (.int l1), some (.int l2), some (.int l3), some (.int l4), none] (And.intro rfl (And.intro rfl (And.intro rfl (And.intro rfl (And.intro rfl True.intro))))) (v1 c1)
  · exact j_le [some (.ref 159), some (.int l1), some (.int l2), some (.int l3), some (.int l4), none] (And.intro rfl (And.intro rfl (And.intro rfl (And.intro rfl (And.intro rfl True.intro))))) (v2 c1)
set_option maxRecDepth 100000 in
theorem bX12_heaps_153 {sc : Nat × (Nat → Int32)} {h : jH} {Q : jQ} {l1 l2 l3 l4 : Int32}
    (v1 : WP mX12_heaps Q 214 [some (.ref 159), some (.int l1), some (.int l2), some (.int l3), some (.int l4), none] [] (jG0 sc) h (0, 0)) :
    WP mX12_heaps Q 153 [some (.ref 159), some (.int l1), some (.int l2), some (.int l3), some (.int l4), none] [] (jG0 sc) h (0, 0) := by
  refine j_goto (off := 61) 214 dX12_heaps_153 (by decide) ?_
  exact j_le [some (.ref 159), some (.int l1), some (.int l2), some (.int l3), some (.int l4), none] (And.intro rfl (And.intro rfl (And.intro rfl (And.intro rfl (And.intro rfl True.intro))))) v1
set_option maxRecDepth 100000 in
theorem bX12_heaps_156 {sc : Nat × (Nat → Int32)} {h : jH} {Q : jQ} {l1 l2 l3 l4 : Int32}
    (v1 : (l4 ||| l3) = l4 → WP mX12_heaps Q 214 [some (.ref 159), some (.int l1), some (.int l2), some (.int l3), some (.int l4), none] [] (jG0 sc) h (0, 0))
    (v2 : ¬ (l4 ||| l3) = l4 → WP mX12_heaps Q 169 [some (.ref 159), some (.int l1), some (.int l2), some (.int l3), some (.int l4), some (.int (l4 ||| l3))] [] (jG0 sc) h (0, 0)) :
    WP mX12_heaps Q 156 [some (.ref 159), some (.int l1), some (.int l2), some (.int l3), some (.int l4), none] [] (jG0 sc) h (0, 0) := by
  refine j_iload (i := 4) rfl dX12_heaps_156 ?_
  refine j_iload_n (i := 3) rfl dX12_heaps_158 ?_
  refine j_ior dX12_heaps_159 ?_
  refine j_istore (i := 5) dX12_heaps_160 (Nat.le_of_ble_eq_true rfl) ?_
  refine j_iload (i := 5) rfl dX12_heaps_162 ?_
  refine j_iload (i := 4) rfl dX12_heaps_164 ?_
  refine j_icmp_eq (off := 48) 214 dX12_heaps_166 (by decide) (fun c1 => ?_) (fun c1 => ?_)
  · exact j_le [some (.ref 159), some (.int l1), some (.int l2), some (.int l3), some (.int l4), none] (And.intro rfl (And.intro rfl (And.intro rfl (And.intro rfl (And.intro rfl True.intro))))) (v1 c1)
  · exact j_le [some (.ref 159), some (.int l1), some (.int l2), some (.int l3), some (.int l4), some (.int (l4 ||| l3))] (And.intro rfl (And.intro rfl (And.intro rfl (And.intro rfl (And.intro rfl (And.intro rfl True.intro)))))) (v2 c1)
set_option maxRecDepth 100000 in
theorem bX12_heaps_169 {sc : Nat × (Nat → Int32)} {h : jH} {Q : jQ} {l1 l2 l3 l4 l5 : Int32}
    (o1 : vp_in l5 4096)
    (v1 : (h 175 l5.toNatClampNeg) < 0 → WP mX12_heaps Q 198 [some (.ref 159), some (.int l1), some (.int l2), some (.int l3), some (.int l4), some (.int l5)] [] (jG0 sc) h (0, 0))
    (v2 : ¬ (h 175 l5.toNatClampNeg) < 0 → WP mX12_heaps Q 179 [some (.ref 159), some (.int l1), some (.int l2), some (.int l3), some (.int l4), some (.int l5)] [] (jG0 sc) h (0, 0)) :
    WP mX12_heaps Q 169 [some (.ref 159), some (.int l1), some (.int l2), some (.int l3), some (.int l4), some (.int l5)] [] (jG0 sc) h (0, 0) := by
  refine j_aload_n (i := 0) rfl dX12_heaps_169 ?_
  refine j_getR (idx := 63) (ci := 12) (k := 29) (nest := false) (show (12, 63, 12, 29, false) ∈ jFT by decide) rfl (Nat.le_of_ble_eq_true rfl) rfl (a := 175) rfl dX12_heaps_170 ?_
  refine j_iload (i := 5) rfl dX12_heaps_173 ?_
  refine j_iald (Nat.le_of_ble_eq_true rfl) rfl o1 dX12_heaps_175 ?_
  refine j_if_lt (off := 22) 198 dX12_heaps_176 (by decide) (fun c1 => ?_) (fun c1 => ?_)
  · exact j_le [some (.ref 159), some (.int l1), some (.int l2), some (.int l3), some (.int l4), some (.int l5)] (And.intro rfl (And.intro rfl (And.intro rfl (And.intro rfl (And.intro rfl (And.intro rfl True.intro)))))) (v1 c1)
  · exact j_le [some (.ref 159), some (.int l1), some (.int l2), some (.int l3), some (.int l4), some (.int l5)] (And.intro rfl (And.intro rfl (And.intro rfl (And.intro rfl (And.intro rfl (And.intro rfl True.intro)))))) (v2 c1)
set_option maxRecDepth 100000 in
theorem bX12_heaps_179 {sc : Nat × (Nat → Int32)} {h : jH} {Q : jQ} {l1 l2 l3 l4 l5 : Int32}
    (o1 : vp_in l5 4096)
    (o2 : vp_in l4 4096)
    (v1 : (h 175 l5.toNatClampNeg) ≤ ((h 175 l4.toNatClampNeg) + 1) → WP mX12_heaps Q 214 [some (.ref 159), some (.int l1), some (.int l2), some (.int l3), some (.int l4), none] [] (jG0 sc) h (0, 0))
    (v2 : ¬ (h 175 l5.toNatClampNeg) ≤ ((h 175 l4.toNatClampNeg) + 1) → WP mX12_heaps Q 198 [some (.ref 159), some (.int l1), some (.int l2), some (.int l3), some (.int l4), some (.int l5)] [] (jG0 sc) h (0, 0)) :
    WP mX12_heaps Q 179 [some (.ref 159), some (.int l1), some (.int l2), some (.int l3), some (.int l4), some (.int l5)] [] (jG0 sc) h (0, 0) := by
  refine j_aload_n (i := 0) rfl dX12_heaps_179 ?_
  refine j_getR (idx := 63) (ci := 12) (k := 29) (nest := false) (show (12, 63, 12, 29, false) ∈ jFT by decide) rfl (Nat.le_of_ble_eq_true rfl) rfl (a := 175) rfl dX12_heaps_180 ?_
  refine j_iload (i := 5) rfl dX12_heaps_183 ?_
  refine j_iald (Nat.le_of_ble_eq_true rfl) rfl o1 dX12_heaps_185 ?_
  refine j_aload_n (i := 0) rfl dX12_heaps_186 ?_
  refine j_getR (idx := 63) (ci := 12) (k := 29) (nest := false) (show (12, 63, 12, 29, false) ∈ jFT by decide) rfl (Nat.le_of_ble_eq_true rfl) rfl (a := 175) rfl dX12_heaps_187 ?_
  refine j_iload (i := 4) rfl dX12_heaps_190 ?_
  refine j_iald (Nat.le_of_ble_eq_true rfl) rfl o2 dX12_heaps_192 ?_
  refine j_iconst (n := 1) 1 (by decide) dX12_heaps_193 ?_
  refine j_iadd dX12_heaps_194 ?_
  refine j_icmp_le (off := 19) 214 dX12_heaps_195 (by decide) (fun c1 => ?_) (fun c1 => ?_)
  · exact j_le [some (.ref 159), some (.int l1), some (.int l2), some (.int l3), some (.int l4), none] (And.intro rfl (And.intro rfl (And.intro rfl (And.intro rfl (And.intro rfl True.intro))))) (v1 c1)
  · exact j_le [some (.ref 159), some (.int l1), some (.int l2), some (.int l3), some (.int l4), some (.int l5)] (And.intro rfl (And.intro rfl (And.intro rfl (And.intro rfl (And.intro rfl (And.intro rfl True.intro)))))) (v2 c1)
set_option maxRecDepth 100000 in
theorem bX12_heaps_198 {sc : Nat × (Nat → Int32)} {h : jH} {Q : jQ} {l1 l2 l3 l4 l5 : Int32}
    (o1 : vp_in l4 4096)
    (o2 : vp_in l5 4096)
    (v1 : WP mX12_heaps Q 214 [some (.ref 159), some (.int l1), some (.int l2), some (.int l3), some (.int l4), none] [] (jG0 sc) (jput h 175 l5.toNatClampNeg ((h 175 l4.toNatClampNeg) + 1)) (0, 0)) :
    WP mX12_heaps Q 198 [some (.ref 159), some (.int l1), some (.int l2), some (.int l3), some (.int l4), some (.int l5)] [] (jG0 sc) h (0, 0) := by
  refine j_aload_n (i := 0) rfl dX12_heaps_198 ?_
  refine j_getR (idx := 63) (ci := 12) (k := 29) (nest := false) (show (12, 63, 12, 29, false) ∈ jFT by decide) rfl (Nat.le_of_ble_eq_true rfl) rfl (a := 175) rfl dX12_heaps_199 ?_
  refine j_iload (i := 5) rfl dX12_heaps_202 ?_
  refine j_aload_n (i := 0) rfl dX12_heaps_204 ?_
  refine j_getR (idx := 63) (ci := 12) (k := 29) (nest := false) (show (12, 63, 12, 29, false) ∈ jFT by decide) rfl (Nat.le_of_ble_eq_true rfl) rfl (a := 175) rfl dX12_heaps_205 ?_
  refine j_iload (i := 4) rfl dX12_heaps_208 ?_
  refine j_iald (Nat.le_of_ble_eq_true rfl) rfl o1 dX12_heaps_210 ?_
  refine j_iconst (n := 1) 1 (by decide) dX12_heaps_211 ?_
  refine j_iadd dX12_heaps_212 ?_
  refine j_iast (Nat.le_of_ble_eq_true rfl) rfl o2 dX12_heaps_213 ?_
  exact j_le [some (.ref 159), some (.int l1), some (.int l2), some (.int l3), some (.int l4), none] (And.intro rfl (And.intro rfl (And.intro rfl (And.intro rfl (And.intro rfl True.intro))))) v1
set_option maxRecDepth 100000 in
theorem bX12_heaps_214 {sc : Nat × (Nat → Int32)} {h : jH} {Q : jQ} {l1 l2 l3 l4 : Int32}
    (v1 : WP mX12_heaps Q 138 [some (.ref 159), some (.int l1), some (.int l2), some (.int l3), some (.int (l4 + (-1))), none] [] (jG0 sc) h (0, 0)) :
    WP mX12_heaps Q 214 [some (.ref 159), some (.int l1), some (.int l2), some (.int l3), some (.int l4), none] [] (jG0 sc) h (0, 0) := by
  refine j_iinc (i := 4) (n := -1) rfl dX12_heaps_214 (Nat.le_of_ble_eq_true rfl) ?_
  refine j_eqlv [some (.ref 159), some (.int l1), some (.int l2), some (.int l3), some (.int (l4 + (-1))), none] rfl ?_
  refine j_goto (off := -79) 138 dX12_heaps_217 (by decide) ?_
  exact j_le [some (.ref 159), some (.int l1), some (.int l2), some (.int l3), some (.int (l4 + (-1))), none] (And.intro rfl (And.intro rfl (And.intro rfl (And.intro rfl (And.intro rfl True.intro))))) v1
set_option maxRecDepth 100000 in
theorem bX12_heaps_220 {sc : Nat × (Nat → Int32)} {h : jH} {Q : jQ} {l1 l2 : Int32}
    (v1 : WP mX12_heaps Q 106 [some (.ref 159), some (.int l1), some (.int (l2 + 1)), none, none, none] [] (jG0 sc) h (0, 0)) :
    WP mX12_heaps Q 220 [some (.ref 159), some (.int l1), some (.int l2), none, none, none] [] (jG0 sc) h (0, 0) := by
  refine j_iinc (i := 2) (n := 1) rfl dX12_heaps_220 (Nat.le_of_ble_eq_true rfl) ?_
  refine j_eqlv [some (.ref 159), some (.int l1), some (.int (l2 + 1)), none, none, none] rfl ?_
  refine j_goto (off := -117) 106 dX12_heaps_223 (by decide) ?_
  exact j_le [some (.ref 159), some (.int l1), some (.int (l2 + 1)), none, none, none] (And.intro rfl (And.intro rfl (And.intro rfl True.intro))) v1
set_option maxRecDepth 100000 in
theorem bX12_heaps_226 {sc : Nat × (Nat → Int32)} {h : jH} {Q : jQ} {l1 l2 : Int32}
    (o1 : vp_in l1 4096)
    (v1 : Q (.inl (some (.int (h 175 l1.toNatClampNeg)))) (jG0 sc) h) :
    WP mX12_heaps Q 226 [some (.ref 159), some (.int l1), some (.int l2), none, none, none] [] (jG0 sc) h (0, 0) := by
  refine j_aload_n (i := 0) rfl dX12_heaps_226 ?_
  refine j_getR (idx := 63) (ci := 12) (k := 29) (nest := false) (show (12, 63, 12, 29, false) ∈ jFT by decide) rfl (Nat.le_of_ble_eq_true rfl) rfl (a := 175) rfl dX12_heaps_227 ?_
  refine j_iload_n (i := 1) rfl dX12_heaps_230 ?_
  refine j_iald (Nat.le_of_ble_eq_true rfl) rfl o1 dX12_heaps_231 ?_
  exact j_iret rfl rfl (Nat.zero_le _) (Nat.zero_le _) dX12_heaps_232 v1
set_option maxRecDepth 100000 in
theorem rX12_heaps_0 {sc : Nat × (Nat → Int32)} {h : jH} {Q : jQ} {P1 : Int32 → jH → Prop} {P2 : Int32 → jH → Prop} {P3 : jH → Prop} {P4 : jH → Prop} {P5 : Int32 → jH → Prop} {P6 : jH → Prop} {P7 : jH → Prop}
    (k1 : JM mX12_lines [.ref 159] (jG0 sc) (jput h 159 0 0) (jint sc P1))
    (k2 : ∀ (x1 : Int32) (h1 : jH), P1 x1 h1 → ¬ x1 = 0 → JM mX12_throwsIf [.ref 159, .int 0, .int 1] (jG0 sc) h1 (jint sc P2))
    (k3 : ∀ (x1 : Int32) (h1 : jH), P1 x1 h1 → ¬ x1 = 0 → ∀ (x2 : Int32) (h2 : jH), P2 x2 h2 → x2 = 0 → JM mX12_listsBody [.ref 159] (jG0 sc) h2 (jvoid sc P3))
    (k4 : ∀ (x1 : Int32) (h1 : jH), P1 x1 h1 → ¬ x1 = 0 → ∀ (x2 : Int32) (h2 : jH), P2 x2 h2 → x2 = 0 → ∀ h3 : jH, P3 h3 → JM mX12_plain [.ref 159] (jG0 sc) h3 (jvoid sc P4))
    (v1 : ∀ (x1 : Int32) (h1 : jH), P1 x1 h1 → ¬ x1 = 0 → ∀ (x2 : Int32) (h2 : jH), P2 x2 h2 → x2 = 0 → ∀ h3 : jH, P3 h3 → ∀ h4 : jH, P4 h4 → WP mX12_heaps Q 39 [some (.ref 159), some (.int 0), some (.int 0), none, none, none] [] (jG0 sc) h4 (0, 0))
    (v2 : ∀ (x1 : Int32) (h1 : jH), P1 x1 h1 → ¬ x1 = 0 → ∀ (x2 : Int32) (h2 : jH), P2 x2 h2 → ¬ x2 = 0 → Q (.inl (some (.int 0))) (jG0 sc) h2)
    (k5 : ∀ (x1 : Int32) (h1 : jH), P1 x1 h1 → x1 = 0 → JM mX12_throwsIf [.ref 159, .int 1, .int 1] (jG0 sc) h1 (jint sc P5))
    (k6 : ∀ (x1 : Int32) (h1 : jH), P1 x1 h1 → x1 = 0 → ∀ (x5 : Int32) (h5 : jH), P5 x5 h5 → x5 = 0 → JM mX12_listsBody [.ref 159] (jG0 sc) h5 (jvoid sc P6))
    (k7 : ∀ (x1 : Int32) (h1 : jH), P1 x1 h1 → x1 = 0 → ∀ (x5 : Int32) (h5 : jH), P5 x5 h5 → x5 = 0 → ∀ h6 : jH, P6 h6 → JM mX12_plain [.ref 159] (jG0 sc) h6 (jvoid sc P7))
    (v3 : ∀ (x1 : Int32) (h1 : jH), P1 x1 h1 → x1 = 0 → ∀ (x5 : Int32) (h5 : jH), P5 x5 h5 → x5 = 0 → ∀ h6 : jH, P6 h6 → ∀ h7 : jH, P7 h7 → WP mX12_heaps Q 39 [some (.ref 159), some (.int 0), some (.int 0), none, none, none] [] (jG0 sc) h7 (0, 0))
    (v4 : ∀ (x1 : Int32) (h1 : jH), P1 x1 h1 → x1 = 0 → ∀ (x5 : Int32) (h5 : jH), P5 x5 h5 → ¬ x5 = 0 → Q (.inl (some (.int 0))) (jG0 sc) h5) :
    WP mX12_heaps Q 0 [some (.ref 159), none, none, none, none, none] [] (jG0 sc) h (0, 0) := by
  exact (bX12_heaps_0 k1 (fun x1 h1 p1 c1 => (bX12_heaps_17 (bX12_heaps_18 (k2 x1 h1 p1 c1) (fun x2 h2 p2 c2 => (bX12_heaps_27 (k3 x1 h1 p1 c1 x2 h2 p2 c2) (fun h3 p3 => (k4 x1 h1 p1 c1 x2 h2 p2 c2 h3 p3)) (fun h3 p3 h4 p4 => (v1 x1 h1 p1 c1 x2 h2 p2 c2 h3 p3 h4 p4)))) (fun x2 h2 p2 c2 => (bX12_heaps_25 (v2 x1 h1 p1 c1 x2 h2 p2 c2)))))) (fun x1 h1 p1 c1 => (bX12_heaps_13 (bX12_heaps_18 (k5 x1 h1 p1 c1) (fun x5 h5 p5 c3 => (bX12_heaps_27 (k6 x1 h1 p1 c1 x5 h5 p5 c3) (fun h6 p6 => (k7 x1 h1 p1 c1 x5 h5 p5 c3 h6 p6)) (fun h6 p6 h7 p7 => (v3 x1 h1 p1 c1 x5 h5 p5 c3 h6 p6 h7 p7)))) (fun x5 h5 p5 c3 => (bX12_heaps_25 (v4 x1 h1 p1 c1 x5 h5 p5 c3)))))))
set_option maxRecDepth 100000 in
theorem rX12_heaps_39 {sc : Nat × (Nat → Int32)} {h : jH} {Q : jQ} {l1 l2 : Int32} {P1 : Int32 → jH → Prop}
    (v1 : (h 160 122) ≤ l2 → WP mX12_heaps Q 76 [some (.ref 159), some (.int l1), some (.int 0), none, none, none] [] (jG0 sc) h (0, 0))
    (k1 : ¬ (h 160 122) ≤ l2 → JM mX12_isRight [.ref 159, .int l2] (jG0 sc) h (jint sc P1))
    (v2 : ¬ (h 160 122) ≤ l2 → ∀ (x1 : Int32) (h1 : jH), P1 x1 h1 → x1 = 0 → WP mX12_heaps Q 39 [some (.ref 159), some (.int (l1 ||| ((1 : Int32) <<< (l2 &&& 31)))), some (.int (l2 + 1)), none, none, none] [] (jG0 sc) h1 (0, 0))
    (v3 : ¬ (h 160 122) ≤ l2 → ∀ (x1 : Int32) (h1 : jH), P1 x1 h1 → ¬ x1 = 0 → WP mX12_heaps Q 39 [some (.ref 159), some (.int (l1 ||| 0)), some (.int (l2 + 1)), none, none, none] [] (jG0 sc) h1 (0, 0)) :
    WP mX12_heaps Q 39 [some (.ref 159), some (.int l1), some (.int l2), none, none, none] [] (jG0 sc) h (0, 0) := by
  exact (bX12_heaps_39 (fun c1 => (bX12_heaps_74 (v1 c1))) (fun c1 => (bX12_heaps_50 (k1 c1) (fun x1 h1 p1 c2 => (bX12_heaps_63 (bX12_heaps_66 (v2 c1 x1 h1 p1 c2)))) (fun x1 h1 p1 c2 => (bX12_heaps_59 (bX12_heaps_66 (v3 c1 x1 h1 p1 c2)))))))
set_option maxRecDepth 100000 in
theorem rX12_heaps_76 {sc : Nat × (Nat → Int32)} {h : jH} {Q : jQ} {l1 l2 : Int32}
    (v1 : 4096 ≤ l2 → WP mX12_heaps Q 106 [some (.ref 159), some (.int l1), some (.int 0), none, none, none] [] (jG0 sc) h (0, 0))
    (o1 : ¬ 4096 ≤ l2 → ¬ l2 = 0 → vp_in l2 4096)
    (v2 : ¬ 4096 ≤ l2 → ¬ l2 = 0 → WP mX12_heaps Q 76 [some (.ref 159), some (.int l1), some (.int (l2 + 1)), none, none, none] [] (jG0 sc) (jput h 175 l2.toNatClampNeg (-1)) (0, 0))
    (o2 : ¬ 4096 ≤ l2 → l2 = 0 → vp_in l2 4096)
    (v3 : ¬ 4096 ≤ l2 → l2 = 0 → WP mX12_heaps Q 76 [some (.ref 159), some (.int l1), some (.int (l2 + 1)), none, none, none] [] (jG0 sc) (jput h 175 l2.toNatClampNeg 0) (0, 0)) :
    WP mX12_heaps Q 76 [some (.ref 159), some (.int l1), some (.int l2), none, none, none] [] (jG0 sc) h (0, 0) := by
  exact (bX12_heaps_76 (fun c1 => (bX12_heaps_104 (v1 c1))) (fun c1 => (bX12_heaps_83 (fun c2 => (bX12_heaps_96 (bX12_heaps_97 (o1 c1 c2) (v2 c1 c2)))) (fun c2 => (bX12_heaps_92 (bX12_heaps_97 (o2 c1 c2) (v3 c1 c2)))))))
set_option maxRecDepth 100000 in
theorem rX12_heaps_106 {sc : Nat × (Nat → Int32)} {h : jH} {Q : jQ} {l1 l2 : Int32} {P1 : Int32 → jH → Prop} {P2 : Int32 → jH → Prop}
    (o1 : (h 159 26) ≤ l2 → vp_in l1 4096)
    (v1 : (h 159 26) ≤ l2 → Q (.inl (some (.int (h 175 l1.toNatClampNeg)))) (jG0 sc) h)
    (k1 : ¬ (h 159 26) ≤ l2 → JM mX12_turned [.ref 159, .int l2, .int 0] (jG0 sc) h (jint sc P1))
    (k2 : ¬ (h 159 26) ≤ l2 → ∀ (x1 : Int32) (h1 : jH), P1 x1 h1 → x1 = 0 → JM mX12_turned [.ref 159, .int l2, .int 1] (jG0 sc) h1 (jint sc P2))
    (v2 : ¬ (h 159 26) ≤ l2 → ∀ (x1 : Int32) (h1 : jH), P1 x1 h1 → x1 = 0 → ∀ (x2 : Int32) (h2 : jH), P2 x2 h2 → WP mX12_heaps Q 138 [some (.ref 159), some (.int l1), some (.int l2), some (.int x2), some (.int 4095), none] [] (jG0 sc) h2 (0, 0))
    (v3 : ¬ (h 159 26) ≤ l2 → ∀ (x1 : Int32) (h1 : jH), P1 x1 h1 → ¬ x1 = 0 → WP mX12_heaps Q 106 [some (.ref 159), some (.int l1), some (.int (l2 + 1)), none, none, none] [] (jG0 sc) h1 (0, 0)) :
    WP mX12_heaps Q 106 [some (.ref 159), some (.int l1), some (.int l2), none, none, none] [] (jG0 sc) h (0, 0) := by
  exact (bX12_heaps_106 (fun c1 => (bX12_heaps_226 (o1 c1) (v1 c1))) (fun c1 => (bX12_heaps_114 (k1 c1) (fun x1 h1 p1 c2 => (bX12_heaps_126 (k2 c1 x1 h1 p1 c2) (fun x2 h2 p2 => (v2 c1 x1 h1 p1 c2 x2 h2 p2)))) (fun x1 h1 p1 c2 => (bX12_heaps_123 (bX12_heaps_220 (v3 c1 x1 h1 p1 c2)))))))
set_option maxRecDepth 100000 in
theorem rX12_heaps_138 {sc : Nat × (Nat → Int32)} {h : jH} {Q : jQ} {l1 l2 l3 l4 : Int32}
    (v1 : l4 < 0 → WP mX12_heaps Q 106 [some (.ref 159), some (.int l1), some (.int (l2 + 1)), none, none, none] [] (jG0 sc) h (0, 0))
    (o1 : ¬ l4 < 0 → vp_in l4 4096)
    (v2 : ¬ l4 < 0 → 0 ≤ (h 175 l4.toNatClampNeg) → (l4 ||| l3) = l4 → WP mX12_heaps Q 138 [some (.ref 159), some (.int l1), some (.int l2), some (.int l3), some (.int (l4 + (-1))), none] [] (jG0 sc) h (0, 0))
    (o2 : ¬ l4 < 0 → 0 ≤ (h 175 l4.toNatClampNeg) → ¬ (l4 ||| l3) = l4 → vp_in (l4 ||| l3) 4096)
    (o3 : ¬ l4 < 0 → 0 ≤ (h 175 l4.toNatClampNeg) → ¬ (l4 ||| l3) = l4 → (h 175 ((l4 ||| l3).toNatClampNeg)) < 0 → vp_in l4 4096)
    (o4 : ¬ l4 < 0 → 0 ≤ (h 175 l4.toNatClampNeg) → ¬ (l4 ||| l3) = l4 → (h 175 ((l4 ||| l3).toNatClampNeg)) < 0 → vp_in (l4 ||| l3) 4096)
    (v3 : ¬ l4 < 0 → 0 ≤ (h 175 l4.toNatClampNeg) → ¬ (l4 ||| l3) = l4 → (h 175 ((l4 ||| l3).toNatClampNeg)) < 0 → WP mX12_heaps Q 138 [some (.ref 159), some (.int l1), some (.int l2), some (.int l3), some (.int (l4 + (-1))), none] [] (jG0 sc) (jput h 175 ((l4 ||| l3).toNatClampNeg) ((h 175 l4.toNatClampNeg) + 1)) (0, 0))
    (o5 : ¬ l4 < 0 → 0 ≤ (h 175 l4.toNatClampNeg) → ¬ (l4 ||| l3) = l4 → ¬ (h 175 ((l4 ||| l3).toNatClampNeg)) < 0 → vp_in (l4 ||| l3) 4096)
    (o6 : ¬ l4 < 0 → 0 ≤ (h 175 l4.toNatClampNeg) → ¬ (l4 ||| l3) = l4 → ¬ (h 175 ((l4 ||| l3).toNatClampNeg)) < 0 → vp_in l4 4096)
    (v4 : ¬ l4 < 0 → 0 ≤ (h 175 l4.toNatClampNeg) → ¬ (l4 ||| l3) = l4 → ¬ (h 175 ((l4 ||| l3).toNatClampNeg)) < 0 → (h 175 ((l4 ||| l3).toNatClampNeg)) ≤ ((h 175 l4.toNatClampNeg) + 1) → WP mX12_heaps Q 138 [some (.ref 159), some (.int l1), some (.int l2), some (.int l3), some (.int (l4 + (-1))), none] [] (jG0 sc) h (0, 0))
    (o7 : ¬ l4 < 0 → 0 ≤ (h 175 l4.toNatClampNeg) → ¬ (l4 ||| l3) = l4 → ¬ (h 175 ((l4 ||| l3).toNatClampNeg)) < 0 → ¬ (h 175 ((l4 ||| l3).toNatClampNeg)) ≤ ((h 175 l4.toNatClampNeg) + 1) → vp_in l4 4096)
    (o8 : ¬ l4 < 0 → 0 ≤ (h 175 l4.toNatClampNeg) → ¬ (l4 ||| l3) = l4 → ¬ (h 175 ((l4 ||| l3).toNatClampNeg)) < 0 → ¬ (h 175 ((l4 ||| l3).toNatClampNeg)) ≤ ((h 175 l4.toNatClampNeg) + 1) → vp_in (l4 ||| l3) 4096)
    (v5 : ¬ l4 < 0 → 0 ≤ (h 175 l4.toNatClampNeg) → ¬ (l4 ||| l3) = l4 → ¬ (h 175 ((l4 ||| l3).toNatClampNeg)) < 0 → ¬ (h 175 ((l4 ||| l3).toNatClampNeg)) ≤ ((h 175 l4.toNatClampNeg) + 1) → WP mX12_heaps Q 138 [some (.ref 159), some (.int l1), some (.int l2), some (.int l3), some (.int (l4 + (-1))), none] [] (jG0 sc) (jput h 175 ((l4 ||| l3).toNatClampNeg) ((h 175 l4.toNatClampNeg) + 1)) (0, 0))
    (v6 : ¬ l4 < 0 → ¬ 0 ≤ (h 175 l4.toNatClampNeg) → WP mX12_heaps Q 138 [some (.ref 159), some (.int l1), some (.int l2), some (.int l3), some (.int (l4 + (-1))), none] [] (jG0 sc) h (0, 0)) :
    WP mX12_heaps Q 138 [some (.ref 159), some (.int l1), some (.int l2), some (.int l3), some (.int l4), none] [] (jG0 sc) h (0, 0) := by
  exact (bX12_heaps_138 (fun c1 => (bX12_heaps_220 (v1 c1))) (fun c1 => (bX12_heaps_143 (o1 c1) (fun c2 => (bX12_heaps_156 (fun c3 => (bX12_heaps_214 (v2 c1 c2 c3))) (fun c3 => (bX12_heaps_169 (o2 c1 c2 c3) (fun c4 => (bX12_heaps_198 (o3 c1 c2 c3 c4) (o4 c1 c2 c3 c4) (bX12_heaps_214 (v3 c1 c2 c3 c4)))) (fun c4 => (bX12_heaps_179 (o5 c1 c2 c3 c4) (o6 c1 c2 c3 c4) (fun c5 => (bX12_heaps_214 (v4 c1 c2 c3 c4 c5))) (fun c5 => (bX12_heaps_198 (o7 c1 c2 c3 c4 c5) (o8 c1 c2 c3 c4 c5) (bX12_heaps_214 (v5 c1 c2 c3 c4 c5)))))))))) (fun c2 => (bX12_heaps_153 (bX12_heaps_214 (v6 c1 c2)))))))
theorem dX12_isAsBody_0 : decode (mC mX12_isAsBody) 0 = .ok (.iconst 0, 1) := by decide +kernel
theorem dX12_isAsBody_1 : decode (mC mX12_isAsBody) 1 = .ok (.istore_n 3, 1) := by decide +kernel
theorem dX12_isAsBody_2 : decode (mC mX12_isAsBody) 2 = .ok (.iload_n 3, 1) := by decide +kernel
theorem dX12_isAsBody_3 : decode (mC mX12_isAsBody) 3 = .ok (.bipush 61, 2) := by decide +kernel
theorem dX12_isAsBody_5 : decode (mC mX12_isAsBody) 5 = .ok (.if_icmp .ge 21, 3) := by decide +kernel
theorem dX12_isAsBody_8 : decode (mC mX12_isAsBody) 8 = .ok (.aload_n 0, 1) := by decide +kernel
theorem dX12_isAsBody_9 : decode (mC mX12_isAsBody) 9 = .ok (.getfield 66, 3) := by decide +kernel
theorem dX12_isAsBody_12 : decode (mC mX12_isAsBody) 12 = .ok (.iload_n 3, 1) := by decide +kernel
theorem dX12_isAsBody_13 : decode (mC mX12_isAsBody) 13 = .ok (.aload_n 0, 1) := by decide +kernel
theorem dX12_isAsBody_14 : decode (mC mX12_isAsBody) 14 = .ok (.getfield 39, 3) := by decide +kernel
theorem dX12_isAsBody_17 : decode (mC mX12_isAsBody) 17 = .ok (.iload_n 3, 1) := by decide +kernel
theorem dX12_isAsBody_18 : decode (mC mX12_isAsBody) 18 = .ok (.iaload, 1) := by decide +kernel
theorem dX12_isAsBody_19 : decode (mC mX12_isAsBody) 19 = .ok (.iastore, 1) := by decide +kernel
theorem dX12_isAsBody_20 : decode (mC mX12_isAsBody) 20 = .ok (.iinc 3 1, 3) := by decide +kernel
theorem dX12_isAsBody_23 : decode (mC mX12_isAsBody) 23 = .ok (.goto (-21), 3) := by decide +kernel
theorem dX12_isAsBody_26 : decode (mC mX12_isAsBody) 26 = .ok (.iconst 1, 1) := by decide +kernel
theorem dX12_isAsBody_27 : decode (mC mX12_isAsBody) 27 = .ok (.istore_n 3, 1) := by decide +kernel
theorem dX12_isAsBody_28 : decode (mC mX12_isAsBody) 28 = .ok (.iconst 0, 1) := by decide +kernel
theorem dX12_isAsBody_29 : decode (mC mX12_isAsBody) 29 = .ok (.istore 4, 2) := by decide +kernel
theorem dX12_isAsBody_31 : decode (mC mX12_isAsBody) 31 = .ok (.iload 4, 2) := by decide +kernel
theorem dX12_isAsBody_33 : decode (mC mX12_isAsBody) 33 = .ok (.aload_n 0, 1) := by decide +kernel
theorem dX12_isAsBody_34 : decode (mC mX12_isAsBody) 34 = .ok (.getfield 13, 3) := by decide +kernel
theorem dX12_isAsBody_37 : decode (mC mX12_isAsBody) 37 = .ok (.sipush 285, 3) := by decide +kernel
theorem dX12_isAsBody_40 : decode (mC mX12_isAsBody) 40 = .ok (.iaload, 1) := by decide +kernel
theorem dX12_isAsBody_41 : decode (mC mX12_isAsBody) 41 = .ok (.if_icmp .gt 127, 3) := by decide +kernel
theorem dX12_isAsBody_44 : decode (mC mX12_isAsBody) 44 = .ok (.iload_n 3, 1) := by decide +kernel
theorem dX12_isAsBody_45 : decode (mC mX12_isAsBody) 45 = .ok (.ifCond .eq 123, 3) := by decide +kernel
theorem dX12_isAsBody_48 : decode (mC mX12_isAsBody) 48 = .ok (.iconst 0, 1) := by decide +kernel
theorem dX12_isAsBody_49 : decode (mC mX12_isAsBody) 49 = .ok (.istore 5, 2) := by decide +kernel
theorem dX12_isAsBody_51 : decode (mC mX12_isAsBody) 51 = .ok (.iload 5, 2) := by decide +kernel
theorem dX12_isAsBody_53 : decode (mC mX12_isAsBody) 53 = .ok (.aload_n 0, 1) := by decide +kernel
theorem dX12_isAsBody_54 : decode (mC mX12_isAsBody) 54 = .ok (.getfield 13, 3) := by decide +kernel
theorem dX12_isAsBody_57 : decode (mC mX12_isAsBody) 57 = .ok (.sipush 285, 3) := by decide +kernel
theorem dX12_isAsBody_60 : decode (mC mX12_isAsBody) 60 = .ok (.iaload, 1) := by decide +kernel
theorem dX12_isAsBody_61 : decode (mC mX12_isAsBody) 61 = .ok (.if_icmp .gt 101, 3) := by decide +kernel
theorem dX12_isAsBody_64 : decode (mC mX12_isAsBody) 64 = .ok (.iload_n 3, 1) := by decide +kernel
theorem dX12_isAsBody_65 : decode (mC mX12_isAsBody) 65 = .ok (.ifCond .eq 97, 3) := by decide +kernel
theorem dX12_isAsBody_68 : decode (mC mX12_isAsBody) 68 = .ok (.iconst 0, 1) := by decide +kernel
theorem dX12_isAsBody_69 : decode (mC mX12_isAsBody) 69 = .ok (.istore 6, 2) := by decide +kernel
theorem dX12_isAsBody_71 : decode (mC mX12_isAsBody) 71 = .ok (.iload 6, 2) := by decide +kernel
theorem dX12_isAsBody_73 : decode (mC mX12_isAsBody) 73 = .ok (.bipush 61, 2) := by decide +kernel
theorem dX12_isAsBody_75 : decode (mC mX12_isAsBody) 75 = .ok (.if_icmp .ge 22, 3) := by decide +kernel
theorem dX12_isAsBody_78 : decode (mC mX12_isAsBody) 78 = .ok (.aload_n 0, 1) := by decide +kernel
theorem dX12_isAsBody_79 : decode (mC mX12_isAsBody) 79 = .ok (.getfield 39, 3) := by decide +kernel
theorem dX12_isAsBody_82 : decode (mC mX12_isAsBody) 82 = .ok (.iload 6, 2) := by decide +kernel
theorem dX12_isAsBody_84 : decode (mC mX12_isAsBody) 84 = .ok (.aload_n 1, 1) := by decide +kernel
theorem dX12_isAsBody_85 : decode (mC mX12_isAsBody) 85 = .ok (.iload_n 2, 1) := by decide +kernel
theorem dX12_isAsBody_86 : decode (mC mX12_isAsBody) 86 = .ok (.iload 6, 2) := by decide +kernel
theorem dX12_isAsBody_88 : decode (mC mX12_isAsBody) 88 = .ok (.iadd, 1) := by decide +kernel
theorem dX12_isAsBody_89 : decode (mC mX12_isAsBody) 89 = .ok (.iaload, 1) := by decide +kernel
theorem dX12_isAsBody_90 : decode (mC mX12_isAsBody) 90 = .ok (.iastore, 1) := by decide +kernel
theorem dX12_isAsBody_91 : decode (mC mX12_isAsBody) 91 = .ok (.iinc 6 1, 3) := by decide +kernel
theorem dX12_isAsBody_94 : decode (mC mX12_isAsBody) 94 = .ok (.goto (-23), 3) := by decide +kernel
theorem dX12_isAsBody_97 : decode (mC mX12_isAsBody) 97 = .ok (.aload_n 0, 1) := by decide +kernel
theorem dX12_isAsBody_98 : decode (mC mX12_isAsBody) 98 = .ok (.iload 4, 2) := by decide +kernel
theorem dX12_isAsBody_100 : decode (mC mX12_isAsBody) 100 = .ok (.iload 5, 2) := by decide +kernel
theorem dX12_isAsBody_102 : decode (mC mX12_isAsBody) 102 = .ok (.invokevirtual 248, 3) := by decide +kernel
theorem dX12_isAsBody_105 : decode (mC mX12_isAsBody) 105 = .ok (.istore 6, 2) := by decide +kernel
theorem dX12_isAsBody_107 : decode (mC mX12_isAsBody) 107 = .ok (.iconst 0, 1) := by decide +kernel
theorem dX12_isAsBody_108 : decode (mC mX12_isAsBody) 108 = .ok (.istore 7, 2) := by decide +kernel
theorem dX12_isAsBody_110 : decode (mC mX12_isAsBody) 110 = .ok (.iload 7, 2) := by decide +kernel
theorem dX12_isAsBody_112 : decode (mC mX12_isAsBody) 112 = .ok (.bipush 61, 2) := by decide +kernel
theorem dX12_isAsBody_114 : decode (mC mX12_isAsBody) 114 = .ok (.if_icmp .ge 23, 3) := by decide +kernel
theorem dX12_isAsBody_117 : decode (mC mX12_isAsBody) 117 = .ok (.aload_n 0, 1) := by decide +kernel
theorem dX12_isAsBody_118 : decode (mC mX12_isAsBody) 118 = .ok (.getfield 39, 3) := by decide +kernel
theorem dX12_isAsBody_121 : decode (mC mX12_isAsBody) 121 = .ok (.iload 7, 2) := by decide +kernel
theorem dX12_isAsBody_123 : decode (mC mX12_isAsBody) 123 = .ok (.aload_n 0, 1) := by decide +kernel
theorem dX12_isAsBody_124 : decode (mC mX12_isAsBody) 124 = .ok (.getfield 66, 3) := by decide +kernel
theorem dX12_isAsBody_127 : decode (mC mX12_isAsBody) 127 = .ok (.iload 7, 2) := by decide +kernel
theorem dX12_isAsBody_129 : decode (mC mX12_isAsBody) 129 = .ok (.iaload, 1) := by decide +kernel
theorem dX12_isAsBody_130 : decode (mC mX12_isAsBody) 130 = .ok (.iastore, 1) := by decide +kernel
theorem dX12_isAsBody_131 : decode (mC mX12_isAsBody) 131 = .ok (.iinc 7 1, 3) := by decide +kernel
theorem dX12_isAsBody_134 : decode (mC mX12_isAsBody) 134 = .ok (.goto (-24), 3) := by decide +kernel
theorem dX12_isAsBody_137 : decode (mC mX12_isAsBody) 137 = .ok (.aload_n 0, 1) := by decide +kernel
theorem dX12_isAsBody_138 : decode (mC mX12_isAsBody) 138 = .ok (.iload 4, 2) := by decide +kernel
theorem dX12_isAsBody_140 : decode (mC mX12_isAsBody) 140 = .ok (.iload 5, 2) := by decide +kernel
theorem dX12_isAsBody_142 : decode (mC mX12_isAsBody) 142 = .ok (.invokevirtual 248, 3) := by decide +kernel
theorem dX12_isAsBody_145 : decode (mC mX12_isAsBody) 145 = .ok (.iload 6, 2) := by decide +kernel
theorem dX12_isAsBody_147 : decode (mC mX12_isAsBody) 147 = .ok (.if_icmp .ne 7, 3) := by decide +kernel
theorem dX12_isAsBody_150 : decode (mC mX12_isAsBody) 150 = .ok (.iconst 1, 1) := by decide +kernel
theorem dX12_isAsBody_151 : decode (mC mX12_isAsBody) 151 = .ok (.goto 4, 3) := by decide +kernel
theorem dX12_isAsBody_154 : decode (mC mX12_isAsBody) 154 = .ok (.iconst 0, 1) := by decide +kernel
theorem dX12_isAsBody_155 : decode (mC mX12_isAsBody) 155 = .ok (.istore_n 3, 1) := by decide +kernel
theorem dX12_isAsBody_156 : decode (mC mX12_isAsBody) 156 = .ok (.iinc 5 1, 3) := by decide +kernel
theorem dX12_isAsBody_159 : decode (mC mX12_isAsBody) 159 = .ok (.goto (-108), 3) := by decide +kernel
theorem dX12_isAsBody_162 : decode (mC mX12_isAsBody) 162 = .ok (.iinc 4 1, 3) := by decide +kernel
theorem dX12_isAsBody_165 : decode (mC mX12_isAsBody) 165 = .ok (.goto (-134), 3) := by decide +kernel
theorem dX12_isAsBody_168 : decode (mC mX12_isAsBody) 168 = .ok (.iload_n 3, 1) := by decide +kernel
theorem dX12_isAsBody_169 : decode (mC mX12_isAsBody) 169 = .ok (.ireturn, 1) := by decide +kernel
set_option maxRecDepth 100000 in
theorem bX12_isAsBody_0 {sc : Nat × (Nat → Int32)} {h : jH} {Q : jQ} {l2 : Int32}
    (v1 : WP mX12_isAsBody Q 2 [some (.ref 159), some (.ref 160), some (.int l2), some (.int 0), none, none, none, none] [] (jG0 sc) h (0, 0)) :
    WP mX12_isAsBody Q 0 [some (.ref 159), some (.ref 160), some (.int l2), none, none, none, none, none] [] (jG0 sc) h (0, 0) := by
  refine j_iconst (n := 0) 0 (by decide) dX12_isAsBody_0 ?_
  refine j_istore_n (i := 3) dX12_isAsBody_1 (Nat.le_of_ble_eq_true rfl) ?_
  exact j_le [some (.ref 159), some (.ref 160), some (.int l2), some (.int 0), none, none, none, none] (And.intro rfl (And.intro rfl (And.intro rfl (And.intro rfl True.intro)))) v1
set_option maxRecDepth 100000 in
theorem bX12_isAsBody_2 {sc : Nat × (Nat → Int32)} {h : jH} {Q : jQ} {l2 l3 : Int32}
    (v1 : 61 ≤ l3 → WP mX12_isAsBody Q 26 [some (.ref 159), some (.ref 160), some (.int l2), some (.int l3), none, none, none, none] [] (jG0 sc) h (0, 0))
    (v2 : ¬ 61 ≤ l3 → WP mX12_isAsBody Q 8 [some (.ref 159), some (.ref 160), some (.int l2), some (.int l3), none, none, none, none] [] (jG0 sc) h (0, 0)) :
    WP mX12_isAsBody Q 2 [some (.ref 159), some (.ref 160), some (.int l2), some (.int l3), none, none, none, none] [] (jG0 sc) h (0, 0) := by
  refine j_iload_n (i := 3) rfl dX12_isAsBody_2 ?_
  refine j_bipush (n := 61) 61 (by decide) dX12_isAsBody_3 ?_
  refine j_icmp_ge (off := 21) 26 dX12_isAsBody_5 (by decide) (fun c1 => ?_) (fun c1 => ?_)
  · exact j_le [some (.ref 159), some (.ref 160), some (.int l2), some (.int l3), none, none, none, none] (And.intro rfl (And.intro rfl (And.intro rfl (And.intro rfl True.intro)))) (v1 c1)
  · exact j_le [some (.ref 159), some (.ref 160), some (.int l2), some (.int l3), none, none, none, none] (And.intro rfl (And.intro rfl (And.intro rfl (And.intro rfl True.intro)))) (v2 c1)
set_option maxRecDepth 100000 in
theorem bX12_isAsBody_8 {sc : Nat × (Nat → Int32)} {h : jH} {Q : jQ} {l2 l3 : Int32}
    (o1 : vp_in l3 61)
    (o2 : vp_in l3 61)
    (v1 : WP mX12_isAsBody Q 2 [some (.ref 159), some (.ref 160), some (.int l2), some (.int (l3 + 1)), none, none, none, none] [] (jG0 sc) (jput h 176 l3.toNatClampNeg (h 167 l3.toNatClampNeg)) (0, 0)) :
    WP mX12_isAsBody Q 8 [some (.ref 159), some (.ref 160), some (.int l2), some (.int l3), none, none, none, none] [] (jG0 sc) h (0, 0) := by
  refine j_aload_n (i := 0) rfl dX12_isAsBody_8 ?_
  refine j_getR (idx := 66) (ci := 12) (k := 30) (nest := false) (show (12, 66, 12, 30, false) ∈ jFT by decide) rfl (Nat.le_of_ble_eq_true rfl) rfl (a := 176) rfl dX12_isAsBody_9 ?_
  refine j_iload_n (i := 3) rfl dX12_isAsBody_12 ?_
  refine j_aload_n (i := 0) rfl dX12_isAsBody_13 ?_
  refine j_getR (idx := 39) (ci := 12) (k := 16) (nest := false) (show (12, 39, 12, 16, false) ∈ jFT by decide) rfl (Nat.le_of_ble_eq_true rfl) rfl (a := 167) rfl dX12_isAsBody_14 ?_
  refine j_iload_n (i := 3) rfl dX12_isAsBody_17 ?_
  refine j_iald (Nat.le_of_ble_eq_true rfl) rfl o1 dX12_isAsBody_18 ?_
  refine j_iast (Nat.le_of_ble_eq_true rfl) rfl o2 dX12_isAsBody_19 ?_
  refine j_iinc (i := 3) (n := 1) rfl dX12_isAsBody_20 (Nat.le_of_ble_eq_true rfl) ?_
  refine j_eqlv [some (.ref 159), some (.ref 160), some (.int l2), some (.int (l3 + 1)), none, none, none, none] rfl ?_
  refine j_goto (off := -21) 2 dX12_isAsBody_23 (by decide) ?_
  exact j_le [some (.ref 159), some (.ref 160), some (.int l2), some (.int (l3 + 1)), none, none, none, none] (And.intro rfl (And.intro rfl (And.intro rfl (And.intro rfl True.intro)))) v1
set_option maxRecDepth 100000 in
theorem bX12_isAsBody_26 {sc : Nat × (Nat → Int32)} {h : jH} {Q : jQ} {l2 l3 : Int32}
    (v1 : WP mX12_isAsBody Q 31 [some (.ref 159), some (.ref 160), some (.int l2), some (.int 1), some (.int 0), none, none, none] [] (jG0 sc) h (0, 0)) :
    WP mX12_isAsBody Q 26 [some (.ref 159), some (.ref 160), some (.int l2), some (.int l3), none, none, none, none] [] (jG0 sc) h (0, 0) := by
  refine j_iconst (n := 1) 1 (by decide) dX12_isAsBody_26 ?_
  refine j_istore_n (i := 3) dX12_isAsBody_27 (Nat.le_of_ble_eq_true rfl) ?_
  refine j_iconst (n := 0) 0 (by decide) dX12_isAsBody_28 ?_
  refine j_istore (i := 4) dX12_isAsBody_29 (Nat.le_of_ble_eq_true rfl) ?_
  exact j_le [some (.ref 159), some (.ref 160), some (.int l2), some (.int 1), some (.int 0), none, none, none] (And.intro rfl (And.intro rfl (And.intro rfl (And.intro rfl (And.intro rfl True.intro))))) v1
set_option maxRecDepth 100000 in
theorem bX12_isAsBody_31 {sc : Nat × (Nat → Int32)} {h : jH} {Q : jQ} {l2 l3 l4 : Int32}
    (v1 : (h 160 285) < l4 → WP mX12_isAsBody Q 168 [some (.ref 159), some (.ref 160), some (.int l2), some (.int l3), some (.int l4), none, none, none] [] (jG0 sc) h (0, 0))
    (v2 : ¬ (h 160 285) < l4 → WP mX12_isAsBody Q 44 [some (.ref 159), some (.ref 160), some (.int l2), some (.int l3), some (.int l4), none, none, none] [] (jG0 sc) h (0, 0)) :
    WP mX12_isAsBody Q 31 [some (.ref 159), some (.ref 160), some (.int l2), some (.int l3), some (.int l4), none, none, none] [] (jG0 sc) h (0, 0) := by
  refine j_iload (i := 4) rfl dX12_isAsBody_31 ?_
  refine j_aload_n (i := 0) rfl dX12_isAsBody_33 ?_
  refine j_getR (idx := 13) (ci := 12) (k := 1) (nest := false) (show (12, 13, 12, 1, false) ∈ jFT by decide) rfl (Nat.le_of_ble_eq_true rfl) rfl (a := 160) rfl dX12_isAsBody_34 ?_
  refine j_sipush (n := 285) 285 (by decide) dX12_isAsBody_37 ?_
  refine j_iald (Nat.le_of_ble_eq_true rfl) rfl (jinl (n := 1454) (by decide)) dX12_isAsBody_40 ?_
  refine j_eqst [.int (h 160 285), .int l4] (by rfl) ?_
  refine j_icmp_gt (off := 127) 168 dX12_isAsBody_41 (by decide) (fun c1 => ?_) (fun c1 => ?_)
  · exact j_le [some (.ref 159), some (.ref 160), some (.int l2), some (.int l3), some (.int l4), none, none, none] (And.intro rfl (And.intro rfl (And.intro rfl (And.intro rfl (And.intro rfl True.intro))))) (v1 c1)
  · exact j_le [some (.ref 159), some (.ref 160), some (.int l2), some (.int l3), some (.int l4), none, none, none] (And.intro rfl (And.intro rfl (And.intro rfl (And.intro rfl (And.intro rfl True.intro))))) (v2 c1)
set_option maxRecDepth 100000 in
theorem bX12_isAsBody_44 {sc : Nat × (Nat → Int32)} {h : jH} {Q : jQ} {l2 l3 l4 : Int32}
    (v1 : l3 = 0 → WP mX12_isAsBody Q 168 [some (.ref 159), some (.ref 160), some (.int l2), some (.int l3), some (.int l4), none, none, none] [] (jG0 sc) h (0, 0))
    (v2 : ¬ l3 = 0 → WP mX12_isAsBody Q 48 [some (.ref 159), some (.ref 160), some (.int l2), some (.int l3), some (.int l4), none, none, none] [] (jG0 sc) h (0, 0)) :
    WP mX12_isAsBody Q 44 [some (.ref 159), some (.ref 160), some (.int l2), some (.int l3), some (.int l4), none, none, none] [] (jG0 sc) h (0, 0) := by
  refine j_iload_n (i := 3) rfl dX12_isAsBody_44 ?_
  refine j_if_eq (off := 123) 168 dX12_isAsBody_45 (by decide) (fun c1 => ?_) (fun c1 => ?_)
  · exact j_le [some (.ref 159), some (.ref 160), some (.int l2), some (.int l3), some (.int l4), none, none, none] (And.intro rfl (And.intro rfl (And.intro rfl (And.intro rfl (And.intro rfl True.intro))))) (v1 c1)
  · exact j_le [some (.ref 159), some (.ref 160), some (.int l2), some (.int l3), some (.int l4), none, none, none] (And.intro rfl (And.intro rfl (And.intro rfl (And.intro rfl (And.intro rfl True.intro))))) (v2 c1)
set_option maxRecDepth 100000 in
theorem bX12_isAsBody_48 {sc : Nat × (Nat → Int32)} {h : jH} {Q : jQ} {l2 l3 l4 : Int32}
    (v1 : WP mX12_isAsBody Q 51 [some (.ref 159), some (.ref 160), some (.int l2), some (.int l3), some (.int l4), some (.int 0), none, none] [] (jG0 sc) h (0, 0)) :
    WP mX12_isAsBody Q 48 [some (.ref 159), some (.ref 160), some (.int l2), some (.int l3), some (.int l4), none, none, none] [] (jG0 sc) h (0, 0) := by
  refine j_iconst (n := 0) 0 (by decide) dX12_isAsBody_48 ?_
  refine j_istore (i := 5) dX12_isAsBody_49 (Nat.le_of_ble_eq_true rfl) ?_
  exact j_le [some (.ref 159), some (.ref 160), some (.int l2), some (.int l3), some (.int l4), some (.int 0), none, none] (And.intro rfl (And.intro rfl (And.intro rfl (And.intro rfl (And.intro rfl (And.intro rfl True.intro)))))) v1
set_option maxRecDepth 100000 in
theorem bX12_isAsBody_51 {sc : Nat × (Nat → Int32)} {h : jH} {Q : jQ} {l2 l3 l4 l5 : Int32}
    (v1 : (h 160 285) < l5 → WP mX12_isAsBody Q 162 [some (.ref 159), some (.ref 160), some (.int l2), some (.int l3), some (.int l4), some (.int l5), none, none] [] (jG0 sc) h (0, 0))
    (v2 : ¬ (h 160 285) < l5 → WP mX12_isAsBody Q 64 [some (.ref 159), some (.ref 160), some (.int l2), some (.int l3), some (.int l4), some (.int l5), none, none] [] (jG0 sc) h (0, 0)) :
    WP mX12_isAsBody Q 51 [some (.ref 159), some (.ref 160), some (.int l2), some (.int l3), some (.int l4), some (.int l5), none, none] [] (jG0 sc) h (0, 0) := by
  refine j_iload (i := 5) rfl dX12_isAsBody_51 ?_
  refine j_aload_n (i := 0) rfl dX12_isAsBody_53 ?_
  refine j_getR (idx := 13) (ci := 12) (k := 1) (nest := false) (show (12, 13, 12, 1, false) ∈ jFT by decide) rfl (Nat.le_of_ble_eq_true rfl) rfl (a := 160) rfl dX12_isAsBody_54 ?_
  refine j_sipush (n := 285) 285 (by decide) dX12_isAsBody_57 ?_
  refine j_iald (Nat.le_of_ble_eq_true rfl) rfl (jinl (n := 1454) (by decide)) dX12_isAsBody_60 ?_
  refine j_eqst [.int (h 160 285), .int l5] (by rfl) ?_
  refine j_icmp_gt (off := 101) 162 dX12_isAsBody_61 (by decide) (fun c1 => ?_) (fun c1 => ?_)
  · exact j_le [some (.ref 159), some (.ref 160), some (.int l2), some (.int l3), some (.int l4), some (.int l5), none, none] (And.intro rfl (And.intro rfl (And.intro rfl (And.intro rfl (And.intro rfl (And.intro rfl True.intro)))))) (v1 c1)
  · exact j_le [some (.ref 159), some (.ref 160), some (.int l2), some (.int l3), some (.int l4), some (.int l5), none, none] (And.intro rfl (And.intro rfl (And.intro rfl (And.intro rfl (And.intro rfl (And.intro rfl True.intro)))))) (v2 c1)
set_option maxRecDepth 100000 in
theorem bX12_isAsBody_64 {sc : Nat × (Nat → Int32)} {h : jH} {Q : jQ} {l2 l3 l4 l5 : Int32}
    (v1 : l3 = 0 → WP mX12_isAsBody Q 162 [some (.ref 159), some (.ref 160), some (.int l2), some (.int l3), some (.int l4), some (.int l5), none, none] [] (jG0 sc) h (0, 0))
    (v2 : ¬ l3 = 0 → WP mX12_isAsBody Q 68 [some (.ref 159), some (.ref 160), some (.int l2), some (.int l3), some (.int l4), some (.int l5), none, none] [] (jG0 sc) h (0, 0)) :
    WP mX12_isAsBody Q 64 [some (.ref 159), some (.ref 160), some (.int l2), some (.int l3), some (.int l4), some (.int l5), none, none] [] (jG0 sc) h (0, 0) := by
  refine j_iload_n (i := 3) rfl dX12_isAsBody_64 ?_
  refine j_if_eq (off := 97) 162 dX12_isAsBody_65 (by decide) (fun c1 => ?_) (fun c1 => ?_)
  · exact j_le [some (.ref 159), some (.ref 160), some (.int l2), some (.int l3), some (.int l4), some (.int l5), none, none] (And.intro rfl (And.intro rfl (And.intro rfl (And.intro rfl (And.intro rfl (And.intro rfl True.intro)))))) (v1 c1)
  · exact j_le [some (.ref 159), some (.ref 160), some (.int l2), some (.int l3), some (.int l4), some (.int l5), none, none] (And.intro rfl (And.intro rfl (And.intro rfl (And.intro rfl (And.intro rfl (And.intro rfl True.intro)))))) (v2 c1)
set_option maxRecDepth 100000 in
theorem bX12_isAsBody_68 {sc : Nat × (Nat → Int32)} {h : jH} {Q : jQ} {l2 l3 l4 l5 : Int32}
    (v1 : WP mX12_isAsBody Q 71 [some (.ref 159), some (.ref 160), some (.int l2), some (.int l3), some (.int l4), some (.int l5), some (.int 0), none] [] (jG0 sc) h (0, 0)) :
    WP mX12_isAsBody Q 68 [some (.ref 159), some (.ref 160), some (.int l2), some (.int l3), some (.int l4), some (.int l5), none, none] [] (jG0 sc) h (0, 0) := by
  refine j_iconst (n := 0) 0 (by decide) dX12_isAsBody_68 ?_
  refine j_istore (i := 6) dX12_isAsBody_69 (Nat.le_of_ble_eq_true rfl) ?_
  exact j_le [some (.ref 159), some (.ref 160), some (.int l2), some (.int l3), some (.int l4), some (.int l5), some (.int 0), none] (And.intro rfl (And.intro rfl (And.intro rfl (And.intro rfl (And.intro rfl (And.intro rfl (And.intro rfl True.intro))))))) v1
set_option maxRecDepth 100000 in
theorem bX12_isAsBody_71 {sc : Nat × (Nat → Int32)} {h : jH} {Q : jQ} {l2 l3 l4 l5 l6 : Int32}
    (v1 : 61 ≤ l6 → WP mX12_isAsBody Q 97 [some (.ref 159), some (.ref 160), some (.int l2), some (.int l3), some (.int l4), some (.int l5), some (.int l6), none] [] (jG0 sc) h (0, 0))
    (v2 : ¬ 61 ≤ l6 → WP mX12_isAsBody Q 78 [some (.ref 159), some (.ref 160), some (.int l2), some (.int l3), some (.int l4), some (.int l5), some (.int l6), none] [] (jG0 sc) h (0, 0)) :
    WP mX12_isAsBody Q 71 [some (.ref 159), some (.ref 160), some (.int l2), some (.int l3), some (.int l4), some (.int l5), some (.int l6), none] [] (jG0 sc) h (0, 0) := by
  refine j_iload (i := 6) rfl dX12_isAsBody_71 ?_
  refine j_bipush (n := 61) 61 (by decide) dX12_isAsBody_73 ?_
  refine j_icmp_ge (off := 22) 97 dX12_isAsBody_75 (by decide) (fun c1 => ?_) (fun c1 => ?_)
  · exact j_le [some (.ref 159), some (.ref 160), some (.int l2), some (.int l3), some (.int l4), some (.int l5), some (.int l6), none] (And.intro rfl (And.intro rfl (And.intro rfl (And.intro rfl (And.intro rfl (And.intro rfl (And.intro rfl True.intro))))))) (v1 c1)
  · exact j_le [some (.ref 159), some (.ref 160), some (.int l2), some (.int l3), some (.int l4), some (.int l5), some (.int l6), none] (And.intro rfl (And.intro rfl (And.intro rfl (And.intro rfl (And.intro rfl (And.intro rfl (And.intro rfl True.intro))))))) (v2 c1)
set_option maxRecDepth 100000 in
theorem bX12_isAsBody_78 {sc : Nat × (Nat → Int32)} {h : jH} {Q : jQ} {l2 l3 l4 l5 l6 : Int32}
    (o1 : vp_in (l2 + l6) 1454)
    (o2 : vp_in l6 61)
    (v1 : WP mX12_isAsBody Q 71 [some (.ref 159), some (.ref 160), some (.int l2), some (.int l3), some (.int l4), some (.int l5), some (.int (l6 + 1)), none] [] (jG0 sc) (jput h 167 l6.toNatClampNeg (h 160 ((l2 + l6).toNatClampNeg))) (0, 0)) :
    WP mX12_isAsBody Q 78 [some (.ref 159), some (.ref 160), some (.int l2), some (.int l3), some (.int l4), some (.int l5), some (.int l6), none] [] (jG0 sc) h (0, 0) := by
  refine j_aload_n (i := 0) rfl dX12_isAsBody_78 ?_
  refine j_getR (idx := 39) (ci := 12) (k := 16) (nest := false) (show (12, 39, 12, 16, false) ∈ jFT by decide) rfl (Nat.le_of_ble_eq_true rfl) rfl (a := 167) rfl dX12_isAsBody_79 ?_
  refine j_iload (i := 6) rfl dX12_isAsBody_82 ?_
  refine j_aload_n (i := 1) rfl dX12_isAsBody_84 ?_
  refine j_iload_n (i := 2) rfl dX12_isAsBody_85 ?_
  refine j_iload (i := 6) rfl dX12_isAsBody_86 ?_
  refine j_iadd dX12_isAsBody_88 ?_
  refine j_iald (Nat.le_of_ble_eq_true rfl) rfl o1 dX12_isAsBody_89 ?_
  refine j_iast (Nat.le_of_ble_eq_true rfl) rfl o2 dX12_isAsBody_90 ?_
  refine j_iinc (i := 6) (n := 1) rfl dX12_isAsBody_91 (Nat.le_of_ble_eq_true rfl) ?_
  refine j_eqlv [some (.ref 159), some (.ref 160), some (.int l2), some (.int l3), some (.int l4), some (.int l5), some (.int (l6 + 1)), none] rfl ?_
  refine j_goto (off := -23) 71 dX12_isAsBody_94 (by decide) ?_
  exact j_le [some (.ref 159), some (.ref 160), some (.int l2), some (.int l3), some (.int l4), some (.int l5), some (.int (l6 + 1)), none] (And.intro rfl (And.intro rfl (And.intro rfl (And.intro rfl (And.intro rfl (And.intro rfl (And.intro rfl True.intro))))))) v1
set_option maxRecDepth 100000 in
theorem bX12_isAsBody_97 {sc : Nat × (Nat → Int32)} {h : jH} {Q : jQ} {l2 l3 l4 l5 l6 : Int32} {P1 : Int32 → jH → Prop}
    (k1 : JM mX12_endAt [.ref 159, .int l4, .int l5] (jG0 sc) h (jint sc P1))
    (v1 : ∀ (x1 : Int32) (h1 : jH), P1 x1 h1 → WP mX12_isAsBody Q 110 [some (.ref 159), some (.ref 160), some (.int l2), some (.int l3), some (.int l4), some (.int l5), some (.int x1), some (.int 0)] [] (jG0 sc) h1 (0, 0)) :
    WP mX12_isAsBody Q 97 [some (.ref 159), some (.ref 160), some (.int l2), some (.int l3), some (.int l4), some (.int l5), some (.int l6), none] [] (jG0 sc) h (0, 0) := by
  refine j_aload_n (i := 0) rfl dX12_isAsBody_97 ?_
  refine j_iload (i := 4) rfl dX12_isAsBody_98 ?_
  refine j_iload (i := 5) rfl dX12_isAsBody_100 ?_
  refine j_callV (idx := 248) (As := [.int l4, .int l5]) (ci := 12) (n := 2) k1 jint_nt (jlkT (jtb7 71 rfl) rfl) sX12_endAt kX12_endAt rfl ⟨rfl, by decide +kernel, by decide +kernel, by decide +kernel⟩ rfl ⟨by decide, by decide⟩ (Nat.le_of_ble_eq_true rfl) rfl (Nat.le_of_ble_eq_true rfl) (Nat.le_of_ble_eq_true rfl) ⟨Nat.zero_le _, Nat.zero_le _⟩ dX12_isAsBody_102 (fun r Γ' h1 q => ?_)
  obtain ⟨x1, q0, rfl, p1⟩ := q; cases q0
  refine j_eqst [.int x1] (by rfl) ?_
  refine j_istore (i := 6) dX12_isAsBody_105 (Nat.le_of_ble_eq_true rfl) ?_
  refine j_iconst (n := 0) 0 (by decide) dX12_isAsBody_107 ?_
  refine j_istore (i := 7) dX12_isAsBody_108 (Nat.le_of_ble_eq_true rfl) ?_
  exact j_le [some (.ref 159), some (.ref 160), some (.int l2), some (.int l3), some (.int l4), some (.int l5), some (.int x1), some (.int 0)] (And.intro rfl (And.intro rfl (And.intro rfl (And.intro rfl (And.intro rfl (And.intro rfl (And.intro rfl (And.intro rfl True.intro)))))))) (v1 x1 h1 p1)
set_option maxRecDepth 100000 in
theorem bX12_isAsBody_110 {sc : Nat × (Nat → Int32)} {h : jH} {Q : jQ} {l2 l3 l4 l5 l6 l7 : Int32}
    (v1 : 61 ≤ l7 → WP mX12_isAsBody Q 137 [some (.ref 159), some (.ref 160), some (.int l2), some (.int l3), some (.int l4), some (.int l5), some (.int l6), some (.int l7)] [] (jG0 sc) h (0, 0))
    (v2 : ¬ 61 ≤ l7 → WP mX12_isAsBody Q 117 [some (.ref 159), some (.ref 160), some (.int l2), some (.int l3), some (.int l4), some (.int l5), some (.int l6), some (.int l7)] [] (jG0 sc) h (0, 0)) :
    WP mX12_isAsBody Q 110 [some (.ref 159), some (.ref 160), some (.int l2), some (.int l3), some (.int l4), some (.int l5), some (.int l6), some (.int l7)] [] (jG0 sc) h (0, 0) := by
  refine j_iload (i := 7) rfl dX12_isAsBody_110 ?_
  refine j_bipush (n := 61) 61 (by decide) dX12_isAsBody_112 ?_
  refine j_icmp_ge (off := 23) 137 dX12_isAsBody_114 (by decide) (fun c1 => ?_) (fun c1 => ?_)
  · exact j_le [some (.ref 159), some (.ref 160), some (.int l2), some (.int l3), some (.int l4), some (.int l5), some (.int l6), some (.int l7)] (And.intro rfl (And.intro rfl (And.intro rfl (And.intro rfl (And.intro rfl (And.intro rfl (And.intro rfl (And.intro rfl True.intro)))))))) (v1 c1)
  · exact j_le [some (.ref 159), some (.ref 160), some (.int l2), some (.int l3), some (.int l4), some (.int l5), some (.int l6), some (.int l7)] (And.intro rfl (And.intro rfl (And.intro rfl (And.intro rfl (And.intro rfl (And.intro rfl (And.intro rfl (And.intro rfl True.intro)))))))) (v2 c1)
set_option maxRecDepth 100000 in
theorem bX12_isAsBody_117 {sc : Nat × (Nat → Int32)} {h : jH} {Q : jQ} {l2 l3 l4 l5 l6 l7 : Int32}
    (o1 : vp_in l7 61)
    (o2 : vp_in l7 61)
    (v1 : WP mX12_isAsBody Q 110 [some (.ref 159), some (.ref 160), some (.int l2), some (.int l3), some (.int l4), some (.int l5), some (.int l6), some (.int (l7 + 1))] [] (jG0 sc) (jput h 167 l7.toNatClampNeg (h 176 l7.toNatClampNeg)) (0, 0)) :
    WP mX12_isAsBody Q 117 [some (.ref 159), some (.ref 160), some (.int l2), some (.int l3), some (.int l4), some (.int l5), some (.int l6), some (.int l7)] [] (jG0 sc) h (0, 0) := by
  refine j_aload_n (i := 0) rfl dX12_isAsBody_117 ?_
  refine j_getR (idx := 39) (ci := 12) (k := 16) (nest := false) (show (12, 39, 12, 16, false) ∈ jFT by decide) rfl (Nat.le_of_ble_eq_true rfl) rfl (a := 167) rfl dX12_isAsBody_118 ?_
  refine j_iload (i := 7) rfl dX12_isAsBody_121 ?_
  refine j_aload_n (i := 0) rfl dX12_isAsBody_123 ?_
  refine j_getR (idx := 66) (ci := 12) (k := 30) (nest := false) (show (12, 66, 12, 30, false) ∈ jFT by decide) rfl (Nat.le_of_ble_eq_true rfl) rfl (a := 176) rfl dX12_isAsBody_124 ?_
  refine j_iload (i := 7) rfl dX12_isAsBody_127 ?_
  refine j_iald (Nat.le_of_ble_eq_true rfl) rfl o1 dX12_isAsBody_129 ?_
  refine j_iast (Nat.le_of_ble_eq_true rfl) rfl o2 dX12_isAsBody_130 ?_
  refine j_iinc (i := 7) (n := 1) rfl dX12_isAsBody_131 (Nat.le_of_ble_eq_true rfl) ?_
  refine j_eqlv [some (.ref 159), some (.ref 160), some (.int l2), some (.int l3), some (.int l4), some (.int l5), some (.int l6), some (.int (l7 + 1))] rfl ?_
  refine j_goto (off := -24) 110 dX12_isAsBody_134 (by decide) ?_
  exact j_le [some (.ref 159), some (.ref 160), some (.int l2), some (.int l3), some (.int l4), some (.int l5), some (.int l6), some (.int (l7 + 1))] (And.intro rfl (And.intro rfl (And.intro rfl (And.intro rfl (And.intro rfl (And.intro rfl (And.intro rfl (And.intro rfl True.intro)))))))) v1
set_option maxRecDepth 100000 in
theorem bX12_isAsBody_137 {sc : Nat × (Nat → Int32)} {h : jH} {Q : jQ} {l2 l3 l4 l5 l6 l7 : Int32} {P1 : Int32 → jH → Prop}
    (k1 : JM mX12_endAt [.ref 159, .int l4, .int l5] (jG0 sc) h (jint sc P1))
    (v1 : ∀ (x1 : Int32) (h1 : jH), P1 x1 h1 → ¬ x1 = l6 → WP mX12_isAsBody Q 154 [some (.ref 159), some (.ref 160), some (.int l2), some (.int l3), some (.int l4), some (.int l5), some (.int l6), some (.int l7)] [] (jG0 sc) h1 (0, 0))
    (v2 : ∀ (x1 : Int32) (h1 : jH), P1 x1 h1 → x1 = l6 → WP mX12_isAsBody Q 150 [some (.ref 159), some (.ref 160), some (.int l2), some (.int l3), some (.int l4), some (.int l5), some (.int l6), some (.int l7)] [] (jG0 sc) h1 (0, 0)) :
    WP mX12_isAsBody Q 137 [some (.ref 159), some (.ref 160), some (.int l2), some (.int l3), some (.int l4), some (.int l5), some (.int l6), some (.int l7)] [] (jG0 sc) h (0, 0) := by
  refine j_aload_n (i := 0) rfl dX12_isAsBody_137 ?_
  refine j_iload (i := 4) rfl dX12_isAsBody_138 ?_
  refine j_iload (i := 5) rfl dX12_isAsBody_140 ?_
  refine j_callV (idx := 248) (As := [.int l4, .int l5]) (ci := 12) (n := 2) k1 jint_nt (jlkT (jtb7 71 rfl) rfl) sX12_endAt kX12_endAt rfl ⟨rfl, by decide +kernel, by decide +kernel, by decide +kernel⟩ rfl ⟨by decide, by decide⟩ (Nat.le_of_ble_eq_true rfl) rfl (Nat.le_of_ble_eq_true rfl) (Nat.le_of_ble_eq_true rfl) ⟨Nat.zero_le _, Nat.zero_le _⟩ dX12_isAsBody_142 (fun r Γ' h1 q => ?_)
  obtain ⟨x1, q0, rfl, p1⟩ := q; cases q0
  refine j_eqst [.int x1] (by rfl) ?_
  refine j_iload (i := 6) rfl dX12_isAsBody_145 ?_
  refine j_icmp_ne (off := 7) 154 dX12_isAsBody_147 (by decide) (fun c1 => ?_) (fun c1 => ?_)
  · exact j_le [some (.ref 159), some (.ref 160), some (.int l2), some (.int l3), some (.int l4), some (.int l5), some (.int l6), some (.int l7)] (And.intro rfl (And.intro rfl (And.intro rfl (And.intro rfl (And.intro rfl (And.intro rfl (And.intro rfl (And.intro rfl True.intro)))))))) (v1 x1 h1 p1 c1)
  · exact j_le [some (.ref 159), some (.ref 160), some (.int l2), some (.int l3), some (.int l4), some (.int l5), some (.int l6), some (.int l7)] (And.intro rfl (And.intro rfl (And.intro rfl (And.intro rfl (And.intro rfl (And.intro rfl (And.intro rfl (And.intro rfl True.intro)))))))) (v2 x1 h1 p1 c1)
set_option maxRecDepth 100000 in
theorem bX12_isAsBody_150 {sc : Nat × (Nat → Int32)} {h : jH} {Q : jQ} {l2 l3 l4 l5 l6 l7 : Int32}
    (v1 : WP mX12_isAsBody Q 155 [some (.ref 159), some (.ref 160), some (.int l2), some (.int l3), some (.int l4), some (.int l5), some (.int l6), some (.int l7)] [.int 1] (jG0 sc) h (0, 0)) :
    WP mX12_isAsBody Q 150 [some (.ref 159), some (.ref 160), some (.int l2), some (.int l3), some (.int l4), some (.int l5), some (.int l6), some (.int l7)] [] (jG0 sc) h (0, 0) := by
  refine j_iconst (n := 1) 1 (by decide) dX12_isAsBody_150 ?_
  refine j_goto (off := 4) 155 dX12_isAsBody_151 (by decide) ?_
  exact j_le [some (.ref 159), some (.ref 160), some (.int l2), some (.int l3), some (.int l4), some (.int l5), some (.int l6), some (.int l7)] (And.intro rfl (And.intro rfl (And.intro rfl (And.intro rfl (And.intro rfl (And.intro rfl (And.intro rfl (And.intro rfl True.intro)))))))) v1
set_option maxRecDepth 100000 in
theorem bX12_isAsBody_154 {sc : Nat × (Nat → Int32)} {h : jH} {Q : jQ} {l2 l3 l4 l5 l6 l7 : Int32}
    (v1 : WP mX12_isAsBody Q 155 [some (.ref 159), some (.ref 160), some (.int l2), some (.int l3), some (.int l4), some (.int l5), some (.int l6), some (.int l7)] [.int 0] (jG0 sc) h (0, 0)) :
    WP mX12_isAsBody Q 154 [some (.ref 159), some (.ref 160), some (.int l2), some (.int l3), some (.int l4), some (.int l5), some (.int l6), some (.int l7)] [] (jG0 sc) h (0, 0) := by
  refine j_iconst (n := 0) 0 (by decide) dX12_isAsBody_154 ?_
  exact j_le [some (.ref 159), some (.ref 160), some (.int l2), some (.int l3), some (.int l4), some (.int l5), some (.int l6), some (.int l7)] (And.intro rfl (And.intro rfl (And.intro rfl (And.intro rfl (And.intro rfl (And.intro rfl (And.intro rfl (And.intro rfl True.intro)))))))) v1
set_option maxRecDepth 100000 in
theorem bX12_isAsBody_155 {sc : Nat × (Nat → Int32)} {h : jH} {Q : jQ} {l2 l3 l4 l5 l6 l7 s0 : Int32}
    (v1 : WP mX12_isAsBody Q 51 [some (.ref 159), some (.ref 160), some (.int l2), some (.int s0), some (.int l4), some (.int (l5 + 1)), none, none] [] (jG0 sc) h (0, 0)) :
    WP mX12_isAsBody Q 155 [some (.ref 159), some (.ref 160), some (.int l2), some (.int l3), some (.int l4), some (.int l5), some (.int l6), some (.int l7)] [.int s0] (jG0 sc) h (0, 0) := by
  refine j_istore_n (i := 3) dX12_isAsBody_155 (Nat.le_of_ble_eq_true rfl) ?_
  refine j_iinc (i := 5) (n := 1) rfl dX12_isAsBody_156 (Nat.le_of_ble_eq_true rfl) ?_
  refine j_eqlv [some (.ref 159), some (.ref 160), some (.int l2), some (.int s0), some (.int l4), some (.int (l5 + 1)), some (.int l6), some (.int l7)] rfl ?_
  refine j_goto (off := -108) 51 dX12_isAsBody_159 (by decide) ?_
  exact j_le [some (.ref 159), some (.ref 160), some (.int l2), some (.int s0), some (.int l4), some (.int (l5 + 1)), none, none] (And.intro rfl (And.intro rfl (And.intro rfl (And.intro rfl (And.intro rfl (And.intro rfl True.intro)))))) v1
set_option maxRecDepth 100000 in
theorem bX12_isAsBody_162 {sc : Nat × (Nat → Int32)} {h : jH} {Q : jQ} {l2 l3 l4 l5 : Int32}
    (v1 : WP mX12_isAsBody Q 31 [some (.ref 159), some (.ref 160), some (.int l2), some (.int l3), some (.int (l4 + 1)), none, none, none] [] (jG0 sc) h (0, 0)) :
    WP mX12_isAsBody Q 162 [some (.ref 159), some (.ref 160), some (.int l2), some (.int l3), some (.int l4), some (.int l5), none, none] [] (jG0 sc) h (0, 0) := by
  refine j_iinc (i := 4) (n := 1) rfl dX12_isAsBody_162 (Nat.le_of_ble_eq_true rfl) ?_
  refine j_eqlv [some (.ref 159), some (.ref 160), some (.int l2), some (.int l3), some (.int (l4 + 1)), some (.int l5), none, none] rfl ?_
  refine j_goto (off := -134) 31 dX12_isAsBody_165 (by decide) ?_
  exact j_le [some (.ref 159), some (.ref 160), some (.int l2), some (.int l3), some (.int (l4 + 1)), none, none, none] (And.intro rfl (And.intro rfl (And.intro rfl (And.intro rfl (And.intro rfl True.intro))))) v1
set_option maxRecDepth 100000 in
theorem bX12_isAsBody_168 {sc : Nat × (Nat → Int32)} {h : jH} {Q : jQ} {l2 l3 l4 : Int32}
    (o1 : l3 = 0 ∨ l3 = 1)
    (v1 : Q (.inl (some (.int l3))) (jG0 sc) h) :
    WP mX12_isAsBody Q 168 [some (.ref 159), some (.ref 160), some (.int l2), some (.int l3), some (.int l4), none, none, none] [] (jG0 sc) h (0, 0) := by
  refine j_iload_n (i := 3) rfl dX12_isAsBody_168 ?_
  exact j_iret rfl (jbn o1) (Nat.zero_le _) (Nat.zero_le _) dX12_isAsBody_169 v1
set_option maxRecDepth 100000 in
theorem rX12_isAsBody_0 {sc : Nat × (Nat → Int32)} {h : jH} {Q : jQ} {l2 : Int32}
    (v1 : WP mX12_isAsBody Q 2 [some (.ref 159), some (.ref 160), some (.int l2), some (.int 0), none, none, none, none] [] (jG0 sc) h (0, 0)) :
    WP mX12_isAsBody Q 0 [some (.ref 159), some (.ref 160), some (.int l2), none, none, none, none, none] [] (jG0 sc) h (0, 0) := by
  exact (bX12_isAsBody_0 v1)
set_option maxRecDepth 100000 in
theorem rX12_isAsBody_2 {sc : Nat × (Nat → Int32)} {h : jH} {Q : jQ} {l2 l3 : Int32}
    (v1 : 61 ≤ l3 → WP mX12_isAsBody Q 31 [some (.ref 159), some (.ref 160), some (.int l2), some (.int 1), some (.int 0), none, none, none] [] (jG0 sc) h (0, 0))
    (o1 : ¬ 61 ≤ l3 → vp_in l3 61)
    (v2 : ¬ 61 ≤ l3 → WP mX12_isAsBody Q 2 [some (.ref 159), some (.ref 160), some (.int l2), some (.int (l3 + 1)), none, none, none, none] [] (jG0 sc) (jput h 176 l3.toNatClampNeg (h 167 l3.toNatClampNeg)) (0, 0)) :
    WP mX12_isAsBody Q 2 [some (.ref 159), some (.ref 160), some (.int l2), some (.int l3), none, none, none, none] [] (jG0 sc) h (0, 0) := by
  exact (bX12_isAsBody_2 (fun c1 => (bX12_isAsBody_26 (v1 c1))) (fun c1 => (bX12_isAsBody_8 (o1 c1) (o1 c1) (v2 c1))))
set_option maxRecDepth 100000 in
theorem rX12_isAsBody_31 {sc : Nat × (Nat → Int32)} {h : jH} {Q : jQ} {l2 l3 l4 : Int32}
    (o1 : (h 160 285) < l4 → l3 = 0 ∨ l3 = 1)
    (v1 : (h 160 285) < l4 → Q (.inl (some (.int l3))) (jG0 sc) h)
    (o2 : ¬ (h 160 285) < l4 → l3 = 0 → l3 = 0 ∨ l3 = 1)
    (v2 : ¬ (h 160 285) < l4 → l3 = 0 → Q (.inl (some (.int l3))) (jG0 sc) h)
    (v3 : ¬ (h 160 285) < l4 → ¬ l3 = 0 → WP mX12_isAsBody Q 51 [some (.ref 159), some (.ref 160), some (.int l2), some (.int l3), some (.int l4), some (.int 0), none, none] [] (jG0 sc) h (0, 0)) :
    WP mX12_isAsBody Q 31 [some (.ref 159), some (.ref 160), some (.int l2), some (.int l3), some (.int l4), none, none, none] [] (jG0 sc) h (0, 0) := by
  exact (bX12_isAsBody_31 (fun c1 => (bX12_isAsBody_168 (o1 c1) (v1 c1))) (fun c1 => (bX12_isAsBody_44 (fun c2 => (bX12_isAsBody_168 (o2 c1 c2) (v2 c1 c2))) (fun c2 => (bX12_isAsBody_48 (v3 c1 c2))))))
set_option maxRecDepth 100000 in
theorem rX12_isAsBody_51 {sc : Nat × (Nat → Int32)} {h : jH} {Q : jQ} {l2 l3 l4 l5 : Int32}
    (v1 : (h 160 285) < l5 → WP mX12_isAsBody Q 31 [some (.ref 159), some (.ref 160), some (.int l2), some (.int l3), some (.int (l4 + 1)), none, none, none] [] (jG0 sc) h (0, 0))
    (v2 : ¬ (h 160 285) < l5 → l3 = 0 → WP mX12_isAsBody Q 31 [some (.ref 159), some (.ref 160), some (.int l2), some (.int l3), some (.int (l4 + 1)), none, none, none] [] (jG0 sc) h (0, 0))
    (v3 : ¬ (h 160 285) < l5 → ¬ l3 = 0 → WP mX12_isAsBody Q 71 [some (.ref 159), some (.ref 160), some (.int l2), some (.int l3), some (.int l4), some (.int l5), some (.int 0), none] [] (jG0 sc) h (0, 0)) :
    WP mX12_isAsBody Q 51 [some (.ref 159), some (.ref 160), some (.int l2), some (.int l3), some (.int l4), some (.int l5), none, none] [] (jG0 sc) h (0, 0) := by
  exact (bX12_isAsBody_51 (fun c1 => (bX12_isAsBody_162 (v1 c1))) (fun c1 => (bX12_isAsBody_64 (fun c2 => (bX12_isAsBody_162 (v2 c1 c2))) (fun c2 => (bX12_isAsBody_68 (v3 c1 c2))))))
set_option maxRecDepth 100000 in
theorem rX12_isAsBody_71 {sc : Nat × (Nat → Int32)} {h : jH} {Q : jQ} {l2 l3 l4 l5 l6 : Int32} {P1 : Int32 → jH → Prop}
    (k1 : 61 ≤ l6 → JM mX12_endAt [.ref 159, .int l4, .int l5] (jG0 sc) h (jint sc P1))
    (v1 : 61 ≤ l6 → ∀ (x1 : Int32) (h1 : jH), P1 x1 h1 → WP mX12_isAsBody Q 110 [some (.ref 159), some (.ref 160), some (.int l2), some (.int l3), some (.int l4), some (.int l5), some (.int x1), some (.int 0)] [] (jG0 sc) h1 (0, 0))
    (o1 : ¬ 61 ≤ l6 → vp_in (l2 + l6) 1454)
    (o2 : ¬ 61 ≤ l6 → vp_in l6 61)
    (v2 : ¬ 61 ≤ l6 → WP mX12_isAsBody Q 71 [some (.ref 159), some (.ref 160), some (.int l2), some (.int l3), some (.int l4), some (.int l5), some (.int (l6 + 1)), none] [] (jG0 sc) (jput h 167 l6.toNatClampNeg (h 160 ((l2 + l6).toNatClampNeg))) (0, 0)) :
    WP mX12_isAsBody Q 71 [some (.ref 159), some (.ref 160), some (.int l2), some (.int l3), some (.int l4), some (.int l5), some (.int l6), none] [] (jG0 sc) h (0, 0) := by
  exact (bX12_isAsBody_71 (fun c1 => (bX12_isAsBody_97 (k1 c1) (fun x1 h1 p1 => (v1 c1 x1 h1 p1)))) (fun c1 => (bX12_isAsBody_78 (o1 c1) (o2 c1) (v2 c1))))
set_option maxRecDepth 100000 in
theorem rX12_isAsBody_110 {sc : Nat × (Nat → Int32)} {h : jH} {Q : jQ} {l2 l3 l4 l5 l6 l7 : Int32} {P1 : Int32 → jH → Prop}
    (k1 : 61 ≤ l7 → JM mX12_endAt [.ref 159, .int l4, .int l5] (jG0 sc) h (jint sc P1))
    (v1 : 61 ≤ l7 → ∀ (x1 : Int32) (h1 : jH), P1 x1 h1 → ¬ x1 = l6 → WP mX12_isAsBody Q 51 [some (.ref 159), some (.ref 160), some (.int l2), some (.int 0), some (.int l4), some (.int (l5 + 1)), none, none] [] (jG0 sc) h1 (0, 0))
    (v2 : 61 ≤ l7 → ∀ (x1 : Int32) (h1 : jH), P1 x1 h1 → x1 = l6 → WP mX12_isAsBody Q 51 [some (.ref 159), some (.ref 160), some (.int l2), some (.int 1), some (.int l4), some (.int (l5 + 1)), none, none] [] (jG0 sc) h1 (0, 0))
    (o1 : ¬ 61 ≤ l7 → vp_in l7 61)
    (v3 : ¬ 61 ≤ l7 → WP mX12_isAsBody Q 110 [some (.ref 159), some (.ref 160), some (.int l2), some (.int l3), some (.int l4), some (.int l5), some (.int l6), some (.int (l7 + 1))] [] (jG0 sc) (jput h 167 l7.toNatClampNeg (h 176 l7.toNatClampNeg)) (0, 0)) :
    WP mX12_isAsBody Q 110 [some (.ref 159), some (.ref 160), some (.int l2), some (.int l3), some (.int l4), some (.int l5), some (.int l6), some (.int l7)] [] (jG0 sc) h (0, 0) := by
  exact (bX12_isAsBody_110 (fun c1 => (bX12_isAsBody_137 (k1 c1) (fun x1 h1 p1 c2 => (bX12_isAsBody_154 (bX12_isAsBody_155 (v1 c1 x1 h1 p1 c2)))) (fun x1 h1 p1 c2 => (bX12_isAsBody_150 (bX12_isAsBody_155 (v2 c1 x1 h1 p1 c2)))))) (fun c1 => (bX12_isAsBody_117 (o1 c1) (o1 c1) (v3 c1))))
theorem dX12_endsAsDue_0 : decode (mC mX12_endsAsDue) 0 = .ok (.iconst 1, 1) := by decide +kernel
theorem dX12_endsAsDue_1 : decode (mC mX12_endsAsDue) 1 = .ok (.istore_n 1, 1) := by decide +kernel
theorem dX12_endsAsDue_2 : decode (mC mX12_endsAsDue) 2 = .ok (.iconst 0, 1) := by decide +kernel
theorem dX12_endsAsDue_3 : decode (mC mX12_endsAsDue) 3 = .ok (.istore_n 2, 1) := by decide +kernel
theorem dX12_endsAsDue_4 : decode (mC mX12_endsAsDue) 4 = .ok (.iload_n 2, 1) := by decide +kernel
theorem dX12_endsAsDue_5 : decode (mC mX12_endsAsDue) 5 = .ok (.aload_n 0, 1) := by decide +kernel
theorem dX12_endsAsDue_6 : decode (mC mX12_endsAsDue) 6 = .ok (.getfield 13, 3) := by decide +kernel
theorem dX12_endsAsDue_9 : decode (mC mX12_endsAsDue) 9 = .ok (.bipush 122, 2) := by decide +kernel
theorem dX12_endsAsDue_11 : decode (mC mX12_endsAsDue) 11 = .ok (.iaload, 1) := by decide +kernel
theorem dX12_endsAsDue_12 : decode (mC mX12_endsAsDue) 12 = .ok (.if_icmp .ge 44, 3) := by decide +kernel
theorem dX12_endsAsDue_15 : decode (mC mX12_endsAsDue) 15 = .ok (.iload_n 1, 1) := by decide +kernel
theorem dX12_endsAsDue_16 : decode (mC mX12_endsAsDue) 16 = .ok (.ifCond .eq 32, 3) := by decide +kernel
theorem dX12_endsAsDue_19 : decode (mC mX12_endsAsDue) 19 = .ok (.aload_n 0, 1) := by decide +kernel
theorem dX12_endsAsDue_20 : decode (mC mX12_endsAsDue) 20 = .ok (.getfield 72, 3) := by decide +kernel
theorem dX12_endsAsDue_23 : decode (mC mX12_endsAsDue) 23 = .ok (.iload_n 2, 1) := by decide +kernel
theorem dX12_endsAsDue_24 : decode (mC mX12_endsAsDue) 24 = .ok (.iaload, 1) := by decide +kernel
theorem dX12_endsAsDue_25 : decode (mC mX12_endsAsDue) 25 = .ok (.ldc 205, 2) := by decide +kernel
theorem dX12_endsAsDue_27 : decode (mC mX12_endsAsDue) 27 = .ok (.if_icmp .gt 17, 3) := by decide +kernel
theorem dX12_endsAsDue_30 : decode (mC mX12_endsAsDue) 30 = .ok (.aload_n 0, 1) := by decide +kernel
theorem dX12_endsAsDue_31 : decode (mC mX12_endsAsDue) 31 = .ok (.iload_n 2, 1) := by decide +kernel
theorem dX12_endsAsDue_32 : decode (mC mX12_endsAsDue) 32 = .ok (.invokevirtual 255, 3) := by decide +kernel
theorem dX12_endsAsDue_35 : decode (mC mX12_endsAsDue) 35 = .ok (.aload_n 0, 1) := by decide +kernel
theorem dX12_endsAsDue_36 : decode (mC mX12_endsAsDue) 36 = .ok (.getfield 72, 3) := by decide +kernel
theorem dX12_endsAsDue_39 : decode (mC mX12_endsAsDue) 39 = .ok (.iload_n 2, 1) := by decide +kernel
theorem dX12_endsAsDue_40 : decode (mC mX12_endsAsDue) 40 = .ok (.iaload, 1) := by decide +kernel
theorem dX12_endsAsDue_41 : decode (mC mX12_endsAsDue) 41 = .ok (.if_icmp .ne 7, 3) := by decide +kernel
theorem dX12_endsAsDue_44 : decode (mC mX12_endsAsDue) 44 = .ok (.iconst 1, 1) := by decide +kernel
theorem dX12_endsAsDue_45 : decode (mC mX12_endsAsDue) 45 = .ok (.goto 4, 3) := by decide +kernel
theorem dX12_endsAsDue_48 : decode (mC mX12_endsAsDue) 48 = .ok (.iconst 0, 1) := by decide +kernel
theorem dX12_endsAsDue_49 : decode (mC mX12_endsAsDue) 49 = .ok (.istore_n 1, 1) := by decide +kernel
theorem dX12_endsAsDue_50 : decode (mC mX12_endsAsDue) 50 = .ok (.iinc 2 1, 3) := by decide +kernel
theorem dX12_endsAsDue_53 : decode (mC mX12_endsAsDue) 53 = .ok (.goto (-49), 3) := by decide +kernel
theorem dX12_endsAsDue_56 : decode (mC mX12_endsAsDue) 56 = .ok (.iload_n 1, 1) := by decide +kernel
theorem dX12_endsAsDue_57 : decode (mC mX12_endsAsDue) 57 = .ok (.ireturn, 1) := by decide +kernel
set_option maxRecDepth 100000 in
theorem bX12_endsAsDue_0 {sc : Nat × (Nat → Int32)} {h : jH} {Q : jQ}
    (v1 : WP mX12_endsAsDue Q 4 [some (.ref 159), some (.int 1), some (.int 0)] [] (jG0 sc) h (0, 0)) :
    WP mX12_endsAsDue Q 0 [some (.ref 159), none, none] [] (jG0 sc) h (0, 0) := by
  refine j_iconst (n := 1) 1 (by decide) dX12_endsAsDue_0 ?_
  refine j_istore_n (i := 1) dX12_endsAsDue_1 (Nat.le_of_ble_eq_true rfl) ?_
  refine j_iconst (n := 0) 0 (by decide) dX12_endsAsDue_2 ?_
  refine j_istore_n (i := 2) dX12_endsAsDue_3 (Nat.le_of_ble_eq_true rfl) ?_
  exact j_le [some (.ref 159), some (.int 1), some (.int 0)] (And.intro rfl (And.intro rfl (And.intro rfl True.intro))) v1
set_option maxRecDepth 100000 in
theorem bX12_endsAsDue_4 {sc : Nat × (Nat → Int32)} {h : jH} {Q : jQ} {l1 l2 : Int32}
    (v1 : (h 160 122) ≤ l2 → WP mX12_endsAsDue Q 56 [some (.ref 159), some (.int l1), some (.int l2)] [] (jG0 sc) h (0, 0))
    (v2 : ¬ (h 160 122) ≤ l2 → WP mX12_endsAsDue Q 15 [some (.ref 159), some (.int l1), some (.int l2)] [] (jG0 sc) h (0, 0)) :
    WP mX12_endsAsDue Q 4 [some (.ref 159), some (.int l1), some (.int l2)] [] (jG0 sc) h (0, 0) := by
  refine j_iload_n (i := 2) rfl dX12_endsAsDue_4 ?_
  refine j_aload_n (i := 0) rfl dX12_endsAsDue_5 ?_
  refine j_getR (idx := 13) (ci := 12) (k := 1) (nest := false) (show (12, 13, 12, 1, false) ∈ jFT by decide) rfl (Nat.le_of_ble_eq_true rfl) rfl (a := 160) rfl dX12_endsAsDue_6 ?_
  refine j_bipush (n := 122) 122 (by decide) dX12_endsAsDue_9 ?_
  refine j_iald (Nat.le_of_ble_eq_true rfl) rfl (jinl (n := 1454) (by decide)) dX12_endsAsDue_11 ?_
  refine j_eqst [.int (h 160 122), .int l2] (by rfl) ?_
  refine j_icmp_ge (off := 44) 56 dX12_endsAsDue_12 (by decide) (fun c1 => ?_) (fun c1 => ?_)
  · exact j_le [some (.ref 159), some (.int l1), some (.int l2)] (And.intro rfl (And.intro rfl (And.intro rfl True.intro))) (v1 c1)
  · exact j_le [some (.ref 159), some (.int l1), some (.int l2)] (And.intro rfl (And.intro rfl (And.intro rfl True.intro))) (v2 c1)
set_option maxRecDepth 100000 in
theorem bX12_endsAsDue_15 {sc : Nat × (Nat → Int32)} {h : jH} {Q : jQ} {l1 l2 : Int32}
    (v1 : l1 = 0 → WP mX12_endsAsDue Q 48 [some (.ref 159), some (.int l1), some (.int l2)] [] (jG0 sc) h (0, 0))
    (v2 : ¬ l1 = 0 → WP mX12_endsAsDue Q 19 [some (.ref 159), some (.int l1), some (.int l2)] [] (jG0 sc) h (0, 0)) :
    WP mX12_endsAsDue Q 15 [some (.ref 159), some (.int l1), some (.int l2)] [] (jG0 sc) h (0, 0) := by
  refine j_iload_n (i := 1) rfl dX12_endsAsDue_15 ?_
  refine j_if_eq (off := 32) 48 dX12_endsAsDue_16 (by decide) (fun c1 => ?_) (fun c1 => ?_)
  · exact j_le [some (.ref 159), some (.int l1), some (.int l2)] (And.intro rfl (And.intro rfl (And.intro rfl True.intro))) (v1 c1)
  · exact j_le [some (.ref 159), some (.int l1), some (.int l2)] (And.intro rfl (And.intro rfl (And.intro rfl True.intro))) (v2 c1)
set_option maxRecDepth 100000 in
theorem bX12_endsAsDue_19 {sc : Nat × (Nat → Int32)} {h : jH} {Q : jQ} {l1 l2 : Int32}
    (o1 : vp_in l2 12)
    (v1 : 999999 < (h 178 l2.toNatClampNeg) → WP mX12_endsAsDue Q 44 [some (.ref 159), some (.int l1), some (.int l2)] [] (jG0 sc) h (0, 0))
    (v2 : ¬ 999999 < (h 178 l2.toNatClampNeg) → WP mX12_endsAsDue Q 30 [some (.ref 159), some (.int l1), some (.int l2)] [] (jG0 sc) h (0, 0)) :
    WP mX12_endsAsDue Q 19 [some (.ref 159), some (.int l1), some (.int l2)] [] (jG0 sc) h (0, 0) := by
  refine j_aload_n (i := 0) rfl dX12_endsAsDue_19 ?_
  refine j_getR (idx := 72) (ci := 12) (k := 32) (nest := false) (show (12, 72, 12, 32, false) ∈ jFT by decide) rfl (Nat.le_of_ble_eq_true rfl) rfl (a := 178) rfl dX12_endsAsDue_20 ?_
  refine j_iload_n (i := 2) rfl dX12_endsAsDue_23 ?_
  refine j_iald (Nat.le_of_ble_eq_true rfl) rfl o1 dX12_endsAsDue_24 ?_
  refine j_ldc (idx := 205) 999999 (show (jCn 12, 205, 999999) ∈ jCT by decide) dX12_endsAsDue_25 ?_
  refine j_icmp_gt (off := 17) 44 dX12_endsAsDue_27 (by decide) (fun c1 => ?_) (fun c1 => ?_)
  · exact j_le [some (.ref 159), some (.int l1), some (.int l2)] (And.intro rfl (And.intro rfl (And.intro rfl True.intro))) (v1 c1)
  · exact j_le [some (.ref 159), some (.int l1), some (.int l2)] (And.intro rfl (And.intro rfl (And.intro rfl True.intro))) (v2 c1)
set_option maxRecDepth 100000 in
theorem bX12_endsAsDue_30 {sc : Nat × (Nat → Int32)} {h : jH} {Q : jQ} {l1 l2 : Int32} {P1 : Int32 → jH → Prop}
    (k1 : JM mX12_endOn [.ref 159, .int l2] (jG0 sc) h (jint sc P1))
    (o1 : ∀ (x1 : Int32) (h1 : jH), P1 x1 h1 → vp_in l2 12)
    (v1 : ∀ (x1 : Int32) (h1 : jH), P1 x1 h1 → ¬ x1 = (h1 178 l2.toNatClampNeg) → WP mX12_endsAsDue Q 48 [some (.ref 159), some (.int l1), some (.int l2)] [] (jG0 sc) h1 (0, 0))
    (v2 : ∀ (x1 : Int32) (h1 : jH), P1 x1 h1 → x1 = (h1 178 l2.toNatClampNeg) → WP mX12_endsAsDue Q 44 [some (.ref 159), some (.int l1), some (.int l2)] [] (jG0 sc) h1 (0, 0)) :
    WP mX12_endsAsDue Q 30 [some (.ref 159), some (.int l1), some (.int l2)] [] (jG0 sc) h (0, 0) := by
  refine j_aload_n (i := 0) rfl dX12_endsAsDue_30 ?_
  refine j_iload_n (i := 2) rfl dX12_endsAsDue_31 ?_
  refine j_callV (idx := 255) (As := [.int l2]) (ci := 12) (n := 1) k1 jint_nt (jlkT (jtb7 116 rfl) rfl) sX12_endOn kX12_endOn rfl ⟨rfl, by decide +kernel, by decide +kernel, by decide +kernel⟩ rfl ⟨by decide, by decide⟩ (Nat.le_of_ble_eq_true rfl) rfl (Nat.le_of_ble_eq_true rfl) (Nat.le_of_ble_eq_true rfl) ⟨Nat.zero_le _, Nat.zero_le _⟩ dX12_endsAsDue_32 (fun r Γ' h1 q => ?_)
  obtain ⟨x1, q0, rfl, p1⟩ := q; cases q0
  refine j_eqst [.int x1] (by rfl) ?_
  refine j_aload_n (i := 0) rfl dX12_endsAsDue_35 ?_
  refine j_getR (idx := 72) (ci := 12) (k := 32) (nest := false) (show (12, 72, 12, 32, false) ∈ jFT by decide) rfl (Nat.le_of_ble_eq_true rfl) rfl (a := 178) rfl dX12_endsAsDue_36 ?_
  refine j_iload_n (i := 2) rfl dX12_endsAsDue_39 ?_
  refine j_iald (Nat.le_of_ble_eq_true rfl) rfl (o1 x1 h1 p1) dX12_endsAsDue_40 ?_
  refine j_icmp_ne (off := 7) 48 dX12_endsAsDue_41 (by decide) (fun c1 => ?_) (fun c1 => ?_)
  · exact j_le [some (.ref 159), some (.int l1), some (.int l2)] (And.intro rfl (And.intro rfl (And.intro rfl True.intro))) (v1 x1 h1 p1 c1)
  · exact j_le [some (.ref 159), some (.int l1), some (.int l2)] (And.intro rfl (And.intro rfl (And.intro rfl True.intro))) (v2 x1 h1 p1 c1)
set_option maxRecDepth 100000 in
theorem bX12_endsAsDue_44 {sc : Nat × (Nat → Int32)} {h : jH} {Q : jQ} {l1 l2 : Int32}
    (v1 : WP mX12_endsAsDue Q 49 [some (.ref 159), some (.int l1), some (.int l2)] [.int 1] (jG0 sc) h (0, 0)) :
    WP mX12_endsAsDue Q 44 [some (.ref 159), some (.int l1), some (.int l2)] [] (jG0 sc) h (0, 0) := by
  refine j_iconst (n := 1) 1 (by decide) dX12_endsAsDue_44 ?_
  refine j_goto (off := 4) 49 dX12_endsAsDue_45 (by decide) ?_
  exact j_le [some (.ref 159), some (.int l1), some (.int l2)] (And.intro rfl (And.intro rfl (And.intro rfl True.intro))) v1
set_option maxRecDepth 100000 in
theorem bX12_endsAsDue_48 {sc : Nat × (Nat → Int32)} {h : jH} {Q : jQ} {l1 l2 : Int32}
    (v1 : WP mX12_endsAsDue Q 49 [some (.ref 159), some (.int l1), some (.int l2)] [.int 0] (jG0 sc) h (0, 0)) :
    WP mX12_endsAsDue Q 48 [some (.ref 159), some (.int l1), some (.int l2)] [] (jG0 sc) h (0, 0) := by
  refine j_iconst (n := 0) 0 (by decide) dX12_endsAsDue_48 ?_
  exact j_le [some (.ref 159), some (.int l1), some (.int l2)] (And.intro rfl (And.intro rfl (And.intro rfl True.intro))) v1
set_option maxRecDepth 100000 in
theorem bX12_endsAsDue_49 {sc : Nat × (Nat → Int32)} {h : jH} {Q : jQ} {l1 l2 s0 : Int32}
    (v1 : WP mX12_endsAsDue Q 4 [some (.ref 159), some (.int s0), some (.int (l2 + 1))] [] (jG0 sc) h (0, 0)) :
    WP mX12_endsAsDue Q 49 [some (.ref 159), some (.int l1), some (.int l2)] [.int s0] (jG0 sc) h (0, 0) := by
  refine j_istore_n (i := 1) dX12_endsAsDue_49 (Nat.le_of_ble_eq_true rfl) ?_
  refine j_iinc (i := 2) (n := 1) rfl dX12_endsAsDue_50 (Nat.le_of_ble_eq_true rfl) ?_
  refine j_eqlv [some (.ref 159), some (.int s0), some (.int (l2 + 1))] rfl ?_
  refine j_goto (off := -49) 4 dX12_endsAsDue_53 (by decide) ?_
  exact j_le [some (.ref 159), some (.int s0), some (.int (l2 + 1))] (And.intro rfl (And.intro rfl (And.intro rfl True.intro))) v1
set_option maxRecDepth 100000 in
theorem bX12_endsAsDue_56 {sc : Nat × (Nat → Int32)} {h : jH} {Q : jQ} {l1 l2 : Int32}
    (o1 : l1 = 0 ∨ l1 = 1)
    (v1 : Q (.inl (some (.int l1))) (jG0 sc) h) :
    WP mX12_endsAsDue Q 56 [some (.ref 159), some (.int l1), some (.int l2)] [] (jG0 sc) h (0, 0) := by
  refine j_iload_n (i := 1) rfl dX12_endsAsDue_56 ?_
  exact j_iret rfl (jbn o1) (Nat.zero_le _) (Nat.zero_le _) dX12_endsAsDue_57 v1
set_option maxRecDepth 100000 in
theorem rX12_endsAsDue_0 {sc : Nat × (Nat → Int32)} {h : jH} {Q : jQ}
    (v1 : WP mX12_endsAsDue Q 4 [some (.ref 159), some (.int 1), some (.int 0)] [] (jG0 sc) h (0, 0)) :
    WP mX12_endsAsDue Q 0 [some (.ref 159), none, none] [] (jG0 sc) h (0, 0) := by
  exact (bX12_endsAsDue_0 v1)
set_option maxRecDepth 100000 in
theorem rX12_endsAsDue_4 {sc : Nat × (Nat → Int32)} {h : jH} {Q : jQ} {l1 l2 : Int32} {P1 : Int32 → jH → Prop}
    (o1 : (h 160 122) ≤ l2 → l1 = 0 ∨ l1 = 1)
    (v1 : (h 160 122) ≤ l2 → Q (.inl (some (.int l1))) (jG0 sc) h)
    (v2 : ¬ (h 160 122) ≤ l2 → l1 = 0 → WP mX12_endsAsDue Q 4 [some (.ref 159), some (.int 0), some (.int (l2 + 1))] [] (jG0 sc) h (0, 0))
    (o2 : ¬ (h 160 122) ≤ l2 → ¬ l1 = 0 → vp_in l2 12)
    (v3 : ¬ (h 160 122) ≤ l2 → ¬ l1 = 0 → 999999 < (h 178 l2.toNatClampNeg) → WP mX12_endsAsDue Q 4 [some (.ref 159), some (.int 1), some (.int (l2 + 1))] [] (jG0 sc) h (0, 0))
    (k1 : ¬ (h 160 122) ≤ l2 → ¬ l1 = 0 → ¬ 999999 < (h 178 l2.toNatClampNeg) → JM mX12_endOn [.ref 159, .int l2] (jG0 sc) h (jint sc P1))
    (o3 : ¬ (h 160 122) ≤ l2 → ¬ l1 = 0 → ¬ 999999 < (h 178 l2.toNatClampNeg) → ∀ (x1 : Int32) (h1 : jH), P1 x1 h1 → vp_in l2 12)
    (v4 : ¬ (h 160 122) ≤ l2 → ¬ l1 = 0 → ¬ 999999 < (h 178 l2.toNatClampNeg) → ∀ (x1 : Int32) (h1 : jH), P1 x1 h1 → ¬ x1 = (h1 178 l2.toNatClampNeg) → WP mX12_endsAsDue Q 4 [some (.ref 159), some (.int 0), some (.int (l2 + 1))] [] (jG0 sc) h1 (0, 0))
    (v5 : ¬ (h 160 122) ≤ l2 → ¬ l1 = 0 → ¬ 999999 < (h 178 l2.toNatClampNeg) → ∀ (x1 : Int32) (h1 : jH), P1 x1 h1 → x1 = (h1 178 l2.toNatClampNeg) → WP mX12_endsAsDue Q 4 [some (.ref 159), some (.int 1), some (.int (l2 + 1))] [] (jG0 sc) h1 (0, 0)) :
    WP mX12_endsAsDue Q 4 [some (.ref 159), some (.int l1), some (.int l2)] [] (jG0 sc) h (0, 0) := by
  exact (bX12_endsAsDue_4 (fun c1 => (bX12_endsAsDue_56 (o1 c1) (v1 c1))) (fun c1 => (bX12_endsAsDue_15 (fun c2 => (bX12_endsAsDue_48 (bX12_endsAsDue_49 (v2 c1 c2)))) (fun c2 => (bX12_endsAsDue_19 (o2 c1 c2) (fun c3 => (bX12_endsAsDue_44 (bX12_endsAsDue_49 (v3 c1 c2 c3)))) (fun c3 => (bX12_endsAsDue_30 (k1 c1 c2 c3) (fun x1 h1 p1 => (o3 c1 c2 c3 x1 h1 p1)) (fun x1 h1 p1 c4 => (bX12_endsAsDue_48 (bX12_endsAsDue_49 (v4 c1 c2 c3 x1 h1 p1 c4)))) (fun x1 h1 p1 c4 => (bX12_endsAsDue_44 (bX12_endsAsDue_49 (v5 c1 c2 c3 x1 h1 p1 c4)))))))))))
theorem dX12_putIn_0 : decode (mC mX12_putIn) 0 = .ok (.aload_n 0, 1) := by decide +kernel
theorem dX12_putIn_1 : decode (mC mX12_putIn) 1 = .ok (.iconst 0, 1) := by decide +kernel
theorem dX12_putIn_2 : decode (mC mX12_putIn) 2 = .ok (.putfield 3, 3) := by decide +kernel
theorem dX12_putIn_5 : decode (mC mX12_putIn) 5 = .ok (.aload_n 0, 1) := by decide +kernel
theorem dX12_putIn_6 : decode (mC mX12_putIn) 6 = .ok (.invokevirtual 319, 3) := by decide +kernel
theorem dX12_putIn_9 : decode (mC mX12_putIn) 9 = .ok (.aload_n 0, 1) := by decide +kernel
theorem dX12_putIn_10 : decode (mC mX12_putIn) 10 = .ok (.aload_n 0, 1) := by decide +kernel
theorem dX12_putIn_11 : decode (mC mX12_putIn) 11 = .ok (.iload_n 1, 1) := by decide +kernel
theorem dX12_putIn_12 : decode (mC mX12_putIn) 12 = .ok (.invokevirtual 322, 3) := by decide +kernel
theorem dX12_putIn_15 : decode (mC mX12_putIn) 15 = .ok (.iconst 1, 1) := by decide +kernel
theorem dX12_putIn_16 : decode (mC mX12_putIn) 16 = .ok (.invokevirtual 157, 3) := by decide +kernel
theorem dX12_putIn_19 : decode (mC mX12_putIn) 19 = .ok (.ifCond .eq 5, 3) := by decide +kernel
theorem dX12_putIn_22 : decode (mC mX12_putIn) 22 = .ok (.iconst 0, 1) := by decide +kernel
theorem dX12_putIn_23 : decode (mC mX12_putIn) 23 = .ok (.ireturn, 1) := by decide +kernel
theorem dX12_putIn_24 : decode (mC mX12_putIn) 24 = .ok (.aload_n 0, 1) := by decide +kernel
theorem dX12_putIn_25 : decode (mC mX12_putIn) 25 = .ok (.invokevirtual 307, 3) := by decide +kernel
theorem dX12_putIn_28 : decode (mC mX12_putIn) 28 = .ok (.iconst 0, 1) := by decide +kernel
theorem dX12_putIn_29 : decode (mC mX12_putIn) 29 = .ok (.istore_n 2, 1) := by decide +kernel
theorem dX12_putIn_30 : decode (mC mX12_putIn) 30 = .ok (.iload_n 2, 1) := by decide +kernel
theorem dX12_putIn_31 : decode (mC mX12_putIn) 31 = .ok (.aload_n 0, 1) := by decide +kernel
theorem dX12_putIn_32 : decode (mC mX12_putIn) 32 = .ok (.getfield 13, 3) := by decide +kernel
theorem dX12_putIn_35 : decode (mC mX12_putIn) 35 = .ok (.bipush 122, 2) := by decide +kernel
theorem dX12_putIn_37 : decode (mC mX12_putIn) 37 = .ok (.iaload, 1) := by decide +kernel
theorem dX12_putIn_38 : decode (mC mX12_putIn) 38 = .ok (.if_icmp .ge 20, 3) := by decide +kernel
theorem dX12_putIn_41 : decode (mC mX12_putIn) 41 = .ok (.aload_n 0, 1) := by decide +kernel
theorem dX12_putIn_42 : decode (mC mX12_putIn) 42 = .ok (.getfield 72, 3) := by decide +kernel
theorem dX12_putIn_45 : decode (mC mX12_putIn) 45 = .ok (.iload_n 2, 1) := by decide +kernel
theorem dX12_putIn_46 : decode (mC mX12_putIn) 46 = .ok (.aload_n 0, 1) := by decide +kernel
theorem dX12_putIn_47 : decode (mC mX12_putIn) 47 = .ok (.iload_n 2, 1) := by decide +kernel
theorem dX12_putIn_48 : decode (mC mX12_putIn) 48 = .ok (.invokevirtual 255, 3) := by decide +kernel
theorem dX12_putIn_51 : decode (mC mX12_putIn) 51 = .ok (.iastore, 1) := by decide +kernel
theorem dX12_putIn_52 : decode (mC mX12_putIn) 52 = .ok (.iinc 2 1, 3) := by decide +kernel
theorem dX12_putIn_55 : decode (mC mX12_putIn) 55 = .ok (.goto (-25), 3) := by decide +kernel
theorem dX12_putIn_58 : decode (mC mX12_putIn) 58 = .ok (.aload_n 0, 1) := by decide +kernel
theorem dX12_putIn_59 : decode (mC mX12_putIn) 59 = .ok (.iload_n 1, 1) := by decide +kernel
theorem dX12_putIn_60 : decode (mC mX12_putIn) 60 = .ok (.iconst (-1), 1) := by decide +kernel
theorem dX12_putIn_61 : decode (mC mX12_putIn) 61 = .ok (.invokevirtual 316, 3) := by decide +kernel
theorem dX12_putIn_64 : decode (mC mX12_putIn) 64 = .ok (.iconst 0, 1) := by decide +kernel
theorem dX12_putIn_65 : decode (mC mX12_putIn) 65 = .ok (.istore_n 2, 1) := by decide +kernel
theorem dX12_putIn_66 : decode (mC mX12_putIn) 66 = .ok (.iload_n 2, 1) := by decide +kernel
theorem dX12_putIn_67 : decode (mC mX12_putIn) 67 = .ok (.bipush 61, 2) := by decide +kernel
theorem dX12_putIn_69 : decode (mC mX12_putIn) 69 = .ok (.if_icmp .ge 21, 3) := by decide +kernel
theorem dX12_putIn_72 : decode (mC mX12_putIn) 72 = .ok (.aload_n 0, 1) := by decide +kernel
theorem dX12_putIn_73 : decode (mC mX12_putIn) 73 = .ok (.getfield 69, 3) := by decide +kernel
theorem dX12_putIn_76 : decode (mC mX12_putIn) 76 = .ok (.iload_n 2, 1) := by decide +kernel
theorem dX12_putIn_77 : decode (mC mX12_putIn) 77 = .ok (.aload_n 0, 1) := by decide +kernel
theorem dX12_putIn_78 : decode (mC mX12_putIn) 78 = .ok (.getfield 39, 3) := by decide +kernel
theorem dX12_putIn_81 : decode (mC mX12_putIn) 81 = .ok (.iload_n 2, 1) := by decide +kernel
theorem dX12_putIn_82 : decode (mC mX12_putIn) 82 = .ok (.iaload, 1) := by decide +kernel
theorem dX12_putIn_83 : decode (mC mX12_putIn) 83 = .ok (.iastore, 1) := by decide +kernel
theorem dX12_putIn_84 : decode (mC mX12_putIn) 84 = .ok (.iinc 2 1, 3) := by decide +kernel
theorem dX12_putIn_87 : decode (mC mX12_putIn) 87 = .ok (.goto (-21), 3) := by decide +kernel
theorem dX12_putIn_90 : decode (mC mX12_putIn) 90 = .ok (.aload_n 0, 1) := by decide +kernel
theorem dX12_putIn_91 : decode (mC mX12_putIn) 91 = .ok (.invokevirtual 383, 3) := by decide +kernel
theorem dX12_putIn_94 : decode (mC mX12_putIn) 94 = .ok (.ifCond .eq 5, 3) := by decide +kernel
theorem dX12_putIn_97 : decode (mC mX12_putIn) 97 = .ok (.iconst 3, 1) := by decide +kernel
theorem dX12_putIn_98 : decode (mC mX12_putIn) 98 = .ok (.ireturn, 1) := by decide +kernel
theorem dX12_putIn_99 : decode (mC mX12_putIn) 99 = .ok (.aload_n 0, 1) := by decide +kernel
theorem dX12_putIn_100 : decode (mC mX12_putIn) 100 = .ok (.aload_n 0, 1) := by decide +kernel
theorem dX12_putIn_101 : decode (mC mX12_putIn) 101 = .ok (.getfield 69, 3) := by decide +kernel
theorem dX12_putIn_104 : decode (mC mX12_putIn) 104 = .ok (.iconst 0, 1) := by decide +kernel
theorem dX12_putIn_105 : decode (mC mX12_putIn) 105 = .ok (.invokevirtual 313, 3) := by decide +kernel
theorem dX12_putIn_108 : decode (mC mX12_putIn) 108 = .ok (.iconst 0, 1) := by decide +kernel
theorem dX12_putIn_109 : decode (mC mX12_putIn) 109 = .ok (.istore_n 2, 1) := by decide +kernel
theorem dX12_putIn_110 : decode (mC mX12_putIn) 110 = .ok (.iconst 0, 1) := by decide +kernel
theorem dX12_putIn_111 : decode (mC mX12_putIn) 111 = .ok (.istore_n 3, 1) := by decide +kernel
theorem dX12_putIn_112 : decode (mC mX12_putIn) 112 = .ok (.iconst 0, 1) := by decide +kernel
theorem dX12_putIn_113 : decode (mC mX12_putIn) 113 = .ok (.istore 4, 2) := by decide +kernel
theorem dX12_putIn_115 : decode (mC mX12_putIn) 115 = .ok (.iload 4, 2) := by decide +kernel
theorem dX12_putIn_117 : decode (mC mX12_putIn) 117 = .ok (.aload_n 0, 1) := by decide +kernel
theorem dX12_putIn_118 : decode (mC mX12_putIn) 118 = .ok (.getfield 290, 3) := by decide +kernel
theorem dX12_putIn_121 : decode (mC mX12_putIn) 121 = .ok (.if_icmp .ge 47, 3) := by decide +kernel
theorem dX12_putIn_124 : decode (mC mX12_putIn) 124 = .ok (.aload_n 0, 1) := by decide +kernel
theorem dX12_putIn_125 : decode (mC mX12_putIn) 125 = .ok (.iload 4, 2) := by decide +kernel
theorem dX12_putIn_127 : decode (mC mX12_putIn) 127 = .ok (.iconst (-1), 1) := by decide +kernel
theorem dX12_putIn_128 : decode (mC mX12_putIn) 128 = .ok (.invokevirtual 316, 3) := by decide +kernel
theorem dX12_putIn_131 : decode (mC mX12_putIn) 131 = .ok (.aload_n 0, 1) := by decide +kernel
theorem dX12_putIn_132 : decode (mC mX12_putIn) 132 = .ok (.invokevirtual 383, 3) := by decide +kernel
theorem dX12_putIn_135 : decode (mC mX12_putIn) 135 = .ok (.ifCond .ne 6, 3) := by decide +kernel
theorem dX12_putIn_138 : decode (mC mX12_putIn) 138 = .ok (.goto 24, 3) := by decide +kernel
theorem dX12_putIn_141 : decode (mC mX12_putIn) 141 = .ok (.aload_n 0, 1) := by decide +kernel
theorem dX12_putIn_142 : decode (mC mX12_putIn) 142 = .ok (.aload_n 0, 1) := by decide +kernel
theorem dX12_putIn_143 : decode (mC mX12_putIn) 143 = .ok (.getfield 13, 3) := by decide +kernel
theorem dX12_putIn_146 : decode (mC mX12_putIn) 146 = .ok (.iconst 0, 1) := by decide +kernel
theorem dX12_putIn_147 : decode (mC mX12_putIn) 147 = .ok (.invokevirtual 386, 3) := by decide +kernel
theorem dX12_putIn_150 : decode (mC mX12_putIn) 150 = .ok (.ifCond .eq 9, 3) := by decide +kernel
theorem dX12_putIn_153 : decode (mC mX12_putIn) 153 = .ok (.iinc 2 1, 3) := by decide +kernel
theorem dX12_putIn_156 : decode (mC mX12_putIn) 156 = .ok (.goto 6, 3) := by decide +kernel
theorem dX12_putIn_159 : decode (mC mX12_putIn) 159 = .ok (.iinc 3 1, 3) := by decide +kernel
theorem dX12_putIn_162 : decode (mC mX12_putIn) 162 = .ok (.iinc 4 1, 3) := by decide +kernel
theorem dX12_putIn_165 : decode (mC mX12_putIn) 165 = .ok (.goto (-50), 3) := by decide +kernel
theorem dX12_putIn_168 : decode (mC mX12_putIn) 168 = .ok (.iload_n 2, 1) := by decide +kernel
theorem dX12_putIn_169 : decode (mC mX12_putIn) 169 = .ok (.ifCond .ne 7, 3) := by decide +kernel
theorem dX12_putIn_172 : decode (mC mX12_putIn) 172 = .ok (.iconst 0, 1) := by decide +kernel
theorem dX12_putIn_173 : decode (mC mX12_putIn) 173 = .ok (.goto 12, 3) := by decide +kernel
theorem dX12_putIn_176 : decode (mC mX12_putIn) 176 = .ok (.iload_n 3, 1) := by decide +kernel
theorem dX12_putIn_177 : decode (mC mX12_putIn) 177 = .ok (.ifCond .ne 7, 3) := by decide +kernel
theorem dX12_putIn_180 : decode (mC mX12_putIn) 180 = .ok (.iconst 1, 1) := by decide +kernel
theorem dX12_putIn_181 : decode (mC mX12_putIn) 181 = .ok (.goto 4, 3) := by decide +kernel
theorem dX12_putIn_184 : decode (mC mX12_putIn) 184 = .ok (.iconst 2, 1) := by decide +kernel
theorem dX12_putIn_185 : decode (mC mX12_putIn) 185 = .ok (.ireturn, 1) := by decide +kernel
set_option maxRecDepth 100000 in
theorem bX12_putIn_0 {sc : Nat × (Nat → Int32)} {h : jH} {Q : jQ} {l1 : Int32} {P1 : jH → Prop} {P2 : Int32 → jH → Prop} {P3 : Int32 → jH → Prop}
    (k1 : JM mX12_listsBody [.ref 159] (jG0 sc) (jput h 159 0 0) (jvoid sc P1))
    (k2 : ∀ h1 : jH, P1 h1 → JM mX12_noMend [.ref 159, .int l1] (jG0 sc) h1 (jint sc P2))
    (k3 : ∀ h1 : jH, P1 h1 → ∀ (x2 : Int32) (h2 : jH), P2 x2 h2 → JM mX12_throwsIf [.ref 159, .int x2, .int 1] (jG0 sc) h2 (jint sc P3))
    (v1 : ∀ h1 : jH, P1 h1 → ∀ (x2 : Int32) (h2 : jH), P2 x2 h2 → ∀ (x3 : Int32) (h3 : jH), P3 x3 h3 → x3 = 0 → WP mX12_putIn Q 24 [some (.ref 159), some (.int l1), none, none, none] [] (jG0 sc) h3 (0, 0))
    (v2 : ∀ h1 : jH, P1 h1 → ∀ (x2 : Int32) (h2 : jH), P2 x2 h2 → ∀ (x3 : Int32) (h3 : jH), P3 x3 h3 → ¬ x3 = 0 → WP mX12_putIn Q 22 [some (.ref 159), some (.int l1), none, none, none] [] (jG0 sc) h3 (0, 0)) :
    WP mX12_putIn Q 0 [some (.ref 159), some (.int l1), none, none, none] [] (jG0 sc) h (0, 0) := by
  refine j_aload_n (i := 0) rfl dX12_putIn_0 ?_
  refine j_iconst (n := 0) 0 (by decide) dX12_putIn_1 ?_
  refine j_putI (idx := 3) (ci := 12) (k := 0) (nest := false) (show (12, 3, 12, 0, false) ∈ jFT by decide) rfl rfl rfl rfl (Nat.le_of_ble_eq_true rfl) rfl dX12_putIn_2 ?_
  refine j_aload_n (i := 0) rfl dX12_putIn_5 ?_
  refine j_callV (idx := 319) (As := []) (ci := 12) (n := 0) k1 jvoid_nt (jlkT (jtb7 160 rfl) rfl) sX12_listsBody kX12_listsBody rfl ⟨rfl, by decide +kernel, by decide +kernel, by decide +kernel⟩ rfl ⟨by decide, by decide⟩ (Nat.le_of_ble_eq_true rfl) rfl (Nat.le_of_ble_eq_true rfl) (Nat.le_of_ble_eq_true rfl) ⟨Nat.zero_le _, Nat.zero_le _⟩ dX12_putIn_6 (fun r Γ' h1 q => ?_)
  obtain ⟨q0, rfl, p1⟩ := q; cases q0
  refine j_eqst [] (by rfl) ?_
  refine j_aload_n (i := 0) rfl dX12_putIn_9 ?_
  refine j_aload_n (i := 0) rfl dX12_putIn_10 ?_
  refine j_iload_n (i := 1) rfl dX12_putIn_11 ?_
  refine j_callV (idx := 322) (As := [.int l1]) (ci := 12) (n := 1) (k2 h1 p1) jint_nt (jlkT (jtb7 184 rfl) rfl) sX12_noMend kX12_noMend rfl ⟨rfl, by decide +kernel, by decide +kernel, by decide +kernel⟩ rfl ⟨by decide, by decide⟩ (Nat.le_of_ble_eq_true rfl) rfl (Nat.le_of_ble_eq_true rfl) (Nat.le_of_ble_eq_true rfl) ⟨Nat.zero_le _, Nat.zero_le _⟩ dX12_putIn_12 (fun r Γ' h2 q => ?_)
  obtain ⟨x2, q0, rfl, p2⟩ := q; cases q0
  refine j_eqst [.int x2, .ref 159] (by rfl) ?_
  refine j_iconst (n := 1) 1 (by decide) dX12_putIn_15 ?_
  refine j_callV (idx := 157) (As := [.int x2, .int 1]) (ci := 12) (n := 2) (k3 h1 p1 x2 h2 p2) jint_nt (jlkT (jtb7 17 rfl) rfl) sX12_throwsIf kX12_throwsIf rfl ⟨rfl, by decide +kernel, by decide +kernel, by decide +kernel⟩ rfl ⟨by decide, by decide⟩ (Nat.le_of_ble_eq_true rfl) rfl (Nat.le_of_ble_eq_true rfl) (Nat.le_of_ble_eq_true rfl) ⟨Nat.zero_le _, Nat.zero_le _⟩ dX12_putIn_16 (fun r Γ' h3 q => ?_)
  obtain ⟨x3, q0, rfl, p3⟩ := q; cases q0
  refine j_eqst [.int x3] (by rfl) ?_
  refine j_if_eq (off := 5) 24 dX12_putIn_19 (by decide) (fun c1 => ?_) (fun c1 => ?_)
  · exact j_le [some (.ref 159), some (.int l1), none, none, none] (And.intro rfl (And.intro rfl True.intro)) (v1 h1 p1 x2 h2 p2 x3 h3 p3 c1)
  · exact j_le [some (.ref 159), some (.int l1), none, none, none] (And.intro rfl (And.intro rfl True.intro)) (v2 h1 p1 x2 h2 p2 x3 h3 p3 c1)
set_option maxRecDepth 100000 in
theorem bX12_putIn_22 {sc : Nat × (Nat → Int32)} {h : jH} {Q : jQ} {l1 : Int32}
    (v1 : Q (.inl (some (.int 0))) (jG0 sc) h) :
    WP mX12_putIn Q 22 [some (.ref 159), some (.int l1), none, none, none] [] (jG0 sc) h (0, 0) := by
  refine j_iconst (n := 0) 0 (by decide) dX12_putIn_22 ?_
  exact j_iret rfl rfl (Nat.zero_le _) (Nat.zero_le _) dX12_putIn_23 v1
set_option maxRecDepth 100000 in
theorem bX12_putIn_24 {sc : Nat × (Nat → Int32)} {h : jH} {Q : jQ} {l1 : Int32} {P1 : jH → Prop}
    (k1 : JM mX12_plain [.ref 159] (jG0 sc) h (jvoid sc P1))
    (v1 : ∀ h1 : jH, P1 h1 → WP mX12_putIn Q 30 [some (.ref 159), some (.int l1), some (.int 0), none, none] [] (jG0 sc) h1 (0, 0)) :
    WP mX12_putIn Q 24 [some (.ref 159), some (.int l1), none, none, none] [] (jG0 sc) h (0, 0) := by
  refine j_aload_n (i := 0) rfl dX12_putIn_24 ?_
  refine j_callV (idx := 307) (As := []) (ci := 12) (n := 0) k1 jvoid_nt (jlkT (jtb7 192 rfl) rfl) sX12_plain kX12_plain rfl ⟨rfl, by decide +kernel, by decide +kernel, by decide +kernel⟩ rfl ⟨by decide, by decide⟩ (Nat.le_of_ble_eq_true rfl) rfl (Nat.le_of_ble_eq_true rfl) (Nat.le_of_ble_eq_true rfl) ⟨Nat.zero_le _, Nat.zero_le _⟩ dX12_putIn_25 (fun r Γ' h1 q => ?_)
  obtain ⟨q0, rfl, p1⟩ := q; cases q0
  refine j_eqst [] (by rfl) ?_
  refine j_iconst (n := 0) 0 (by decide) dX12_putIn_28 ?_
  refine j_istore_n (i := 2) dX12_putIn_29 (Nat.le_of_ble_eq_true rfl) ?_
  exact j_le [some (.ref 159), some (.int l1), some (.int 0), none, none] (And.intro rfl (And.intro rfl (And.intro rfl True.intro))) (v1 h1 p1)
set_option maxRecDepth 100000 in
theorem bX12_putIn_30 {sc : Nat × (Nat → Int32)} {h : jH} {Q : jQ} {l1 l2 : Int32}
    (v1 : (h 160 122) ≤ l2 → WP mX12_putIn Q 58 [some (.ref 159), some (.int l1), some (.int l2), none, none] [] (jG0 sc) h (0, 0))
    (v2 : ¬ (h 160 122) ≤ l2 → WP mX12_putIn Q 41 [some (.ref 159), some (.int l1), some (.int l2), none, none] [] (jG0 sc) h (0, 0)) :
    WP mX12_putIn Q 30 [some (.ref 159), some (.int l1), some (.int l2), none, none] [] (jG0 sc) h (0, 0) := by
  refine j_iload_n (i := 2) rfl dX12_putIn_30 ?_
  refine j_aload_n (i := 0) rfl dX12_putIn_31 ?_
  refine j_getR (idx := 13) (ci := 12) (k := 1) (nest := false) (show (12, 13, 12, 1, false) ∈ jFT by decide) rfl (Nat.le_of_ble_eq_true rfl) rfl (a := 160) rfl dX12_putIn_32 ?_
  refine j_bipush (n := 122) 122 (by decide) dX12_putIn_35 ?_
  refine j_iald (Nat.le_of_ble_eq_true rfl) rfl (jinl (n := 1454) (by decide)) dX12_putIn_37 ?_
  refine j_eqst [.int (h 160 122), .int l2] (by rfl) ?_
  refine j_icmp_ge (off := 20) 58 dX12_putIn_38 (by decide) (fun c1 => ?_) (fun c1 => ?_)
  · exact j_le [some (.ref 159), some (.int l1), some (.int l2), none, none] (And.intro rfl (And.intro rfl (And.intro rfl True.intro))) (v1 c1)
  · exact j_le [some (.ref 159), some (.int l1), some (.int l2), none, none] (And.intro rfl (And.intro rfl (And.intro rfl True.intro))) (v2 c1)
set_option maxRecDepth 100000 in
theorem bX12_putIn_41 {sc : Nat × (Nat → Int32)} {h : jH} {Q : jQ} {l1 l2 : Int32} {P1 : Int32 → jH → Prop}
    (k1 : JM mX12_endOn [.ref 159, .int l2] (jG0 sc) h (jint sc P1))
    (o1 : ∀ (x1 : Int32) (h1 : jH), P1 x1 h1 → vp_in l2 12)
    (v1 : ∀ (x1 : Int32) (h1 : jH), P1 x1 h1 → WP mX12_putIn Q 30 [some (.ref 159), some (.int l1), some (.int (l2 + 1)), none, none] [] (jG0 sc) (jput h1 178 l2.toNatClampNeg x1) (0, 0)) :
    WP mX12_putIn Q 41 [some (.ref 159), some (.int l1), some (.int l2), none, none] [] (jG0 sc) h (0, 0) := by
  refine j_aload_n (i := 0) rfl dX12_putIn_41 ?_
  refine j_getR (idx := 72) (ci := 12) (k := 32) (nest := false) (show (12, 72, 12, 32, false) ∈ jFT by decide) rfl (Nat.le_of_ble_eq_true rfl) rfl (a := 178) rfl dX12_putIn_42 ?_
  refine j_iload_n (i := 2) rfl dX12_putIn_45 ?_
  refine j_aload_n (i := 0) rfl dX12_putIn_46 ?_
  refine j_iload_n (i := 2) rfl dX12_putIn_47 ?_
  refine j_callV (idx := 255) (As := [.int l2]) (ci := 12) (n := 1) k1 jint_nt (jlkT (jtb7 116 rfl) rfl) sX12_endOn kX12_endOn rfl ⟨rfl, by decide +kernel, by decide +kernel, by decide +kernel⟩ rfl ⟨by decide, by decide⟩ (Nat.le_of_ble_eq_true rfl) rfl (Nat.le_of_ble_eq_true rfl) (Nat.le_of_ble_eq_true rfl) ⟨Nat.zero_le _, Nat.zero_le _⟩ dX12_putIn_48 (fun r Γ' h1 q => ?_)
  obtain ⟨x1, q0, rfl, p1⟩ := q; cases q0
  refine j_eqst [.int x1, .int l2, .ref 178] (by rfl) ?_
  refine j_iast (Nat.le_of_ble_eq_true rfl) rfl (o1 x1 h1 p1) dX12_putIn_51 ?_
  refine j_iinc (i := 2) (n := 1) rfl dX12_putIn_52 (Nat.le_of_ble_eq_true rfl) ?_
  refine j_eqlv [some (.ref 159), some (.int l1), some (.int (l2 + 1)), none, none] rfl ?_
  refine j_goto (off := -25) 30 dX12_putIn_55 (by decide) ?_
  exact j_le [some (.ref 159), some (.int l1), some (.int (l2 + 1)), none, none] (And.intro rfl (And.intro rfl (And.intro rfl True.intro))) (v1 x1 h1 p1)
set_option maxRecDepth 100000 in
theorem bX12_putIn_58 {sc : Nat × (Nat → Int32)} {h : jH} {Q : jQ} {l1 l2 : Int32} {P1 : jH → Prop}
    (k1 : JM mX12_laysBy [.ref 159, .int l1, .int (-1)] (jG0 sc) h (jvoid sc P1))
    (v1 : ∀ h1 : jH, P1 h1 → WP mX12_putIn Q 66 [some (.ref 159), some (.int l1), some (.int 0), none, none] [] (jG0 sc) h1 (0, 0)) :
    WP mX12_putIn Q 58 [some (.ref 159), some (.int l1), some (.int l2), none, none] [] (jG0 sc) h (0, 0) := by
  refine j_aload_n (i := 0) rfl dX12_putIn_58 ?_
  refine j_iload_n (i := 1) rfl dX12_putIn_59 ?_
  refine j_iconst (n := (-1)) (-1) (by decide) dX12_putIn_60 ?_
  refine j_callV (idx := 316) (As := [.int l1, .int (-1)]) (ci := 12) (n := 2) k1 jvoid_nt (jlkT (jtb7 196 rfl) rfl) sX12_laysBy kX12_laysBy rfl ⟨rfl, by decide +kernel, by decide +kernel, by decide +kernel⟩ rfl ⟨by decide, by decide⟩ (Nat.le_of_ble_eq_true rfl) rfl (Nat.le_of_ble_eq_true rfl) (Nat.le_of_ble_eq_true rfl) ⟨Nat.zero_le _, Nat.zero_le _⟩ dX12_putIn_61 (fun r Γ' h1 q => ?_)
  obtain ⟨q0, rfl, p1⟩ := q; cases q0
  refine j_eqst [] (by rfl) ?_
  refine j_iconst (n := 0) 0 (by decide) dX12_putIn_64 ?_
  refine j_istore_n (i := 2) dX12_putIn_65 (Nat.le_of_ble_eq_true rfl) ?_
  exact j_le [some (.ref 159), some (.int l1), some (.int 0), none, none] (And.intro rfl (And.intro rfl (And.intro rfl True.intro))) (v1 h1 p1)
set_option maxRecDepth 100000 in
theorem bX12_putIn_66 {sc : Nat × (Nat → Int32)} {h : jH} {Q : jQ} {l1 l2 : Int32}
    (v1 : 61 ≤ l2 → WP mX12_putIn Q 90 [some (.ref 159), some (.int l1), some (.int l2), none, none] [] (jG0 sc) h (0, 0))
    (v2 : ¬ 61 ≤ l2 → WP mX12_putIn Q 72 [some (.ref 159), some (.int l1), some (.int l2), none, none] [] (jG0 sc) h (0, 0)) :
    WP mX12_putIn Q 66 [some (.ref 159), some (.int l1), some (.int l2), none, none] [] (jG0 sc) h (0, 0) := by
  refine j_iload_n (i := 2) rfl dX12_putIn_66 ?_
  refine j_bipush (n := 61) 61 (by decide) dX12_putIn_67 ?_
  refine j_icmp_ge (off := 21) 90 dX12_putIn_69 (by decide) (fun c1 => ?_) (fun c1 => ?_)
  · exact j_le [some (.ref 159), some (.int l1), some (.int l2), none, none] (And.intro rfl (And.intro rfl (And.intro rfl True.intro))) (v1 c1)
  · exact j_le [some (.ref 159), some (.int l1), some (.int l2), none, none] (And.intro rfl (And.intro rfl (And.intro rfl True.intro))) (v2 c1)
set_option maxRecDepth 100000 in
theorem bX12_putIn_72 {sc : Nat × (Nat → Int32)} {h : jH} {Q : jQ} {l1 l2 : Int32}
    (o1 : vp_in l2 61)
    (o2 : vp_in l2 61)
    (v1 : WP mX12_putIn Q 66 [some (.ref 159), some (.int l1), some (.int (l2 + 1)), none, none] [] (jG0 sc) (jput h 177 l2.toNatClampNeg (h 167 l2.toNatClampNeg)) (0, 0)) :
    WP mX12_putIn Q 72 [some (.ref 159), some (.int l1), some (.int l2), none, none] [] (jG0 sc) h (0, 0) := by
  refine j_aload_n (i := 0) rfl dX12_putIn_72 ?_
  refine j_getR (idx := 69) (ci := 12) (k := 31) (nest := false) (show (12, 69, 12, 31, false) ∈ jFT by decide) rfl (Nat.le_of_ble_eq_true rfl) rfl (a := 177) rfl dX12_putIn_73 ?_
  refine j_iload_n (i := 2) rfl dX12_putIn_76 ?_
  refine j_aload_n (i := 0) rfl dX12_putIn_77 ?_
  refine j_getR (idx := 39) (ci := 12) (k := 16) (nest := false) (show (12, 39, 12, 16, false) ∈ jFT by decide) rfl (Nat.le_of_ble_eq_true rfl) rfl (a := 167) rfl dX12_putIn_78 ?_
  refine j_iload_n (i := 2) rfl dX12_putIn_81 ?_
  refine j_iald (Nat.le_of_ble_eq_true rfl) rfl o1 dX12_putIn_82 ?_
  refine j_iast (Nat.le_of_ble_eq_true rfl) rfl o2 dX12_putIn_83 ?_
  refine j_iinc (i := 2) (n := 1) rfl dX12_putIn_84 (Nat.le_of_ble_eq_true rfl) ?_
  refine j_eqlv [some (.ref 159), some (.int l1), some (.int (l2 + 1)), none, none] rfl ?_
  refine j_goto (off := -21) 66 dX12_putIn_87 (by decide) ?_
  exact j_le [some (.ref 159), some (.int l1), some (.int (l2 + 1)), none, none] (And.intro rfl (And.intro rfl (And.intro rfl True.intro))) v1
set_option maxRecDepth 100000 in
theorem bX12_putIn_90 {sc : Nat × (Nat → Int32)} {h : jH} {Q : jQ} {l1 l2 : Int32} {P1 : Int32 → jH → Prop}
    (k1 : JM mX12_endsAsDue [.ref 159] (jG0 sc) h (jint sc P1))
    (v1 : ∀ (x1 : Int32) (h1 : jH), P1 x1 h1 → x1 = 0 → WP mX12_putIn Q 99 [some (.ref 159), some (.int l1), some (.int l2), none, none] [] (jG0 sc) h1 (0, 0))
    (v2 : ∀ (x1 : Int32) (h1 : jH), P1 x1 h1 → ¬ x1 = 0 → WP mX12_putIn Q 97 [some (.ref 159), some (.int l1), some (.int l2), none, none] [] (jG0 sc) h1 (0, 0)) :
    WP mX12_putIn Q 90 [some (.ref 159), some (.int l1), some (.int l2), none, none] [] (jG0 sc) h (0, 0) := by
  refine j_aload_n (i := 0) rfl dX12_putIn_90 ?_
  refine j_callV (idx := 383) (As := []) (ci := 12) (n := 0) k1 jint_nt (jlkT (jtb8 77 rfl) rfl) sX12_endsAsDue kX12_endsAsDue rfl ⟨rfl, by decide +kernel, by decide +kernel, by decide +kernel⟩ rfl ⟨by decide, by decide⟩ (Nat.le_of_ble_eq_true rfl) rfl (Nat.le_of_ble_eq_true rfl) (Nat.le_of_ble_eq_true rfl) ⟨Nat.zero_le _, Nat.zero_le _⟩ dX12_putIn_91 (fun r Γ' h1 q => ?_)
  obtain ⟨x1, q0, rfl, p1⟩ := q; cases q0
  refine j_eqst [.int x1] (by rfl) ?_
  refine j_if_eq (off := 5) 99 dX12_putIn_94 (by decide) (fun c1 => ?_) (fun c1 => ?_)
  · exact j_le [some (.ref 159), some (.int l1), some (.int l2), none, none] (And.intro rfl (And.intro rfl (And.intro rfl True.intro))) (v1 x1 h1 p1 c1)
  · exact j_le [some (.ref 159), some (.int l1), some (.int l2), none, none] (And.intro rfl (And.intro rfl (And.intro rfl True.intro))) (v2 x1 h1 p1 c1)
set_option maxRecDepth 100000 in
theorem bX12_putIn_97 {sc : Nat × (Nat → Int32)} {h : jH} {Q : jQ} {l1 l2 : Int32}
    (v1 : Q (.inl (some (.int 3))) (jG0 sc) h) :
    WP mX12_putIn Q 97 [some (.ref 159), some (.int l1), some (.int l2), none, none] [] (jG0 sc) h (0, 0) := by
  refine j_iconst (n := 3) 3 (by decide) dX12_putIn_97 ?_
  exact j_iret rfl rfl (Nat.zero_le _) (Nat.zero_le _) dX12_putIn_98 v1
set_option maxRecDepth 100000 in
theorem bX12_putIn_99 {sc : Nat × (Nat → Int32)} {h : jH} {Q : jQ} {l1 l2 : Int32} {P1 : jH → Prop}
    (k1 : JM mX12_lists [.ref 159, .ref 177, .int 0] (jG0 sc) h (jvoid sc P1))
    (v1 : ∀ h1 : jH, P1 h1 → WP mX12_putIn Q 115 [some (.ref 159), some (.int l1), some (.int 0), some (.int 0), some (.int 0)] [] (jG0 sc) h1 (0, 0)) :
    WP mX12_putIn Q 99 [some (.ref 159), some (.int l1), some (.int l2), none, none] [] (jG0 sc) h (0, 0) := by
  refine j_aload_n (i := 0) rfl dX12_putIn_99 ?_
  refine j_aload_n (i := 0) rfl dX12_putIn_100 ?_
  refine j_getR (idx := 69) (ci := 12) (k := 31) (nest := false) (show (12, 69, 12, 31, false) ∈ jFT by decide) rfl (Nat.le_of_ble_eq_true rfl) rfl (a := 177) rfl dX12_putIn_101 ?_
  refine j_iconst (n := 0) 0 (by decide) dX12_putIn_104 ?_
  refine j_callV (idx := 313) (As := [.ref 177, .int 0]) (ci := 12) (n := 2) k1 jvoid_nt (jlkT (jtb7 164 rfl) rfl) sX12_lists kX12_lists rfl ⟨rfl, by decide +kernel, by decide +kernel, by decide +kernel⟩ rfl ⟨by decide, by decide⟩ (Nat.le_of_ble_eq_true rfl) rfl (Nat.le_of_ble_eq_true rfl) (Nat.le_of_ble_eq_true rfl) ⟨Nat.zero_le _, Nat.zero_le _⟩ dX12_putIn_105 (fun r Γ' h1 q => ?_)
  obtain ⟨q0, rfl, p1⟩ := q; cases q0
  refine j_eqst [] (by rfl) ?_
  refine j_iconst (n := 0) 0 (by decide) dX12_putIn_108 ?_
  refine j_istore_n (i := 2) dX12_putIn_109 (Nat.le_of_ble_eq_true rfl) ?_
  refine j_iconst (n := 0) 0 (by decide) dX12_putIn_110 ?_
  refine j_istore_n (i := 3) dX12_putIn_111 (Nat.le_of_ble_eq_true rfl) ?_
  refine j_iconst (n := 0) 0 (by decide) dX12_putIn_112 ?_
  refine j_istore (i := 4) dX12_putIn_113 (Nat.le_of_ble_eq_true rfl) ?_
  exact j_le [some (.ref 159), some (.int l1), some (.int 0), some (.int 0), some (.int 0)] (And.intro rfl (And.intro rfl (And.intro rfl (And.intro rfl (And.intro rfl True.intro))))) (v1 h1 p1)
set_option maxRecDepth 100000 in
theorem bX12_putIn_115 {sc : Nat × (Nat → Int32)} {h : jH} {Q : jQ} {l1 l2 l3 l4 : Int32}
    (v1 : (h 159 26) ≤ l4 → WP mX12_putIn Q 168 [some (.ref 159), some (.int l1), some (.int l2), some (.int l3), some (.int l4)] [] (jG0 sc) h (0, 0))
    (v2 : ¬ (h 159 26) ≤ l4 → WP mX12_putIn Q 124 [some (.ref 159), some (.int l1), some (.int l2), some (.int l3), some (.int l4)] [] (jG0 sc) h (0, 0)) :
    WP mX12_putIn Q 115 [some (.ref 159), some (.int l1), some (.int l2), some (.int l3), some (.int l4)] [] (jG0 sc) h (0, 0) := by
  refine j_iload (i := 4) rfl dX12_putIn_115 ?_
  refine j_aload_n (i := 0) rfl dX12_putIn_117 ?_
  refine j_getI (idx := 290) (ci := 12) (k := 26) (nest := false) (show (12, 290, 12, 26, false) ∈ jFT by decide) rfl (Nat.le_of_ble_eq_true rfl) rfl dX12_putIn_118 ?_
  refine j_icmp_ge (off := 47) 168 dX12_putIn_121 (by decide) (fun c1 => ?_) (fun c1 => ?_)
  · exact j_le [some (.ref 159), some (.int l1), some (.int l2), some (.int l3), some (.int l4)] (And.intro rfl (And.intro rfl (And.intro rfl (And.intro rfl (And.intro rfl True.intro))))) (v1 c1)
  · exact j_le [some (.ref 159), some (.int l1), some (.int l2), some (.int l3), some (.int l4)] (And.intro rfl (And.intro rfl (And.intro rfl (And.intro rfl (And.intro rfl True.intro))))) (v2 c1)
set_option maxRecDepth 100000 in
theorem bX12_putIn_124 {sc : Nat × (Nat → Int32)} {h : jH} {Q : jQ} {l1 l2 l3 l4 : Int32} {P1 : jH → Prop} {P2 : Int32 → jH → Prop}
    (k1 : JM mX12_laysBy [.ref 159, .int l4, .int (-1)] (jG0 sc) h (jvoid sc P1))
    (k2 : ∀ h1 : jH, P1 h1 → JM mX12_endsAsDue [.ref 159] (jG0 sc) h1 (jint sc P2))
    (v1 : ∀ h1 : jH, P1 h1 → ∀ (x2 : Int32) (h2 : jH), P2 x2 h2 → ¬ x2 = 0 → WP mX12_putIn Q 141 [some (.ref 159), some (.int l1), some (.int l2), some (.int l3), some (.int l4)] [] (jG0 sc) h2 (0, 0))
    (v2 : ∀ h1 : jH, P1 h1 → ∀ (x2 : Int32) (h2 : jH), P2 x2 h2 → x2 = 0 → WP mX12_putIn Q 138 [some (.ref 159), some (.int l1), some (.int l2), some (.int l3), some (.int l4)] [] (jG0 sc) h2 (0, 0)) :
    WP mX12_putIn Q 124 [some (.ref 159), some (.int l1), some (.int l2), some (.int l3), some (.int l4)] [] (jG0 sc) h (0, 0) := by
  refine j_aload_n (i := 0) rfl dX12_putIn_124 ?_
  refine j_iload (i := 4) rfl dX12_putIn_125 ?_
  refine j_iconst (n := (-1)) (-1) (by decide) dX12_putIn_127 ?_
  refine j_callV (idx := 316) (As := [.int l4, .int (-1)]) (ci := 12) (n := 2) k1 jvoid_nt (jlkT (jtb7 196 rfl) rfl) sX12_laysBy kX12_laysBy rfl ⟨rfl, by decide +kernel, by decide +kernel, by decide +kernel⟩ rfl ⟨by decide, by decide⟩ (Nat.le_of_ble_eq_true rfl) rfl (Nat.le_of_ble_eq_true rfl) (Nat.le_of_ble_eq_true rfl) ⟨Nat.zero_le _, Nat.zero_le _⟩ dX12_putIn_128 (fun r Γ' h1 q => ?_)
  obtain ⟨q0, rfl, p1⟩ := q; cases q0
  refine j_eqst [] (by rfl) ?_
  refine j_aload_n (i := 0) rfl dX12_putIn_131 ?_
  refine j_callV (idx := 383) (As := []) (ci := 12) (n := 0) (k2 h1 p1) jint_nt (jlkT (jtb8 77 rfl) rfl) sX12_endsAsDue kX12_endsAsDue rfl ⟨rfl, by decide +kernel, by decide +kernel, by decide +kernel⟩ rfl ⟨by decide, by decide⟩ (Nat.le_of_ble_eq_true rfl) rfl (Nat.le_of_ble_eq_true rfl) (Nat.le_of_ble_eq_true rfl) ⟨Nat.zero_le _, Nat.zero_le _⟩ dX12_putIn_132 (fun r Γ' h2 q => ?_)
  obtain ⟨x2, q0, rfl, p2⟩ := q; cases q0
  refine j_eqst [.int x2] (by rfl) ?_
  refine j_if_ne (off := 6) 141 dX12_putIn_135 (by decide) (fun c1 => ?_) (fun c1 => ?_)
  · exact j_le [some (.ref 159), some (.int l1), some (.int l2), some (.int l3), some (.int l4)] (And.intro rfl (And.intro rfl (And.intro rfl (And.intro rfl (And.intro rfl True.intro))))) (v1 h1 p1 x2 h2 p2 c1)
  · exact j_le [some (.ref 159), some (.int l1), some (.int l2), some (.int l3), some (.int l4)] (And.intro rfl (And.intro rfl (And.intro rfl (And.intro rfl (And.intro rfl True.intro))))) (v2 h1 p1 x2 h2 p2 c1)
set_option maxRecDepth 100000 in
theorem bX12_putIn_138 {sc : Nat × (Nat → Int32)} {h : jH} {Q : jQ} {l1 l2 l3 l4 : Int32}
    (v1 : WP mX12_putIn Q 162 [some (.ref 159), some (.int l1), some (.int l2), some (.int l3), some (.int l4)] [] (jG0 sc) h (0, 0)) :
    WP mX12_putIn Q 138 [some (.ref 159), some (.int l1), some (.int l2), some (.int l3), some (.int l4)] [] (jG0 sc) h (0, 0) := by
  refine j_goto (off := 24) 162 dX12_putIn_138 (by decide) ?_
  exact j_le [some (.ref 159), some (.int l1), some (.int l2), some (.int l3), some (.int l4)] (And.intro rfl (And.intro rfl (And.intro rfl (And.intro rfl (And.intro rfl True.intro))))) v1
set_option maxRecDepth 100000 in
theorem bX12_putIn_141 {sc : Nat × (Nat → Int32)} {h : jH} {Q : jQ} {l1 l2 l3 l4 : Int32} {P1 : Int32 → jH → Prop}
    (k1 : JM mX12_isAsBody [.ref 159, .ref 160, .int 0] (jG0 sc) h (jint sc P1))
    (v1 : ∀ (x1 : Int32) (h1 : jH), P1 x1 h1 → x1 = 0 → WP mX12_putIn Q 159 [some (.ref 159), some (.int l1), some (.int l2), some (.int l3), some (.int l4)] [] (jG0 sc) h1 (0, 0))
    (v2 : ∀ (x1 : Int32) (h1 : jH), P1 x1 h1 → ¬ x1 = 0 → WP mX12_putIn Q 153 [some (.ref 159), some (.int l1), some (.int l2), some (.int l3), some (.int l4)] [] (jG0 sc) h1 (0, 0)) :
    WP mX12_putIn Q 141 [some (.ref 159), some (.int l1), some (.int l2), some (.int l3), some (.int l4)] [] (jG0 sc) h (0, 0) := by
  refine j_aload_n (i := 0) rfl dX12_putIn_141 ?_
  refine j_aload_n (i := 0) rfl dX12_putIn_142 ?_
  refine j_getR (idx := 13) (ci := 12) (k := 1) (nest := false) (show (12, 13, 12, 1, false) ∈ jFT by decide) rfl (Nat.le_of_ble_eq_true rfl) rfl (a := 160) rfl dX12_putIn_143 ?_
  refine j_iconst (n := 0) 0 (by decide) dX12_putIn_146 ?_
  refine j_callV (idx := 386) (As := [.ref 160, .int 0]) (ci := 12) (n := 2) k1 jint_nt (jlkT (jtb8 81 rfl) rfl) sX12_isAsBody kX12_isAsBody rfl ⟨rfl, by decide +kernel, by decide +kernel, by decide +kernel⟩ rfl ⟨by decide, by decide⟩ (Nat.le_of_ble_eq_true rfl) rfl (Nat.le_of_ble_eq_true rfl) (Nat.le_of_ble_eq_true rfl) ⟨Nat.zero_le _, Nat.zero_le _⟩ dX12_putIn_147 (fun r Γ' h1 q => ?_)
  obtain ⟨x1, q0, rfl, p1⟩ := q; cases q0
  refine j_eqst [.int x1] (by rfl) ?_
  refine j_if_eq (off := 9) 159 dX12_putIn_150 (by decide) (fun c1 => ?_) (fun c1 => ?_)
  · exact j_le [some (.ref 159), some (.int l1), some (.int l2), some (.int l3), some (.int l4)] (And.intro rfl (And.intro rfl (And.intro rfl (And.intro rfl (And.intro rfl True.intro))))) (v1 x1 h1 p1 c1)
  · exact j_le [some (.ref 159), some (.int l1), some (.int l2), some (.int l3), some (.int l4)] (And.intro rfl (And.intro rfl (And.intro rfl (And.intro rfl (And.intro rfl True.intro))))) (v2 x1 h1 p1 c1)
set_option maxRecDepth 100000 in
theorem bX12_putIn_153 {sc : Nat × (Nat → Int32)} {h : jH} {Q : jQ} {l1 l2 l3 l4 : Int32}
    (v1 : WP mX12_putIn Q 162 [some (.ref 159), some (.int l1), some (.int (l2 + 1)), some (.int l3), some (.int l4)] [] (jG0 sc) h (0, 0)) :
    WP mX12_putIn Q 153 [some (.ref 159), some (.int l1), some (.int l2), some (.int l3), some (.int l4)] [] (jG0 sc) h (0, 0) := by
  refine j_iinc (i := 2) (n := 1) rfl dX12_putIn_153 (Nat.le_of_ble_eq_true rfl) ?_
  refine j_eqlv [some (.ref 159), some (.int l1), some (.int (l2 + 1)), some (.int l3), some (.int l4)] rfl ?_
  refine j_goto (off := 6) 162 dX12_putIn_156 (by decide) ?_
  exact j_le [some (.ref 159), some (.int l1), some (.int (l2 + 1)), some (.int l3), some (.int l4)] (And.intro rfl (And.intro rfl (And.intro rfl (And.intro rfl (And.intro rfl True.intro))))) v1
set_option maxRecDepth 100000 in
theorem bX12_putIn_159 {sc : Nat × (Nat → Int32)} {h : jH} {Q : jQ} {l1 l2 l3 l4 : Int32}
    (v1 : WP mX12_putIn Q 162 [some (.ref 159), some (.int l1), some (.int l2), some (.int (l3 + 1)), some (.int l4)] [] (jG0 sc) h (0, 0)) :
    WP mX12_putIn Q 159 [some (.ref 159), some (.int l1), some (.int l2), some (.int l3), some (.int l4)] [] (jG0 sc) h (0, 0) := by
  refine j_iinc (i := 3) (n := 1) rfl dX12_putIn_159 (Nat.le_of_ble_eq_true rfl) ?_
  refine j_eqlv [some (.ref 159), some (.int l1), some (.int l2), some (.int (l3 + 1)), some (.int l4)] rfl ?_
  exact j_le [some (.ref 159), some (.int l1), some (.int l2), some (.int (l3 + 1)), some (.int l4)] (And.intro rfl (And.intro rfl (And.intro rfl (And.intro rfl (And.intro rfl True.intro))))) v1
set_option maxRecDepth 100000 in
theorem bX12_putIn_162 {sc : Nat × (Nat → Int32)} {h : jH} {Q : jQ} {l1 l2 l3 l4 : Int32}
    (v1 : WP mX12_putIn Q 115 [some (.ref 159), some (.int l1), some (.int l2), some (.int l3), some (.int (l4 + 1))] [] (jG0 sc) h (0, 0)) :
    WP mX12_putIn Q 162 [some (.ref 159), some (.int l1), some (.int l2), some (.int l3), some (.int l4)] [] (jG0 sc) h (0, 0) := by
  refine j_iinc (i := 4) (n := 1) rfl dX12_putIn_162 (Nat.le_of_ble_eq_true rfl) ?_
  refine j_eqlv [some (.ref 159), some (.int l1), some (.int l2), some (.int l3), some (.int (l4 + 1))] rfl ?_
  refine j_goto (off := -50) 115 dX12_putIn_165 (by decide) ?_
  exact j_le [some (.ref 159), some (.int l1), some (.int l2), some (.int l3), some (.int (l4 + 1))] (And.intro rfl (And.intro rfl (And.intro rfl (And.intro rfl (And.intro rfl True.intro))))) v1
set_option maxRecDepth 100000 in
theorem bX12_putIn_168 {sc : Nat × (Nat → Int32)} {h : jH} {Q : jQ} {l1 l2 l3 l4 : Int32}
    (v1 : ¬ l2 = 0 → WP mX12_putIn Q 176 [some (.ref 159), some (.int l1), some (.int l2), some (.int l3), some (.int l4)] [] (jG0 sc) h (0, 0))
    (v2 : l2 = 0 → WP mX12_putIn Q 172 [some (.ref 159), some (.int l1), some (.int l2), some (.int l3), some (.int l4)] [] (jG0 sc) h (0, 0)) :
    WP mX12_putIn Q 168 [some (.ref 159), some (.int l1), some (.int l2), some (.int l3), some (.int l4)] [] (jG0 sc) h (0, 0) := by
  refine j_iload_n (i := 2) rfl dX12_putIn_168 ?_
  refine j_if_ne (off := 7) 176 dX12_putIn_169 (by decide) (fun c1 => ?_) (fun c1 => ?_)
  · exact j_le [some (.ref 159), some (.int l1), some (.int l2), some (.int l3), some (.int l4)] (And.intro rfl (And.intro rfl (And.intro rfl (And.intro rfl (And.intro rfl True.intro))))) (v1 c1)
  · exact j_le [some (.ref 159), some (.int l1), some (.int l2), some (.int l3), some (.int l4)] (And.intro rfl (And.intro rfl (And.intro rfl (And.intro rfl (And.intro rfl True.intro))))) (v2 c1)
set_option maxRecDepth 100000 in
theorem bX12_putIn_172 {sc : Nat × (Nat → Int32)} {h : jH} {Q : jQ} {l1 l2 l3 l4 : Int32}
    (v1 : WP mX12_putIn Q 185 [some (.ref 159), some (.int l1), some (.int l2), some (.int l3), some (.int l4)] [.int 0] (jG0 sc) h (0, 0)) :
    WP mX12_putIn Q 172 [some (.ref 159), some (.int l1), some (.int l2), some (.int l3), some (.int l4)] [] (jG0 sc) h (0, 0) := by
  refine j_iconst (n := 0) 0 (by decide) dX12_putIn_172 ?_
  refine j_goto (off := 12) 185 dX12_putIn_173 (by decide) ?_
  exact j_le [some (.ref 159), some (.int l1), some (.int l2), some (.int l3), some (.int l4)] (And.intro rfl (And.intro rfl (And.intro rfl (And.intro rfl (And.intro rfl True.intro))))) v1
set_option maxRecDepth 100000 in
theorem bX12_putIn_176 {sc : Nat × (Nat → Int32)} {h : jH} {Q : jQ} {l1 l2 l3 l4 : Int32}
    (v1 : ¬ l3 = 0 → WP mX12_putIn Q 184 [some (.ref 159), some (.int l1), some (.int l2), some (.int l3), some (.int l4)] [] (jG0 sc) h (0, 0))
    (v2 : l3 = 0 → WP mX12_putIn Q 180 [some (.ref 159), some (.int l1), some (.int l2), some (.int l3), some (.int l4)] [] (jG0 sc) h (0, 0)) :
    WP mX12_putIn Q 176 [some (.ref 159), some (.int l1), some (.int l2), some (.int l3), some (.int l4)] [] (jG0 sc) h (0, 0) := by
  refine j_iload_n (i := 3) rfl dX12_putIn_176 ?_
  refine j_if_ne (off := 7) 184 dX12_putIn_177 (by decide) (fun c1 => ?_) (fun c1 => ?_)
  · exact j_le [some (.ref 159), some (.int l1), some (.int l2), some (.int l3), some (.int l4)] (And.intro rfl (And.intro rfl (And.intro rfl (And.intro rfl (And.intro rfl True.intro))))) (v1 c1)
  · exact j_le [some (.ref 159), some (.int l1), some (.int l2), some (.int l3), some (.int l4)] (And.intro rfl (And.intro rfl (And.intro rfl (And.intro rfl (And.intro rfl True.intro))))) (v2 c1)
set_option maxRecDepth 100000 in
theorem bX12_putIn_180 {sc : Nat × (Nat → Int32)} {h : jH} {Q : jQ} {l1 l2 l3 l4 : Int32}
    (v1 : WP mX12_putIn Q 185 [some (.ref 159), some (.int l1), some (.int l2), some (.int l3), some (.int l4)] [.int 1] (jG0 sc) h (0, 0)) :
    WP mX12_putIn Q 180 [some (.ref 159), some (.int l1), some (.int l2), some (.int l3), some (.int l4)] [] (jG0 sc) h (0, 0) := by
  refine j_iconst (n := 1) 1 (by decide) dX12_putIn_180 ?_
  refine j_goto (off := 4) 185 dX12_putIn_181 (by decide) ?_
  exact j_le [some (.ref 159), some (.int l1), some (.int l2), some (.int l3), some (.int l4)] (And.intro rfl (And.intro rfl (And.intro rfl (And.intro rfl (And.intro rfl True.intro))))) v1
set_option maxRecDepth 100000 in
theorem bX12_putIn_184 {sc : Nat × (Nat → Int32)} {h : jH} {Q : jQ} {l1 l2 l3 l4 : Int32}
    (v1 : WP mX12_putIn Q 185 [some (.ref 159), some (.int l1), some (.int l2), some (.int l3), some (.int l4)] [.int 2] (jG0 sc) h (0, 0)) :
    WP mX12_putIn Q 184 [some (.ref 159), some (.int l1), some (.int l2), some (.int l3), some (.int l4)] [] (jG0 sc) h (0, 0) := by
  refine j_iconst (n := 2) 2 (by decide) dX12_putIn_184 ?_
  exact j_le [some (.ref 159), some (.int l1), some (.int l2), some (.int l3), some (.int l4)] (And.intro rfl (And.intro rfl (And.intro rfl (And.intro rfl (And.intro rfl True.intro))))) v1
set_option maxRecDepth 100000 in
theorem bX12_putIn_185 {sc : Nat × (Nat → Int32)} {h : jH} {Q : jQ} {l1 l2 l3 l4 s0 : Int32}
    (v1 : Q (.inl (some (.int s0))) (jG0 sc) h) :
    WP mX12_putIn Q 185 [some (.ref 159), some (.int l1), some (.int l2), some (.int l3), some (.int l4)] [.int s0] (jG0 sc) h (0, 0) := by
  exact j_iret rfl rfl (Nat.zero_le _) (Nat.zero_le _) dX12_putIn_185 v1
set_option maxRecDepth 100000 in
theorem rX12_putIn_0 {sc : Nat × (Nat → Int32)} {h : jH} {Q : jQ} {l1 : Int32} {P1 : jH → Prop} {P2 : Int32 → jH → Prop} {P3 : Int32 → jH → Prop} {P4 : jH → Prop}
    (k1 : JM mX12_listsBody [.ref 159] (jG0 sc) (jput h 159 0 0) (jvoid sc P1))
    (k2 : ∀ h1 : jH, P1 h1 → JM mX12_noMend [.ref 159, .int l1] (jG0 sc) h1 (jint sc P2))
    (k3 : ∀ h1 : jH, P1 h1 → ∀ (x2 : Int32) (h2 : jH), P2 x2 h2 → JM mX12_throwsIf [.ref 159, .int x2, .int 1] (jG0 sc) h2 (jint sc P3))
    (k4 : ∀ h1 : jH, P1 h1 → ∀ (x2 : Int32) (h2 : jH), P2 x2 h2 → ∀ (x3 : Int32) (h3 : jH), P3 x3 h3 → x3 = 0 → JM mX12_plain [.ref 159] (jG0 sc) h3 (jvoid sc P4))
    (v1 : ∀ h1 : jH, P1 h1 → ∀ (x2 : Int32) (h2 : jH), P2 x2 h2 → ∀ (x3 : Int32) (h3 : jH), P3 x3 h3 → x3 = 0 → ∀ h4 : jH, P4 h4 → WP mX12_putIn Q 30 [some (.ref 159), some (.int l1), some (.int 0), none, none] [] (jG0 sc) h4 (0, 0))
    (v2 : ∀ h1 : jH, P1 h1 → ∀ (x2 : Int32) (h2 : jH), P2 x2 h2 → ∀ (x3 : Int32) (h3 : jH), P3 x3 h3 → ¬ x3 = 0 → Q (.inl (some (.int 0))) (jG0 sc) h3) :
    WP mX12_putIn Q 0 [some (.ref 159), some (.int l1), none, none, none] [] (jG0 sc) h (0, 0) := by
  exact (bX12_putIn_0 k1 (fun h1 p1 => (k2 h1 p1)) (fun h1 p1 x2 h2 p2 => (k3 h1 p1 x2 h2 p2)) (fun h1 p1 x2 h2 p2 x3 h3 p3 c1 => (bX12_putIn_24 (k4 h1 p1 x2 h2 p2 x3 h3 p3 c1) (fun h4 p4 => (v1 h1 p1 x2 h2 p2 x3 h3 p3 c1 h4 p4)))) (fun h1 p1 x2 h2 p2 x3 h3 p3 c1 => (bX12_putIn_22 (v2 h1 p1 x2 h2 p2 x3 h3 p3 c1))))
set_option maxRecDepth 100000 in
theorem rX12_putIn_30 {sc : Nat × (Nat → Int32)} {h : jH} {Q : jQ} {l1 l2 : Int32} {P1 : jH → Prop} {P2 : Int32 → jH → Prop}
    (k1 : (h 160 122) ≤ l2 → JM mX12_laysBy [.ref 159, .int l1, .int (-1)] (jG0 sc) h (jvoid sc P1))
    (v1 : (h 160 122) ≤ l2 → ∀ h1 : jH, P1 h1 → WP mX12_putIn Q 66 [some (.ref 159), some (.int l1), some (.int 0), none, none] [] (jG0 sc) h1 (0, 0))
    (k2 : ¬ (h 160 122) ≤ l2 → JM mX12_endOn [.ref 159, .int l2] (jG0 sc) h (jint sc P2))
    (o1 : ¬ (h 160 122) ≤ l2 → ∀ (x2 : Int32) (h2 : jH), P2 x2 h2 → vp_in l2 12)
    (v2 : ¬ (h 160 122) ≤ l2 → ∀ (x2 : Int32) (h2 : jH), P2 x2 h2 → WP mX12_putIn Q 30 [some (.ref 159), some (.int l1), some (.int (l2 + 1)), none, none] [] (jG0 sc) (jput h2 178 l2.toNatClampNeg x2) (0, 0)) :
    WP mX12_putIn Q 30 [some (.ref 159), some (.int l1), some (.int l2), none, none] [] (jG0 sc) h (0, 0) := by
  exact (bX12_putIn_30 (fun c1 => (bX12_putIn_58 (k1 c1) (fun h1 p1 => (v1 c1 h1 p1)))) (fun c1 => (bX12_putIn_41 (k2 c1) (fun x2 h2 p2 => (o1 c1 x2 h2 p2)) (fun x2 h2 p2 => (v2 c1 x2 h2 p2)))))
set_option maxRecDepth 100000 in
theorem rX12_putIn_66 {sc : Nat × (Nat → Int32)} {h : jH} {Q : jQ} {l1 l2 : Int32} {P1 : Int32 → jH → Prop} {P2 : jH → Prop}
    (k1 : 61 ≤ l2 → JM mX12_endsAsDue [.ref 159] (jG0 sc) h (jint sc P1))
    (k2 : 61 ≤ l2 → ∀ (x1 : Int32) (h1 : jH), P1 x1 h1 → x1 = 0 → JM mX12_lists [.ref 159, .ref 177, .int 0] (jG0 sc) h1 (jvoid sc P2))
    (v1 : 61 ≤ l2 → ∀ (x1 : Int32) (h1 : jH), P1 x1 h1 → x1 = 0 → ∀ h2 : jH, P2 h2 → WP mX12_putIn Q 115 [some (.ref 159), some (.int l1), some (.int 0), some (.int 0), some (.int 0)] [] (jG0 sc) h2 (0, 0))
    (v2 : 61 ≤ l2 → ∀ (x1 : Int32) (h1 : jH), P1 x1 h1 → ¬ x1 = 0 → Q (.inl (some (.int 3))) (jG0 sc) h1)
    (o1 : ¬ 61 ≤ l2 → vp_in l2 61)
    (v3 : ¬ 61 ≤ l2 → WP mX12_putIn Q 66 [some (.ref 159), some (.int l1), some (.int (l2 + 1)), none, none] [] (jG0 sc) (jput h 177 l2.toNatClampNeg (h 167 l2.toNatClampNeg)) (0, 0)) :
    WP mX12_putIn Q 66 [some (.ref 159), some (.int l1), some (.int l2), none, none] [] (jG0 sc) h (0, 0) := by
  exact (bX12_putIn_66 (fun c1 => (bX12_putIn_90 (k1 c1) (fun x1 h1 p1 c2 => (bX12_putIn_99 (k2 c1 x1 h1 p1 c2) (fun h2 p2 => (v1 c1 x1 h1 p1 c2 h2 p2)))) (fun x1 h1 p1 c2 => (bX12_putIn_97 (v2 c1 x1 h1 p1 c2))))) (fun c1 => (bX12_putIn_72 (o1 c1) (o1 c1) (v3 c1))))
set_option maxRecDepth 100000 in
theorem rX12_putIn_115 {sc : Nat × (Nat → Int32)} {h : jH} {Q : jQ} {l1 l2 l3 l4 : Int32} {P1 : jH → Prop} {P2 : Int32 → jH → Prop} {P3 : Int32 → jH → Prop}
    (v1 : (h 159 26) ≤ l4 → ¬ l2 = 0 → ¬ l3 = 0 → Q (.inl (some (.int 2))) (jG0 sc) h)
    (v2 : (h 159 26) ≤ l4 → ¬ l2 = 0 → l3 = 0 → Q (.inl (some (.int 1))) (jG0 sc) h)
    (v3 : (h 159 26) ≤ l4 → l2 = 0 → Q (.inl (some (.int 0))) (jG0 sc) h)
    (k1 : ¬ (h 159 26) ≤ l4 → JM mX12_laysBy [.ref 159, .int l4, .int (-1)] (jG0 sc) h (jvoid sc P1))
    (k2 : ¬ (h 159 26) ≤ l4 → ∀ h1 : jH, P1 h1 → JM mX12_endsAsDue [.ref 159] (jG0 sc) h1 (jint sc P2))
    (k3 : ¬ (h 159 26) ≤ l4 → ∀ h1 : jH, P1 h1 → ∀ (x2 : Int32) (h2 : jH), P2 x2 h2 → ¬ x2 = 0 → JM mX12_isAsBody [.ref 159, .ref 160, .int 0] (jG0 sc) h2 (jint sc P3))
    (v4 : ¬ (h 159 26) ≤ l4 → ∀ h1 : jH, P1 h1 → ∀ (x2 : Int32) (h2 : jH), P2 x2 h2 → ¬ x2 = 0 → ∀ (x3 : Int32) (h3 : jH), P3 x3 h3 → x3 = 0 → WP mX12_putIn Q 115 [some (.ref 159), some (.int l1), some (.int l2), some (.int (l3 + 1)), some (.int (l4 + 1))] [] (jG0 sc) h3 (0, 0))
    (v5 : ¬ (h 159 26) ≤ l4 → ∀ h1 : jH, P1 h1 → ∀ (x2 : Int32) (h2 : jH), P2 x2 h2 → ¬ x2 = 0 → ∀ (x3 : Int32) (h3 : jH), P3 x3 h3 → ¬ x3 = 0 → WP mX12_putIn Q 115 [some (.ref 159), some (.int l1), some (.int (l2 + 1)), some (.int l3), some (.int (l4 + 1))] [] (jG0 sc) h3 (0, 0))
    (v6 : ¬ (h 159 26) ≤ l4 → ∀ h1 : jH, P1 h1 → ∀ (x2 : Int32) (h2 : jH), P2 x2 h2 → x2 = 0 → WP mX12_putIn Q 115 [some (.ref 159), some (.int l1), some (.int l2), some (.int l3), some (.int (l4 + 1))] [] (jG0 sc) h2 (0, 0)) :
    WP mX12_putIn Q 115 [some (.ref 159), some (.int l1), some (.int l2), some (.int l3), some (.int l4)] [] (jG0 sc) h (0, 0) := by
  exact (bX12_putIn_115 (fun c1 => (bX12_putIn_168 (fun c2 => (bX12_putIn_176 (fun c3 => (bX12_putIn_184 (bX12_putIn_185 (v1 c1 c2 c3)))) (fun c3 => (bX12_putIn_180 (bX12_putIn_185 (v2 c1 c2 c3)))))) (fun c2 => (bX12_putIn_172 (bX12_putIn_185 (v3 c1 c2)))))) (fun c1 => (bX12_putIn_124 (k1 c1) (fun h1 p1 => (k2 c1 h1 p1)) (fun h1 p1 x2 h2 p2 c4 => (bX12_putIn_141 (k3 c1 h1 p1 x2 h2 p2 c4) (fun x3 h3 p3 c5 => (bX12_putIn_159 (bX12_putIn_162 (v4 c1 h1 p1 x2 h2 p2 c4 x3 h3 p3 c5)))) (fun x3 h3 p3 c5 => (bX12_putIn_153 (bX12_putIn_162 (v5 c1 h1 p1 x2 h2 p2 c4 x3 h3 p3 c5)))))) (fun h1 p1 x2 h2 p2 c4 => (bX12_putIn_138 (bX12_putIn_162 (v6 c1 h1 p1 x2 h2 p2 c4)))))))
theorem dX12_make_0 : decode (mC mX12_make) 0 = .ok (.aload_n 0, 1) := by decide +kernel
theorem dX12_make_1 : decode (mC mX12_make) 1 = .ok (.iconst 0, 1) := by decide +kernel
theorem dX12_make_2 : decode (mC mX12_make) 2 = .ok (.putfield 3, 3) := by decide +kernel
theorem dX12_make_5 : decode (mC mX12_make) 5 = .ok (.aload_n 0, 1) := by decide +kernel
theorem dX12_make_6 : decode (mC mX12_make) 6 = .ok (.aload_n 0, 1) := by decide +kernel
theorem dX12_make_7 : decode (mC mX12_make) 7 = .ok (.iload_n 1, 1) := by decide +kernel
theorem dX12_make_8 : decode (mC mX12_make) 8 = .ok (.invokevirtual 353, 3) := by decide +kernel
theorem dX12_make_11 : decode (mC mX12_make) 11 = .ok (.iconst 1, 1) := by decide +kernel
theorem dX12_make_12 : decode (mC mX12_make) 12 = .ok (.invokevirtual 157, 3) := by decide +kernel
theorem dX12_make_15 : decode (mC mX12_make) 15 = .ok (.ifCond .eq 5, 3) := by decide +kernel
theorem dX12_make_18 : decode (mC mX12_make) 18 = .ok (.iconst 0, 1) := by decide +kernel
theorem dX12_make_19 : decode (mC mX12_make) 19 = .ok (.ireturn, 1) := by decide +kernel
theorem dX12_make_20 : decode (mC mX12_make) 20 = .ok (.aload_n 0, 1) := by decide +kernel
theorem dX12_make_21 : decode (mC mX12_make) 21 = .ok (.getfield 13, 3) := by decide +kernel
theorem dX12_make_24 : decode (mC mX12_make) 24 = .ok (.sipush 286, 3) := by decide +kernel
theorem dX12_make_27 : decode (mC mX12_make) 27 = .ok (.iaload, 1) := by decide +kernel
theorem dX12_make_28 : decode (mC mX12_make) 28 = .ok (.bipush 6, 2) := by decide +kernel
theorem dX12_make_30 : decode (mC mX12_make) 30 = .ok (.if_icmp .ne 54, 3) := by decide +kernel
theorem dX12_make_33 : decode (mC mX12_make) 33 = .ok (.bipush 61, 2) := by decide +kernel
theorem dX12_make_35 : decode (mC mX12_make) 35 = .ok (.istore_n 2, 1) := by decide +kernel
theorem dX12_make_36 : decode (mC mX12_make) 36 = .ok (.iload_n 2, 1) := by decide +kernel
theorem dX12_make_37 : decode (mC mX12_make) 37 = .ok (.sipush 366, 3) := by decide +kernel
theorem dX12_make_40 : decode (mC mX12_make) 40 = .ok (.if_icmp .ge 32, 3) := by decide +kernel
theorem dX12_make_43 : decode (mC mX12_make) 43 = .ok (.aload_n 0, 1) := by decide +kernel
theorem dX12_make_44 : decode (mC mX12_make) 44 = .ok (.getfield 13, 3) := by decide +kernel
theorem dX12_make_47 : decode (mC mX12_make) 47 = .ok (.sipush 287, 3) := by decide +kernel
theorem dX12_make_50 : decode (mC mX12_make) 50 = .ok (.iload_n 2, 1) := by decide +kernel
theorem dX12_make_51 : decode (mC mX12_make) 51 = .ok (.iadd, 1) := by decide +kernel
theorem dX12_make_52 : decode (mC mX12_make) 52 = .ok (.bipush 61, 2) := by decide +kernel
theorem dX12_make_54 : decode (mC mX12_make) 54 = .ok (.isub, 1) := by decide +kernel
theorem dX12_make_55 : decode (mC mX12_make) 55 = .ok (.aload_n 0, 1) := by decide +kernel
theorem dX12_make_56 : decode (mC mX12_make) 56 = .ok (.getfield 13, 3) := by decide +kernel
theorem dX12_make_59 : decode (mC mX12_make) 59 = .ok (.sipush 287, 3) := by decide +kernel
theorem dX12_make_62 : decode (mC mX12_make) 62 = .ok (.iload_n 2, 1) := by decide +kernel
theorem dX12_make_63 : decode (mC mX12_make) 63 = .ok (.iadd, 1) := by decide +kernel
theorem dX12_make_64 : decode (mC mX12_make) 64 = .ok (.iaload, 1) := by decide +kernel
theorem dX12_make_65 : decode (mC mX12_make) 65 = .ok (.iastore, 1) := by decide +kernel
theorem dX12_make_66 : decode (mC mX12_make) 66 = .ok (.iinc 2 1, 3) := by decide +kernel
theorem dX12_make_69 : decode (mC mX12_make) 69 = .ok (.goto (-33), 3) := by decide +kernel
theorem dX12_make_72 : decode (mC mX12_make) 72 = .ok (.aload_n 0, 1) := by decide +kernel
theorem dX12_make_73 : decode (mC mX12_make) 73 = .ok (.getfield 13, 3) := by decide +kernel
theorem dX12_make_76 : decode (mC mX12_make) 76 = .ok (.sipush 286, 3) := by decide +kernel
theorem dX12_make_79 : decode (mC mX12_make) 79 = .ok (.dup2, 1) := by decide +kernel
theorem dX12_make_80 : decode (mC mX12_make) 80 = .ok (.iaload, 1) := by decide +kernel
theorem dX12_make_81 : decode (mC mX12_make) 81 = .ok (.iconst 1, 1) := by decide +kernel
theorem dX12_make_82 : decode (mC mX12_make) 82 = .ok (.isub, 1) := by decide +kernel
theorem dX12_make_83 : decode (mC mX12_make) 83 = .ok (.iastore, 1) := by decide +kernel
theorem dX12_make_84 : decode (mC mX12_make) 84 = .ok (.iconst 0, 1) := by decide +kernel
theorem dX12_make_85 : decode (mC mX12_make) 85 = .ok (.istore_n 2, 1) := by decide +kernel
theorem dX12_make_86 : decode (mC mX12_make) 86 = .ok (.iload_n 2, 1) := by decide +kernel
theorem dX12_make_87 : decode (mC mX12_make) 87 = .ok (.bipush 61, 2) := by decide +kernel
theorem dX12_make_89 : decode (mC mX12_make) 89 = .ok (.if_icmp .ge 39, 3) := by decide +kernel
theorem dX12_make_92 : decode (mC mX12_make) 92 = .ok (.aload_n 0, 1) := by decide +kernel
theorem dX12_make_93 : decode (mC mX12_make) 93 = .ok (.getfield 13, 3) := by decide +kernel
theorem dX12_make_96 : decode (mC mX12_make) 96 = .ok (.sipush 287, 3) := by decide +kernel
theorem dX12_make_99 : decode (mC mX12_make) 99 = .ok (.bipush 61, 2) := by decide +kernel
theorem dX12_make_101 : decode (mC mX12_make) 101 = .ok (.aload_n 0, 1) := by decide +kernel
theorem dX12_make_102 : decode (mC mX12_make) 102 = .ok (.getfield 13, 3) := by decide +kernel
theorem dX12_make_105 : decode (mC mX12_make) 105 = .ok (.sipush 286, 3) := by decide +kernel
theorem dX12_make_108 : decode (mC mX12_make) 108 = .ok (.iaload, 1) := by decide +kernel
theorem dX12_make_109 : decode (mC mX12_make) 109 = .ok (.imul, 1) := by decide +kernel
theorem dX12_make_110 : decode (mC mX12_make) 110 = .ok (.iadd, 1) := by decide +kernel
theorem dX12_make_111 : decode (mC mX12_make) 111 = .ok (.iload_n 2, 1) := by decide +kernel
theorem dX12_make_112 : decode (mC mX12_make) 112 = .ok (.iadd, 1) := by decide +kernel
theorem dX12_make_113 : decode (mC mX12_make) 113 = .ok (.aload_n 0, 1) := by decide +kernel
theorem dX12_make_114 : decode (mC mX12_make) 114 = .ok (.getfield 13, 3) := by decide +kernel
theorem dX12_make_117 : decode (mC mX12_make) 117 = .ok (.iconst 0, 1) := by decide +kernel
theorem dX12_make_118 : decode (mC mX12_make) 118 = .ok (.iload_n 2, 1) := by decide +kernel
theorem dX12_make_119 : decode (mC mX12_make) 119 = .ok (.iadd, 1) := by decide +kernel
theorem dX12_make_120 : decode (mC mX12_make) 120 = .ok (.iaload, 1) := by decide +kernel
theorem dX12_make_121 : decode (mC mX12_make) 121 = .ok (.iastore, 1) := by decide +kernel
theorem dX12_make_122 : decode (mC mX12_make) 122 = .ok (.iinc 2 1, 3) := by decide +kernel
theorem dX12_make_125 : decode (mC mX12_make) 125 = .ok (.goto (-39), 3) := by decide +kernel
theorem dX12_make_128 : decode (mC mX12_make) 128 = .ok (.aload_n 0, 1) := by decide +kernel
theorem dX12_make_129 : decode (mC mX12_make) 129 = .ok (.getfield 13, 3) := by decide +kernel
theorem dX12_make_132 : decode (mC mX12_make) 132 = .ok (.sipush 286, 3) := by decide +kernel
theorem dX12_make_135 : decode (mC mX12_make) 135 = .ok (.dup2, 1) := by decide +kernel
theorem dX12_make_136 : decode (mC mX12_make) 136 = .ok (.iaload, 1) := by decide +kernel
theorem dX12_make_137 : decode (mC mX12_make) 137 = .ok (.iconst 1, 1) := by decide +kernel
theorem dX12_make_138 : decode (mC mX12_make) 138 = .ok (.iadd, 1) := by decide +kernel
theorem dX12_make_139 : decode (mC mX12_make) 139 = .ok (.iastore, 1) := by decide +kernel
theorem dX12_make_140 : decode (mC mX12_make) 140 = .ok (.aload_n 0, 1) := by decide +kernel
theorem dX12_make_141 : decode (mC mX12_make) 141 = .ok (.invokevirtual 319, 3) := by decide +kernel
theorem dX12_make_144 : decode (mC mX12_make) 144 = .ok (.aload_n 0, 1) := by decide +kernel
theorem dX12_make_145 : decode (mC mX12_make) 145 = .ok (.iload_n 1, 1) := by decide +kernel
theorem dX12_make_146 : decode (mC mX12_make) 146 = .ok (.invokevirtual 347, 3) := by decide +kernel
theorem dX12_make_149 : decode (mC mX12_make) 149 = .ok (.iconst 0, 1) := by decide +kernel
theorem dX12_make_150 : decode (mC mX12_make) 150 = .ok (.istore_n 2, 1) := by decide +kernel
theorem dX12_make_151 : decode (mC mX12_make) 151 = .ok (.iload_n 2, 1) := by decide +kernel
theorem dX12_make_152 : decode (mC mX12_make) 152 = .ok (.bipush 61, 2) := by decide +kernel
theorem dX12_make_154 : decode (mC mX12_make) 154 = .ok (.if_icmp .ge 23, 3) := by decide +kernel
theorem dX12_make_157 : decode (mC mX12_make) 157 = .ok (.aload_n 0, 1) := by decide +kernel
theorem dX12_make_158 : decode (mC mX12_make) 158 = .ok (.getfield 13, 3) := by decide +kernel
theorem dX12_make_161 : decode (mC mX12_make) 161 = .ok (.iconst 0, 1) := by decide +kernel
theorem dX12_make_162 : decode (mC mX12_make) 162 = .ok (.iload_n 2, 1) := by decide +kernel
theorem dX12_make_163 : decode (mC mX12_make) 163 = .ok (.iadd, 1) := by decide +kernel
theorem dX12_make_164 : decode (mC mX12_make) 164 = .ok (.aload_n 0, 1) := by decide +kernel
theorem dX12_make_165 : decode (mC mX12_make) 165 = .ok (.getfield 39, 3) := by decide +kernel
theorem dX12_make_168 : decode (mC mX12_make) 168 = .ok (.iload_n 2, 1) := by decide +kernel
theorem dX12_make_169 : decode (mC mX12_make) 169 = .ok (.iaload, 1) := by decide +kernel
theorem dX12_make_170 : decode (mC mX12_make) 170 = .ok (.iastore, 1) := by decide +kernel
theorem dX12_make_171 : decode (mC mX12_make) 171 = .ok (.iinc 2 1, 3) := by decide +kernel
theorem dX12_make_174 : decode (mC mX12_make) 174 = .ok (.goto (-23), 3) := by decide +kernel
theorem dX12_make_177 : decode (mC mX12_make) 177 = .ok (.aload_n 0, 1) := by decide +kernel
theorem dX12_make_178 : decode (mC mX12_make) 178 = .ok (.invokevirtual 161, 3) := by decide +kernel
theorem dX12_make_181 : decode (mC mX12_make) 181 = .ok (.aload_n 0, 1) := by decide +kernel
theorem dX12_make_182 : decode (mC mX12_make) 182 = .ok (.getfield 13, 3) := by decide +kernel
theorem dX12_make_185 : decode (mC mX12_make) 185 = .ok (.sipush 286, 3) := by decide +kernel
theorem dX12_make_188 : decode (mC mX12_make) 188 = .ok (.iaload, 1) := by decide +kernel
theorem dX12_make_189 : decode (mC mX12_make) 189 = .ok (.ireturn, 1) := by decide +kernel
set_option maxRecDepth 100000 in
theorem bX12_make_0 {sc : Nat × (Nat → Int32)} {h : jH} {Q : jQ} {l1 : Int32} {P1 : Int32 → jH → Prop} {P2 : Int32 → jH → Prop}
    (k1 : JM mX12_noAlive [.ref 159, .int l1] (jG0 sc) (jput h 159 0 0) (jint sc P1))
    (k2 : ∀ (x1 : Int32) (h1 : jH), P1 x1 h1 → JM mX12_throwsIf [.ref 159, .int x1, .int 1] (jG0 sc) h1 (jint sc P2))
    (v1 : ∀ (x1 : Int32) (h1 : jH), P1 x1 h1 → ∀ (x2 : Int32) (h2 : jH), P2 x2 h2 → x2 = 0 → WP mX12_make Q 20 [some (.ref 159), some (.int l1), none] [] (jG0 sc) h2 (0, 0))
    (v2 : ∀ (x1 : Int32) (h1 : jH), P1 x1 h1 → ∀ (x2 : Int32) (h2 : jH), P2 x2 h2 → ¬ x2 = 0 → WP mX12_make Q 18 [some (.ref 159), some (.int l1), none] [] (jG0 sc) h2 (0, 0)) :
    WP mX12_make Q 0 [some (.ref 159), some (.int l1), none] [] (jG0 sc) h (0, 0) := by
  refine j_aload_n (i := 0) rfl dX12_make_0 ?_
  refine j_iconst (n := 0) 0 (by decide) dX12_make_1 ?_
  refine j_putI (idx := 3) (ci := 12) (k := 0) (nest := false) (show (12, 3, 12, 0, false) ∈ jFT by decide) rfl rfl rfl rfl (Nat.le_of_ble_eq_true rfl) rfl dX12_make_2 ?_
  refine j_aload_n (i := 0) rfl dX12_make_5 ?_
  refine j_aload_n (i := 0) rfl dX12_make_6 ?_
  refine j_iload_n (i := 1) rfl dX12_make_7 ?_
  refine j_callV (idx := 353) (As := [.int l1]) (ci := 12) (n := 1) k1 jint_nt (jlkT (jtb8 7 rfl) rfl) sX12_noAlive kX12_noAlive rfl ⟨rfl, by decide +kernel, by decide +kernel, by decide +kernel⟩ rfl ⟨by decide, by decide⟩ (Nat.le_of_ble_eq_true rfl) rfl (Nat.le_of_ble_eq_true rfl) (Nat.le_of_ble_eq_true rfl) ⟨Nat.zero_le _, Nat.zero_le _⟩ dX12_make_8 (fun r Γ' h1 q => ?_)
  obtain ⟨x1, q0, rfl, p1⟩ := q; cases q0
  refine j_eqst [.int x1, .ref 159] (by rfl) ?_
  refine j_iconst (n := 1) 1 (by decide) dX12_make_11 ?_
  refine j_callV (idx := 157) (As := [.int x1, .int 1]) (ci := 12) (n := 2) (k2 x1 h1 p1) jint_nt (jlkT (jtb7 17 rfl) rfl) sX12_throwsIf kX12_throwsIf rfl ⟨rfl, by decide +kernel, by decide +kernel, by decide +kernel⟩ rfl ⟨by decide, by decide⟩ (Nat.le_of_ble_eq_true rfl) rfl (Nat.le_of_ble_eq_true rfl) (Nat.le_of_ble_eq_true rfl) ⟨Nat.zero_le _, Nat.zero_le _⟩ dX12_make_12 (fun r Γ' h2 q => ?_)
  obtain ⟨x2, q0, rfl, p2⟩ := q; cases q0
  refine j_eqst [.int x2] (by rfl) ?_
  refine j_if_eq (off := 5) 20 dX12_make_15 (by decide) (fun c1 => ?_) (fun c1 => ?_)
  · exact j_le [some (.ref 159), some (.int l1), none] (And.intro rfl (And.intro rfl True.intro)) (v1 x1 h1 p1 x2 h2 p2 c1)
  · exact j_le [some (.ref 159), some (.int l1), none] (And.intro rfl (And.intro rfl True.intro)) (v2 x1 h1 p1 x2 h2 p2 c1)
set_option maxRecDepth 100000 in
theorem bX12_make_18 {sc : Nat × (Nat → Int32)} {h : jH} {Q : jQ} {l1 : Int32}
    (v1 : Q (.inl (some (.int 0))) (jG0 sc) h) :
    WP mX12_make Q 18 [some (.ref 159), some (.int l1), none] [] (jG0 sc) h (0, 0) := by
  refine j_iconst (n := 0) 0 (by decide) dX12_make_18 ?_
  exact j_iret rfl rfl (Nat.zero_le _) (Nat.zero_le _) dX12_make_19 v1
set_option maxRecDepth 100000 in
theorem bX12_make_20 {sc : Nat × (Nat → Int32)} {h : jH} {Q : jQ} {l1 : Int32}
    (v1 : ¬ (h 160 286) = 6 → WP mX12_make Q 84 [some (.ref 159), some (.int l1), none] [] (jG0 sc) h (0, 0))
    (v2 : (h 160 286) = 6 → WP mX12_make Q 33 [some (.ref 159), some (.int l1), none] [] (jG0 sc) h (0, 0)) :
    WP mX12_make Q 20 [some (.ref 159), some (.int l1), none] [] (jG0 sc) h (0, 0) := by
  refine j_aload_n (i := 0) rfl dX12_make_20 ?_
  refine j_getR (idx := 13) (ci := 12) (k := 1) (nest := false) (show (12, 13, 12, 1, false) ∈ jFT by decide) rfl (Nat.le_of_ble_eq_true rfl) rfl (a := 160) rfl dX12_make_21 ?_
  refine j_sipush (n := 286) 286 (by decide) dX12_make_24 ?_
  refine j_iald (Nat.le_of_ble_eq_true rfl) rfl (jinl (n := 1454) (by decide)) dX12_make_27 ?_
  refine j_eqst [.int (h 160 286)] (by rfl) ?_
  refine j_bipush (n := 6) 6 (by decide) dX12_make_28 ?_
  refine j_icmp_ne (off := 54) 84 dX12_make_30 (by decide) (fun c1 => ?_) (fun c1 => ?_)
  · exact j_le [some (.ref 159), some (.int l1), none] (And.intro rfl (And.intro rfl True.intro)) (v1 c1)
  · exact j_le [some (.ref 159), some (.int l1), none] (And.intro rfl (And.intro rfl True.intro)) (v2 c1)
set_option maxRecDepth 100000 in
theorem bX12_make_33 {sc : Nat × (Nat → Int32)} {h : jH} {Q : jQ} {l1 : Int32}
    (v1 : WP mX12_make Q 36 [some (.ref 159), some (.int l1), some (.int 61)] [] (jG0 sc) h (0, 0)) :
    WP mX12_make Q 33 [some (.ref 159), some (.int l1), none] [] (jG0 sc) h (0, 0) := by
  refine j_bipush (n := 61) 61 (by decide) dX12_make_33 ?_
  refine j_istore_n (i := 2) dX12_make_35 (Nat.le_of_ble_eq_true rfl) ?_
  exact j_le [some (.ref 159), some (.int l1), some (.int 61)] (And.intro rfl (And.intro rfl (And.intro rfl True.intro))) v1
set_option maxRecDepth 100000 in
theorem bX12_make_36 {sc : Nat × (Nat → Int32)} {h : jH} {Q : jQ} {l1 l2 : Int32}
    (v1 : 366 ≤ l2 → WP mX12_make Q 72 [some (.ref 159), some (.int l1), some (.int l2)] [] (jG0 sc) h (0, 0))
    (v2 : ¬ 366 ≤ l2 → WP mX12_make Q 43 [some (.ref 159), some (.int l1), some (.int l2)] [] (jG0 sc) h (0, 0)) :
    WP mX12_make Q 36 [some (.ref 159), some (.int l1), some (.int l2)] [] (jG0 sc) h (0, 0) := by
  refine j_iload_n (i := 2) rfl dX12_make_36 ?_
  refine j_sipush (n := 366) 366 (by decide) dX12_make_37 ?_
  refine j_icmp_ge (off := 32) 72 dX12_make_40 (by decide) (fun c1 => ?_) (fun c1 => ?_)
  · exact j_le [some (.ref 159), some (.int l1), some (.int l2)] (And.intro rfl (And.intro rfl (And.intro rfl True.intro))) (v1 c1)
  · exact j_le [some (.ref 159), some (.int l1), some (.int l2)] (And.intro rfl (And.intro rfl (And.intro rfl True.intro))) (v2 c1)
set_option maxRecDepth 100000 in
theorem bX12_make_43 {sc : Nat × (Nat → Int32)} {h : jH} {Q : jQ} {l1 l2 : Int32}
    (o1 : vp_in (287 + l2) 1454)
    (o2 : vp_in ((287 + l2) - 61) 1454)
    (v1 : WP mX12_make Q 36 [some (.ref 159), some (.int l1), some (.int (l2 + 1))] [] (jG0 sc) (jput h 160 (((287 + l2) - 61).toNatClampNeg) (h 160 ((287 + l2).toNatClampNeg))) (0, 0)) :
    WP mX12_make Q 43 [some (.ref 159), some (.int l1), some (.int l2)] [] (jG0 sc) h (0, 0) := by
  refine j_aload_n (i := 0) rfl dX12_make_43 ?_
  refine j_getR (idx := 13) (ci := 12) (k := 1) (nest := false) (show (12, 13, 12, 1, false) ∈ jFT by decide) rfl (Nat.le_of_ble_eq_true rfl) rfl (a := 160) rfl dX12_make_44 ?_
  refine j_sipush (n := 287) 287 (by decide) dX12_make_47 ?_
  refine j_iload_n (i := 2) rfl dX12_make_50 ?_
  refine j_iadd dX12_make_51 ?_
  refine j_bipush (n := 61) 61 (by decide) dX12_make_52 ?_
  refine j_isub dX12_make_54 ?_
  refine j_aload_n (i := 0) rfl dX12_make_55 ?_
  refine j_getR (idx := 13) (ci := 12) (k := 1) (nest := false) (show (12, 13, 12, 1, false) ∈ jFT by decide) rfl (Nat.le_of_ble_eq_true rfl) rfl (a := 160) rfl dX12_make_56 ?_
  refine j_sipush (n := 287) 287 (by decide) dX12_make_59 ?_
  refine j_iload_n (i := 2) rfl dX12_make_62 ?_
  refine j_iadd dX12_make_63 ?_
  refine j_iald (Nat.le_of_ble_eq_true rfl) rfl o1 dX12_make_64 ?_
  refine j_iast (Nat.le_of_ble_eq_true rfl) rfl o2 dX12_make_65 ?_
  refine j_iinc (i := 2) (n := 1) rfl dX12_make_66 (Nat.le_of_ble_eq_true rfl) ?_
  refine j_eqlv [some (.ref 159), some (.int l1), some (.int (l2 + 1))] rfl ?_
  refine j_goto (off := -33) 36 dX12_make_69 (by decide) ?_
  exact j_le [some (.ref 159), some (.int l1), some (.int (l2 + 1))] (And.intro rfl (And.intro rfl (And.intro rfl True.intro))) v1
set_option maxRecDepth 100000 in
theorem bX12_make_72 {sc : Nat × (Nat → Int32)} {h : jH} {Q : jQ} {l1 l2 : Int32}
    (v1 : WP mX12_make Q 84 [some (.ref 159), some (.int l1), none] [] (jG0 sc) (jput h 160 286 ((h 160 286) - 1)) (0, 0)) :
    WP mX12_make Q 72 [some (.ref 159), some (.int l1), some (.int l2)] [] (jG0 sc) h (0, 0) := by
  refine j_aload_n (i := 0) rfl dX12_make_72 ?_
  refine j_getR (idx := 13) (ci := 12) (k := 1) (nest := false) (show (12, 13, 12, 1, false) ∈ jFT by decide) rfl (Nat.le_of_ble_eq_true rfl) rfl (a := 160) rfl dX12_make_73 ?_
  refine j_sipush (n := 286) 286 (by decide) dX12_make_76 ?_
  refine j_dup2 rfl rfl dX12_make_79 ?_
  refine j_iald (Nat.le_of_ble_eq_true rfl) rfl (jinl (n := 1454) (by decide)) dX12_make_80 ?_
  refine j_eqst [.int (h 160 286), .int 286, .ref 160] (by rfl) ?_
  refine j_iconst (n := 1) 1 (by decide) dX12_make_81 ?_
  refine j_isub dX12_make_82 ?_
  refine j_iast (Nat.le_of_ble_eq_true rfl) rfl (jinl (n := 1454) (by decide)) dX12_make_83 ?_
  exact j_le [some (.ref 159), some (.int l1), none] (And.intro rfl (And.intro rfl True.intro)) v1
set_option maxRecDepth 100000 in
theorem bX12_make_84 {sc : Nat × (Nat → Int32)} {h : jH} {Q : jQ} {l1 : Int32}
    (v1 : WP mX12_make Q 86 [some (.ref 159), some (.int l1), some (.int 0)] [] (jG0 sc) h (0, 0)) :
    WP mX12_make Q 84 [some (.ref 159), some (.int l1), none] [] (jG0 sc) h (0, 0) := by
  refine j_iconst (n := 0) 0 (by decide) dX12_make_84 ?_
  refine j_istore_n (i := 2) dX12_make_85 (Nat.le_of_ble_eq_true rfl) ?_
  exact j_le [some (.ref 159), some (.int l1), some (.int 0)] (And.intro rfl (And.intro rfl (And.intro rfl True.intro))) v1
set_option maxRecDepth 100000 in
theorem bX12_make_86 {sc : Nat × (Nat → Int32)} {h : jH} {Q : jQ} {l1 l2 : Int32}
    (v1 : 61 ≤ l2 → WP mX12_make Q 128 [some (.ref 159), some (.int l1), some (.int l2)] [] (jG0 sc) h (0, 0))
    (v2 : ¬ 61 ≤ l2 → WP mX12_make Q 92 [some (.ref 159), some (.int l1), some (.int l2)] [] (jG0 sc) h (0, 0)) :
    WP mX12_make Q 86 [some (.ref 159), some (.int l1), some (.int l2)] [] (jG0 sc) h (0, 0) := by
  refine j_iload_n (i := 2) rfl dX12_make_86 ?_
  refine j_bipush (n := 61) 61 (by decide) dX12_make_87 ?_
  refine j_icmp_ge (off := 39) 128 dX12_make_89 (by decide) (fun c1 => ?_) (fun c1 => ?_)
  · exact j_le [some (.ref 159), some (.int l1), some (.int l2)] (And.intro rfl (And.intro rfl (And.intro rfl True.intro))) (v1 c1)
  · exact j_le [some (.ref 159), some (.int l1), some (.int l2)] (And.intro rfl (And.intro rfl (And.intro rfl True.intro))) (v2 c1)
set_option maxRecDepth 100000 in
theorem bX12_make_92 {sc : Nat × (Nat → Int32)} {h : jH} {Q : jQ} {l1 l2 : Int32}
    (o1 : vp_in (0 + l2) 1454)
    (o2 : vp_in ((287 + (61 * (h 160 286))) + l2) 1454)
    (v1 : WP mX12_make Q 86 [some (.ref 159), some (.int l1), some (.int (l2 + 1))] [] (jG0 sc) (jput h 160 (((287 + (61 * (h 160 286))) + l2).toNatClampNeg) (h 160 ((0 + l2).toNatClampNeg))) (0, 0)) :
    WP mX12_make Q 92 [some (.ref 159), some (.int l1), some (.int l2)] [] (jG0 sc) h (0, 0) := by
  refine j_aload_n (i := 0) rfl dX12_make_92 ?_
  refine j_getR (idx := 13) (ci := 12) (k := 1) (nest := false) (show (12, 13, 12, 1, false) ∈ jFT by decide) rfl (Nat.le_of_ble_eq_true rfl) rfl (a := 160) rfl dX12_make_93 ?_
  refine j_sipush (n := 287) 287 (by decide) dX12_make_96 ?_
  refine j_bipush (n := 61) 61 (by decide) dX12_make_99 ?_
  refine j_aload_n (i := 0) rfl dX12_make_101 ?_
  refine j_getR (idx := 13) (ci := 12) (k := 1) (nest := false) (show (12, 13, 12, 1, false) ∈ jFT by decide) rfl (Nat.le_of_ble_eq_true rfl) rfl (a := 160) rfl dX12_make_102 ?_
  refine j_sipush (n := 286) 286 (by decide) dX12_make_105 ?_
  refine j_iald (Nat.le_of_ble_eq_true rfl) rfl (jinl (n := 1454) (by decide)) dX12_make_108 ?_
  refine j_eqst [.int (h 160 286), .int 61, .int 287, .ref 160] (by rfl) ?_
  refine j_imul dX12_make_109 ?_
  refine j_iadd dX12_make_110 ?_
  refine j_iload_n (i := 2) rfl dX12_make_111 ?_
  refine j_iadd dX12_make_112 ?_
  refine j_aload_n (i := 0) rfl dX12_make_113 ?_
  refine j_getR (idx := 13) (ci := 12) (k := 1) (nest := false) (show (12, 13, 12, 1, false) ∈ jFT by decide) rfl (Nat.le_of_ble_eq_true rfl) rfl (a := 160) rfl dX12_make_114 ?_
  refine j_iconst (n := 0) 0 (by decide) dX12_make_117 ?_
  refine j_iload_n (i := 2) rfl dX12_make_118 ?_
  refine j_iadd dX12_make_119 ?_
  refine j_iald (Nat.le_of_ble_eq_true rfl) rfl o1 dX12_make_120 ?_
  refine j_iast (Nat.le_of_ble_eq_true rfl) rfl o2 dX12_make_121 ?_
  refine j_iinc (i := 2) (n := 1) rfl dX12_make_122 (Nat.le_of_ble_eq_true rfl) ?_
  refine j_eqlv [some (.ref 159), some (.int l1), some (.int (l2 + 1))] rfl ?_
  refine j_goto (off := -39) 86 dX12_make_125 (by decide) ?_
  exact j_le [some (.ref 159), some (.int l1), some (.int (l2 + 1))] (And.intro rfl (And.intro rfl (And.intro rfl True.intro))) v1
set_option maxRecDepth 100000 in
theorem bX12_make_128 {sc : Nat × (Nat → Int32)} {h : jH} {Q : jQ} {l1 l2 : Int32} {P1 : jH → Prop} {P2 : jH → Prop}
    (k1 : JM mX12_listsBody [.ref 159] (jG0 sc) (jput h 160 286 ((h 160 286) + 1)) (jvoid sc P1))
    (k2 : ∀ h1 : jH, P1 h1 → JM mX12_laysAlive [.ref 159, .int l1] (jG0 sc) h1 (jvoid sc P2))
    (v1 : ∀ h1 : jH, P1 h1 → ∀ h2 : jH, P2 h2 → WP mX12_make Q 151 [some (.ref 159), some (.int l1), some (.int 0)] [] (jG0 sc) h2 (0, 0)) :
    WP mX12_make Q 128 [some (.ref 159), some (.int l1), some (.int l2)] [] (jG0 sc) h (0, 0) := by
  refine j_aload_n (i := 0) rfl dX12_make_128 ?_
  refine j_getR (idx := 13) (ci := 12) (k := 1) (nest := false) (show (12, 13, 12, 1, false) ∈ jFT by decide) rfl (Nat.le_of_ble_eq_true rfl) rfl (a := 160) rfl dX12_make_129 ?_
  refine j_sipush (n := 286) 286 (by decide) dX12_make_132 ?_
  refine j_dup2 rfl rfl dX12_make_135 ?_
  refine j_iald (Nat.le_of_ble_eq_true rfl) rfl (jinl (n := 1454) (by decide)) dX12_make_136 ?_
  refine j_eqst [.int (h 160 286), .int 286, .ref 160] (by rfl) ?_
  refine j_iconst (n := 1) 1 (by decide) dX12_make_137 ?_
  refine j_iadd dX12_make_138 ?_
  refine j_iast (Nat.le_of_ble_eq_true rfl) rfl (jinl (n := 1454) (by decide)) dX12_make_139 ?_
  refine j_aload_n (i := 0) rfl dX12_make_140 ?_
  refine j_callV (idx := 319) (As := []) (ci := 12) (n := 0) k1 jvoid_nt (jlkT (jtb7 160 rfl) rfl) sX12_listsBody kX12_listsBody rfl ⟨rfl, by decide +kernel, by decide +kernel, by decide +kernel⟩ rfl ⟨by decide, by decide⟩ (Nat.le_of_ble_eq_true rfl) rfl (Nat.le_of_ble_eq_true rfl) (Nat.le_of_ble_eq_true rfl) ⟨Nat.zero_le _, Nat.zero_le _⟩ dX12_make_141 (fun r Γ' h1 q => ?_)
  obtain ⟨q0, rfl, p1⟩ := q; cases q0
  refine j_eqst [] (by rfl) ?_
  refine j_aload_n (i := 0) rfl dX12_make_144 ?_
  refine j_iload_n (i := 1) rfl dX12_make_145 ?_
  refine j_callV (idx := 347) (As := [.int l1]) (ci := 12) (n := 1) (k2 h1 p1) jvoid_nt (jlkT (jtb7 235 rfl) rfl) sX12_laysAlive kX12_laysAlive rfl ⟨rfl, by decide +kernel, by decide +kernel, by decide +kernel⟩ rfl ⟨by decide, by decide⟩ (Nat.le_of_ble_eq_true rfl) rfl (Nat.le_of_ble_eq_true rfl) (Nat.le_of_ble_eq_true rfl) ⟨Nat.zero_le _, Nat.zero_le _⟩ dX12_make_146 (fun r Γ' h2 q => ?_)
  obtain ⟨q0, rfl, p2⟩ := q; cases q0
  refine j_eqst [] (by rfl) ?_
  refine j_iconst (n := 0) 0 (by decide) dX12_make_149 ?_
  refine j_istore_n (i := 2) dX12_make_150 (Nat.le_of_ble_eq_true rfl) ?_
  exact j_le [some (.ref 159), some (.int l1), some (.int 0)] (And.intro rfl (And.intro rfl (And.intro rfl True.intro))) (v1 h1 p1 h2 p2)
set_option maxRecDepth 100000 in
theorem bX12_make_151 {sc : Nat × (Nat → Int32)} {h : jH} {Q : jQ} {l1 l2 : Int32}
    (v1 : 61 ≤ l2 → WP mX12_make Q 177 [some (.ref 159), some (.int l1), some (.int l2)] [] (jG0 sc) h (0, 0))
    (v2 : ¬ 61 ≤ l2 → WP mX12_make Q 157 [some (.ref 159), some (.int l1), some (.int l2)] [] (jG0 sc) h (0, 0)) :
    WP mX12_make Q 151 [some (.ref 159), some (.int l1), some (.int l2)] [] (jG0 sc) h (0, 0) := by
  refine j_iload_n (i := 2) rfl dX12_make_151 ?_
  refine j_bipush (n := 61) 61 (by decide) dX12_make_152 ?_
  refine j_icmp_ge (off := 23) 177 dX12_make_154 (by decide) (fun c1 => ?_) (fun c1 => ?_)
  · exact j_le [some (.ref 159), some (.int l1), some (.int l2)] (And.intro rfl (And.intro rfl (And.intro rfl True.intro))) (v1 c1)
  · exact j_le [some (.ref 159), some (.int l1), some (.int l2)] (And.intro rfl (And.intro rfl (And.intro rfl True.intro))) (v2 c1)
set_option maxRecDepth 100000 in
theorem bX12_make_157 {sc : Nat × (Nat → Int32)} {h : jH} {Q : jQ} {l1 l2 : Int32}
    (o1 : vp_in l2 61)
    (o2 : vp_in (0 + l2) 1454)
    (v1 : WP mX12_make Q 151 [some (.ref 159), some (.int l1), some (.int (l2 + 1))] [] (jG0 sc) (jput h 160 ((0 + l2).toNatClampNeg) (h 167 l2.toNatClampNeg)) (0, 0)) :
    WP mX12_make Q 157 [some (.ref 159), some (.int l1), some (.int l2)] [] (jG0 sc) h (0, 0) := by
  refine j_aload_n (i := 0) rfl dX12_make_157 ?_
  refine j_getR (idx := 13) (ci := 12) (k := 1) (nest := false) (show (12, 13, 12, 1, false) ∈ jFT by decide) rfl (Nat.le_of_ble_eq_true rfl) rfl (a := 160) rfl dX12_make_158 ?_
  refine j_iconst (n := 0) 0 (by decide) dX12_make_161 ?_
  refine j_iload_n (i := 2) rfl dX12_make_162 ?_
  refine j_iadd dX12_make_163 ?_
  refine j_aload_n (i := 0) rfl dX12_make_164 ?_
  refine j_getR (idx := 39) (ci := 12) (k := 16) (nest := false) (show (12, 39, 12, 16, false) ∈ jFT by decide) rfl (Nat.le_of_ble_eq_true rfl) rfl (a := 167) rfl dX12_make_165 ?_
  refine j_iload_n (i := 2) rfl dX12_make_168 ?_
  refine j_iald (Nat.le_of_ble_eq_true rfl) rfl o1 dX12_make_169 ?_
  refine j_iast (Nat.le_of_ble_eq_true rfl) rfl o2 dX12_make_170 ?_
  refine j_iinc (i := 2) (n := 1) rfl dX12_make_171 (Nat.le_of_ble_eq_true rfl) ?_
  refine j_eqlv [some (.ref 159), some (.int l1), some (.int (l2 + 1))] rfl ?_
  refine j_goto (off := -23) 151 dX12_make_174 (by decide) ?_
  exact j_le [some (.ref 159), some (.int l1), some (.int (l2 + 1))] (And.intro rfl (And.intro rfl (And.intro rfl True.intro))) v1
set_option maxRecDepth 100000 in
theorem bX12_make_177 {sc : Nat × (Nat → Int32)} {h : jH} {Q : jQ} {l1 l2 : Int32} {P1 : jH → Prop}
    (k1 : JM mX12_forgets [.ref 159] (jG0 sc) h (jvoid sc P1))
    (v1 : ∀ h1 : jH, P1 h1 → Q (.inl (some (.int (h1 160 286)))) (jG0 sc) h1) :
    WP mX12_make Q 177 [some (.ref 159), some (.int l1), some (.int l2)] [] (jG0 sc) h (0, 0) := by
  refine j_aload_n (i := 0) rfl dX12_make_177 ?_
  refine j_callV (idx := 161) (As := []) (ci := 12) (n := 0) k1 jvoid_nt (jlkT (jtb7 21 rfl) rfl) sX12_forgets kX12_forgets rfl ⟨rfl, by decide +kernel, by decide +kernel, by decide +kernel⟩ rfl ⟨by decide, by decide⟩ (Nat.le_of_ble_eq_true rfl) rfl (Nat.le_of_ble_eq_true rfl) (Nat.le_of_ble_eq_true rfl) ⟨Nat.zero_le _, Nat.zero_le _⟩ dX12_make_178 (fun r Γ' h1 q => ?_)
  obtain ⟨q0, rfl, p1⟩ := q; cases q0
  refine j_eqst [] (by rfl) ?_
  refine j_aload_n (i := 0) rfl dX12_make_181 ?_
  refine j_getR (idx := 13) (ci := 12) (k := 1) (nest := false) (show (12, 13, 12, 1, false) ∈ jFT by decide) rfl (Nat.le_of_ble_eq_true rfl) rfl (a := 160) rfl dX12_make_182 ?_
  refine j_sipush (n := 286) 286 (by decide) dX12_make_185 ?_
  refine j_iald (Nat.le_of_ble_eq_true rfl) rfl (jinl (n := 1454) (by decide)) dX12_make_188 ?_
  refine j_eqst [.int (h1 160 286)] (by rfl) ?_
  exact j_iret rfl rfl (Nat.zero_le _) (Nat.zero_le _) dX12_make_189 (v1 h1 p1)
set_option maxRecDepth 100000 in
theorem rX12_make_0 {sc : Nat × (Nat → Int32)} {h : jH} {Q : jQ} {l1 : Int32} {P1 : Int32 → jH → Prop} {P2 : Int32 → jH → Prop}
    (k1 : JM mX12_noAlive [.ref 159, .int l1] (jG0 sc) (jput h 159 0 0) (jint sc P1))
    (k2 : ∀ (x1 : Int32) (h1 : jH), P1 x1 h1 → JM mX12_throwsIf [.ref 159, .int x1, .int 1] (jG0 sc) h1 (jint sc P2))
    (v1 : ∀ (x1 : Int32) (h1 : jH), P1 x1 h1 → ∀ (x2 : Int32) (h2 : jH), P2 x2 h2 → x2 = 0 → ¬ (h2 160 286) = 6 → WP mX12_make Q 86 [some (.ref 159), some (.int l1), some (.int 0)] [] (jG0 sc) h2 (0, 0))
    (v2 : ∀ (x1 : Int32) (h1 : jH), P1 x1 h1 → ∀ (x2 : Int32) (h2 : jH), P2 x2 h2 → x2 = 0 → (h2 160 286) = 6 → WP mX12_make Q 36 [some (.ref 159), some (.int l1), some (.int 61)] [] (jG0 sc) h2 (0, 0))
    (v3 : ∀ (x1 : Int32) (h1 : jH), P1 x1 h1 → ∀ (x2 : Int32) (h2 : jH), P2 x2 h2 → ¬ x2 = 0 → Q (.inl (some (.int 0))) (jG0 sc) h2) :
    WP mX12_make Q 0 [some (.ref 159), some (.int l1), none] [] (jG0 sc) h (0, 0) := by
  exact (bX12_make_0 k1 (fun x1 h1 p1 => (k2 x1 h1 p1)) (fun x1 h1 p1 x2 h2 p2 c1 => (bX12_make_20 (fun c2 => (bX12_make_84 (v1 x1 h1 p1 x2 h2 p2 c1 c2))) (fun c2 => (bX12_make_33 (v2 x1 h1 p1 x2 h2 p2 c1 c2))))) (fun x1 h1 p1 x2 h2 p2 c1 => (bX12_make_18 (v3 x1 h1 p1 x2 h2 p2 c1))))
set_option maxRecDepth 100000 in
theorem rX12_make_36 {sc : Nat × (Nat → Int32)} {h : jH} {Q : jQ} {l1 l2 : Int32}
    (v1 : 366 ≤ l2 → WP mX12_make Q 86 [some (.ref 159), some (.int l1), some (.int 0)] [] (jG0 sc) (jput h 160 286 ((h 160 286) - 1)) (0, 0))
    (o1 : ¬ 366 ≤ l2 → vp_in (287 + l2) 1454)
    (o2 : ¬ 366 ≤ l2 → vp_in ((287 + l2) - 61) 1454)
    (v2 : ¬ 366 ≤ l2 → WP mX12_make Q 36 [some (.ref 159), some (.int l1), some (.int (l2 + 1))] [] (jG0 sc) (jput h 160 (((287 + l2) - 61).toNatClampNeg) (h 160 ((287 + l2).toNatClampNeg))) (0, 0)) :
    WP mX12_make Q 36 [some (.ref 159), some (.int l1), some (.int l2)] [] (jG0 sc) h (0, 0) := by
  exact (bX12_make_36 (fun c1 => (bX12_make_72 (bX12_make_84 (v1 c1)))) (fun c1 => (bX12_make_43 (o1 c1) (o2 c1) (v2 c1))))
set_option maxRecDepth 100000 in
theorem rX12_make_86 {sc : Nat × (Nat → Int32)} {h : jH} {Q : jQ} {l1 l2 : Int32} {P1 : jH → Prop} {P2 : jH → Prop}
    (k1 : 61 ≤ l2 → JM mX12_listsBody [.ref 159] (jG0 sc) (jput h 160 286 ((h 160 286) + 1)) (jvoid sc P1))
    (k2 : 61 ≤ l2 → ∀ h1 : jH, P1 h1 → JM mX12_laysAlive [.ref 159, .int l1] (jG0 sc) h1 (jvoid sc P2))
    (v1 : 61 ≤ l2 → ∀ h1 : jH, P1 h1 → ∀ h2 : jH, P2 h2 → WP mX12_make Q 151 [some (.ref 159), some (.int l1), some (.int 0)] [] (jG0 sc) h2 (0, 0))
    (o1 : ¬ 61 ≤ l2 → vp_in (0 + l2) 1454)
    (o2 : ¬ 61 ≤ l2 → vp_in ((287 + (61 * (h 160 286))) + l2) 1454)
    (v2 : ¬ 61 ≤ l2 → WP mX12_make Q 86 [some (.ref 159), some (.int l1), some (.int (l2 + 1))] [] (jG0 sc) (jput h 160 (((287 + (61 * (h 160 286))) + l2).toNatClampNeg) (h 160 ((0 + l2).toNatClampNeg))) (0, 0)) :
    WP mX12_make Q 86 [some (.ref 159), some (.int l1), some (.int l2)] [] (jG0 sc) h (0, 0) := by
  exact (bX12_make_86 (fun c1 => (bX12_make_128 (k1 c1) (fun h1 p1 => (k2 c1 h1 p1)) (fun h1 p1 h2 p2 => (v1 c1 h1 p1 h2 p2)))) (fun c1 => (bX12_make_92 (o1 c1) (o2 c1) (v2 c1))))
set_option maxRecDepth 100000 in
theorem rX12_make_151 {sc : Nat × (Nat → Int32)} {h : jH} {Q : jQ} {l1 l2 : Int32} {P1 : jH → Prop}
    (k1 : 61 ≤ l2 → JM mX12_forgets [.ref 159] (jG0 sc) h (jvoid sc P1))
    (v1 : 61 ≤ l2 → ∀ h1 : jH, P1 h1 → Q (.inl (some (.int (h1 160 286)))) (jG0 sc) h1)
    (o1 : ¬ 61 ≤ l2 → vp_in l2 61)
    (o2 : ¬ 61 ≤ l2 → vp_in (0 + l2) 1454)
    (v2 : ¬ 61 ≤ l2 → WP mX12_make Q 151 [some (.ref 159), some (.int l1), some (.int (l2 + 1))] [] (jG0 sc) (jput h 160 ((0 + l2).toNatClampNeg) (h 167 l2.toNatClampNeg)) (0, 0)) :
    WP mX12_make Q 151 [some (.ref 159), some (.int l1), some (.int l2)] [] (jG0 sc) h (0, 0) := by
  exact (bX12_make_151 (fun c1 => (bX12_make_177 (k1 c1) (fun h1 p1 => (v1 c1 h1 p1)))) (fun c1 => (bX12_make_157 (o1 c1) (o2 c1) (v2 c1))))
theorem dX12_takeBack_0 : decode (mC mX12_takeBack) 0 = .ok (.aload_n 0, 1) := by decide +kernel
theorem dX12_takeBack_1 : decode (mC mX12_takeBack) 1 = .ok (.iconst 0, 1) := by decide +kernel
theorem dX12_takeBack_2 : decode (mC mX12_takeBack) 2 = .ok (.putfield 3, 3) := by decide +kernel
theorem dX12_takeBack_5 : decode (mC mX12_takeBack) 5 = .ok (.aload_n 0, 1) := by decide +kernel
theorem dX12_takeBack_6 : decode (mC mX12_takeBack) 6 = .ok (.getfield 13, 3) := by decide +kernel
theorem dX12_takeBack_9 : decode (mC mX12_takeBack) 9 = .ok (.sipush 286, 3) := by decide +kernel
theorem dX12_takeBack_12 : decode (mC mX12_takeBack) 12 = .ok (.iaload, 1) := by decide +kernel
theorem dX12_takeBack_13 : decode (mC mX12_takeBack) 13 = .ok (.ifCond .ne 5, 3) := by decide +kernel
theorem dX12_takeBack_16 : decode (mC mX12_takeBack) 16 = .ok (.iconst 0, 1) := by decide +kernel
theorem dX12_takeBack_17 : decode (mC mX12_takeBack) 17 = .ok (.ireturn, 1) := by decide +kernel
theorem dX12_takeBack_18 : decode (mC mX12_takeBack) 18 = .ok (.aload_n 0, 1) := by decide +kernel
theorem dX12_takeBack_19 : decode (mC mX12_takeBack) 19 = .ok (.getfield 13, 3) := by decide +kernel
theorem dX12_takeBack_22 : decode (mC mX12_takeBack) 22 = .ok (.sipush 286, 3) := by decide +kernel
theorem dX12_takeBack_25 : decode (mC mX12_takeBack) 25 = .ok (.dup2, 1) := by decide +kernel
theorem dX12_takeBack_26 : decode (mC mX12_takeBack) 26 = .ok (.iaload, 1) := by decide +kernel
theorem dX12_takeBack_27 : decode (mC mX12_takeBack) 27 = .ok (.iconst 1, 1) := by decide +kernel
theorem dX12_takeBack_28 : decode (mC mX12_takeBack) 28 = .ok (.isub, 1) := by decide +kernel
theorem dX12_takeBack_29 : decode (mC mX12_takeBack) 29 = .ok (.iastore, 1) := by decide +kernel
theorem dX12_takeBack_30 : decode (mC mX12_takeBack) 30 = .ok (.iconst 0, 1) := by decide +kernel
theorem dX12_takeBack_31 : decode (mC mX12_takeBack) 31 = .ok (.istore_n 1, 1) := by decide +kernel
theorem dX12_takeBack_32 : decode (mC mX12_takeBack) 32 = .ok (.iload_n 1, 1) := by decide +kernel
theorem dX12_takeBack_33 : decode (mC mX12_takeBack) 33 = .ok (.bipush 61, 2) := by decide +kernel
theorem dX12_takeBack_35 : decode (mC mX12_takeBack) 35 = .ok (.if_icmp .ge 39, 3) := by decide +kernel
theorem dX12_takeBack_38 : decode (mC mX12_takeBack) 38 = .ok (.aload_n 0, 1) := by decide +kernel
theorem dX12_takeBack_39 : decode (mC mX12_takeBack) 39 = .ok (.getfield 13, 3) := by decide +kernel
theorem dX12_takeBack_42 : decode (mC mX12_takeBack) 42 = .ok (.iconst 0, 1) := by decide +kernel
theorem dX12_takeBack_43 : decode (mC mX12_takeBack) 43 = .ok (.iload_n 1, 1) := by decide +kernel
theorem dX12_takeBack_44 : decode (mC mX12_takeBack) 44 = .ok (.iadd, 1) := by decide +kernel
theorem dX12_takeBack_45 : decode (mC mX12_takeBack) 45 = .ok (.aload_n 0, 1) := by decide +kernel
theorem dX12_takeBack_46 : decode (mC mX12_takeBack) 46 = .ok (.getfield 13, 3) := by decide +kernel
theorem dX12_takeBack_49 : decode (mC mX12_takeBack) 49 = .ok (.sipush 287, 3) := by decide +kernel
theorem dX12_takeBack_52 : decode (mC mX12_takeBack) 52 = .ok (.bipush 61, 2) := by decide +kernel
theorem dX12_takeBack_54 : decode (mC mX12_takeBack) 54 = .ok (.aload_n 0, 1) := by decide +kernel
theorem dX12_takeBack_55 : decode (mC mX12_takeBack) 55 = .ok (.getfield 13, 3) := by decide +kernel
theorem dX12_takeBack_58 : decode (mC mX12_takeBack) 58 = .ok (.sipush 286, 3) := by decide +kernel
theorem dX12_takeBack_61 : decode (mC mX12_takeBack) 61 = .ok (.iaload, 1) := by decide +kernel
theorem dX12_takeBack_62 : decode (mC mX12_takeBack) 62 = .ok (.imul, 1) := by decide +kernel
theorem dX12_takeBack_63 : decode (mC mX12_takeBack) 63 = .ok (.iadd, 1) := by decide +kernel
theorem dX12_takeBack_64 : decode (mC mX12_takeBack) 64 = .ok (.iload_n 1, 1) := by decide +kernel
theorem dX12_takeBack_65 : decode (mC mX12_takeBack) 65 = .ok (.iadd, 1) := by decide +kernel
theorem dX12_takeBack_66 : decode (mC mX12_takeBack) 66 = .ok (.iaload, 1) := by decide +kernel
theorem dX12_takeBack_67 : decode (mC mX12_takeBack) 67 = .ok (.iastore, 1) := by decide +kernel
theorem dX12_takeBack_68 : decode (mC mX12_takeBack) 68 = .ok (.iinc 1 1, 3) := by decide +kernel
theorem dX12_takeBack_71 : decode (mC mX12_takeBack) 71 = .ok (.goto (-39), 3) := by decide +kernel
theorem dX12_takeBack_74 : decode (mC mX12_takeBack) 74 = .ok (.aload_n 0, 1) := by decide +kernel
theorem dX12_takeBack_75 : decode (mC mX12_takeBack) 75 = .ok (.invokevirtual 161, 3) := by decide +kernel
theorem dX12_takeBack_78 : decode (mC mX12_takeBack) 78 = .ok (.iconst 1, 1) := by decide +kernel
theorem dX12_takeBack_79 : decode (mC mX12_takeBack) 79 = .ok (.ireturn, 1) := by decide +kernel
set_option maxRecDepth 100000 in
theorem bX12_takeBack_0 {sc : Nat × (Nat → Int32)} {h : jH} {Q : jQ}
    (v1 : ¬ ((jput h 159 0 0) 160 286) = 0 → WP mX12_takeBack Q 18 [some (.ref 159), none] [] (jG0 sc) (jput h 159 0 0) (0, 0))
    (v2 : ((jput h 159 0 0) 160 286) = 0 → WP mX12_takeBack Q 16 [some (.ref 159), none] [] (jG0 sc) (jput h 159 0 0) (0, 0)) :
    WP mX12_takeBack Q 0 [some (.ref 159), none] [] (jG0 sc) h (0, 0) := by
  refine j_aload_n (i := 0) rfl dX12_takeBack_0 ?_
  refine j_iconst (n := 0) 0 (by decide) dX12_takeBack_1 ?_
  refine j_putI (idx := 3) (ci := 12) (k := 0) (nest := false) (show (12, 3, 12, 0, false) ∈ jFT by decide) rfl rfl rfl rfl (Nat.le_of_ble_eq_true rfl) rfl dX12_takeBack_2 ?_
  refine j_aload_n (i := 0) rfl dX12_takeBack_5 ?_
  refine j_getR (idx := 13) (ci := 12) (k := 1) (nest := false) (show (12, 13, 12, 1, false) ∈ jFT by decide) rfl (Nat.le_of_ble_eq_true rfl) rfl (a := 160) rfl dX12_takeBack_6 ?_
  refine j_sipush (n := 286) 286 (by decide) dX12_takeBack_9 ?_
  refine j_iald (Nat.le_of_ble_eq_true rfl) rfl (jinl (n := 1454) (by decide)) dX12_takeBack_12 ?_
  refine j_eqst [.int ((jput h 159 0 0) 160 286)] (by rfl) ?_
  refine j_if_ne (off := 5) 18 dX12_takeBack_13 (by decide) (fun c1 => ?_) (fun c1 => ?_)
  · exact j_le [some (.ref 159), none] (And.intro rfl True.intro) (v1 c1)
  · exact j_le [some (.ref 159), none] (And.intro rfl True.intro) (v2 c1)
set_option maxRecDepth 100000 in
theorem bX12_takeBack_16 {sc : Nat × (Nat → Int32)} {h : jH} {Q : jQ}
    (v1 : Q (.inl (some (.int 0))) (jG0 sc) h) :
    WP mX12_takeBack Q 16 [some (.ref 159), none] [] (jG0 sc) h (0, 0) := by
  refine j_iconst (n := 0) 0 (by decide) dX12_takeBack_16 ?_
  exact j_iret rfl rfl (Nat.zero_le _) (Nat.zero_le _) dX12_takeBack_17 v1
set_option maxRecDepth 100000 in
theorem bX12_takeBack_18 {sc : Nat × (Nat → Int32)} {h : jH} {Q : jQ}
    (v1 : WP mX12_takeBack Q 32 [some (.ref 159), some (.int 0)] [] (jG0 sc) (jput h 160 286 ((h 160 286) - 1)) (0, 0)) :
    WP mX12_takeBack Q 18 [some (.ref 159), none] [] (jG0 sc) h (0, 0) := by
  refine j_aload_n (i := 0) rfl dX12_takeBack_18 ?_
  refine j_getR (idx := 13) (ci := 12) (k := 1) (nest := false) (show (12, 13, 12, 1, false) ∈ jFT by decide) rfl (Nat.le_of_ble_eq_true rfl) rfl (a := 160) rfl dX12_takeBack_19 ?_
  refine j_sipush (n := 286) 286 (by decide) dX12_takeBack_22 ?_
  refine j_dup2 rfl rfl dX12_takeBack_25 ?_
  refine j_iald (Nat.le_of_ble_eq_true rfl) rfl (jinl (n := 1454) (by decide)) dX12_takeBack_26 ?_
  refine j_eqst [.int (h 160 286), .int 286, .ref 160] (by rfl) ?_
  refine j_iconst (n := 1) 1 (by decide) dX12_takeBack_27 ?_
  refine j_isub dX12_takeBack_28 ?_
  refine j_iast (Nat.le_of_ble_eq_true rfl) rfl (jinl (n := 1454) (by decide)) dX12_takeBack_29 ?_
  refine j_iconst (n := 0) 0 (by decide) dX12_takeBack_30 ?_
  refine j_istore_n (i := 1) dX12_takeBack_31 (Nat.le_of_ble_eq_true rfl) ?_
  exact j_le [some (.ref 159), some (.int 0)] (And.intro rfl (And.intro rfl True.intro)) v1
set_option maxRecDepth 100000 in
theorem bX12_takeBack_32 {sc : Nat × (Nat → Int32)} {h : jH} {Q : jQ} {l1 : Int32}
    (v1 : 61 ≤ l1 → WP mX12_takeBack Q 74 [some (.ref 159), some (.int l1)] [] (jG0 sc) h (0, 0))
    (v2 : ¬ 61 ≤ l1 → WP mX12_takeBack Q 38 [some (.ref 159), some (.int l1)] [] (jG0 sc) h (0, 0)) :
    WP mX12_takeBack Q 32 [some (.ref 159), some (.int l1)] [] (jG0 sc) h (0, 0) := by
  refine j_iload_n (i := 1) rfl dX12_takeBack_32 ?_
  refine j_bipush (n := 61) 61 (by decide) dX12_takeBack_33 ?_
  refine j_icmp_ge (off := 39) 74 dX12_takeBack_35 (by decide) (fun c1 => ?_) (fun c1 => ?_)
  · exact j_le [some (.ref 159), some (.int l1)] (And.intro rfl (And.intro rfl True.intro)) (v1 c1)
  · exact j_le [some (.ref 159), some (.int l1)] (And.intro rfl (And.intro rfl True.intro)) (v2 c1)
set_option maxRecDepth 100000 in
theorem bX12_takeBack_38 {sc : Nat × (Nat → Int32)} {h : jH} {Q : jQ} {l1 : Int32}
    (o1 : vp_in ((287 + (61 * (h 160 286))) + l1) 1454)
    (o2 : vp_in (0 + l1) 1454)
    (v1 : WP mX12_takeBack Q 32 [some (.ref 159), some (.int (l1 + 1))] [] (jG0 sc) (jput h 160 ((0 + l1).toNatClampNeg) (h 160 (((287 + (61 * (h 160 286))) + l1).toNatClampNeg))) (0, 0)) :
    WP mX12_takeBack Q 38 [some (.ref 159), some (.int l1)] [] (jG0 sc) h (0, 0) := by
  refine j_aload_n (i := 0) rfl dX12_takeBack_38 ?_
  refine j_getR (idx := 13) (ci := 12) (k := 1) (nest := false) (show (12, 13, 12, 1, false) ∈ jFT by decide) rfl (Nat.le_of_ble_eq_true rfl) rfl (a := 160) rfl dX12_takeBack_39 ?_
  refine j_iconst (n := 0) 0 (by decide) dX12_takeBack_42 ?_
  refine j_iload_n (i := 1) rfl dX12_takeBack_43 ?_
  refine j_iadd dX12_takeBack_44 ?_
  refine j_aload_n (i := 0) rfl dX12_takeBack_45 ?_
  refine j_getR (idx := 13) (ci := 12) (k := 1) (nest := false) (show (12, 13, 12, 1, false) ∈ jFT by decide) rfl (Nat.le_of_ble_eq_true rfl) rfl (a := 160) rfl dX12_takeBack_46 ?_
  refine j_sipush (n := 287) 287 (by decide) dX12_takeBack_49 ?_
  refine j_bipush (n := 61) 61 (by decide) dX12_takeBack_52 ?_
  refine j_aload_n (i := 0) rfl dX12_takeBack_54 ?_
  refine j_getR (idx := 13) (ci := 12) (k := 1) (nest := false) (show (12, 13, 12, 1, false) ∈ jFT by decide) rfl (Nat.le_of_ble_eq_true rfl) rfl (a := 160) rfl dX12_takeBack_55 ?_
  refine j_sipush (n := 286) 286 (by decide) dX12_takeBack_58 ?_
  refine j_iald (Nat.le_of_ble_eq_true rfl) rfl (jinl (n := 1454) (by decide)) dX12_takeBack_61 ?_
  refine j_eqst [.int (h 160 286), .int 61, .int 287, .ref 160, .int (0 + l1), .ref 160] (by rfl) ?_
  refine j_imul dX12_takeBack_62 ?_
  refine j_iadd dX12_takeBack_63 ?_
  refine j_iload_n (i := 1) rfl dX12_takeBack_64 ?_
  refine j_iadd dX12_takeBack_65 ?_
  refine j_iald (Nat.le_of_ble_eq_true rfl) rfl o1 dX12_takeBack_66 ?_
  refine j_iast (Nat.le_of_ble_eq_true rfl) rfl o2 dX12_takeBack_67 ?_
  refine j_iinc (i := 1) (n := 1) rfl dX12_takeBack_68 (Nat.le_of_ble_eq_true rfl) ?_
  refine j_eqlv [some (.ref 159), some (.int (l1 + 1))] rfl ?_
  refine j_goto (off := -39) 32 dX12_takeBack_71 (by decide) ?_
  exact j_le [some (.ref 159), some (.int (l1 + 1))] (And.intro rfl (And.intro rfl True.intro)) v1
set_option maxRecDepth 100000 in
theorem bX12_takeBack_74 {sc : Nat × (Nat → Int32)} {h : jH} {Q : jQ} {l1 : Int32} {P1 : jH → Prop}
    (k1 : JM mX12_forgets [.ref 159] (jG0 sc) h (jvoid sc P1))
    (v1 : ∀ h1 : jH, P1 h1 → Q (.inl (some (.int 1))) (jG0 sc) h1) :
    WP mX12_takeBack Q 74 [some (.ref 159), some (.int l1)] [] (jG0 sc) h (0, 0) := by
  refine j_aload_n (i := 0) rfl dX12_takeBack_74 ?_
  refine j_callV (idx := 161) (As := []) (ci := 12) (n := 0) k1 jvoid_nt (jlkT (jtb7 21 rfl) rfl) sX12_forgets kX12_forgets rfl ⟨rfl, by decide +kernel, by decide +kernel, by decide +kernel⟩ rfl ⟨by decide, by decide⟩ (Nat.le_of_ble_eq_true rfl) rfl (Nat.le_of_ble_eq_true rfl) (Nat.le_of_ble_eq_true rfl) ⟨Nat.zero_le _, Nat.zero_le _⟩ dX12_takeBack_75 (fun r Γ' h1 q => ?_)
  obtain ⟨q0, rfl, p1⟩ := q; cases q0
  refine j_eqst [] (by rfl) ?_
  refine j_iconst (n := 1) 1 (by decide) dX12_takeBack_78 ?_
  exact j_iret rfl rfl (Nat.zero_le _) (Nat.zero_le _) dX12_takeBack_79 (v1 h1 p1)
set_option maxRecDepth 100000 in
theorem rX12_takeBack_0 {sc : Nat × (Nat → Int32)} {h : jH} {Q : jQ}
    (v1 : ¬ ((jput h 159 0 0) 160 286) = 0 → WP mX12_takeBack Q 32 [some (.ref 159), some (.int 0)] [] (jG0 sc) (jput (jput h 159 0 0) 160 286 (((jput h 159 0 0) 160 286) - 1)) (0, 0))
    (v2 : ((jput h 159 0 0) 160 286) = 0 → Q (.inl (some (.int 0))) (jG0 sc) (jput h 159 0 0)) :
    WP mX12_takeBack Q 0 [some (.ref 159), none] [] (jG0 sc) h (0, 0) := by
  exact (bX12_takeBack_0 (fun c1 => (bX12_takeBack_18 (v1 c1))) (fun c1 => (bX12_takeBack_16 (v2 c1))))
set_option maxRecDepth 100000 in
theorem rX12_takeBack_32 {sc : Nat × (Nat → Int32)} {h : jH} {Q : jQ} {l1 : Int32} {P1 : jH → Prop}
    (k1 : 61 ≤ l1 → JM mX12_forgets [.ref 159] (jG0 sc) h (jvoid sc P1))
    (v1 : 61 ≤ l1 → ∀ h1 : jH, P1 h1 → Q (.inl (some (.int 1))) (jG0 sc) h1)
    (o1 : ¬ 61 ≤ l1 → vp_in ((287 + (61 * (h 160 286))) + l1) 1454)
    (o2 : ¬ 61 ≤ l1 → vp_in (0 + l1) 1454)
    (v2 : ¬ 61 ≤ l1 → WP mX12_takeBack Q 32 [some (.ref 159), some (.int (l1 + 1))] [] (jG0 sc) (jput h 160 ((0 + l1).toNatClampNeg) (h 160 (((287 + (61 * (h 160 286))) + l1).toNatClampNeg))) (0, 0)) :
    WP mX12_takeBack Q 32 [some (.ref 159), some (.int l1)] [] (jG0 sc) h (0, 0) := by
  exact (bX12_takeBack_32 (fun c1 => (bX12_takeBack_74 (k1 c1) (fun h1 p1 => (v1 c1 h1 p1)))) (fun c1 => (bX12_takeBack_38 (o1 c1) (o2 c1) (v2 c1))))
theorem dX12_noRow_0 : decode (mC mX12_noRow) 0 = .ok (.iload_n 1, 1) := by decide +kernel
theorem dX12_noRow_1 : decode (mC mX12_noRow) 1 = .ok (.iconst 0, 1) := by decide +kernel
theorem dX12_noRow_2 : decode (mC mX12_noRow) 2 = .ok (.aload_n 0, 1) := by decide +kernel
theorem dX12_noRow_3 : decode (mC mX12_noRow) 3 = .ok (.getfield 13, 3) := by decide +kernel
theorem dX12_noRow_6 : decode (mC mX12_noRow) 6 = .ok (.sipush 254, 3) := by decide +kernel
theorem dX12_noRow_9 : decode (mC mX12_noRow) 9 = .ok (.iaload, 1) := by decide +kernel
theorem dX12_noRow_10 : decode (mC mX12_noRow) 10 = .ok (.iconst 1, 1) := by decide +kernel
theorem dX12_noRow_11 : decode (mC mX12_noRow) 11 = .ok (.isub, 1) := by decide +kernel
theorem dX12_noRow_12 : decode (mC mX12_noRow) 12 = .ok (.invokestatic 206, 3) := by decide +kernel
theorem dX12_noRow_15 : decode (mC mX12_noRow) 15 = .ok (.ifCond .ne 7, 3) := by decide +kernel
theorem dX12_noRow_18 : decode (mC mX12_noRow) 18 = .ok (.iconst 1, 1) := by decide +kernel
theorem dX12_noRow_19 : decode (mC mX12_noRow) 19 = .ok (.goto 4, 3) := by decide +kernel
theorem dX12_noRow_22 : decode (mC mX12_noRow) 22 = .ok (.iconst 0, 1) := by decide +kernel
theorem dX12_noRow_23 : decode (mC mX12_noRow) 23 = .ok (.ireturn, 1) := by decide +kernel
set_option maxRecDepth 100000 in
theorem bX12_noRow_0 {sc : Nat × (Nat → Int32)} {h : jH} {Q : jQ} {l1 : Int32} {P1 : Int32 → jH → Prop}
    (k1 : JM mX12_in [.int l1, .int 0, .int ((h 160 254) - 1)] (jG0 sc) h (jint sc P1))
    (v1 : ∀ (x1 : Int32) (h1 : jH), P1 x1 h1 → ¬ x1 = 0 → WP mX12_noRow Q 22 [some (.ref 159), some (.int l1)] [] (jG0 sc) h1 (0, 0))
    (v2 : ∀ (x1 : Int32) (h1 : jH), P1 x1 h1 → x1 = 0 → WP mX12_noRow Q 18 [some (.ref 159), some (.int l1)] [] (jG0 sc) h1 (0, 0)) :
    WP mX12_noRow Q 0 [some (.ref 159), some (.int l1)] [] (jG0 sc) h (0, 0) := by
  refine j_iload_n (i := 1) rfl dX12_noRow_0 ?_
  refine j_iconst (n := 0) 0 (by decide) dX12_noRow_1 ?_
  refine j_aload_n (i := 0) rfl dX12_noRow_2 ?_
  refine j_getR (idx := 13) (ci := 12) (k := 1) (nest := false) (show (12, 13, 12, 1, false) ∈ jFT by decide) rfl (Nat.le_of_ble_eq_true rfl) rfl (a := 160) rfl dX12_noRow_3 ?_
  refine j_sipush (n := 254) 254 (by decide) dX12_noRow_6 ?_
  refine j_iald (Nat.le_of_ble_eq_true rfl) rfl (jinl (n := 1454) (by decide)) dX12_noRow_9 ?_
  refine j_eqst [.int (h 160 254), .int 0, .int l1] (by rfl) ?_
  refine j_iconst (n := 1) 1 (by decide) dX12_noRow_10 ?_
  refine j_isub dX12_noRow_11 ?_
  refine j_callS (idx := 206) (As := [.int l1, .int 0, .int ((h 160 254) - 1)]) (n := 3) k1 jint_nt (jlkT (jtb7 84 rfl) rfl) sX12_in kX12_in rfl ⟨by decide +kernel, by decide +kernel, by decide +kernel⟩ rfl ⟨by decide, by decide⟩ (Nat.le_of_ble_eq_true rfl) ⟨Nat.zero_le _, Nat.zero_le _⟩ dX12_noRow_12 (fun r Γ' h1 q => ?_)
  obtain ⟨x1, q0, rfl, p1⟩ := q; cases q0
  refine j_eqst [.int x1] (by rfl) ?_
  refine j_if_ne (off := 7) 22 dX12_noRow_15 (by decide) (fun c1 => ?_) (fun c1 => ?_)
  · exact j_le [some (.ref 159), some (.int l1)] (And.intro rfl (And.intro rfl True.intro)) (v1 x1 h1 p1 c1)
  · exact j_le [some (.ref 159), some (.int l1)] (And.intro rfl (And.intro rfl True.intro)) (v2 x1 h1 p1 c1)
set_option maxRecDepth 100000 in
theorem bX12_noRow_18 {sc : Nat × (Nat → Int32)} {h : jH} {Q : jQ} {l1 : Int32}
    (v1 : WP mX12_noRow Q 23 [some (.ref 159), some (.int l1)] [.int 1] (jG0 sc) h (0, 0)) :
    WP mX12_noRow Q 18 [some (.ref 159), some (.int l1)] [] (jG0 sc) h (0, 0) := by
  refine j_iconst (n := 1) 1 (by decide) dX12_noRow_18 ?_
  refine j_goto (off := 4) 23 dX12_noRow_19 (by decide) ?_
  exact j_le [some (.ref 159), some (.int l1)] (And.intro rfl (And.intro rfl True.intro)) v1
set_option maxRecDepth 100000 in
theorem bX12_noRow_22 {sc : Nat × (Nat → Int32)} {h : jH} {Q : jQ} {l1 : Int32}
    (v1 : WP mX12_noRow Q 23 [some (.ref 159), some (.int l1)] [.int 0] (jG0 sc) h (0, 0)) :
    WP mX12_noRow Q 22 [some (.ref 159), some (.int l1)] [] (jG0 sc) h (0, 0) := by
  refine j_iconst (n := 0) 0 (by decide) dX12_noRow_22 ?_
  exact j_le [some (.ref 159), some (.int l1)] (And.intro rfl (And.intro rfl True.intro)) v1
set_option maxRecDepth 100000 in
theorem bX12_noRow_23 {sc : Nat × (Nat → Int32)} {h : jH} {Q : jQ} {l1 s0 : Int32}
    (o1 : s0 = 0 ∨ s0 = 1)
    (v1 : Q (.inl (some (.int s0))) (jG0 sc) h) :
    WP mX12_noRow Q 23 [some (.ref 159), some (.int l1)] [.int s0] (jG0 sc) h (0, 0) := by
  exact j_iret rfl (jbn o1) (Nat.zero_le _) (Nat.zero_le _) dX12_noRow_23 v1
set_option maxRecDepth 100000 in
theorem rX12_noRow_0 {sc : Nat × (Nat → Int32)} {h : jH} {Q : jQ} {l1 : Int32} {P1 : Int32 → jH → Prop}
    (k1 : JM mX12_in [.int l1, .int 0, .int ((h 160 254) - 1)] (jG0 sc) h (jint sc P1))
    (v1 : ∀ (x1 : Int32) (h1 : jH), P1 x1 h1 → ¬ x1 = 0 → Q (.inl (some (.int 0))) (jG0 sc) h1)
    (v2 : ∀ (x1 : Int32) (h1 : jH), P1 x1 h1 → x1 = 0 → Q (.inl (some (.int 1))) (jG0 sc) h1) :
    WP mX12_noRow Q 0 [some (.ref 159), some (.int l1)] [] (jG0 sc) h (0, 0) := by
  exact (bX12_noRow_0 k1 (fun x1 h1 p1 c1 => (bX12_noRow_22 (bX12_noRow_23 (by decide) (v1 x1 h1 p1 c1)))) (fun x1 h1 p1 c1 => (bX12_noRow_18 (bX12_noRow_23 (by decide) (v2 x1 h1 p1 c1)))))
theorem dX12_row_0 : decode (mC mX12_row) 0 = .ok (.aload_n 0, 1) := by decide +kernel
theorem dX12_row_1 : decode (mC mX12_row) 1 = .ok (.iconst 0, 1) := by decide +kernel
theorem dX12_row_2 : decode (mC mX12_row) 2 = .ok (.putfield 3, 3) := by decide +kernel
theorem dX12_row_5 : decode (mC mX12_row) 5 = .ok (.aload_n 0, 1) := by decide +kernel
theorem dX12_row_6 : decode (mC mX12_row) 6 = .ok (.aload_n 0, 1) := by decide +kernel
theorem dX12_row_7 : decode (mC mX12_row) 7 = .ok (.iload_n 1, 1) := by decide +kernel
theorem dX12_row_8 : decode (mC mX12_row) 8 = .ok (.invokevirtual 390, 3) := by decide +kernel
theorem dX12_row_11 : decode (mC mX12_row) 11 = .ok (.ifCond .ne 12, 3) := by decide +kernel
theorem dX12_row_14 : decode (mC mX12_row) 14 = .ok (.iload_n 2, 1) := by decide +kernel
theorem dX12_row_15 : decode (mC mX12_row) 15 = .ok (.iconst 0, 1) := by decide +kernel
theorem dX12_row_16 : decode (mC mX12_row) 16 = .ok (.iconst 1, 1) := by decide +kernel
theorem dX12_row_17 : decode (mC mX12_row) 17 = .ok (.invokestatic 206, 3) := by decide +kernel
theorem dX12_row_20 : decode (mC mX12_row) 20 = .ok (.ifCond .ne 7, 3) := by decide +kernel
theorem dX12_row_23 : decode (mC mX12_row) 23 = .ok (.iconst 1, 1) := by decide +kernel
theorem dX12_row_24 : decode (mC mX12_row) 24 = .ok (.goto 4, 3) := by decide +kernel
theorem dX12_row_27 : decode (mC mX12_row) 27 = .ok (.iconst 0, 1) := by decide +kernel
theorem dX12_row_28 : decode (mC mX12_row) 28 = .ok (.iconst 1, 1) := by decide +kernel
theorem dX12_row_29 : decode (mC mX12_row) 29 = .ok (.invokevirtual 157, 3) := by decide +kernel
theorem dX12_row_32 : decode (mC mX12_row) 32 = .ok (.ifCond .eq 7, 3) := by decide +kernel
theorem dX12_row_35 : decode (mC mX12_row) 35 = .ok (.iconst 0, 1) := by decide +kernel
theorem dX12_row_36 : decode (mC mX12_row) 36 = .ok (.goto 17, 3) := by decide +kernel
theorem dX12_row_39 : decode (mC mX12_row) 39 = .ok (.aload_n 0, 1) := by decide +kernel
theorem dX12_row_40 : decode (mC mX12_row) 40 = .ok (.getfield 13, 3) := by decide +kernel
theorem dX12_row_43 : decode (mC mX12_row) 43 = .ok (.sipush 255, 3) := by decide +kernel
theorem dX12_row_46 : decode (mC mX12_row) 46 = .ok (.iconst 3, 1) := by decide +kernel
theorem dX12_row_47 : decode (mC mX12_row) 47 = .ok (.iload_n 1, 1) := by decide +kernel
theorem dX12_row_48 : decode (mC mX12_row) 48 = .ok (.imul, 1) := by decide +kernel
theorem dX12_row_49 : decode (mC mX12_row) 49 = .ok (.iadd, 1) := by decide +kernel
theorem dX12_row_50 : decode (mC mX12_row) 50 = .ok (.iload_n 2, 1) := by decide +kernel
theorem dX12_row_51 : decode (mC mX12_row) 51 = .ok (.iadd, 1) := by decide +kernel
theorem dX12_row_52 : decode (mC mX12_row) 52 = .ok (.iaload, 1) := by decide +kernel
theorem dX12_row_53 : decode (mC mX12_row) 53 = .ok (.ireturn, 1) := by decide +kernel
set_option maxRecDepth 100000 in
theorem bX12_row_0 {sc : Nat × (Nat → Int32)} {h : jH} {Q : jQ} {l1 l2 : Int32} {P1 : Int32 → jH → Prop}
    (k1 : JM mX12_noRow [.ref 159, .int l1] (jG0 sc) (jput h 159 0 0) (jint sc P1))
    (v1 : ∀ (x1 : Int32) (h1 : jH), P1 x1 h1 → ¬ x1 = 0 → WP mX12_row Q 23 [some (.ref 159), some (.int l1), some (.int l2)] [.ref 159] (jG0 sc) h1 (0, 0))
    (v2 : ∀ (x1 : Int32) (h1 : jH), P1 x1 h1 → x1 = 0 → WP mX12_row Q 14 [some (.ref 159), some (.int l1), some (.int l2)] [.ref 159] (jG0 sc) h1 (0, 0)) :
    WP mX12_row Q 0 [some (.ref 159), some (.int l1), some (.int l2)] [] (jG0 sc) h (0, 0) := by
  refine j_aload_n (i := 0) rfl dX12_row_0 ?_
  refine j_iconst (n := 0) 0 (by decide) dX12_row_1 ?_
  refine j_putI (idx := 3) (ci := 12) (k := 0) (nest := false) (show (12, 3, 12, 0, false) ∈ jFT by decide) rfl rfl rfl rfl (Nat.le_of_ble_eq_true rfl) rfl dX12_row_2 ?_
  refine j_aload_n (i := 0) rfl dX12_row_5 ?_
  refine j_aload_n (i := 0) rfl dX12_row_6 ?_
  refine j_iload_n (i := 1) rfl dX12_row_7 ?_
  refine j_callV (idx := 390) (As := [.int l1]) (ci := 12) (n := 1) k1 jint_nt (jlkT (jtb8 97 rfl) rfl) sX12_noRow kX12_noRow rfl ⟨rfl, by decide +kernel, by decide +kernel, by decide +kernel⟩ rfl ⟨by decide, by decide⟩ (Nat.le_of_ble_eq_true rfl) rfl (Nat.le_of_ble_eq_true rfl) (Nat.le_of_ble_eq_true rfl) ⟨Nat.zero_le _, Nat.zero_le _⟩ dX12_row_8 (fun r Γ' h1 q => ?_)
  obtain ⟨x1, q0, rfl, p1⟩ := q; cases q0
  refine j_eqst [.int x1, .ref 159] (by rfl) ?_
  refine j_if_ne (off := 12) 23 dX12_row_11 (by decide) (fun c1 => ?_) (fun c1 => ?_)
  · exact j_le [some (.ref 159), some (.int l1), some (.int l2)] (And.intro rfl (And.intro rfl (And.intro rfl True.intro))) (v1 x1 h1 p1 c1)
  · exact j_le [some (.ref 159), some (.int l1), some (.int l2)] (And.intro rfl (And.intro rfl (And.intro rfl True.intro))) (v2 x1 h1 p1 c1)
set_option maxRecDepth 100000 in
theorem bX12_row_14 {sc : Nat × (Nat → Int32)} {h : jH} {Q : jQ} {l1 l2 : Int32} {P1 : Int32 → jH → Prop}
    (k1 : JM mX12_in [.int l2, .int 0, .int 1] (jG0 sc) h (jint sc P1))
    (v1 : ∀ (x1 : Int32) (h1 : jH), P1 x1 h1 → ¬ x1 = 0 → WP mX12_row Q 27 [some (.ref 159), some (.int l1), some (.int l2)] [.ref 159] (jG0 sc) h1 (0, 0))
    (v2 : ∀ (x1 : Int32) (h1 : jH), P1 x1 h1 → x1 = 0 → WP mX12_row Q 23 [some (.ref 159), some (.int l1), some (.int l2)] [.ref 159] (jG0 sc) h1 (0, 0)) :
    WP mX12_row Q 14 [some (.ref 159), some (.int l1), some (.int l2)] [.ref 159] (jG0 sc) h (0, 0) := by
  refine j_iload_n (i := 2) rfl dX12_row_14 ?_
  refine j_iconst (n := 0) 0 (by decide) dX12_row_15 ?_
  refine j_iconst (n := 1) 1 (by decide) dX12_row_16 ?_
  refine j_callS (idx := 206) (As := [.int l2, .int 0, .int 1]) (n := 3) k1 jint_nt (jlkT (jtb7 84 rfl) rfl) sX12_in kX12_in rfl ⟨by decide +kernel, by decide +kernel, by decide +kernel⟩ rfl ⟨by decide, by decide⟩ (Nat.le_of_ble_eq_true rfl) ⟨Nat.zero_le _, Nat.zero_le _⟩ dX12_row_17 (fun r Γ' h1 q => ?_)
  obtain ⟨x1, q0, rfl, p1⟩ := q; cases q0
  refine j_eqst [.int x1, .ref 159] (by rfl) ?_
  refine j_if_ne (off := 7) 27 dX12_row_20 (by decide) (fun c1 => ?_) (fun c1 => ?_)
  · exact j_le [some (.ref 159), some (.int l1), some (.int l2)] (And.intro rfl (And.intro rfl (And.intro rfl True.intro))) (v1 x1 h1 p1 c1)
  · exact j_le [some (.ref 159), some (.int l1), some (.int l2)] (And.intro rfl (And.intro rfl (And.intro rfl True.intro))) (v2 x1 h1 p1 c1)
set_option maxRecDepth 100000 in
theorem bX12_row_23 {sc : Nat × (Nat → Int32)} {h : jH} {Q : jQ} {l1 l2 : Int32}
    (v1 : WP mX12_row Q 28 [some (.ref 159), some (.int l1), some (.int l2)] [.int 1, .ref 159] (jG0 sc) h (0, 0)) :
    WP mX12_row Q 23 [some (.ref 159), some (.int l1), some (.int l2)] [.ref 159] (jG0 sc) h (0, 0) := by
  refine j_iconst (n := 1) 1 (by decide) dX12_row_23 ?_
  refine j_goto (off := 4) 28 dX12_row_24 (by decide) ?_
  exact j_le [some (.ref 159), some (.int l1), some (.int l2)] (And.intro rfl (And.intro rfl (And.intro rfl True.intro))) v1
set_option maxRecDepth 100000 in
theorem bX12_row_27 {sc : Nat × (Nat → Int32)} {h : jH} {Q : jQ} {l1 l2 : Int32}
    (v1 : WP mX12_row Q 28 [some (.ref 159), some (.int l1), some (.int l2)] [.int 0, .ref 159] (jG0 sc) h (0, 0)) :
    WP mX12_row Q 27 [some (.ref 159), some (.int l1), some (.int l2)] [.ref 159] (jG0 sc) h (0, 0) := by
  refine j_iconst (n := 0) 0 (by decide) dX12_row_27 ?_
  exact j_le [some (.ref 159), some (.int l1), some (.int l2)] (And.intro rfl (And.intro rfl (And.intro rfl True.intro))) v1
set_option maxRecDepth 100000 in
theorem bX12_row_28 {sc : Nat × (Nat → Int32)} {h : jH} {Q : jQ} {l1 l2 s0 : Int32} {P1 : Int32 → jH → Prop}
    (k1 : JM mX12_throwsIf [.ref 159, .int s0, .int 1] (jG0 sc) h (jint sc P1))
    (v1 : ∀ (x1 : Int32) (h1 : jH), P1 x1 h1 → x1 = 0 → WP mX12_row Q 39 [some (.ref 159), some (.int l1), some (.int l2)] [] (jG0 sc) h1 (0, 0))
    (v2 : ∀ (x1 : Int32) (h1 : jH), P1 x1 h1 → ¬ x1 = 0 → WP mX12_row Q 35 [some (.ref 159), some (.int l1), some (.int l2)] [] (jG0 sc) h1 (0, 0)) :
    WP mX12_row Q 28 [some (.ref 159), some (.int l1), some (.int l2)] [.int s0, .ref 159] (jG0 sc) h (0, 0) := by
  refine j_iconst (n := 1) 1 (by decide) dX12_row_28 ?_
  refine j_callV (idx := 157) (As := [.int s0, .int 1]) (ci := 12) (n := 2) k1 jint_nt (jlkT (jtb7 17 rfl) rfl) sX12_throwsIf kX12_throwsIf rfl ⟨rfl, by decide +kernel, by decide +kernel, by decide +kernel⟩ rfl ⟨by decide, by decide⟩ (Nat.le_of_ble_eq_true rfl) rfl (Nat.le_of_ble_eq_true rfl) (Nat.le_of_ble_eq_true rfl) ⟨Nat.zero_le _, Nat.zero_le _⟩ dX12_row_29 (fun r Γ' h1 q => ?_)
  obtain ⟨x1, q0, rfl, p1⟩ := q; cases q0
  refine j_eqst [.int x1] (by rfl) ?_
  refine j_if_eq (off := 7) 39 dX12_row_32 (by decide) (fun c1 => ?_) (fun c1 => ?_)
  · exact j_le [some (.ref 159), some (.int l1), some (.int l2)] (And.intro rfl (And.intro rfl (And.intro rfl True.intro))) (v1 x1 h1 p1 c1)
  · exact j_le [some (.ref 159), some (.int l1), some (.int l2)] (And.intro rfl (And.intro rfl (And.intro rfl True.intro))) (v2 x1 h1 p1 c1)
set_option maxRecDepth 100000 in
theorem bX12_row_35 {sc : Nat × (Nat → Int32)} {h : jH} {Q : jQ} {l1 l2 : Int32}
    (v1 : WP mX12_row Q 53 [some (.ref 159), some (.int l1), some (.int l2)] [.int 0] (jG0 sc) h (0, 0)) :
    WP mX12_row Q 35 [some (.ref 159), some (.int l1), some (.int l2)] [] (jG0 sc) h (0, 0) := by
  refine j_iconst (n := 0) 0 (by decide) dX12_row_35 ?_
  refine j_goto (off := 17) 53 dX12_row_36 (by decide) ?_
  exact j_le [some (.ref 159), some (.int l1), some (.int l2)] (And.intro rfl (And.intro rfl (And.intro rfl True.intro))) v1
set_option maxRecDepth 100000 in
theorem bX12_row_39 {sc : Nat × (Nat → Int32)} {h : jH} {Q : jQ} {l1 l2 : Int32}
    (o1 : vp_in ((255 + (3 * l1)) + l2) 1454)
    (v1 : WP mX12_row Q 53 [some (.ref 159), some (.int l1), some (.int l2)] [.int (h 160 (((255 + (3 * l1)) + l2).toNatClampNeg))] (jG0 sc) h (0, 0)) :
    WP mX12_row Q 39 [some (.ref 159), some (.int l1), some (.int l2)] [] (jG0 sc) h (0, 0) := by
  refine j_aload_n (i := 0) rfl dX12_row_39 ?_
  refine j_getR (idx := 13) (ci := 12) (k := 1) (nest := false) (show (12, 13, 12, 1, false) ∈ jFT by decide) rfl (Nat.le_of_ble_eq_true rfl) rfl (a := 160) rfl dX12_row_40 ?_
  refine j_sipush (n := 255) 255 (by decide) dX12_row_43 ?_
  refine j_iconst (n := 3) 3 (by decide) dX12_row_46 ?_
  refine j_iload_n (i := 1) rfl dX12_row_47 ?_
  refine j_imul dX12_row_48 ?_
  refine j_iadd dX12_row_49 ?_
  refine j_iload_n (i := 2) rfl dX12_row_50 ?_
  refine j_iadd dX12_row_51 ?_
  refine j_iald (Nat.le_of_ble_eq_true rfl) rfl o1 dX12_row_52 ?_
  exact j_le [some (.ref 159), some (.int l1), some (.int l2)] (And.intro rfl (And.intro rfl (And.intro rfl True.intro))) v1
set_option maxRecDepth 100000 in
theorem bX12_row_53 {sc : Nat × (Nat → Int32)} {h : jH} {Q : jQ} {l1 l2 s0 : Int32}
    (v1 : Q (.inl (some (.int s0))) (jG0 sc) h) :
    WP mX12_row Q 53 [some (.ref 159), some (.int l1), some (.int l2)] [.int s0] (jG0 sc) h (0, 0) := by
  exact j_iret rfl rfl (Nat.zero_le _) (Nat.zero_le _) dX12_row_53 v1
set_option maxRecDepth 100000 in
theorem rX12_row_0 {sc : Nat × (Nat → Int32)} {h : jH} {Q : jQ} {l1 l2 : Int32} {P1 : Int32 → jH → Prop} {P2 : Int32 → jH → Prop} {P3 : Int32 → jH → Prop} {P4 : Int32 → jH → Prop} {P5 : Int32 → jH → Prop}
    (k1 : JM mX12_noRow [.ref 159, .int l1] (jG0 sc) (jput h 159 0 0) (jint sc P1))
    (k2 : ∀ (x1 : Int32) (h1 : jH), P1 x1 h1 → ¬ x1 = 0 → JM mX12_throwsIf [.ref 159, .int 1, .int 1] (jG0 sc) h1 (jint sc P2))
    (o1 : ∀ (x1 : Int32) (h1 : jH), P1 x1 h1 → ¬ x1 = 0 → ∀ (x2 : Int32) (h2 : jH), P2 x2 h2 → x2 = 0 → vp_in ((255 + (3 * l1)) + l2) 1454)
    (v1 : ∀ (x1 : Int32) (h1 : jH), P1 x1 h1 → ¬ x1 = 0 → ∀ (x2 : Int32) (h2 : jH), P2 x2 h2 → x2 = 0 → Q (.inl (some (.int (h2 160 (((255 + (3 * l1)) + l2).toNatClampNeg))))) (jG0 sc) h2)
    (v2 : ∀ (x1 : Int32) (h1 : jH), P1 x1 h1 → ¬ x1 = 0 → ∀ (x2 : Int32) (h2 : jH), P2 x2 h2 → ¬ x2 = 0 → Q (.inl (some (.int 0))) (jG0 sc) h2)
    (k3 : ∀ (x1 : Int32) (h1 : jH), P1 x1 h1 → x1 = 0 → JM mX12_in [.int l2, .int 0, .int 1] (jG0 sc) h1 (jint sc P3))
    (k4 : ∀ (x1 : Int32) (h1 : jH), P1 x1 h1 → x1 = 0 → ∀ (x3 : Int32) (h3 : jH), P3 x3 h3 → ¬ x3 = 0 → JM mX12_throwsIf [.ref 159, .int 0, .int 1] (jG0 sc) h3 (jint sc P4))
    (o2 : ∀ (x1 : Int32) (h1 : jH), P1 x1 h1 → x1 = 0 → ∀ (x3 : Int32) (h3 : jH), P3 x3 h3 → ¬ x3 = 0 → ∀ (x4 : Int32) (h4 : jH), P4 x4 h4 → x4 = 0 → vp_in ((255 + (3 * l1)) + l2) 1454)
    (v3 : ∀ (x1 : Int32) (h1 : jH), P1 x1 h1 → x1 = 0 → ∀ (x3 : Int32) (h3 : jH), P3 x3 h3 → ¬ x3 = 0 → ∀ (x4 : Int32) (h4 : jH), P4 x4 h4 → x4 = 0 → Q (.inl (some (.int (h4 160 (((255 + (3 * l1)) + l2).toNatClampNeg))))) (jG0 sc) h4)
    (v4 : ∀ (x1 : Int32) (h1 : jH), P1 x1 h1 → x1 = 0 → ∀ (x3 : Int32) (h3 : jH), P3 x3 h3 → ¬ x3 = 0 → ∀ (x4 : Int32) (h4 : jH), P4 x4 h4 → ¬ x4 = 0 → Q (.inl (some (.int 0))) (jG0 sc) h4)
    (k5 : ∀ (x1 : Int32) (h1 : jH), P1 x1 h1 → x1 = 0 → ∀ (x3 : Int32) (h3 : jH), P3 x3 h3 → x3 = 0 → JM mX12_throwsIf [.ref 159, .int 1, .int 1] (jG0 sc) h3 (jint sc P5))
    (o3 : ∀ (x1 : Int32) (h1 : jH), P1 x1 h1 → x1 = 0 → ∀ (x3 : Int32) (h3 : jH), P3 x3 h3 → x3 = 0 → ∀ (x5 : Int32) (h5 : jH), P5 x5 h5 → x5 = 0 → vp_in ((255 + (3 * l1)) + l2) 1454)
    (v5 : ∀ (x1 : Int32) (h1 : jH), P1 x1 h1 → x1 = 0 → ∀ (x3 : Int32) (h3 : jH), P3 x3 h3 → x3 = 0 → ∀ (x5 : Int32) (h5 : jH), P5 x5 h5 → x5 = 0 → Q (.inl (some (.int (h5 160 (((255 + (3 * l1)) + l2).toNatClampNeg))))) (jG0 sc) h5)
    (v6 : ∀ (x1 : Int32) (h1 : jH), P1 x1 h1 → x1 = 0 → ∀ (x3 : Int32) (h3 : jH), P3 x3 h3 → x3 = 0 → ∀ (x5 : Int32) (h5 : jH), P5 x5 h5 → ¬ x5 = 0 → Q (.inl (some (.int 0))) (jG0 sc) h5) :
    WP mX12_row Q 0 [some (.ref 159), some (.int l1), some (.int l2)] [] (jG0 sc) h (0, 0) := by
  exact (bX12_row_0 k1 (fun x1 h1 p1 c1 => (bX12_row_23 (bX12_row_28 (k2 x1 h1 p1 c1) (fun x2 h2 p2 c2 => (bX12_row_39 (o1 x1 h1 p1 c1 x2 h2 p2 c2) (bX12_row_53 (v1 x1 h1 p1 c1 x2 h2 p2 c2)))) (fun x2 h2 p2 c2 => (bX12_row_35 (bX12_row_53 (v2 x1 h1 p1 c1 x2 h2 p2 c2))))))) (fun x1 h1 p1 c1 => (bX12_row_14 (k3 x1 h1 p1 c1) (fun x3 h3 p3 c3 => (bX12_row_27 (bX12_row_28 (k4 x1 h1 p1 c1 x3 h3 p3 c3) (fun x4 h4 p4 c4 => (bX12_row_39 (o2 x1 h1 p1 c1 x3 h3 p3 c3 x4 h4 p4 c4) (bX12_row_53 (v3 x1 h1 p1 c1 x3 h3 p3 c3 x4 h4 p4 c4)))) (fun x4 h4 p4 c4 => (bX12_row_35 (bX12_row_53 (v4 x1 h1 p1 c1 x3 h3 p3 c3 x4 h4 p4 c4))))))) (fun x3 h3 p3 c3 => (bX12_row_23 (bX12_row_28 (k5 x1 h1 p1 c1 x3 h3 p3 c3) (fun x5 h5 p5 c5 => (bX12_row_39 (o3 x1 h1 p1 c1 x3 h3 p3 c3 x5 h5 p5 c5) (bX12_row_53 (v5 x1 h1 p1 c1 x3 h3 p3 c3 x5 h5 p5 c5)))) (fun x5 h5 p5 c5 => (bX12_row_35 (bX12_row_53 (v6 x1 h1 p1 c1 x3 h3 p3 c3 x5 h5 p5 c5))))))))))
theorem dX12_tear_0 : decode (mC mX12_tear) 0 = .ok (.aload_n 0, 1) := by decide +kernel
theorem dX12_tear_1 : decode (mC mX12_tear) 1 = .ok (.iconst 0, 1) := by decide +kernel
theorem dX12_tear_2 : decode (mC mX12_tear) 2 = .ok (.putfield 3, 3) := by decide +kernel
theorem dX12_tear_5 : decode (mC mX12_tear) 5 = .ok (.aload_n 0, 1) := by decide +kernel
theorem dX12_tear_6 : decode (mC mX12_tear) 6 = .ok (.aload_n 0, 1) := by decide +kernel
theorem dX12_tear_7 : decode (mC mX12_tear) 7 = .ok (.iload_n 1, 1) := by decide +kernel
theorem dX12_tear_8 : decode (mC mX12_tear) 8 = .ok (.invokevirtual 390, 3) := by decide +kernel
theorem dX12_tear_11 : decode (mC mX12_tear) 11 = .ok (.iconst 1, 1) := by decide +kernel
theorem dX12_tear_12 : decode (mC mX12_tear) 12 = .ok (.invokevirtual 157, 3) := by decide +kernel
theorem dX12_tear_15 : decode (mC mX12_tear) 15 = .ok (.ifCond .eq 5, 3) := by decide +kernel
theorem dX12_tear_18 : decode (mC mX12_tear) 18 = .ok (.iconst 0, 1) := by decide +kernel
theorem dX12_tear_19 : decode (mC mX12_tear) 19 = .ok (.ireturn, 1) := by decide +kernel
theorem dX12_tear_20 : decode (mC mX12_tear) 20 = .ok (.aload_n 0, 1) := by decide +kernel
theorem dX12_tear_21 : decode (mC mX12_tear) 21 = .ok (.getfield 13, 3) := by decide +kernel
theorem dX12_tear_24 : decode (mC mX12_tear) 24 = .ok (.sipush 255, 3) := by decide +kernel
theorem dX12_tear_27 : decode (mC mX12_tear) 27 = .ok (.iconst 3, 1) := by decide +kernel
theorem dX12_tear_28 : decode (mC mX12_tear) 28 = .ok (.iload_n 1, 1) := by decide +kernel
theorem dX12_tear_29 : decode (mC mX12_tear) 29 = .ok (.imul, 1) := by decide +kernel
theorem dX12_tear_30 : decode (mC mX12_tear) 30 = .ok (.iadd, 1) := by decide +kernel
theorem dX12_tear_31 : decode (mC mX12_tear) 31 = .ok (.iconst 1, 1) := by decide +kernel
theorem dX12_tear_32 : decode (mC mX12_tear) 32 = .ok (.iadd, 1) := by decide +kernel
theorem dX12_tear_33 : decode (mC mX12_tear) 33 = .ok (.dup2, 1) := by decide +kernel
theorem dX12_tear_34 : decode (mC mX12_tear) 34 = .ok (.iaload, 1) := by decide +kernel
theorem dX12_tear_35 : decode (mC mX12_tear) 35 = .ok (.iload_n 2, 1) := by decide +kernel
theorem dX12_tear_36 : decode (mC mX12_tear) 36 = .ok (.ixor, 1) := by decide +kernel
theorem dX12_tear_37 : decode (mC mX12_tear) 37 = .ok (.iastore, 1) := by decide +kernel
theorem dX12_tear_38 : decode (mC mX12_tear) 38 = .ok (.aload_n 0, 1) := by decide +kernel
theorem dX12_tear_39 : decode (mC mX12_tear) 39 = .ok (.getfield 13, 3) := by decide +kernel
theorem dX12_tear_42 : decode (mC mX12_tear) 42 = .ok (.sipush 255, 3) := by decide +kernel
theorem dX12_tear_45 : decode (mC mX12_tear) 45 = .ok (.iconst 3, 1) := by decide +kernel
theorem dX12_tear_46 : decode (mC mX12_tear) 46 = .ok (.iload_n 1, 1) := by decide +kernel
theorem dX12_tear_47 : decode (mC mX12_tear) 47 = .ok (.imul, 1) := by decide +kernel
theorem dX12_tear_48 : decode (mC mX12_tear) 48 = .ok (.iadd, 1) := by decide +kernel
theorem dX12_tear_49 : decode (mC mX12_tear) 49 = .ok (.iconst 1, 1) := by decide +kernel
theorem dX12_tear_50 : decode (mC mX12_tear) 50 = .ok (.iadd, 1) := by decide +kernel
theorem dX12_tear_51 : decode (mC mX12_tear) 51 = .ok (.iaload, 1) := by decide +kernel
theorem dX12_tear_52 : decode (mC mX12_tear) 52 = .ok (.ireturn, 1) := by decide +kernel
set_option maxRecDepth 100000 in
theorem bX12_tear_0 {sc : Nat × (Nat → Int32)} {h : jH} {Q : jQ} {l1 l2 : Int32} {P1 : Int32 → jH → Prop} {P2 : Int32 → jH → Prop}
    (k1 : JM mX12_noRow [.ref 159, .int l1] (jG0 sc) (jput h 159 0 0) (jint sc P1))
    (k2 : ∀ (x1 : Int32) (h1 : jH), P1 x1 h1 → JM mX12_throwsIf [.ref 159, .int x1, .int 1] (jG0 sc) h1 (jint sc P2))
    (v1 : ∀ (x1 : Int32) (h1 : jH), P1 x1 h1 → ∀ (x2 : Int32) (h2 : jH), P2 x2 h2 → x2 = 0 → WP mX12_tear Q 20 [some (.ref 159), some (.int l1), some (.int l2)] [] (jG0 sc) h2 (0, 0))
    (v2 : ∀ (x1 : Int32) (h1 : jH), P1 x1 h1 → ∀ (x2 : Int32) (h2 : jH), P2 x2 h2 → ¬ x2 = 0 → WP mX12_tear Q 18 [some (.ref 159), some (.int l1), some (.int l2)] [] (jG0 sc) h2 (0, 0)) :
    WP mX12_tear Q 0 [some (.ref 159), some (.int l1), some (.int l2)] [] (jG0 sc) h (0, 0) := by
  refine j_aload_n (i := 0) rfl dX12_tear_0 ?_
  refine j_iconst (n := 0) 0 (by decide) dX12_tear_1 ?_
  refine j_putI (idx := 3) (ci := 12) (k := 0) (nest := false) (show (12, 3, 12, 0, false) ∈ jFT by decide) rfl rfl rfl rfl (Nat.le_of_ble_eq_true rfl) rfl dX12_tear_2 ?_
  refine j_aload_n (i := 0) rfl dX12_tear_5 ?_
  refine j_aload_n (i := 0) rfl dX12_tear_6 ?_
  refine j_iload_n (i := 1) rfl dX12_tear_7 ?_
  refine j_callV (idx := 390) (As := [.int l1]) (ci := 12) (n := 1) k1 jint_nt (jlkT (jtb8 97 rfl) rfl) sX12_noRow kX12_noRow rfl ⟨rfl, by decide +kernel, by decide +kernel, by decide +kernel⟩ rfl ⟨by decide, by decide⟩ (Nat.le_of_ble_eq_true rfl) rfl (Nat.le_of_ble_eq_true rfl) (Nat.le_of_ble_eq_true rfl) ⟨Nat.zero_le _, Nat.zero_le _⟩ dX12_tear_8 (fun r Γ' h1 q => ?_)
  obtain ⟨x1, q0, rfl, p1⟩ := q; cases q0
  refine j_eqst [.int x1, .ref 159] (by rfl) ?_
  refine j_iconst (n := 1) 1 (by decide) dX12_tear_11 ?_
  refine j_callV (idx := 157) (As := [.int x1, .int 1]) (ci := 12) (n := 2) (k2 x1 h1 p1) jint_nt (jlkT (jtb7 17 rfl) rfl) sX12_throwsIf kX12_throwsIf rfl ⟨rfl, by decide +kernel, by decide +kernel, by decide +kernel⟩ rfl ⟨by decide, by decide⟩ (Nat.le_of_ble_eq_true rfl) rfl (Nat.le_of_ble_eq_true rfl) (Nat.le_of_ble_eq_true rfl) ⟨Nat.zero_le _, Nat.zero_le _⟩ dX12_tear_12 (fun r Γ' h2 q => ?_)
  obtain ⟨x2, q0, rfl, p2⟩ := q; cases q0
  refine j_eqst [.int x2] (by rfl) ?_
  refine j_if_eq (off := 5) 20 dX12_tear_15 (by decide) (fun c1 => ?_) (fun c1 => ?_)
  · exact j_le [some (.ref 159), some (.int l1), some (.int l2)] (And.intro rfl (And.intro rfl (And.intro rfl True.intro))) (v1 x1 h1 p1 x2 h2 p2 c1)
  · exact j_le [some (.ref 159), some (.int l1), some (.int l2)] (And.intro rfl (And.intro rfl (And.intro rfl True.intro))) (v2 x1 h1 p1 x2 h2 p2 c1)
set_option maxRecDepth 100000 in
theorem bX12_tear_18 {sc : Nat × (Nat → Int32)} {h : jH} {Q : jQ} {l1 l2 : Int32}
    (v1 : Q (.inl (some (.int 0))) (jG0 sc) h) :
    WP mX12_tear Q 18 [some (.ref 159), some (.int l1), some (.int l2)] [] (jG0 sc) h (0, 0) := by
  refine j_iconst (n := 0) 0 (by decide) dX12_tear_18 ?_
  exact j_iret rfl rfl (Nat.zero_le _) (Nat.zero_le _) dX12_tear_19 v1
set_option maxRecDepth 100000 in
theorem bX12_tear_20 {sc : Nat × (Nat → Int32)} {h : jH} {Q : jQ} {l1 l2 : Int32}
    (o1 : vp_in ((255 + (3 * l1)) + 1) 1454)
    (o2 : vp_in ((255 + (3 * l1)) + 1) 1454)
    (v1 : WP mX12_tear Q 51 [some (.ref 159), some (.int l1), some (.int l2)] [.int ((255 + (3 * l1)) + 1), .ref 160] (jG0 sc) (jput h 160 (((255 + (3 * l1)) + 1).toNatClampNeg) ((h 160 (((255 + (3 * l1)) + 1).toNatClampNeg)) ^^^ l2)) (0, 0)) :
    WP mX12_tear Q 20 [some (.ref 159), some (.int l1), some (.int l2)] [] (jG0 sc) h (0, 0) := by
  refine j_aload_n (i := 0) rfl dX12_tear_20 ?_
  refine j_getR (idx := 13) (ci := 12) (k := 1) (nest := false) (show (12, 13, 12, 1, false) ∈ jFT by decide) rfl (Nat.le_of_ble_eq_true rfl) rfl (a := 160) rfl dX12_tear_21 ?_
  refine j_sipush (n := 255) 255 (by decide) dX12_tear_24 ?_
  refine j_iconst (n := 3) 3 (by decide) dX12_tear_27 ?_
  refine j_iload_n (i := 1) rfl dX12_tear_28 ?_
  refine j_imul dX12_tear_29 ?_
  refine j_iadd dX12_tear_30 ?_
  refine j_iconst (n := 1) 1 (by decide) dX12_tear_31 ?_
  refine j_iadd dX12_tear_32 ?_
  refine j_dup2 rfl rfl dX12_tear_33 ?_
  refine j_iald (Nat.le_of_ble_eq_true rfl) rfl o1 dX12_tear_34 ?_
  refine j_iload_n (i := 2) rfl dX12_tear_35 ?_
  refine j_ixor dX12_tear_36 ?_
  refine j_iast (Nat.le_of_ble_eq_true rfl) rfl o2 dX12_tear_37 ?_
  refine j_aload_n (i := 0) rfl dX12_tear_38 ?_
  refine j_getR (idx := 13) (ci := 12) (k := 1) (nest := false) (show (12, 13, 12, 1, false) ∈ jFT by decide) rfl (Nat.le_of_ble_eq_true rfl) rfl (a := 160) rfl dX12_tear_39 ?_
  refine j_sipush (n := 255) 255 (by decide) dX12_tear_42 ?_
  refine j_iconst (n := 3) 3 (by decide) dX12_tear_45 ?_
  refine j_iload_n (i := 1) rfl dX12_tear_46 ?_
  refine j_imul dX12_tear_47 ?_
  refine j_iadd dX12_tear_48 ?_
  refine j_iconst (n := 1) 1 (by decide) dX12_tear_49 ?_
  refine j_iadd dX12_tear_50 ?_
  exact j_le [some (.ref 159), some (.int l1), some (.int l2)] (And.intro rfl (And.intro rfl (And.intro rfl True.intro))) v1
set_option maxRecDepth 100000 in
theorem bX12_tear_51 {sc : Nat × (Nat → Int32)} {h : jH} {Q : jQ} {l1 l2 s0 : Int32}
    (o1 : vp_in s0 1454)
    (v1 : Q (.inl (some (.int (h 160 s0.toNatClampNeg)))) (jG0 sc) h) :
    WP mX12_tear Q 51 [some (.ref 159), some (.int l1), some (.int l2)] [.int s0, .ref 160] (jG0 sc) h (0, 0) := by
  refine j_iald (Nat.le_of_ble_eq_true rfl) rfl o1 dX12_tear_51 ?_
  exact j_iret rfl rfl (Nat.zero_le _) (Nat.zero_le _) dX12_tear_52 v1
set_option maxRecDepth 100000 in
theorem rX12_tear_0 {sc : Nat × (Nat → Int32)} {h : jH} {Q : jQ} {l1 l2 : Int32} {P1 : Int32 → jH → Prop} {P2 : Int32 → jH → Prop}
    (k1 : JM mX12_noRow [.ref 159, .int l1] (jG0 sc) (jput h 159 0 0) (jint sc P1))
    (k2 : ∀ (x1 : Int32) (h1 : jH), P1 x1 h1 → JM mX12_throwsIf [.ref 159, .int x1, .int 1] (jG0 sc) h1 (jint sc P2))
    (o1 : ∀ (x1 : Int32) (h1 : jH), P1 x1 h1 → ∀ (x2 : Int32) (h2 : jH), P2 x2 h2 → x2 = 0 → vp_in ((255 + (3 * l1)) + 1) 1454)
    (v1 : ∀ (x1 : Int32) (h1 : jH), P1 x1 h1 → ∀ (x2 : Int32) (h2 : jH), P2 x2 h2 → x2 = 0 → Q (.inl (some (.int ((jput h2 160 (((255 + (3 * l1)) + 1).toNatClampNeg) ((h2 160 (((255 + (3 * l1)) + 1).toNatClampNeg)) ^^^ l2)) 160 (((255 + (3 * l1)) + 1).toNatClampNeg))))) (jG0 sc) (jput h2 160 (((255 + (3 * l1)) + 1).toNatClampNeg) ((h2 160 (((255 + (3 * l1)) + 1).toNatClampNeg)) ^^^ l2)))
    (v2 : ∀ (x1 : Int32) (h1 : jH), P1 x1 h1 → ∀ (x2 : Int32) (h2 : jH), P2 x2 h2 → ¬ x2 = 0 → Q (.inl (some (.int 0))) (jG0 sc) h2) :
    WP mX12_tear Q 0 [some (.ref 159), some (.int l1), some (.int l2)] [] (jG0 sc) h (0, 0) := by
  exact (bX12_tear_0 k1 (fun x1 h1 p1 => (k2 x1 h1 p1)) (fun x1 h1 p1 x2 h2 p2 c1 => (bX12_tear_20 (o1 x1 h1 p1 x2 h2 p2 c1) (o1 x1 h1 p1 x2 h2 p2 c1) (bX12_tear_51 (o1 x1 h1 p1 x2 h2 p2 c1) (v1 x1 h1 p1 x2 h2 p2 c1)))) (fun x1 h1 p1 x2 h2 p2 c1 => (bX12_tear_18 (v2 x1 h1 p1 x2 h2 p2 c1))))
theorem dX12_check_0 : decode (mC mX12_check) 0 = .ok (.aload_n 0, 1) := by decide +kernel
theorem dX12_check_1 : decode (mC mX12_check) 1 = .ok (.iconst 0, 1) := by decide +kernel
theorem dX12_check_2 : decode (mC mX12_check) 2 = .ok (.putfield 3, 3) := by decide +kernel
theorem dX12_check_5 : decode (mC mX12_check) 5 = .ok (.iconst 0, 1) := by decide +kernel
theorem dX12_check_6 : decode (mC mX12_check) 6 = .ok (.istore_n 1, 1) := by decide +kernel
theorem dX12_check_7 : decode (mC mX12_check) 7 = .ok (.iload_n 1, 1) := by decide +kernel
theorem dX12_check_8 : decode (mC mX12_check) 8 = .ok (.aload_n 0, 1) := by decide +kernel
theorem dX12_check_9 : decode (mC mX12_check) 9 = .ok (.getfield 13, 3) := by decide +kernel
theorem dX12_check_12 : decode (mC mX12_check) 12 = .ok (.sipush 254, 3) := by decide +kernel
theorem dX12_check_15 : decode (mC mX12_check) 15 = .ok (.iaload, 1) := by decide +kernel
theorem dX12_check_16 : decode (mC mX12_check) 16 = .ok (.if_icmp .ge 42, 3) := by decide +kernel
theorem dX12_check_19 : decode (mC mX12_check) 19 = .ok (.aload_n 0, 1) := by decide +kernel
theorem dX12_check_20 : decode (mC mX12_check) 20 = .ok (.getfield 13, 3) := by decide +kernel
theorem dX12_check_23 : decode (mC mX12_check) 23 = .ok (.sipush 255, 3) := by decide +kernel
theorem dX12_check_26 : decode (mC mX12_check) 26 = .ok (.iconst 3, 1) := by decide +kernel
theorem dX12_check_27 : decode (mC mX12_check) 27 = .ok (.iload_n 1, 1) := by decide +kernel
theorem dX12_check_28 : decode (mC mX12_check) 28 = .ok (.imul, 1) := by decide +kernel
theorem dX12_check_29 : decode (mC mX12_check) 29 = .ok (.iadd, 1) := by decide +kernel
theorem dX12_check_30 : decode (mC mX12_check) 30 = .ok (.iconst 1, 1) := by decide +kernel
theorem dX12_check_31 : decode (mC mX12_check) 31 = .ok (.iadd, 1) := by decide +kernel
theorem dX12_check_32 : decode (mC mX12_check) 32 = .ok (.iaload, 1) := by decide +kernel
theorem dX12_check_33 : decode (mC mX12_check) 33 = .ok (.aload_n 0, 1) := by decide +kernel
theorem dX12_check_34 : decode (mC mX12_check) 34 = .ok (.getfield 13, 3) := by decide +kernel
theorem dX12_check_37 : decode (mC mX12_check) 37 = .ok (.sipush 255, 3) := by decide +kernel
theorem dX12_check_40 : decode (mC mX12_check) 40 = .ok (.iconst 3, 1) := by decide +kernel
theorem dX12_check_41 : decode (mC mX12_check) 41 = .ok (.iload_n 1, 1) := by decide +kernel
theorem dX12_check_42 : decode (mC mX12_check) 42 = .ok (.imul, 1) := by decide +kernel
theorem dX12_check_43 : decode (mC mX12_check) 43 = .ok (.iadd, 1) := by decide +kernel
theorem dX12_check_44 : decode (mC mX12_check) 44 = .ok (.iconst 2, 1) := by decide +kernel
theorem dX12_check_45 : decode (mC mX12_check) 45 = .ok (.iadd, 1) := by decide +kernel
theorem dX12_check_46 : decode (mC mX12_check) 46 = .ok (.iaload, 1) := by decide +kernel
theorem dX12_check_47 : decode (mC mX12_check) 47 = .ok (.if_icmp .eq 5, 3) := by decide +kernel
theorem dX12_check_50 : decode (mC mX12_check) 50 = .ok (.iload_n 1, 1) := by decide +kernel
theorem dX12_check_51 : decode (mC mX12_check) 51 = .ok (.ireturn, 1) := by decide +kernel
theorem dX12_check_52 : decode (mC mX12_check) 52 = .ok (.iinc 1 1, 3) := by decide +kernel
theorem dX12_check_55 : decode (mC mX12_check) 55 = .ok (.goto (-48), 3) := by decide +kernel
theorem dX12_check_58 : decode (mC mX12_check) 58 = .ok (.iconst (-1), 1) := by decide +kernel
theorem dX12_check_59 : decode (mC mX12_check) 59 = .ok (.ireturn, 1) := by decide +kernel
set_option maxRecDepth 100000 in
theorem bX12_check_0 {sc : Nat × (Nat → Int32)} {h : jH} {Q : jQ}
    (v1 : WP mX12_check Q 7 [some (.ref 159), some (.int 0)] [] (jG0 sc) (jput h 159 0 0) (0, 0)) :
    WP mX12_check Q 0 [some (.ref 159), none] [] (jG0 sc) h (0, 0) := by
  refine j_aload_n (i := 0) rfl dX12_check_0 ?_
  refine j_iconst (n := 0) 0 (by decide) dX12_check_1 ?_
  refine j_putI (idx := 3) (ci := 12) (k := 0) (nest := false) (show (12, 3, 12, 0, false) ∈ jFT by decide) rfl rfl rfl rfl (Nat.le_of_ble_eq_true rfl) rfl dX12_check_2 ?_
  refine j_iconst (n := 0) 0 (by decide) dX12_check_5 ?_
  refine j_istore_n (i := 1) dX12_check_6 (Nat.le_of_ble_eq_true rfl) ?_
  exact j_le [some (.ref 159), some (.int 0)] (And.intro rfl (And.intro rfl True.intro)) v1
set_option maxRecDepth 100000 in
theorem bX12_check_7 {sc : Nat × (Nat → Int32)} {h : jH} {Q : jQ} {l1 : Int32}
    (v1 : (h 160 254) ≤ l1 → WP mX12_check Q 58 [some (.ref 159), some (.int l1)] [] (jG0 sc) h (0, 0))
    (v2 : ¬ (h 160 254) ≤ l1 → WP mX12_check Q 19 [some (.ref 159), some (.int l1)] [] (jG0 sc) h (0, 0)) :
    WP mX12_check Q 7 [some (.ref 159), some (.int l1)] [] (jG0 sc) h (0, 0) := by
  refine j_iload_n (i := 1) rfl dX12_check_7 ?_
  refine j_aload_n (i := 0) rfl dX12_check_8 ?_
  refine j_getR (idx := 13) (ci := 12) (k := 1) (nest := false) (show (12, 13, 12, 1, false) ∈ jFT by decide) rfl (Nat.le_of_ble_eq_true rfl) rfl (a := 160) rfl dX12_check_9 ?_
  refine j_sipush (n := 254) 254 (by decide) dX12_check_12 ?_
  refine j_iald (Nat.le_of_ble_eq_true rfl) rfl (jinl (n := 1454) (by decide)) dX12_check_15 ?_
  refine j_eqst [.int (h 160 254), .int l1] (by rfl) ?_
  refine j_icmp_ge (off := 42) 58 dX12_check_16 (by decide) (fun c1 => ?_) (fun c1 => ?_)
  · exact j_le [some (.ref 159), some (.int l1)] (And.intro rfl (And.intro rfl True.intro)) (v1 c1)
  · exact j_le [some (.ref 159), some (.int l1)] (And.intro rfl (And.intro rfl True.intro)) (v2 c1)
set_option maxRecDepth 100000 in
theorem bX12_check_19 {sc : Nat × (Nat → Int32)} {h : jH} {Q : jQ} {l1 : Int32}
    (o1 : vp_in ((255 + (3 * l1)) + 1) 1454)
    (o2 : vp_in ((255 + (3 * l1)) + 2) 1454)
    (v1 : (h 160 (((255 + (3 * l1)) + 1).toNatClampNeg)) = (h 160 (((255 + (3 * l1)) + 2).toNatClampNeg)) → WP mX12_check Q 52 [some (.ref 159), some (.int l1)] [] (jG0 sc) h (0, 0))
    (v2 : ¬ (h 160 (((255 + (3 * l1)) + 1).toNatClampNeg)) = (h 160 (((255 + (3 * l1)) + 2).toNatClampNeg)) → WP mX12_check Q 50 [some (.ref 159), some (.int l1)] [] (jG0 sc) h (0, 0)) :
    WP mX12_check Q 19 [some (.ref 159), some (.int l1)] [] (jG0 sc) h (0, 0) := by
  refine j_aload_n (i := 0) rfl dX12_check_19 ?_
  refine j_getR (idx := 13) (ci := 12) (k := 1) (nest := false) (show (12, 13, 12, 1, false) ∈ jFT by decide) rfl (Nat.le_of_ble_eq_true rfl) rfl (a := 160) rfl dX12_check_20 ?_
  refine j_sipush (n := 255) 255 (by decide) dX12_check_23 ?_
  refine j_iconst (n := 3) 3 (by decide) dX12_check_26 ?_
  refine j_iload_n (i := 1) rfl dX12_check_27 ?_
  refine j_imul dX12_check_28 ?_
  refine j_iadd dX12_check_29 ?_
  refine j_iconst (n := 1) 1 (by decide) dX12_check_30 ?_
  refine j_iadd dX12_check_31 ?_
  refine j_iald (Nat.le_of_ble_eq_true rfl) rfl o1 dX12_check_32 ?_
  refine j_aload_n (i := 0) rfl dX12_check_33 ?_
  refine j_getR (idx := 13) (ci := 12) (k := 1) (nest := false) (show (12, 13, 12, 1, false) ∈ jFT by decide) rfl (Nat.le_of_ble_eq_true rfl) rfl (a := 160) rfl dX12_check_34 ?_
  refine j_sipush (n := 255) 255 (by decide) dX12_check_37 ?_
  refine j_iconst (n := 3) 3 (by decide) dX12_check_40 ?_
  refine j_iload_n (i := 1) rfl dX12_check_41 ?_
  refine j_imul dX12_check_42 ?_
  refine j_iadd dX12_check_43 ?_
  refine j_iconst (n := 2) 2 (by decide) dX12_check_44 ?_
  refine j_iadd dX12_check_45 ?_
  refine j_iald (Nat.le_of_ble_eq_true rfl) rfl o2 dX12_check_46 ?_
  refine j_icmp_eq (off := 5) 52 dX12_check_47 (by decide) (fun c1 => ?_) (fun c1 => ?_)
  · exact j_le [some (.ref 159), some (.int l1)] (And.intro rfl (And.intro rfl True.intro)) (v1 c1)
  · exact j_le [some (.ref 159), some (.int l1)] (And.intro rfl (And.intro rfl True.intro)) (v2 c1)
set_option maxRecDepth 100000 in
theorem bX12_check_50 {sc : Nat × (Nat → Int32)} {h : jH} {Q : jQ} {l1 : Int32}
    (v1 : Q (.inl (some (.int l1))) (jG0 sc) h) :
    WP mX12_check Q 50 [some (.ref 159), some (.int l1)] [] (jG0 sc) h (0, 0) := by
  refine j_iload_n (i := 1) rfl dX12_check_50 ?_
  exact j_iret rfl rfl (Nat.zero_le _) (Nat.zero_le _) dX12_check_51 v1
set_option maxRecDepth 100000 in
theorem bX12_check_52 {sc : Nat × (Nat → Int32)} {h : jH} {Q : jQ} {l1 : Int32}
    (v1 : WP mX12_check Q 7 [some (.ref 159), some (.int (l1 + 1))] [] (jG0 sc) h (0, 0)) :
    WP mX12_check Q 52 [some (.ref 159), some (.int l1)] [] (jG0 sc) h (0, 0) := by
  refine j_iinc (i := 1) (n := 1) rfl dX12_check_52 (Nat.le_of_ble_eq_true rfl) ?_
  refine j_eqlv [some (.ref 159), some (.int (l1 + 1))] rfl ?_
  refine j_goto (off := -48) 7 dX12_check_55 (by decide) ?_
  exact j_le [some (.ref 159), some (.int (l1 + 1))] (And.intro rfl (And.intro rfl True.intro)) v1
set_option maxRecDepth 100000 in
theorem bX12_check_58 {sc : Nat × (Nat → Int32)} {h : jH} {Q : jQ} {l1 : Int32}
    (v1 : Q (.inl (some (.int (-1)))) (jG0 sc) h) :
    WP mX12_check Q 58 [some (.ref 159), some (.int l1)] [] (jG0 sc) h (0, 0) := by
  refine j_iconst (n := (-1)) (-1) (by decide) dX12_check_58 ?_
  exact j_iret rfl rfl (Nat.zero_le _) (Nat.zero_le _) dX12_check_59 v1
set_option maxRecDepth 100000 in
theorem rX12_check_0 {sc : Nat × (Nat → Int32)} {h : jH} {Q : jQ}
    (v1 : WP mX12_check Q 7 [some (.ref 159), some (.int 0)] [] (jG0 sc) (jput h 159 0 0) (0, 0)) :
    WP mX12_check Q 0 [some (.ref 159), none] [] (jG0 sc) h (0, 0) := by
  exact (bX12_check_0 v1)
set_option maxRecDepth 100000 in
theorem rX12_check_7 {sc : Nat × (Nat → Int32)} {h : jH} {Q : jQ} {l1 : Int32}
    (v1 : (h 160 254) ≤ l1 → Q (.inl (some (.int (-1)))) (jG0 sc) h)
    (o1 : ¬ (h 160 254) ≤ l1 → vp_in ((255 + (3 * l1)) + 1) 1454)
    (o2 : ¬ (h 160 254) ≤ l1 → vp_in ((255 + (3 * l1)) + 2) 1454)
    (v2 : ¬ (h 160 254) ≤ l1 → (h 160 (((255 + (3 * l1)) + 1).toNatClampNeg)) = (h 160 (((255 + (3 * l1)) + 2).toNatClampNeg)) → WP mX12_check Q 7 [some (.ref 159), some (.int (l1 + 1))] [] (jG0 sc) h (0, 0))
    (v3 : ¬ (h 160 254) ≤ l1 → ¬ (h 160 (((255 + (3 * l1)) + 1).toNatClampNeg)) = (h 160 (((255 + (3 * l1)) + 2).toNatClampNeg)) → Q (.inl (some (.int l1))) (jG0 sc) h) :
    WP mX12_check Q 7 [some (.ref 159), some (.int l1)] [] (jG0 sc) h (0, 0) := by
  exact (bX12_check_7 (fun c1 => (bX12_check_58 (v1 c1))) (fun c1 => (bX12_check_19 (o1 c1) (o2 c1) (fun c2 => (bX12_check_52 (v2 c1 c2))) (fun c2 => (bX12_check_50 (v3 c1 c2))))))
theorem dX12_count_0 : decode (mC mX12_count) 0 = .ok (.aload_n 0, 1) := by decide +kernel
theorem dX12_count_1 : decode (mC mX12_count) 1 = .ok (.iconst 0, 1) := by decide +kernel
theorem dX12_count_2 : decode (mC mX12_count) 2 = .ok (.putfield 3, 3) := by decide +kernel
theorem dX12_count_5 : decode (mC mX12_count) 5 = .ok (.iload_n 1, 1) := by decide +kernel
theorem dX12_count_6 : decode (mC mX12_count) 6 = .ok (.tableswitch 192 0 12 #[66, 71, 79, 100, 100, 121, 130, 139, 148, 157, 166, 175, 183], 66) := by decide +kernel
theorem dX12_count_72 : decode (mC mX12_count) 72 = .ok (.aload_n 0, 1) := by decide +kernel
theorem dX12_count_73 : decode (mC mX12_count) 73 = .ok (.invokevirtual 265, 3) := by decide +kernel
theorem dX12_count_76 : decode (mC mX12_count) 76 = .ok (.ireturn, 1) := by decide +kernel
theorem dX12_count_77 : decode (mC mX12_count) 77 = .ok (.aload_n 0, 1) := by decide +kernel
theorem dX12_count_78 : decode (mC mX12_count) 78 = .ok (.getfield 13, 3) := by decide +kernel
theorem dX12_count_81 : decode (mC mX12_count) 81 = .ok (.bipush 122, 2) := by decide +kernel
theorem dX12_count_83 : decode (mC mX12_count) 83 = .ok (.iaload, 1) := by decide +kernel
theorem dX12_count_84 : decode (mC mX12_count) 84 = .ok (.ireturn, 1) := by decide +kernel
theorem dX12_count_85 : decode (mC mX12_count) 85 = .ok (.aload_n 0, 1) := by decide +kernel
theorem dX12_count_86 : decode (mC mX12_count) 86 = .ok (.iconst 0, 1) := by decide +kernel
theorem dX12_count_87 : decode (mC mX12_count) 87 = .ok (.invokevirtual 258, 3) := by decide +kernel
theorem dX12_count_90 : decode (mC mX12_count) 90 = .ok (.aload_n 0, 1) := by decide +kernel
theorem dX12_count_91 : decode (mC mX12_count) 91 = .ok (.invokevirtual 265, 3) := by decide +kernel
theorem dX12_count_94 : decode (mC mX12_count) 94 = .ok (.ifCond .ne 7, 3) := by decide +kernel
theorem dX12_count_97 : decode (mC mX12_count) 97 = .ok (.iconst 0, 1) := by decide +kernel
theorem dX12_count_98 : decode (mC mX12_count) 98 = .ok (.goto 7, 3) := by decide +kernel
theorem dX12_count_101 : decode (mC mX12_count) 101 = .ok (.aload_n 0, 1) := by decide +kernel
theorem dX12_count_102 : decode (mC mX12_count) 102 = .ok (.invokevirtual 275, 3) := by decide +kernel
theorem dX12_count_105 : decode (mC mX12_count) 105 = .ok (.ireturn, 1) := by decide +kernel
theorem dX12_count_106 : decode (mC mX12_count) 106 = .ok (.aload_n 0, 1) := by decide +kernel
theorem dX12_count_107 : decode (mC mX12_count) 107 = .ok (.invokevirtual 319, 3) := by decide +kernel
theorem dX12_count_110 : decode (mC mX12_count) 110 = .ok (.iload_n 1, 1) := by decide +kernel
theorem dX12_count_111 : decode (mC mX12_count) 111 = .ok (.iconst 3, 1) := by decide +kernel
theorem dX12_count_112 : decode (mC mX12_count) 112 = .ok (.if_icmp .ne 10, 3) := by decide +kernel
theorem dX12_count_115 : decode (mC mX12_count) 115 = .ok (.aload_n 0, 1) := by decide +kernel
theorem dX12_count_116 : decode (mC mX12_count) 116 = .ok (.getfield 290, 3) := by decide +kernel
theorem dX12_count_119 : decode (mC mX12_count) 119 = .ok (.goto 7, 3) := by decide +kernel
theorem dX12_count_122 : decode (mC mX12_count) 122 = .ok (.aload_n 0, 1) := by decide +kernel
theorem dX12_count_123 : decode (mC mX12_count) 123 = .ok (.invokevirtual 393, 3) := by decide +kernel
theorem dX12_count_126 : decode (mC mX12_count) 126 = .ok (.ireturn, 1) := by decide +kernel
theorem dX12_count_127 : decode (mC mX12_count) 127 = .ok (.aload_n 0, 1) := by decide +kernel
theorem dX12_count_128 : decode (mC mX12_count) 128 = .ok (.getfield 13, 3) := by decide +kernel
theorem dX12_count_131 : decode (mC mX12_count) 131 = .ok (.sipush 159, 3) := by decide +kernel
theorem dX12_count_134 : decode (mC mX12_count) 134 = .ok (.iaload, 1) := by decide +kernel
theorem dX12_count_135 : decode (mC mX12_count) 135 = .ok (.ireturn, 1) := by decide +kernel
theorem dX12_count_136 : decode (mC mX12_count) 136 = .ok (.aload_n 0, 1) := by decide +kernel
theorem dX12_count_137 : decode (mC mX12_count) 137 = .ok (.getfield 13, 3) := by decide +kernel
theorem dX12_count_140 : decode (mC mX12_count) 140 = .ok (.sipush 163, 3) := by decide +kernel
theorem dX12_count_143 : decode (mC mX12_count) 143 = .ok (.iaload, 1) := by decide +kernel
theorem dX12_count_144 : decode (mC mX12_count) 144 = .ok (.ireturn, 1) := by decide +kernel
theorem dX12_count_145 : decode (mC mX12_count) 145 = .ok (.aload_n 0, 1) := by decide +kernel
theorem dX12_count_146 : decode (mC mX12_count) 146 = .ok (.getfield 13, 3) := by decide +kernel
theorem dX12_count_149 : decode (mC mX12_count) 149 = .ok (.sipush 160, 3) := by decide +kernel
theorem dX12_count_152 : decode (mC mX12_count) 152 = .ok (.iaload, 1) := by decide +kernel
theorem dX12_count_153 : decode (mC mX12_count) 153 = .ok (.ireturn, 1) := by decide +kernel
theorem dX12_count_154 : decode (mC mX12_count) 154 = .ok (.aload_n 0, 1) := by decide +kernel
theorem dX12_count_155 : decode (mC mX12_count) 155 = .ok (.getfield 13, 3) := by decide +kernel
theorem dX12_count_158 : decode (mC mX12_count) 158 = .ok (.sipush 161, 3) := by decide +kernel
theorem dX12_count_161 : decode (mC mX12_count) 161 = .ok (.iaload, 1) := by decide +kernel
theorem dX12_count_162 : decode (mC mX12_count) 162 = .ok (.ireturn, 1) := by decide +kernel
theorem dX12_count_163 : decode (mC mX12_count) 163 = .ok (.aload_n 0, 1) := by decide +kernel
theorem dX12_count_164 : decode (mC mX12_count) 164 = .ok (.getfield 13, 3) := by decide +kernel
theorem dX12_count_167 : decode (mC mX12_count) 167 = .ok (.sipush 162, 3) := by decide +kernel
theorem dX12_count_170 : decode (mC mX12_count) 170 = .ok (.iaload, 1) := by decide +kernel
theorem dX12_count_171 : decode (mC mX12_count) 171 = .ok (.ireturn, 1) := by decide +kernel
theorem dX12_count_172 : decode (mC mX12_count) 172 = .ok (.aload_n 0, 1) := by decide +kernel
theorem dX12_count_173 : decode (mC mX12_count) 173 = .ok (.getfield 13, 3) := by decide +kernel
theorem dX12_count_176 : decode (mC mX12_count) 176 = .ok (.sipush 286, 3) := by decide +kernel
theorem dX12_count_179 : decode (mC mX12_count) 179 = .ok (.iaload, 1) := by decide +kernel
theorem dX12_count_180 : decode (mC mX12_count) 180 = .ok (.ireturn, 1) := by decide +kernel
theorem dX12_count_181 : decode (mC mX12_count) 181 = .ok (.aload_n 0, 1) := by decide +kernel
theorem dX12_count_182 : decode (mC mX12_count) 182 = .ok (.getfield 13, 3) := by decide +kernel
theorem dX12_count_185 : decode (mC mX12_count) 185 = .ok (.bipush 61, 2) := by decide +kernel
theorem dX12_count_187 : decode (mC mX12_count) 187 = .ok (.iaload, 1) := by decide +kernel
theorem dX12_count_188 : decode (mC mX12_count) 188 = .ok (.ireturn, 1) := by decide +kernel
theorem dX12_count_189 : decode (mC mX12_count) 189 = .ok (.aload_n 0, 1) := by decide +kernel
theorem dX12_count_190 : decode (mC mX12_count) 190 = .ok (.getfield 13, 3) := by decide +kernel
theorem dX12_count_193 : decode (mC mX12_count) 193 = .ok (.sipush 285, 3) := by decide +kernel
theorem dX12_count_196 : decode (mC mX12_count) 196 = .ok (.iaload, 1) := by decide +kernel
theorem dX12_count_197 : decode (mC mX12_count) 197 = .ok (.ireturn, 1) := by decide +kernel
theorem dX12_count_198 : decode (mC mX12_count) 198 = .ok (.iconst (-1), 1) := by decide +kernel
theorem dX12_count_199 : decode (mC mX12_count) 199 = .ok (.ireturn, 1) := by decide +kernel
set_option maxRecDepth 100000 in
theorem bX12_count_0 {sc : Nat × (Nat → Int32)} {h : jH} {Q : jQ} {l1 : Int32}
    (v1 : ((l1 : Int32).toInt < 0 ∨ 12 < (l1 : Int32).toInt) → WP mX12_count Q 198 [some (.ref 159), some (.int l1)] [] (jG0 sc) (jput h 159 0 0) (0, 0))
    (v2 : (l1 : Int32).toInt = 0 → WP mX12_count Q 72 [some (.ref 159), some (.int l1)] [] (jG0 sc) (jput h 159 0 0) (0, 0))
    (v3 : (l1 : Int32).toInt = 1 → WP mX12_count Q 77 [some (.ref 159), some (.int l1)] [] (jG0 sc) (jput h 159 0 0) (0, 0))
    (v4 : (l1 : Int32).toInt = 2 → WP mX12_count Q 85 [some (.ref 159), some (.int l1)] [] (jG0 sc) (jput h 159 0 0) (0, 0))
    (v5 : (l1 : Int32).toInt = 3 → WP mX12_count Q 106 [some (.ref 159), some (.int l1)] [] (jG0 sc) (jput h 159 0 0) (0, 0))
    (v6 : (l1 : Int32).toInt = 4 → WP mX12_count Q 106 [some (.ref 159), some (.int l1)] [] (jG0 sc) (jput h 159 0 0) (0, 0))
    (v7 : (l1 : Int32).toInt = 5 → WP mX12_count Q 127 [some (.ref 159), some (.int l1)] [] (jG0 sc) (jput h 159 0 0) (0, 0))
    (v8 : (l1 : Int32).toInt = 6 → WP mX12_count Q 136 [some (.ref 159), some (.int l1)] [] (jG0 sc) (jput h 159 0 0) (0, 0))
    (v9 : (l1 : Int32).toInt = 7 → WP mX12_count Q 145 [some (.ref 159), some (.int l1)] [] (jG0 sc) (jput h 159 0 0) (0, 0))
    (v10 : (l1 : Int32).toInt = 8 → WP mX12_count Q 154 [some (.ref 159), some (.int l1)] [] (jG0 sc) (jput h 159 0 0) (0, 0))
    (v11 : (l1 : Int32).toInt = 9 → WP mX12_count Q 163 [some (.ref 159), some (.int l1)] [] (jG0 sc) (jput h 159 0 0) (0, 0))
    (v12 : (l1 : Int32).toInt = 10 → WP mX12_count Q 172 [some (.ref 159), some (.int l1)] [] (jG0 sc) (jput h 159 0 0) (0, 0))
    (v13 : (l1 : Int32).toInt = 11 → WP mX12_count Q 181 [some (.ref 159), some (.int l1)] [] (jG0 sc) (jput h 159 0 0) (0, 0))
    (v14 : (l1 : Int32).toInt = 12 → WP mX12_count Q 189 [some (.ref 159), some (.int l1)] [] (jG0 sc) (jput h 159 0 0) (0, 0)) :
    WP mX12_count Q 0 [some (.ref 159), some (.int l1)] [] (jG0 sc) h (0, 0) := by
  refine j_aload_n (i := 0) rfl dX12_count_0 ?_
  refine j_iconst (n := 0) 0 (by decide) dX12_count_1 ?_
  refine j_putI (idx := 3) (ci := 12) (k := 0) (nest := false) (show (12, 3, 12, 0, false) ∈ jFT by decide) rfl rfl rfl rfl (Nat.le_of_ble_eq_true rfl) rfl dX12_count_2 ?_
  refine j_iload_n (i := 1) rfl dX12_count_5 ?_
  refine j_switch (dflt := 192) (lo := 0) (hi := 12) (offs := #[66, 71, 79, 100, 100, 121, 130, 139, 148, 157, 166, 175, 183]) (len := 66) [72, 77, 85, 106, 106, 127, 136, 145, 154, 163, 172, 181, 189] 198 dX12_count_6 (by decide) (by decide) (by decide) (fun c1 => ?_) ?_
  · exact j_le [some (.ref 159), some (.int l1)] (And.intro rfl (And.intro rfl True.intro)) (v1 c1)
  · refine ⟨fun q0 => ?_, fun q1 => ?_, fun q2 => ?_, fun q3 => ?_, fun q4 => ?_, fun q5 => ?_, fun q6 => ?_, fun q7 => ?_, fun q8 => ?_, fun q9 => ?_, fun q10 => ?_, fun q11 => ?_, fun q12 => ?_, True.intro⟩
    · exact j_le [some (.ref 159), some (.int l1)] (And.intro rfl (And.intro rfl True.intro)) (v2 q0)
    · exact j_le [some (.ref 159), some (.int l1)] (And.intro rfl (And.intro rfl True.intro)) (v3 q1)
    · exact j_le [some (.ref 159), some (.int l1)] (And.intro rfl (And.intro rfl True.intro)) (v4 q2)
    · exact j_le [some (.ref 159), some (.int l1)] (And.intro rfl (And.intro rfl True.intro)) (v5 q3)
    · exact j_le [some (.ref 159), some (.int l1)] (And.intro rfl (And.intro rfl True.intro)) (v6 q4)
    · exact j_le [some (.ref 159), some (.int l1)] (And.intro rfl (And.intro rfl True.intro)) (v7 q5)
    · exact j_le [some (.ref 159), some (.int l1)] (And.intro rfl (And.intro rfl True.intro)) (v8 q6)
    · exact j_le [some (.ref 159), some (.int l1)] (And.intro rfl (And.intro rfl True.intro)) (v9 q7)
    · exact j_le [some (.ref 159), some (.int l1)] (And.intro rfl (And.intro rfl True.intro)) (v10 q8)
    · exact j_le [some (.ref 159), some (.int l1)] (And.intro rfl (And.intro rfl True.intro)) (v11 q9)
    · exact j_le [some (.ref 159), some (.int l1)] (And.intro rfl (And.intro rfl True.intro)) (v12 q10)
    · exact j_le [some (.ref 159), some (.int l1)] (And.intro rfl (And.intro rfl True.intro)) (v13 q11)
    · exact j_le [some (.ref 159), some (.int l1)] (And.intro rfl (And.intro rfl True.intro)) (v14 q12)
set_option maxRecDepth 100000 in
theorem bX12_count_72 {sc : Nat × (Nat → Int32)} {h : jH} {Q : jQ} {l1 : Int32} {P1 : Int32 → jH → Prop}
    (k1 : JM mX12_lines [.ref 159] (jG0 sc) h (jint sc P1))
    (v1 : ∀ (x1 : Int32) (h1 : jH), P1 x1 h1 → Q (.inl (some (.int x1))) (jG0 sc) h1) :
    WP mX12_count Q 72 [some (.ref 159), some (.int l1)] [] (jG0 sc) h (0, 0) := by
  refine j_aload_n (i := 0) rfl dX12_count_72 ?_
  refine j_callV (idx := 265) (As := []) (ci := 12) (n := 0) k1 jint_nt (jlkT (jtb7 112 rfl) rfl) sX12_lines kX12_lines rfl ⟨rfl, by decide +kernel, by decide +kernel, by decide +kernel⟩ rfl ⟨by decide, by decide⟩ (Nat.le_of_ble_eq_true rfl) rfl (Nat.le_of_ble_eq_true rfl) (Nat.le_of_ble_eq_true rfl) ⟨Nat.zero_le _, Nat.zero_le _⟩ dX12_count_73 (fun r Γ' h1 q => ?_)
  obtain ⟨x1, q0, rfl, p1⟩ := q; cases q0
  refine j_eqst [.int x1] (by rfl) ?_
  exact j_iret rfl rfl (Nat.zero_le _) (Nat.zero_le _) dX12_count_76 (v1 x1 h1 p1)
set_option maxRecDepth 100000 in
theorem bX12_count_77 {sc : Nat × (Nat → Int32)} {h : jH} {Q : jQ} {l1 : Int32}
    (v1 : Q (.inl (some (.int (h 160 122)))) (jG0 sc) h) :
    WP mX12_count Q 77 [some (.ref 159), some (.int l1)] [] (jG0 sc) h (0, 0) := by
  refine j_aload_n (i := 0) rfl dX12_count_77 ?_
  refine j_getR (idx := 13) (ci := 12) (k := 1) (nest := false) (show (12, 13, 12, 1, false) ∈ jFT by decide) rfl (Nat.le_of_ble_eq_true rfl) rfl (a := 160) rfl dX12_count_78 ?_
  refine j_bipush (n := 122) 122 (by decide) dX12_count_81 ?_
  refine j_iald (Nat.le_of_ble_eq_true rfl) rfl (jinl (n := 1454) (by decide)) dX12_count_83 ?_
  refine j_eqst [.int (h 160 122)] (by rfl) ?_
  exact j_iret rfl rfl (Nat.zero_le _) (Nat.zero_le _) dX12_count_84 v1
set_option maxRecDepth 100000 in
theorem bX12_count_85 {sc : Nat × (Nat → Int32)} {h : jH} {Q : jQ} {l1 : Int32} {P1 : jH → Prop} {P2 : Int32 → jH → Prop}
    (k1 : JM mX12_lays [.ref 159, .int 0] (jG0 sc) h (jvoid sc P1))
    (k2 : ∀ h1 : jH, P1 h1 → JM mX12_lines [.ref 159] (jG0 sc) h1 (jint sc P2))
    (v1 : ∀ h1 : jH, P1 h1 → ∀ (x2 : Int32) (h2 : jH), P2 x2 h2 → ¬ x2 = 0 → WP mX12_count Q 101 [some (.ref 159), some (.int l1)] [] (jG0 sc) h2 (0, 0))
    (v2 : ∀ h1 : jH, P1 h1 → ∀ (x2 : Int32) (h2 : jH), P2 x2 h2 → x2 = 0 → WP mX12_count Q 97 [some (.ref 159), some (.int l1)] [] (jG0 sc) h2 (0, 0)) :
    WP mX12_count Q 85 [some (.ref 159), some (.int l1)] [] (jG0 sc) h (0, 0) := by
  refine j_aload_n (i := 0) rfl dX12_count_85 ?_
  refine j_iconst (n := 0) 0 (by decide) dX12_count_86 ?_
  refine j_callV (idx := 258) (As := [.int 0]) (ci := 12) (n := 1) k1 jvoid_nt (jlkT (jtb7 67 rfl) rfl) sX12_lays kX12_lays rfl ⟨rfl, by decide +kernel, by decide +kernel, by decide +kernel⟩ rfl ⟨by decide, by decide⟩ (Nat.le_of_ble_eq_true rfl) rfl (Nat.le_of_ble_eq_true rfl) (Nat.le_of_ble_eq_true rfl) ⟨Nat.zero_le _, Nat.zero_le _⟩ dX12_count_87 (fun r Γ' h1 q => ?_)
  obtain ⟨q0, rfl, p1⟩ := q; cases q0
  refine j_eqst [] (by rfl) ?_
  refine j_aload_n (i := 0) rfl dX12_count_90 ?_
  refine j_callV (idx := 265) (As := []) (ci := 12) (n := 0) (k2 h1 p1) jint_nt (jlkT (jtb7 112 rfl) rfl) sX12_lines kX12_lines rfl ⟨rfl, by decide +kernel, by decide +kernel, by decide +kernel⟩ rfl ⟨by decide, by decide⟩ (Nat.le_of_ble_eq_true rfl) rfl (Nat.le_of_ble_eq_true rfl) (Nat.le_of_ble_eq_true rfl) ⟨Nat.zero_le _, Nat.zero_le _⟩ dX12_count_91 (fun r Γ' h2 q => ?_)
  obtain ⟨x2, q0, rfl, p2⟩ := q; cases q0
  refine j_eqst [.int x2] (by rfl) ?_
  refine j_if_ne (off := 7) 101 dX12_count_94 (by decide) (fun c1 => ?_) (fun c1 => ?_)
  · exact j_le [some (.ref 159), some (.int l1)] (And.intro rfl (And.intro rfl True.intro)) (v1 h1 p1 x2 h2 p2 c1)
  · exact j_le [some (.ref 159), some (.int l1)] (And.intro rfl (And.intro rfl True.intro)) (v2 h1 p1 x2 h2 p2 c1)
set_option maxRecDepth 100000 in
theorem bX12_count_97 {sc : Nat × (Nat → Int32)} {h : jH} {Q : jQ} {l1 : Int32}
    (v1 : WP mX12_count Q 105 [some (.ref 159), some (.int l1)] [.int 0] (jG0 sc) h (0, 0)) :
    WP mX12_count Q 97 [some (.ref 159), some (.int l1)] [] (jG0 sc) h (0, 0) := by
  refine j_iconst (n := 0) 0 (by decide) dX12_count_97 ?_
  refine j_goto (off := 7) 105 dX12_count_98 (by decide) ?_
  exact j_le [some (.ref 159), some (.int l1)] (And.intro rfl (And.intro rfl True.intro)) v1
set_option maxRecDepth 100000 in
theorem bX12_count_101 {sc : Nat × (Nat → Int32)} {h : jH} {Q : jQ} {l1 : Int32} {P1 : Int32 → jH → Prop}
    (k1 : JM mX12_wrongMany [.ref 159] (jG0 sc) h (jint sc P1))
    (v1 : ∀ (x1 : Int32) (h1 : jH), P1 x1 h1 → WP mX12_count Q 105 [some (.ref 159), some (.int l1)] [.int x1] (jG0 sc) h1 (0, 0)) :
    WP mX12_count Q 101 [some (.ref 159), some (.int l1)] [] (jG0 sc) h (0, 0) := by
  refine j_aload_n (i := 0) rfl dX12_count_101 ?_
  refine j_callV (idx := 275) (As := []) (ci := 12) (n := 0) k1 jint_nt (jlkT (jtb7 140 rfl) rfl) sX12_wrongMany kX12_wrongMany rfl ⟨rfl, by decide +kernel, by decide +kernel, by decide +kernel⟩ rfl ⟨by decide, by decide⟩ (Nat.le_of_ble_eq_true rfl) rfl (Nat.le_of_ble_eq_true rfl) (Nat.le_of_ble_eq_true rfl) ⟨Nat.zero_le _, Nat.zero_le _⟩ dX12_count_102 (fun r Γ' h1 q => ?_)
  obtain ⟨x1, q0, rfl, p1⟩ := q; cases q0
  refine j_eqst [.int x1] (by rfl) ?_
  exact j_le [some (.ref 159), some (.int l1)] (And.intro rfl (And.intro rfl True.intro)) (v1 x1 h1 p1)
set_option maxRecDepth 100000 in
theorem bX12_count_105 {sc : Nat × (Nat → Int32)} {h : jH} {Q : jQ} {l1 s0 : Int32}
    (v1 : Q (.inl (some (.int s0))) (jG0 sc) h) :
    WP mX12_count Q 105 [some (.ref 159), some (.int l1)] [.int s0] (jG0 sc) h (0, 0) := by
  exact j_iret rfl rfl (Nat.zero_le _) (Nat.zero_le _) dX12_count_105 v1
set_option maxRecDepth 100000 in
theorem bX12_count_106 {sc : Nat × (Nat → Int32)} {h : jH} {Q : jQ} {l1 : Int32} {P1 : jH → Prop}
    (k1 : JM mX12_listsBody [.ref 159] (jG0 sc) h (jvoid sc P1))
    (v1 : ∀ h1 : jH, P1 h1 → ¬ l1 = 3 → WP mX12_count Q 122 [some (.ref 159), some (.int l1)] [] (jG0 sc) h1 (0, 0))
    (v2 : ∀ h1 : jH, P1 h1 → l1 = 3 → WP mX12_count Q 115 [some (.ref 159), some (.int l1)] [] (jG0 sc) h1 (0, 0)) :
    WP mX12_count Q 106 [some (.ref 159), some (.int l1)] [] (jG0 sc) h (0, 0) := by
  refine j_aload_n (i := 0) rfl dX12_count_106 ?_
  refine j_callV (idx := 319) (As := []) (ci := 12) (n := 0) k1 jvoid_nt (jlkT (jtb7 160 rfl) rfl) sX12_listsBody kX12_listsBody rfl ⟨rfl, by decide +kernel, by decide +kernel, by decide +kernel⟩ rfl ⟨by decide, by decide⟩ (Nat.le_of_ble_eq_true rfl) rfl (Nat.le_of_ble_eq_true rfl) (Nat.le_of_ble_eq_true rfl) ⟨Nat.zero_le _, Nat.zero_le _⟩ dX12_count_107 (fun r Γ' h1 q => ?_)
  obtain ⟨q0, rfl, p1⟩ := q; cases q0
  refine j_eqst [] (by rfl) ?_
  refine j_iload_n (i := 1) rfl dX12_count_110 ?_
  refine j_iconst (n := 3) 3 (by decide) dX12_count_111 ?_
  refine j_icmp_ne (off := 10) 122 dX12_count_112 (by decide) (fun c1 => ?_) (fun c1 => ?_)
  · exact j_le [some (.ref 159), some (.int l1)] (And.intro rfl (And.intro rfl True.intro)) (v1 h1 p1 c1)
  · exact j_le [some (.ref 159), some (.int l1)] (And.intro rfl (And.intro rfl True.intro)) (v2 h1 p1 c1)
set_option maxRecDepth 100000 in
theorem bX12_count_115 {sc : Nat × (Nat → Int32)} {h : jH} {Q : jQ} {l1 : Int32}
    (v1 : WP mX12_count Q 126 [some (.ref 159), some (.int l1)] [.int (h 159 26)] (jG0 sc) h (0, 0)) :
    WP mX12_count Q 115 [some (.ref 159), some (.int l1)] [] (jG0 sc) h (0, 0) := by
  refine j_aload_n (i := 0) rfl dX12_count_115 ?_
  refine j_getI (idx := 290) (ci := 12) (k := 26) (nest := false) (show (12, 290, 12, 26, false) ∈ jFT by decide) rfl (Nat.le_of_ble_eq_true rfl) rfl dX12_count_116 ?_
  refine j_goto (off := 7) 126 dX12_count_119 (by decide) ?_
  exact j_le [some (.ref 159), some (.int l1)] (And.intro rfl (And.intro rfl True.intro)) v1
set_option maxRecDepth 100000 in
theorem bX12_count_122 {sc : Nat × (Nat → Int32)} {h : jH} {Q : jQ} {l1 : Int32} {P1 : Int32 → jH → Prop}
    (k1 : JM mX12_doubles [.ref 159] (jG0 sc) h (jint sc P1))
    (v1 : ∀ (x1 : Int32) (h1 : jH), P1 x1 h1 → WP mX12_count Q 126 [some (.ref 159), some (.int l1)] [.int x1] (jG0 sc) h1 (0, 0)) :
    WP mX12_count Q 122 [some (.ref 159), some (.int l1)] [] (jG0 sc) h (0, 0) := by
  refine j_aload_n (i := 0) rfl dX12_count_122 ?_
  refine j_callV (idx := 393) (As := []) (ci := 12) (n := 0) k1 jint_nt (jlkT (jtb8 113 rfl) rfl) sX12_doubles kX12_doubles rfl ⟨rfl, by decide +kernel, by decide +kernel, by decide +kernel⟩ rfl ⟨by decide, by decide⟩ (Nat.le_of_ble_eq_true rfl) rfl (Nat.le_of_ble_eq_true rfl) (Nat.le_of_ble_eq_true rfl) ⟨Nat.zero_le _, Nat.zero_le _⟩ dX12_count_123 (fun r Γ' h1 q => ?_)
  obtain ⟨x1, q0, rfl, p1⟩ := q; cases q0
  refine j_eqst [.int x1] (by rfl) ?_
  exact j_le [some (.ref 159), some (.int l1)] (And.intro rfl (And.intro rfl True.intro)) (v1 x1 h1 p1)
set_option maxRecDepth 100000 in
theorem bX12_count_126 {sc : Nat × (Nat → Int32)} {h : jH} {Q : jQ} {l1 s0 : Int32}
    (v1 : Q (.inl (some (.int s0))) (jG0 sc) h) :
    WP mX12_count Q 126 [some (.ref 159), some (.int l1)] [.int s0] (jG0 sc) h (0, 0) := by
  exact j_iret rfl rfl (Nat.zero_le _) (Nat.zero_le _) dX12_count_126 v1
set_option maxRecDepth 100000 in
theorem bX12_count_127 {sc : Nat × (Nat → Int32)} {h : jH} {Q : jQ} {l1 : Int32}
    (v1 : Q (.inl (some (.int (h 160 159)))) (jG0 sc) h) :
    WP mX12_count Q 127 [some (.ref 159), some (.int l1)] [] (jG0 sc) h (0, 0) := by
  refine j_aload_n (i := 0) rfl dX12_count_127 ?_
  refine j_getR (idx := 13) (ci := 12) (k := 1) (nest := false) (show (12, 13, 12, 1, false) ∈ jFT by decide) rfl (Nat.le_of_ble_eq_true rfl) rfl (a := 160) rfl dX12_count_128 ?_
  refine j_sipush (n := 159) 159 (by decide) dX12_count_131 ?_
  refine j_iald (Nat.le_of_ble_eq_true rfl) rfl (jinl (n := 1454) (by decide)) dX12_count_134 ?_
  refine j_eqst [.int (h 160 159)] (by rfl) ?_
  exact j_iret rfl rfl (Nat.zero_le _) (Nat.zero_le _) dX12_count_135 v1
set_option maxRecDepth 100000 in
theorem bX12_count_136 {sc : Nat × (Nat → Int32)} {h : jH} {Q : jQ} {l1 : Int32}
    (v1 : Q (.inl (some (.int (h 160 163)))) (jG0 sc) h) :
    WP mX12_count Q 136 [some (.ref 159), some (.int l1)] [] (jG0 sc) h (0, 0) := by
  refine j_aload_n (i := 0) rfl dX12_count_136 ?_
  refine j_getR (idx := 13) (ci := 12) (k := 1) (nest := false) (show (12, 13, 12, 1, false) ∈ jFT by decide) rfl (Nat.le_of_ble_eq_true rfl) rfl (a := 160) rfl dX12_count_137 ?_
  refine j_sipush (n := 163) 163 (by decide) dX12_count_140 ?_
  refine j_iald (Nat.le_of_ble_eq_true rfl) rfl (jinl (n := 1454) (by decide)) dX12_count_143 ?_
  refine j_eqst [.int (h 160 163)] (by rfl) ?_
  exact j_iret rfl rfl (Nat.zero_le _) (Nat.zero_le _) dX12_count_144 v1
set_option maxRecDepth 100000 in
theorem bX12_count_145 {sc : Nat × (Nat → Int32)} {h : jH} {Q : jQ} {l1 : Int32}
    (v1 : Q (.inl (some (.int (h 160 160)))) (jG0 sc) h) :
    WP mX12_count Q 145 [some (.ref 159), some (.int l1)] [] (jG0 sc) h (0, 0) := by
  refine j_aload_n (i := 0) rfl dX12_count_145 ?_
  refine j_getR (idx := 13) (ci := 12) (k := 1) (nest := false) (show (12, 13, 12, 1, false) ∈ jFT by decide) rfl (Nat.le_of_ble_eq_true rfl) rfl (a := 160) rfl dX12_count_146 ?_
  refine j_sipush (n := 160) 160 (by decide) dX12_count_149 ?_
  refine j_iald (Nat.le_of_ble_eq_true rfl) rfl (jinl (n := 1454) (by decide)) dX12_count_152 ?_
  refine j_eqst [.int (h 160 160)] (by rfl) ?_
  exact j_iret rfl rfl (Nat.zero_le _) (Nat.zero_le _) dX12_count_153 v1
set_option maxRecDepth 100000 in
theorem bX12_count_154 {sc : Nat × (Nat → Int32)} {h : jH} {Q : jQ} {l1 : Int32}
    (v1 : Q (.inl (some (.int (h 160 161)))) (jG0 sc) h) :
    WP mX12_count Q 154 [some (.ref 159), some (.int l1)] [] (jG0 sc) h (0, 0) := by
  refine j_aload_n (i := 0) rfl dX12_count_154 ?_
  refine j_getR (idx := 13) (ci := 12) (k := 1) (nest := false) (show (12, 13, 12, 1, false) ∈ jFT by decide) rfl (Nat.le_of_ble_eq_true rfl) rfl (a := 160) rfl dX12_count_155 ?_
  refine j_sipush (n := 161) 161 (by decide) dX12_count_158 ?_
  refine j_iald (Nat.le_of_ble_eq_true rfl) rfl (jinl (n := 1454) (by decide)) dX12_count_161 ?_
  refine j_eqst [.int (h 160 161)] (by rfl) ?_
  exact j_iret rfl rfl (Nat.zero_le _) (Nat.zero_le _) dX12_count_162 v1
set_option maxRecDepth 100000 in
theorem bX12_count_163 {sc : Nat × (Nat → Int32)} {h : jH} {Q : jQ} {l1 : Int32}
    (v1 : Q (.inl (some (.int (h 160 162)))) (jG0 sc) h) :
    WP mX12_count Q 163 [some (.ref 159), some (.int l1)] [] (jG0 sc) h (0, 0) := by
  refine j_aload_n (i := 0) rfl dX12_count_163 ?_
  refine j_getR (idx := 13) (ci := 12) (k := 1) (nest := false) (show (12, 13, 12, 1, false) ∈ jFT by decide) rfl (Nat.le_of_ble_eq_true rfl) rfl (a := 160) rfl dX12_count_164 ?_
  refine j_sipush (n := 162) 162 (by decide) dX12_count_167 ?_
  refine j_iald (Nat.le_of_ble_eq_true rfl) rfl (jinl (n := 1454) (by decide)) dX12_count_170 ?_
  refine j_eqst [.int (h 160 162)] (by rfl) ?_
  exact j_iret rfl rfl (Nat.zero_le _) (Nat.zero_le _) dX12_count_171 v1
set_option maxRecDepth 100000 in
theorem bX12_count_172 {sc : Nat × (Nat → Int32)} {h : jH} {Q : jQ} {l1 : Int32}
    (v1 : Q (.inl (some (.int (h 160 286)))) (jG0 sc) h) :
    WP mX12_count Q 172 [some (.ref 159), some (.int l1)] [] (jG0 sc) h (0, 0) := by
  refine j_aload_n (i := 0) rfl dX12_count_172 ?_
  refine j_getR (idx := 13) (ci := 12) (k := 1) (nest := false) (show (12, 13, 12, 1, false) ∈ jFT by decide) rfl (Nat.le_of_ble_eq_true rfl) rfl (a := 160) rfl dX12_count_173 ?_
  refine j_sipush (n := 286) 286 (by decide) dX12_count_176 ?_
  refine j_iald (Nat.le_of_ble_eq_true rfl) rfl (jinl (n := 1454) (by decide)) dX12_count_179 ?_
  refine j_eqst [.int (h 160 286)] (by rfl) ?_
  exact j_iret rfl rfl (Nat.zero_le _) (Nat.zero_le _) dX12_count_180 v1
set_option maxRecDepth 100000 in
theorem bX12_count_181 {sc : Nat × (Nat → Int32)} {h : jH} {Q : jQ} {l1 : Int32}
    (v1 : Q (.inl (some (.int (h 160 61)))) (jG0 sc) h) :
    WP mX12_count Q 181 [some (.ref 159), some (.int l1)] [] (jG0 sc) h (0, 0) := by
  refine j_aload_n (i := 0) rfl dX12_count_181 ?_
  refine j_getR (idx := 13) (ci := 12) (k := 1) (nest := false) (show (12, 13, 12, 1, false) ∈ jFT by decide) rfl (Nat.le_of_ble_eq_true rfl) rfl (a := 160) rfl dX12_count_182 ?_
  refine j_bipush (n := 61) 61 (by decide) dX12_count_185 ?_
  refine j_iald (Nat.le_of_ble_eq_true rfl) rfl (jinl (n := 1454) (by decide)) dX12_count_187 ?_
  refine j_eqst [.int (h 160 61)] (by rfl) ?_
  exact j_iret rfl rfl (Nat.zero_le _) (Nat.zero_le _) dX12_count_188 v1
set_option maxRecDepth 100000 in
theorem bX12_count_189 {sc : Nat × (Nat → Int32)} {h : jH} {Q : jQ} {l1 : Int32}
    (v1 : Q (.inl (some (.int (h 160 285)))) (jG0 sc) h) :
    WP mX12_count Q 189 [some (.ref 159), some (.int l1)] [] (jG0 sc) h (0, 0) := by
  refine j_aload_n (i := 0) rfl dX12_count_189 ?_
  refine j_getR (idx := 13) (ci := 12) (k := 1) (nest := false) (show (12, 13, 12, 1, false) ∈ jFT by decide) rfl (Nat.le_of_ble_eq_true rfl) rfl (a := 160) rfl dX12_count_190 ?_
  refine j_sipush (n := 285) 285 (by decide) dX12_count_193 ?_
  refine j_iald (Nat.le_of_ble_eq_true rfl) rfl (jinl (n := 1454) (by decide)) dX12_count_196 ?_
  refine j_eqst [.int (h 160 285)] (by rfl) ?_
  exact j_iret rfl rfl (Nat.zero_le _) (Nat.zero_le _) dX12_count_197 v1
set_option maxRecDepth 100000 in
theorem bX12_count_198 {sc : Nat × (Nat → Int32)} {h : jH} {Q : jQ} {l1 : Int32}
    (v1 : Q (.inl (some (.int (-1)))) (jG0 sc) h) :
    WP mX12_count Q 198 [some (.ref 159), some (.int l1)] [] (jG0 sc) h (0, 0) := by
  refine j_iconst (n := (-1)) (-1) (by decide) dX12_count_198 ?_
  exact j_iret rfl rfl (Nat.zero_le _) (Nat.zero_le _) dX12_count_199 v1
set_option maxRecDepth 100000 in
theorem rX12_count_0 {sc : Nat × (Nat → Int32)} {h : jH} {Q : jQ} {l1 : Int32} {P1 : Int32 → jH → Prop} {P2 : jH → Prop} {P3 : Int32 → jH → Prop} {P4 : Int32 → jH → Prop} {P5 : jH → Prop} {P6 : Int32 → jH → Prop} {P7 : jH → Prop} {P8 : Int32 → jH → Prop}
    (v1 : ((l1 : Int32).toInt < 0 ∨ 12 < (l1 : Int32).toInt) → Q (.inl (some (.int (-1)))) (jG0 sc) (jput h 159 0 0))
    (k1 : (l1 : Int32).toInt = 0 → JM mX12_lines [.ref 159] (jG0 sc) (jput h 159 0 0) (jint sc P1))
    (v2 : (l1 : Int32).toInt = 0 → ∀ (x1 : Int32) (h1 : jH), P1 x1 h1 → Q (.inl (some (.int x1))) (jG0 sc) h1)
    (v3 : (l1 : Int32).toInt = 1 → Q (.inl (some (.int ((jput h 159 0 0) 160 122)))) (jG0 sc) (jput h 159 0 0))
    (k2 : (l1 : Int32).toInt = 2 → JM mX12_lays [.ref 159, .int 0] (jG0 sc) (jput h 159 0 0) (jvoid sc P2))
    (k3 : (l1 : Int32).toInt = 2 → ∀ h2 : jH, P2 h2 → JM mX12_lines [.ref 159] (jG0 sc) h2 (jint sc P3))
    (k4 : (l1 : Int32).toInt = 2 → ∀ h2 : jH, P2 h2 → ∀ (x3 : Int32) (h3 : jH), P3 x3 h3 → ¬ x3 = 0 → JM mX12_wrongMany [.ref 159] (jG0 sc) h3 (jint sc P4))
    (v4 : (l1 : Int32).toInt = 2 → ∀ h2 : jH, P2 h2 → ∀ (x3 : Int32) (h3 : jH), P3 x3 h3 → ¬ x3 = 0 → ∀ (x4 : Int32) (h4 : jH), P4 x4 h4 → Q (.inl (some (.int x4))) (jG0 sc) h4)
    (v5 : (l1 : Int32).toInt = 2 → ∀ h2 : jH, P2 h2 → ∀ (x3 : Int32) (h3 : jH), P3 x3 h3 → x3 = 0 → Q (.inl (some (.int 0))) (jG0 sc) h3)
    (k5 : (l1 : Int32).toInt = 3 → JM mX12_listsBody [.ref 159] (jG0 sc) (jput h 159 0 0) (jvoid sc P5))
    (k6 : (l1 : Int32).toInt = 3 → ∀ h5 : jH, P5 h5 → ¬ l1 = 3 → JM mX12_doubles [.ref 159] (jG0 sc) h5 (jint sc P6))
    (v6 : (l1 : Int32).toInt = 3 → ∀ h5 : jH, P5 h5 → ¬ l1 = 3 → ∀ (x6 : Int32) (h6 : jH), P6 x6 h6 → Q (.inl (some (.int x6))) (jG0 sc) h6)
    (v7 : (l1 : Int32).toInt = 3 → ∀ h5 : jH, P5 h5 → l1 = 3 → Q (.inl (some (.int (h5 159 26)))) (jG0 sc) h5)
    (k7 : (l1 : Int32).toInt = 4 → JM mX12_listsBody [.ref 159] (jG0 sc) (jput h 159 0 0) (jvoid sc P7))
    (k8 : (l1 : Int32).toInt = 4 → ∀ h7 : jH, P7 h7 → ¬ l1 = 3 → JM mX12_doubles [.ref 159] (jG0 sc) h7 (jint sc P8))
    (v8 : (l1 : Int32).toInt = 4 → ∀ h7 : jH, P7 h7 → ¬ l1 = 3 → ∀ (x8 : Int32) (h8 : jH), P8 x8 h8 → Q (.inl (some (.int x8))) (jG0 sc) h8)
    (v9 : (l1 : Int32).toInt = 4 → ∀ h7 : jH, P7 h7 → l1 = 3 → Q (.inl (some (.int (h7 159 26)))) (jG0 sc) h7)
    (v10 : (l1 : Int32).toInt = 5 → Q (.inl (some (.int ((jput h 159 0 0) 160 159)))) (jG0 sc) (jput h 159 0 0))
    (v11 : (l1 : Int32).toInt = 6 → Q (.inl (some (.int ((jput h 159 0 0) 160 163)))) (jG0 sc) (jput h 159 0 0))
    (v12 : (l1 : Int32).toInt = 7 → Q (.inl (some (.int ((jput h 159 0 0) 160 160)))) (jG0 sc) (jput h 159 0 0))
    (v13 : (l1 : Int32).toInt = 8 → Q (.inl (some (.int ((jput h 159 0 0) 160 161)))) (jG0 sc) (jput h 159 0 0))
    (v14 : (l1 : Int32).toInt = 9 → Q (.inl (some (.int ((jput h 159 0 0) 160 162)))) (jG0 sc) (jput h 159 0 0))
    (v15 : (l1 : Int32).toInt = 10 → Q (.inl (some (.int ((jput h 159 0 0) 160 286)))) (jG0 sc) (jput h 159 0 0))
    (v16 : (l1 : Int32).toInt = 11 → Q (.inl (some (.int ((jput h 159 0 0) 160 61)))) (jG0 sc) (jput h 159 0 0))
    (v17 : (l1 : Int32).toInt = 12 → Q (.inl (some (.int ((jput h 159 0 0) 160 285)))) (jG0 sc) (jput h 159 0 0)) :
    WP mX12_count Q 0 [some (.ref 159), some (.int l1)] [] (jG0 sc) h (0, 0) := by
  exact (bX12_count_0 (fun c1 => (bX12_count_198 (v1 c1))) (fun q0 => (bX12_count_72 (k1 q0) (fun x1 h1 p1 => (v2 q0 x1 h1 p1)))) (fun q1 => (bX12_count_77 (v3 q1))) (fun q2 => (bX12_count_85 (k2 q2) (fun h2 p2 => (k3 q2 h2 p2)) (fun h2 p2 x3 h3 p3 c2 => (bX12_count_101 (k4 q2 h2 p2 x3 h3 p3 c2) (fun x4 h4 p4 => (bX12_count_105 (v4 q2 h2 p2 x3 h3 p3 c2 x4 h4 p4))))) (fun h2 p2 x3 h3 p3 c2 => (bX12_count_97 (bX12_count_105 (v5 q2 h2 p2 x3 h3 p3 c2)))))) (fun q3 => (bX12_count_106 (k5 q3) (fun h5 p5 c3 => (bX12_count_122 (k6 q3 h5 p5 c3) (fun x6 h6 p6 => (bX12_count_126 (v6 q3 h5 p5 c3 x6 h6 p6))))) (fun h5 p5 c3 => (bX12_count_115 (bX12_count_126 (v7 q3 h5 p5 c3)))))) (fun q4 => (bX12_count_106 (k7 q4) (fun h7 p7 c4 => (bX12_count_122 (k8 q4 h7 p7 c4) (fun x8 h8 p8 => (bX12_count_126 (v8 q4 h7 p7 c4 x8 h8 p8))))) (fun h7 p7 c4 => (bX12_count_115 (bX12_count_126 (v9 q4 h7 p7 c4)))))) (fun q5 => (bX12_count_127 (v10 q5))) (fun q6 => (bX12_count_136 (v11 q6))) (fun q7 => (bX12_count_145 (v12 q7))) (fun q8 => (bX12_count_154 (v13 q8))) (fun q9 => (bX12_count_163 (v14 q9))) (fun q10 => (bX12_count_172 (v15 q10))) (fun q11 => (bX12_count_181 (v16 q11))) (fun q12 => (bX12_count_189 (v17 q12))))
